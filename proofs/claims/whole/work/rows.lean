section
-- ===== PART A: goes FIRST, ahead of the names: the tables' words, and 'selects' of the private methods out of them =====
/-- a private method of a class that the tables say can be made, by its rows of tables_1 -/
def lw_okq (q : MethodName × Nat) : Prop := (q.1.cls ≠ "java/lang/invoke/MethodHandle" ∧ q.1.cls ≠ "java/lang/invoke/VarHandle") ∧ Cond.instantiable q.1.cls q.2 ∈ tables_1 ∧ Cond.privateMethod q.1 ∈ tables_1 ∧ Cond.instanceMethod q.1 ∈ tables_1
theorem lw_p0 : lw_okq (⟨"GiftTable", "refuse", "(I)I"⟩, 20) := ⟨⟨by decide +kernel, by decide +kernel⟩, List.mem_of_getElem? (i := 21) (by decide +kernel), List.mem_of_getElem? (i := 574) (by decide +kernel), List.mem_of_getElem? (i := 575) (by decide +kernel)⟩
theorem lw_p1 : lw_okq (⟨"GiftTable", "altered", "(I)I"⟩, 20) := ⟨⟨by decide +kernel, by decide +kernel⟩, List.mem_of_getElem? (i := 21) (by decide +kernel), List.mem_of_getElem? (i := 578) (by decide +kernel), List.mem_of_getElem? (i := 579) (by decide +kernel)⟩
theorem lw_p2 : lw_okq (⟨"GiftTable", "accept", "(I)I"⟩, 20) := ⟨⟨by decide +kernel, by decide +kernel⟩, List.mem_of_getElem? (i := 21) (by decide +kernel), List.mem_of_getElem? (i := 582) (by decide +kernel), List.mem_of_getElem? (i := 583) (by decide +kernel)⟩
theorem lw_p3 : lw_okq (⟨"GiftTable", "feedFour", "(I)V"⟩, 20) := ⟨⟨by decide +kernel, by decide +kernel⟩, List.mem_of_getElem? (i := 21) (by decide +kernel), List.mem_of_getElem? (i := 658) (by decide +kernel), List.mem_of_getElem? (i := 659) (by decide +kernel)⟩
theorem lw_p4 : lw_okq (⟨"GiftTable$Reader", "split", "([II)V"⟩, 10) := ⟨⟨by decide +kernel, by decide +kernel⟩, List.mem_of_getElem? (i := 113) (by decide +kernel), List.mem_of_getElem? (i := 682) (by decide +kernel), List.mem_of_getElem? (i := 683) (by decide +kernel)⟩
theorem lw_p5 : lw_okq (⟨"GiftTable$Reader", "addToken", "(II)V"⟩, 10) := ⟨⟨by decide +kernel, by decide +kernel⟩, List.mem_of_getElem? (i := 113) (by decide +kernel), List.mem_of_getElem? (i := 743) (by decide +kernel), List.mem_of_getElem? (i := 744) (by decide +kernel)⟩
theorem lw_p6 : lw_okq (⟨"GiftTable$Reader", "readClause", "()V"⟩, 10) := ⟨⟨by decide +kernel, by decide +kernel⟩, List.mem_of_getElem? (i := 113) (by decide +kernel), List.mem_of_getElem? (i := 747) (by decide +kernel), List.mem_of_getElem? (i := 748) (by decide +kernel)⟩
theorem lw_p7 : lw_okq (⟨"GiftTable$Reader", "takes", "(I)Z"⟩, 10) := ⟨⟨by decide +kernel, by decide +kernel⟩, List.mem_of_getElem? (i := 113) (by decide +kernel), List.mem_of_getElem? (i := 751) (by decide +kernel), List.mem_of_getElem? (i := 752) (by decide +kernel)⟩
theorem lw_p8 : lw_okq (⟨"GiftTable$Reader", "fail", "()V"⟩, 10) := ⟨⟨by decide +kernel, by decide +kernel⟩, List.mem_of_getElem? (i := 113) (by decide +kernel), List.mem_of_getElem? (i := 755) (by decide +kernel), List.mem_of_getElem? (i := 756) (by decide +kernel)⟩
theorem lw_p9 : lw_okq (⟨"GiftTable$Reader", "readSum", "(I)V"⟩, 10) := ⟨⟨by decide +kernel, by decide +kernel⟩, List.mem_of_getElem? (i := 113) (by decide +kernel), List.mem_of_getElem? (i := 759) (by decide +kernel), List.mem_of_getElem? (i := 760) (by decide +kernel)⟩
theorem lw_p10 : lw_okq (⟨"GiftTable$Reader", "readTerm", "(I)V"⟩, 10) := ⟨⟨by decide +kernel, by decide +kernel⟩, List.mem_of_getElem? (i := 113) (by decide +kernel), List.mem_of_getElem? (i := 763) (by decide +kernel), List.mem_of_getElem? (i := 764) (by decide +kernel)⟩
theorem lw_p11 : lw_okq (⟨"GiftTable$Reader", "readPart", "(I)V"⟩, 10) := ⟨⟨by decide +kernel, by decide +kernel⟩, List.mem_of_getElem? (i := 113) (by decide +kernel), List.mem_of_getElem? (i := 767) (by decide +kernel), List.mem_of_getElem? (i := 768) (by decide +kernel)⟩
theorem lw_p12 : lw_okq (⟨"GiftTable$Reader", "opens", "(IC)Z"⟩, 10) := ⟨⟨by decide +kernel, by decide +kernel⟩, List.mem_of_getElem? (i := 113) (by decide +kernel), List.mem_of_getElem? (i := 771) (by decide +kernel), List.mem_of_getElem? (i := 772) (by decide +kernel)⟩
theorem lw_p13 : lw_okq (⟨"GiftTable$Reader", "closes", "(C)V"⟩, 10) := ⟨⟨by decide +kernel, by decide +kernel⟩, List.mem_of_getElem? (i := 113) (by decide +kernel), List.mem_of_getElem? (i := 775) (by decide +kernel), List.mem_of_getElem? (i := 776) (by decide +kernel)⟩
theorem lw_p14 : lw_okq (⟨"GiftTable$Reader", "write", "(II)V"⟩, 10) := ⟨⟨by decide +kernel, by decide +kernel⟩, List.mem_of_getElem? (i := 113) (by decide +kernel), List.mem_of_getElem? (i := 779) (by decide +kernel), List.mem_of_getElem? (i := 780) (by decide +kernel)⟩
theorem lw_p15 : lw_okq (⟨"GiftTable$Reader", "readTest", "(I)V"⟩, 10) := ⟨⟨by decide +kernel, by decide +kernel⟩, List.mem_of_getElem? (i := 113) (by decide +kernel), List.mem_of_getElem? (i := 783) (by decide +kernel), List.mem_of_getElem? (i := 784) (by decide +kernel)⟩
def lw_privs_1 : List (MethodName × Nat) := [(⟨"GiftTable", "refuse", "(I)I"⟩, 20), (⟨"GiftTable", "altered", "(I)I"⟩, 20), (⟨"GiftTable", "accept", "(I)I"⟩, 20), (⟨"GiftTable", "feedFour", "(I)V"⟩, 20), (⟨"GiftTable$Reader", "split", "([II)V"⟩, 10), (⟨"GiftTable$Reader", "addToken", "(II)V"⟩, 10), (⟨"GiftTable$Reader", "readClause", "()V"⟩, 10), (⟨"GiftTable$Reader", "takes", "(I)Z"⟩, 10), (⟨"GiftTable$Reader", "fail", "()V"⟩, 10), (⟨"GiftTable$Reader", "readSum", "(I)V"⟩, 10), (⟨"GiftTable$Reader", "readTerm", "(I)V"⟩, 10), (⟨"GiftTable$Reader", "readPart", "(I)V"⟩, 10), (⟨"GiftTable$Reader", "opens", "(IC)Z"⟩, 10), (⟨"GiftTable$Reader", "closes", "(C)V"⟩, 10), (⟨"GiftTable$Reader", "write", "(II)V"⟩, 10), (⟨"GiftTable$Reader", "readTest", "(I)V"⟩, 10)]
theorem lw_r1 : ∀ q ∈ lw_privs_1, lw_okq q := List.forall_mem_cons.mpr ⟨lw_p0, List.forall_mem_cons.mpr ⟨lw_p1, List.forall_mem_cons.mpr ⟨lw_p2, List.forall_mem_cons.mpr ⟨lw_p3, List.forall_mem_cons.mpr ⟨lw_p4, List.forall_mem_cons.mpr ⟨lw_p5, List.forall_mem_cons.mpr ⟨lw_p6, List.forall_mem_cons.mpr ⟨lw_p7, List.forall_mem_cons.mpr ⟨lw_p8, List.forall_mem_cons.mpr ⟨lw_p9, List.forall_mem_cons.mpr ⟨lw_p10, List.forall_mem_cons.mpr ⟨lw_p11, List.forall_mem_cons.mpr ⟨lw_p12, List.forall_mem_cons.mpr ⟨lw_p13, List.forall_mem_cons.mpr ⟨lw_p14, List.forall_mem_cons.mpr ⟨lw_p15, fun _ h => absurd h List.not_mem_nil⟩⟩⟩⟩⟩⟩⟩⟩⟩⟩⟩⟩⟩⟩⟩⟩
theorem lw_p16 : lw_okq (⟨"GiftTable$Reader", "readBoth", "(I)V"⟩, 10) := ⟨⟨by decide +kernel, by decide +kernel⟩, List.mem_of_getElem? (i := 113) (by decide +kernel), List.mem_of_getElem? (i := 787) (by decide +kernel), List.mem_of_getElem? (i := 788) (by decide +kernel)⟩
theorem lw_p17 : lw_okq (⟨"GiftTable$Reader", "readPlain", "(I)V"⟩, 10) := ⟨⟨by decide +kernel, by decide +kernel⟩, List.mem_of_getElem? (i := 113) (by decide +kernel), List.mem_of_getElem? (i := 791) (by decide +kernel), List.mem_of_getElem? (i := 792) (by decide +kernel)⟩
theorem lw_p18 : lw_okq (⟨"GiftTable$Reader", "readComparison", "(I)V"⟩, 10) := ⟨⟨by decide +kernel, by decide +kernel⟩, List.mem_of_getElem? (i := 113) (by decide +kernel), List.mem_of_getElem? (i := 795) (by decide +kernel), List.mem_of_getElem? (i := 796) (by decide +kernel)⟩
theorem lw_p19 : lw_okq (⟨"GiftTable$Reader", "fill", "(II)V"⟩, 10) := ⟨⟨by decide +kernel, by decide +kernel⟩, List.mem_of_getElem? (i := 113) (by decide +kernel), List.mem_of_getElem? (i := 799) (by decide +kernel), List.mem_of_getElem? (i := 800) (by decide +kernel)⟩
theorem lw_p20 : lw_okq (⟨"GiftTable", "giverOf", "(I)I"⟩, 20) := ⟨⟨by decide +kernel, by decide +kernel⟩, List.mem_of_getElem? (i := 21) (by decide +kernel), List.mem_of_getElem? (i := 843) (by decide +kernel), List.mem_of_getElem? (i := 844) (by decide +kernel)⟩
theorem lw_p21 : lw_okq (⟨"GiftTable$Party", "seatGiver", "(LGiftTable$State;I)V"⟩, 13) := ⟨⟨by decide +kernel, by decide +kernel⟩, List.mem_of_getElem? (i := 237) (by decide +kernel), List.mem_of_getElem? (i := 852) (by decide +kernel), List.mem_of_getElem? (i := 853) (by decide +kernel)⟩
theorem lw_p22 : lw_okq (⟨"GiftTable", "isChoice", "(I)Z"⟩, 20) := ⟨⟨by decide +kernel, by decide +kernel⟩, List.mem_of_getElem? (i := 21) (by decide +kernel), List.mem_of_getElem? (i := 861) (by decide +kernel), List.mem_of_getElem? (i := 862) (by decide +kernel)⟩
theorem lw_p23 : lw_okq (⟨"GiftTable$Party", "clauseWeight", "(LGiftTable$State;III)I"⟩, 13) := ⟨⟨by decide +kernel, by decide +kernel⟩, List.mem_of_getElem? (i := 237) (by decide +kernel), List.mem_of_getElem? (i := 869) (by decide +kernel), List.mem_of_getElem? (i := 870) (by decide +kernel)⟩
theorem lw_p24 : lw_okq (⟨"GiftTable$Text", "reckon", "(II[I[J)J"⟩, 2) := ⟨⟨by decide +kernel, by decide +kernel⟩, List.mem_of_getElem? (i := 803) (by decide +kernel), List.mem_of_getElem? (i := 881) (by decide +kernel), List.mem_of_getElem? (i := 882) (by decide +kernel)⟩
theorem lw_p25 : lw_okq (⟨"GiftTable", "tellHeap", "(IIII)Z"⟩, 20) := ⟨⟨by decide +kernel, by decide +kernel⟩, List.mem_of_getElem? (i := 21) (by decide +kernel), List.mem_of_getElem? (i := 905) (by decide +kernel), List.mem_of_getElem? (i := 906) (by decide +kernel)⟩
theorem lw_p26 : lw_okq (⟨"GiftTable", "fillTold", "(IIII)V"⟩, 20) := ⟨⟨by decide +kernel, by decide +kernel⟩, List.mem_of_getElem? (i := 21) (by decide +kernel), List.mem_of_getElem? (i := 909) (by decide +kernel), List.mem_of_getElem? (i := 910) (by decide +kernel)⟩
theorem lw_p27 : lw_okq (⟨"GiftTable$Heaps", "makeUp", "(LGiftTable$State;I)V"⟩, 19) := ⟨⟨by decide +kernel, by decide +kernel⟩, List.mem_of_getElem? (i := 152) (by decide +kernel), List.mem_of_getElem? (i := 919) (by decide +kernel), List.mem_of_getElem? (i := 920) (by decide +kernel)⟩
theorem lw_p28 : lw_okq (⟨"GiftTable", "workMean", "()V"⟩, 20) := ⟨⟨by decide +kernel, by decide +kernel⟩, List.mem_of_getElem? (i := 21) (by decide +kernel), List.mem_of_getElem? (i := 927) (by decide +kernel), List.mem_of_getElem? (i := 928) (by decide +kernel)⟩
theorem lw_p29 : lw_okq (⟨"GiftTable$Heaps", "shape", "(I)V"⟩, 19) := ⟨⟨by decide +kernel, by decide +kernel⟩, List.mem_of_getElem? (i := 152) (by decide +kernel), List.mem_of_getElem? (i := 944) (by decide +kernel), List.mem_of_getElem? (i := 945) (by decide +kernel)⟩
theorem lw_p30 : lw_okq (⟨"GiftTable$Heaps", "grow", "(III)I"⟩, 19) := ⟨⟨by decide +kernel, by decide +kernel⟩, List.mem_of_getElem? (i := 152) (by decide +kernel), List.mem_of_getElem? (i := 948) (by decide +kernel), List.mem_of_getElem? (i := 949) (by decide +kernel)⟩
theorem lw_p31 : lw_okq (⟨"GiftTable$Mean", "addMoney", "(LGiftTable$Party;I)V"⟩, 9) := ⟨⟨by decide +kernel, by decide +kernel⟩, List.mem_of_getElem? (i := 300) (by decide +kernel), List.mem_of_getElem? (i := 970) (by decide +kernel), List.mem_of_getElem? (i := 971) (by decide +kernel)⟩
def lw_privs_2 : List (MethodName × Nat) := [(⟨"GiftTable$Reader", "readBoth", "(I)V"⟩, 10), (⟨"GiftTable$Reader", "readPlain", "(I)V"⟩, 10), (⟨"GiftTable$Reader", "readComparison", "(I)V"⟩, 10), (⟨"GiftTable$Reader", "fill", "(II)V"⟩, 10), (⟨"GiftTable", "giverOf", "(I)I"⟩, 20), (⟨"GiftTable$Party", "seatGiver", "(LGiftTable$State;I)V"⟩, 13), (⟨"GiftTable", "isChoice", "(I)Z"⟩, 20), (⟨"GiftTable$Party", "clauseWeight", "(LGiftTable$State;III)I"⟩, 13), (⟨"GiftTable$Text", "reckon", "(II[I[J)J"⟩, 2), (⟨"GiftTable", "tellHeap", "(IIII)Z"⟩, 20), (⟨"GiftTable", "fillTold", "(IIII)V"⟩, 20), (⟨"GiftTable$Heaps", "makeUp", "(LGiftTable$State;I)V"⟩, 19), (⟨"GiftTable", "workMean", "()V"⟩, 20), (⟨"GiftTable$Heaps", "shape", "(I)V"⟩, 19), (⟨"GiftTable$Heaps", "grow", "(III)I"⟩, 19), (⟨"GiftTable$Mean", "addMoney", "(LGiftTable$Party;I)V"⟩, 9)]
theorem lw_r2 : ∀ q ∈ lw_privs_2, lw_okq q := List.forall_mem_cons.mpr ⟨lw_p16, List.forall_mem_cons.mpr ⟨lw_p17, List.forall_mem_cons.mpr ⟨lw_p18, List.forall_mem_cons.mpr ⟨lw_p19, List.forall_mem_cons.mpr ⟨lw_p20, List.forall_mem_cons.mpr ⟨lw_p21, List.forall_mem_cons.mpr ⟨lw_p22, List.forall_mem_cons.mpr ⟨lw_p23, List.forall_mem_cons.mpr ⟨lw_p24, List.forall_mem_cons.mpr ⟨lw_p25, List.forall_mem_cons.mpr ⟨lw_p26, List.forall_mem_cons.mpr ⟨lw_p27, List.forall_mem_cons.mpr ⟨lw_p28, List.forall_mem_cons.mpr ⟨lw_p29, List.forall_mem_cons.mpr ⟨lw_p30, List.forall_mem_cons.mpr ⟨lw_p31, fun _ h => absurd h List.not_mem_nil⟩⟩⟩⟩⟩⟩⟩⟩⟩⟩⟩⟩⟩⟩⟩⟩
theorem lw_p32 : lw_okq (⟨"GiftTable$Mean", "addGifts", "(LGiftTable$Party;LGiftTable$Heaps;I)V"⟩, 9) := ⟨⟨by decide +kernel, by decide +kernel⟩, List.mem_of_getElem? (i := 300) (by decide +kernel), List.mem_of_getElem? (i := 986) (by decide +kernel), List.mem_of_getElem? (i := 987) (by decide +kernel)⟩
theorem lw_p33 : lw_okq (⟨"GiftTable$Mean", "carryAll", "(I)V"⟩, 9) := ⟨⟨by decide +kernel, by decide +kernel⟩, List.mem_of_getElem? (i := 300) (by decide +kernel), List.mem_of_getElem? (i := 994) (by decide +kernel), List.mem_of_getElem? (i := 995) (by decide +kernel)⟩
theorem lw_p34 : lw_okq (⟨"GiftTable$Mean", "meanOf", "([II[J)I"⟩, 9) := ⟨⟨by decide +kernel, by decide +kernel⟩, List.mem_of_getElem? (i := 300) (by decide +kernel), List.mem_of_getElem? (i := 998) (by decide +kernel), List.mem_of_getElem? (i := 999) (by decide +kernel)⟩
theorem lw_p35 : lw_okq (⟨"GiftTable$Mean", "quotient", "()I"⟩, 9) := ⟨⟨by decide +kernel, by decide +kernel⟩, List.mem_of_getElem? (i := 300) (by decide +kernel), List.mem_of_getElem? (i := 1002) (by decide +kernel), List.mem_of_getElem? (i := 1003) (by decide +kernel)⟩
theorem lw_p36 : lw_okq (⟨"GiftTable", "speakOut", "()V"⟩, 20) := ⟨⟨by decide +kernel, by decide +kernel⟩, List.mem_of_getElem? (i := 21) (by decide +kernel), List.mem_of_getElem? (i := 1027) (by decide +kernel), List.mem_of_getElem? (i := 1028) (by decide +kernel)⟩
theorem lw_p37 : lw_okq (⟨"GiftTable$Together", "workLayer", "(LGiftTable$Party;LGiftTable$Heaps;I)V"⟩, 8) := ⟨⟨by decide +kernel, by decide +kernel⟩, List.mem_of_getElem? (i := 335) (by decide +kernel), List.mem_of_getElem? (i := 1039) (by decide +kernel), List.mem_of_getElem? (i := 1040) (by decide +kernel)⟩
theorem lw_p38 : lw_okq (⟨"GiftTable$Together", "walkFirst", "(LGiftTable$Party;LGiftTable$Heaps;)V"⟩, 8) := ⟨⟨by decide +kernel, by decide +kernel⟩, List.mem_of_getElem? (i := 335) (by decide +kernel), List.mem_of_getElem? (i := 1048) (by decide +kernel), List.mem_of_getElem? (i := 1049) (by decide +kernel)⟩
theorem lw_p39 : lw_okq (⟨"GiftTable$Together", "valueAfter", "(LGiftTable$Party;LGiftTable$Heaps;III)I"⟩, 8) := ⟨⟨by decide +kernel, by decide +kernel⟩, List.mem_of_getElem? (i := 335) (by decide +kernel), List.mem_of_getElem? (i := 1057) (by decide +kernel), List.mem_of_getElem? (i := 1058) (by decide +kernel)⟩
theorem lw_p40 : lw_okq (⟨"GiftTable$Together", "tryLayer", "(LGiftTable$Party;LGiftTable$Heaps;I)V"⟩, 8) := ⟨⟨by decide +kernel, by decide +kernel⟩, List.mem_of_getElem? (i := 335) (by decide +kernel), List.mem_of_getElem? (i := 1082) (by decide +kernel), List.mem_of_getElem? (i := 1083) (by decide +kernel)⟩
theorem lw_p41 : lw_okq (⟨"GiftTable$Blind", "shapeLevels", "()V"⟩, 12) := ⟨⟨by decide +kernel, by decide +kernel⟩, List.mem_of_getElem? (i := 369) (by decide +kernel), List.mem_of_getElem? (i := 1099) (by decide +kernel), List.mem_of_getElem? (i := 1100) (by decide +kernel)⟩
theorem lw_p42 : lw_okq (⟨"GiftTable$Blind", "countHeaps", "(LGiftTable$State;LGiftTable$Heaps;)V"⟩, 12) := ⟨⟨by decide +kernel, by decide +kernel⟩, List.mem_of_getElem? (i := 369) (by decide +kernel), List.mem_of_getElem? (i := 1109) (by decide +kernel), List.mem_of_getElem? (i := 1110) (by decide +kernel)⟩
theorem lw_p43 : lw_okq (⟨"GiftTable$Blind", "spread", "(II)V"⟩, 12) := ⟨⟨by decide +kernel, by decide +kernel⟩, List.mem_of_getElem? (i := 369) (by decide +kernel), List.mem_of_getElem? (i := 1121) (by decide +kernel), List.mem_of_getElem? (i := 1122) (by decide +kernel)⟩
theorem lw_p44 : lw_okq (⟨"GiftTable$Blind", "putFirst", "(I)V"⟩, 12) := ⟨⟨by decide +kernel, by decide +kernel⟩, List.mem_of_getElem? (i := 369) (by decide +kernel), List.mem_of_getElem? (i := 1125) (by decide +kernel), List.mem_of_getElem? (i := 1126) (by decide +kernel)⟩
theorem lw_p45 : lw_okq (⟨"GiftTable$Blind", "putIn", "(II)V"⟩, 12) := ⟨⟨by decide +kernel, by decide +kernel⟩, List.mem_of_getElem? (i := 369) (by decide +kernel), List.mem_of_getElem? (i := 1129) (by decide +kernel), List.mem_of_getElem? (i := 1130) (by decide +kernel)⟩
theorem lw_p46 : lw_okq (⟨"GiftTable$Blind", "compare", "(I)V"⟩, 12) := ⟨⟨by decide +kernel, by decide +kernel⟩, List.mem_of_getElem? (i := 369) (by decide +kernel), List.mem_of_getElem? (i := 1133) (by decide +kernel), List.mem_of_getElem? (i := 1134) (by decide +kernel)⟩
theorem lw_p47 : lw_okq (⟨"GiftTable$Quiet", "gatherCandidates", "(LGiftTable$Party;)V"⟩, 14) := ⟨⟨by decide +kernel, by decide +kernel⟩, List.mem_of_getElem? (i := 417) (by decide +kernel), List.mem_of_getElem? (i := 1152) (by decide +kernel), List.mem_of_getElem? (i := 1153) (by decide +kernel)⟩
def lw_privs_3 : List (MethodName × Nat) := [(⟨"GiftTable$Mean", "addGifts", "(LGiftTable$Party;LGiftTable$Heaps;I)V"⟩, 9), (⟨"GiftTable$Mean", "carryAll", "(I)V"⟩, 9), (⟨"GiftTable$Mean", "meanOf", "([II[J)I"⟩, 9), (⟨"GiftTable$Mean", "quotient", "()I"⟩, 9), (⟨"GiftTable", "speakOut", "()V"⟩, 20), (⟨"GiftTable$Together", "workLayer", "(LGiftTable$Party;LGiftTable$Heaps;I)V"⟩, 8), (⟨"GiftTable$Together", "walkFirst", "(LGiftTable$Party;LGiftTable$Heaps;)V"⟩, 8), (⟨"GiftTable$Together", "valueAfter", "(LGiftTable$Party;LGiftTable$Heaps;III)I"⟩, 8), (⟨"GiftTable$Together", "tryLayer", "(LGiftTable$Party;LGiftTable$Heaps;I)V"⟩, 8), (⟨"GiftTable$Blind", "shapeLevels", "()V"⟩, 12), (⟨"GiftTable$Blind", "countHeaps", "(LGiftTable$State;LGiftTable$Heaps;)V"⟩, 12), (⟨"GiftTable$Blind", "spread", "(II)V"⟩, 12), (⟨"GiftTable$Blind", "putFirst", "(I)V"⟩, 12), (⟨"GiftTable$Blind", "putIn", "(II)V"⟩, 12), (⟨"GiftTable$Blind", "compare", "(I)V"⟩, 12), (⟨"GiftTable$Quiet", "gatherCandidates", "(LGiftTable$Party;)V"⟩, 14)]
theorem lw_r3 : ∀ q ∈ lw_privs_3, lw_okq q := List.forall_mem_cons.mpr ⟨lw_p32, List.forall_mem_cons.mpr ⟨lw_p33, List.forall_mem_cons.mpr ⟨lw_p34, List.forall_mem_cons.mpr ⟨lw_p35, List.forall_mem_cons.mpr ⟨lw_p36, List.forall_mem_cons.mpr ⟨lw_p37, List.forall_mem_cons.mpr ⟨lw_p38, List.forall_mem_cons.mpr ⟨lw_p39, List.forall_mem_cons.mpr ⟨lw_p40, List.forall_mem_cons.mpr ⟨lw_p41, List.forall_mem_cons.mpr ⟨lw_p42, List.forall_mem_cons.mpr ⟨lw_p43, List.forall_mem_cons.mpr ⟨lw_p44, List.forall_mem_cons.mpr ⟨lw_p45, List.forall_mem_cons.mpr ⟨lw_p46, List.forall_mem_cons.mpr ⟨lw_p47, fun _ h => absurd h List.not_mem_nil⟩⟩⟩⟩⟩⟩⟩⟩⟩⟩⟩⟩⟩⟩⟩⟩
theorem lw_p48 : lw_okq (⟨"GiftTable$Quiet", "tryBounds", "(LGiftTable$Party;LGiftTable$Heaps;II)V"⟩, 14) := ⟨⟨by decide +kernel, by decide +kernel⟩, List.mem_of_getElem? (i := 417) (by decide +kernel), List.mem_of_getElem? (i := 1156) (by decide +kernel), List.mem_of_getElem? (i := 1157) (by decide +kernel)⟩
theorem lw_p49 : lw_okq (⟨"GiftTable$Quiet", "tryRule", "(LGiftTable$Party;LGiftTable$Heaps;)V"⟩, 14) := ⟨⟨by decide +kernel, by decide +kernel⟩, List.mem_of_getElem? (i := 417) (by decide +kernel), List.mem_of_getElem? (i := 1160) (by decide +kernel), List.mem_of_getElem? (i := 1161) (by decide +kernel)⟩
theorem lw_p50 : lw_okq (⟨"GiftTable", "settle", "()V"⟩, 20) := ⟨⟨by decide +kernel, by decide +kernel⟩, List.mem_of_getElem? (i := 21) (by decide +kernel), List.mem_of_getElem? (i := 1185) (by decide +kernel), List.mem_of_getElem? (i := 1186) (by decide +kernel)⟩
theorem lw_p51 : lw_okq (⟨"GiftTable$Quiet", "lay", "(LGiftTable$Party;III)V"⟩, 14) := ⟨⟨by decide +kernel, by decide +kernel⟩, List.mem_of_getElem? (i := 417) (by decide +kernel), List.mem_of_getElem? (i := 1193) (by decide +kernel), List.mem_of_getElem? (i := 1194) (by decide +kernel)⟩
theorem lw_p52 : lw_okq (⟨"GiftTable$Quiet", "goRound", "(LGiftTable$State;LGiftTable$Party;LGiftTable$Heaps;)Z"⟩, 14) := ⟨⟨by decide +kernel, by decide +kernel⟩, List.mem_of_getElem? (i := 417) (by decide +kernel), List.mem_of_getElem? (i := 1197) (by decide +kernel), List.mem_of_getElem? (i := 1198) (by decide +kernel)⟩
theorem lw_p53 : lw_okq (⟨"GiftTable$Quiet", "valueNow", "(LGiftTable$State;LGiftTable$Heaps;)I"⟩, 14) := ⟨⟨by decide +kernel, by decide +kernel⟩, List.mem_of_getElem? (i := 417) (by decide +kernel), List.mem_of_getElem? (i := 1201) (by decide +kernel), List.mem_of_getElem? (i := 1202) (by decide +kernel)⟩
theorem lw_p54 : lw_okq (⟨"GiftTable$Wedding", "choose", "(LGiftTable$State;LGiftTable$Party;LGiftTable$Heaps;IZ)I"⟩, 6) := ⟨⟨by decide +kernel, by decide +kernel⟩, List.mem_of_getElem? (i := 473) (by decide +kernel), List.mem_of_getElem? (i := 1219) (by decide +kernel), List.mem_of_getElem? (i := 1220) (by decide +kernel)⟩
theorem lw_p55 : lw_okq (⟨"GiftTable$Wedding", "bestByList", "(LGiftTable$State;LGiftTable$Party;LGiftTable$Heaps;I)I"⟩, 6) := ⟨⟨by decide +kernel, by decide +kernel⟩, List.mem_of_getElem? (i := 473) (by decide +kernel), List.mem_of_getElem? (i := 1223) (by decide +kernel), List.mem_of_getElem? (i := 1224) (by decide +kernel)⟩
theorem lw_p56 : lw_okq (⟨"GiftTable$Wedding", "drawnChoice", "(LGiftTable$Party;I)I"⟩, 6) := ⟨⟨by decide +kernel, by decide +kernel⟩, List.mem_of_getElem? (i := 473) (by decide +kernel), List.mem_of_getElem? (i := 1229) (by decide +kernel), List.mem_of_getElem? (i := 1230) (by decide +kernel)⟩
theorem lw_p57 : lw_okq (⟨"GiftTable$Heaps", "tryChange", "(LGiftTable$State;[IIII)V"⟩, 19) := ⟨⟨by decide +kernel, by decide +kernel⟩, List.mem_of_getElem? (i := 152) (by decide +kernel), List.mem_of_getElem? (i := 1257) (by decide +kernel), List.mem_of_getElem? (i := 1258) (by decide +kernel)⟩
theorem lw_p58 : lw_okq (⟨"GiftTable$Party", "likedBest", "(LGiftTable$State;I)I"⟩, 13) := ⟨⟨by decide +kernel, by decide +kernel⟩, List.mem_of_getElem? (i := 237) (by decide +kernel), List.mem_of_getElem? (i := 1269) (by decide +kernel), List.mem_of_getElem? (i := 1270) (by decide +kernel)⟩
theorem lw_p59 : lw_okq (⟨"GiftTableModel", "tell", "(I)I"⟩, 69) := ⟨⟨by decide +kernel, by decide +kernel⟩, List.mem_of_getElem? (i := 1299) (by decide +kernel), List.mem_of_getElem? (i := 1530) (by decide +kernel), List.mem_of_getElem? (i := 1531) (by decide +kernel)⟩
theorem lw_p60 : lw_okq (⟨"GiftTableModel", "isThing", "(I)Z"⟩, 69) := ⟨⟨by decide +kernel, by decide +kernel⟩, List.mem_of_getElem? (i := 1299) (by decide +kernel), List.mem_of_getElem? (i := 1552) (by decide +kernel), List.mem_of_getElem? (i := 1553) (by decide +kernel)⟩
theorem lw_p61 : lw_okq (⟨"GiftTableModel", "change", "(II)I"⟩, 69) := ⟨⟨by decide +kernel, by decide +kernel⟩, List.mem_of_getElem? (i := 1299) (by decide +kernel), List.mem_of_getElem? (i := 1556) (by decide +kernel), List.mem_of_getElem? (i := 1557) (by decide +kernel)⟩
theorem lw_p62 : lw_okq (⟨"GiftTableModel", "was", "(I)I"⟩, 69) := ⟨⟨by decide +kernel, by decide +kernel⟩, List.mem_of_getElem? (i := 1299) (by decide +kernel), List.mem_of_getElem? (i := 1560) (by decide +kernel), List.mem_of_getElem? (i := 1561) (by decide +kernel)⟩
theorem lw_p63 : lw_okq (⟨"GiftTableModel", "add", "(IIII)V"⟩, 69) := ⟨⟨by decide +kernel, by decide +kernel⟩, List.mem_of_getElem? (i := 1299) (by decide +kernel), List.mem_of_getElem? (i := 1582) (by decide +kernel), List.mem_of_getElem? (i := 1583) (by decide +kernel)⟩
def lw_privs_4 : List (MethodName × Nat) := [(⟨"GiftTable$Quiet", "tryBounds", "(LGiftTable$Party;LGiftTable$Heaps;II)V"⟩, 14), (⟨"GiftTable$Quiet", "tryRule", "(LGiftTable$Party;LGiftTable$Heaps;)V"⟩, 14), (⟨"GiftTable", "settle", "()V"⟩, 20), (⟨"GiftTable$Quiet", "lay", "(LGiftTable$Party;III)V"⟩, 14), (⟨"GiftTable$Quiet", "goRound", "(LGiftTable$State;LGiftTable$Party;LGiftTable$Heaps;)Z"⟩, 14), (⟨"GiftTable$Quiet", "valueNow", "(LGiftTable$State;LGiftTable$Heaps;)I"⟩, 14), (⟨"GiftTable$Wedding", "choose", "(LGiftTable$State;LGiftTable$Party;LGiftTable$Heaps;IZ)I"⟩, 6), (⟨"GiftTable$Wedding", "bestByList", "(LGiftTable$State;LGiftTable$Party;LGiftTable$Heaps;I)I"⟩, 6), (⟨"GiftTable$Wedding", "drawnChoice", "(LGiftTable$Party;I)I"⟩, 6), (⟨"GiftTable$Heaps", "tryChange", "(LGiftTable$State;[IIII)V"⟩, 19), (⟨"GiftTable$Party", "likedBest", "(LGiftTable$State;I)I"⟩, 13), (⟨"GiftTableModel", "tell", "(I)I"⟩, 69), (⟨"GiftTableModel", "isThing", "(I)Z"⟩, 69), (⟨"GiftTableModel", "change", "(II)I"⟩, 69), (⟨"GiftTableModel", "was", "(I)I"⟩, 69), (⟨"GiftTableModel", "add", "(IIII)V"⟩, 69)]
theorem lw_r4 : ∀ q ∈ lw_privs_4, lw_okq q := List.forall_mem_cons.mpr ⟨lw_p48, List.forall_mem_cons.mpr ⟨lw_p49, List.forall_mem_cons.mpr ⟨lw_p50, List.forall_mem_cons.mpr ⟨lw_p51, List.forall_mem_cons.mpr ⟨lw_p52, List.forall_mem_cons.mpr ⟨lw_p53, List.forall_mem_cons.mpr ⟨lw_p54, List.forall_mem_cons.mpr ⟨lw_p55, List.forall_mem_cons.mpr ⟨lw_p56, List.forall_mem_cons.mpr ⟨lw_p57, List.forall_mem_cons.mpr ⟨lw_p58, List.forall_mem_cons.mpr ⟨lw_p59, List.forall_mem_cons.mpr ⟨lw_p60, List.forall_mem_cons.mpr ⟨lw_p61, List.forall_mem_cons.mpr ⟨lw_p62, List.forall_mem_cons.mpr ⟨lw_p63, fun _ h => absurd h List.not_mem_nil⟩⟩⟩⟩⟩⟩⟩⟩⟩⟩⟩⟩⟩⟩⟩⟩
theorem lw_p64 : lw_okq (⟨"GiftTableModel", "isGuest", "(I)Z"⟩, 69) := ⟨⟨by decide +kernel, by decide +kernel⟩, List.mem_of_getElem? (i := 1299) (by decide +kernel), List.mem_of_getElem? (i := 1590) (by decide +kernel), List.mem_of_getElem? (i := 1591) (by decide +kernel)⟩
theorem lw_p65 : lw_okq (⟨"GiftTableModel", "ofGuest", "(II)I"⟩, 69) := ⟨⟨by decide +kernel, by decide +kernel⟩, List.mem_of_getElem? (i := 1299) (by decide +kernel), List.mem_of_getElem? (i := 1602) (by decide +kernel), List.mem_of_getElem? (i := 1603) (by decide +kernel)⟩
theorem lw_p66 : lw_okq (⟨"GiftTableModel", "isGiver", "(I)Z"⟩, 69) := ⟨⟨by decide +kernel, by decide +kernel⟩, List.mem_of_getElem? (i := 1299) (by decide +kernel), List.mem_of_getElem? (i := 1615) (by decide +kernel), List.mem_of_getElem? (i := 1616) (by decide +kernel)⟩
theorem lw_p67 : lw_okq (⟨"GiftTableModel", "pays", "(I)I"⟩, 69) := ⟨⟨by decide +kernel, by decide +kernel⟩, List.mem_of_getElem? (i := 1299) (by decide +kernel), List.mem_of_getElem? (i := 1619) (by decide +kernel), List.mem_of_getElem? (i := 1620) (by decide +kernel)⟩
theorem lw_p68 : lw_okq (⟨"GiftTableModel", "four", "(I)V"⟩, 69) := ⟨⟨by decide +kernel, by decide +kernel⟩, List.mem_of_getElem? (i := 1299) (by decide +kernel), List.mem_of_getElem? (i := 1635) (by decide +kernel), List.mem_of_getElem? (i := 1636) (by decide +kernel)⟩
theorem lw_p69 : lw_okq (⟨"GiftTableModel", "begin", "()V"⟩, 69) := ⟨⟨by decide +kernel, by decide +kernel⟩, List.mem_of_getElem? (i := 1299) (by decide +kernel), List.mem_of_getElem? (i := 1651) (by decide +kernel), List.mem_of_getElem? (i := 1652) (by decide +kernel)⟩
theorem lw_p70 : lw_okq (⟨"GiftTableModel", "next", "()V"⟩, 69) := ⟨⟨by decide +kernel, by decide +kernel⟩, List.mem_of_getElem? (i := 1299) (by decide +kernel), List.mem_of_getElem? (i := 1655) (by decide +kernel), List.mem_of_getElem? (i := 1656) (by decide +kernel)⟩
theorem lw_p71 : lw_okq (⟨"GiftTableModel", "readClause", "()V"⟩, 69) := ⟨⟨by decide +kernel, by decide +kernel⟩, List.mem_of_getElem? (i := 1299) (by decide +kernel), List.mem_of_getElem? (i := 1671) (by decide +kernel), List.mem_of_getElem? (i := 1672) (by decide +kernel)⟩
theorem lw_p72 : lw_okq (⟨"GiftTableModel", "isWord", "(J)Z"⟩, 69) := ⟨⟨by decide +kernel, by decide +kernel⟩, List.mem_of_getElem? (i := 1299) (by decide +kernel), List.mem_of_getElem? (i := 1676) (by decide +kernel), List.mem_of_getElem? (i := 1677) (by decide +kernel)⟩
theorem lw_p73 : lw_okq (⟨"GiftTableModel", "must", "(Z)V"⟩, 69) := ⟨⟨by decide +kernel, by decide +kernel⟩, List.mem_of_getElem? (i := 1299) (by decide +kernel), List.mem_of_getElem? (i := 1681) (by decide +kernel), List.mem_of_getElem? (i := 1682) (by decide +kernel)⟩
theorem lw_p74 : lw_okq (⟨"GiftTableModel", "readExpression", "(Z)V"⟩, 69) := ⟨⟨by decide +kernel, by decide +kernel⟩, List.mem_of_getElem? (i := 1299) (by decide +kernel), List.mem_of_getElem? (i := 1685) (by decide +kernel), List.mem_of_getElem? (i := 1686) (by decide +kernel)⟩
theorem lw_p75 : lw_okq (⟨"GiftTableModel", "readPlain", "()I"⟩, 69) := ⟨⟨by decide +kernel, by decide +kernel⟩, List.mem_of_getElem? (i := 1299) (by decide +kernel), List.mem_of_getElem? (i := 1689) (by decide +kernel), List.mem_of_getElem? (i := 1690) (by decide +kernel)⟩
theorem lw_p76 : lw_okq (⟨"GiftTableModel", "push", "(II)V"⟩, 69) := ⟨⟨by decide +kernel, by decide +kernel⟩, List.mem_of_getElem? (i := 1299) (by decide +kernel), List.mem_of_getElem? (i := 1694) (by decide +kernel), List.mem_of_getElem? (i := 1695) (by decide +kernel)⟩
theorem lw_p77 : lw_okq (⟨"GiftTableModel", "isSign", "(I)Z"⟩, 69) := ⟨⟨by decide +kernel, by decide +kernel⟩, List.mem_of_getElem? (i := 1299) (by decide +kernel), List.mem_of_getElem? (i := 1698) (by decide +kernel), List.mem_of_getElem? (i := 1699) (by decide +kernel)⟩
theorem lw_p78 : lw_okq (⟨"GiftTableModel", "openBracket", "(I)V"⟩, 69) := ⟨⟨by decide +kernel, by decide +kernel⟩, List.mem_of_getElem? (i := 1299) (by decide +kernel), List.mem_of_getElem? (i := 1702) (by decide +kernel), List.mem_of_getElem? (i := 1703) (by decide +kernel)⟩
theorem lw_p79 : lw_okq (⟨"GiftTableModel", "readPart", "()I"⟩, 69) := ⟨⟨by decide +kernel, by decide +kernel⟩, List.mem_of_getElem? (i := 1299) (by decide +kernel), List.mem_of_getElem? (i := 1706) (by decide +kernel), List.mem_of_getElem? (i := 1707) (by decide +kernel)⟩
def lw_privs_5 : List (MethodName × Nat) := [(⟨"GiftTableModel", "isGuest", "(I)Z"⟩, 69), (⟨"GiftTableModel", "ofGuest", "(II)I"⟩, 69), (⟨"GiftTableModel", "isGiver", "(I)Z"⟩, 69), (⟨"GiftTableModel", "pays", "(I)I"⟩, 69), (⟨"GiftTableModel", "four", "(I)V"⟩, 69), (⟨"GiftTableModel", "begin", "()V"⟩, 69), (⟨"GiftTableModel", "next", "()V"⟩, 69), (⟨"GiftTableModel", "readClause", "()V"⟩, 69), (⟨"GiftTableModel", "isWord", "(J)Z"⟩, 69), (⟨"GiftTableModel", "must", "(Z)V"⟩, 69), (⟨"GiftTableModel", "readExpression", "(Z)V"⟩, 69), (⟨"GiftTableModel", "readPlain", "()I"⟩, 69), (⟨"GiftTableModel", "push", "(II)V"⟩, 69), (⟨"GiftTableModel", "isSign", "(I)Z"⟩, 69), (⟨"GiftTableModel", "openBracket", "(I)V"⟩, 69), (⟨"GiftTableModel", "readPart", "()I"⟩, 69)]
theorem lw_r5 : ∀ q ∈ lw_privs_5, lw_okq q := List.forall_mem_cons.mpr ⟨lw_p64, List.forall_mem_cons.mpr ⟨lw_p65, List.forall_mem_cons.mpr ⟨lw_p66, List.forall_mem_cons.mpr ⟨lw_p67, List.forall_mem_cons.mpr ⟨lw_p68, List.forall_mem_cons.mpr ⟨lw_p69, List.forall_mem_cons.mpr ⟨lw_p70, List.forall_mem_cons.mpr ⟨lw_p71, List.forall_mem_cons.mpr ⟨lw_p72, List.forall_mem_cons.mpr ⟨lw_p73, List.forall_mem_cons.mpr ⟨lw_p74, List.forall_mem_cons.mpr ⟨lw_p75, List.forall_mem_cons.mpr ⟨lw_p76, List.forall_mem_cons.mpr ⟨lw_p77, List.forall_mem_cons.mpr ⟨lw_p78, List.forall_mem_cons.mpr ⟨lw_p79, fun _ h => absurd h List.not_mem_nil⟩⟩⟩⟩⟩⟩⟩⟩⟩⟩⟩⟩⟩⟩⟩⟩
theorem lw_p80 : lw_okq (⟨"GiftTableModel", "partAt", "()I"⟩, 69) := ⟨⟨by decide +kernel, by decide +kernel⟩, List.mem_of_getElem? (i := 1299) (by decide +kernel), List.mem_of_getElem? (i := 1710) (by decide +kernel), List.mem_of_getElem? (i := 1711) (by decide +kernel)⟩
theorem lw_p81 : lw_okq (⟨"GiftTableModel", "leaf", "(ZII)V"⟩, 69) := ⟨⟨by decide +kernel, by decide +kernel⟩, List.mem_of_getElem? (i := 1299) (by decide +kernel), List.mem_of_getElem? (i := 1715) (by decide +kernel), List.mem_of_getElem? (i := 1716) (by decide +kernel)⟩
theorem lw_p82 : lw_okq (⟨"GiftTableModel", "emit", "(II)V"⟩, 69) := ⟨⟨by decide +kernel, by decide +kernel⟩, List.mem_of_getElem? (i := 1299) (by decide +kernel), List.mem_of_getElem? (i := 1719) (by decide +kernel), List.mem_of_getElem? (i := 1720) (by decide +kernel)⟩
theorem lw_p83 : lw_okq (⟨"GiftTableModel", "behindSum", "(Z)I"⟩, 69) := ⟨⟨by decide +kernel, by decide +kernel⟩, List.mem_of_getElem? (i := 1299) (by decide +kernel), List.mem_of_getElem? (i := 1723) (by decide +kernel), List.mem_of_getElem? (i := 1724) (by decide +kernel)⟩
theorem lw_p84 : lw_okq (⟨"GiftTableModel", "settle", "(I)V"⟩, 69) := ⟨⟨by decide +kernel, by decide +kernel⟩, List.mem_of_getElem? (i := 1299) (by decide +kernel), List.mem_of_getElem? (i := 1730) (by decide +kernel), List.mem_of_getElem? (i := 1731) (by decide +kernel)⟩
theorem lw_p85 : lw_okq (⟨"GiftTableModel", "inner", "()I"⟩, 69) := ⟨⟨by decide +kernel, by decide +kernel⟩, List.mem_of_getElem? (i := 1299) (by decide +kernel), List.mem_of_getElem? (i := 1734) (by decide +kernel), List.mem_of_getElem? (i := 1735) (by decide +kernel)⟩
theorem lw_p86 : lw_okq (⟨"GiftTableModel", "isCompared", "()Z"⟩, 69) := ⟨⟨by decide +kernel, by decide +kernel⟩, List.mem_of_getElem? (i := 1299) (by decide +kernel), List.mem_of_getElem? (i := 1738) (by decide +kernel), List.mem_of_getElem? (i := 1739) (by decide +kernel)⟩
theorem lw_p87 : lw_okq (⟨"GiftTableModel", "behindTest", "()I"⟩, 69) := ⟨⟨by decide +kernel, by decide +kernel⟩, List.mem_of_getElem? (i := 1299) (by decide +kernel), List.mem_of_getElem? (i := 1746) (by decide +kernel), List.mem_of_getElem? (i := 1747) (by decide +kernel)⟩
theorem lw_p88 : lw_okq (⟨"GiftTableModel", "isText", "(I)Z"⟩, 69) := ⟨⟨by decide +kernel, by decide +kernel⟩, List.mem_of_getElem? (i := 1299) (by decide +kernel), List.mem_of_getElem? (i := 1757) (by decide +kernel), List.mem_of_getElem? (i := 1758) (by decide +kernel)⟩
theorem lw_p89 : lw_okq (⟨"GiftTableModel", "weigh", "(III)I"⟩, 69) := ⟨⟨by decide +kernel, by decide +kernel⟩, List.mem_of_getElem? (i := 1299) (by decide +kernel), List.mem_of_getElem? (i := 1766) (by decide +kernel), List.mem_of_getElem? (i := 1767) (by decide +kernel)⟩
theorem lw_p90 : lw_okq (⟨"GiftTableModel", "canPay", "(II)Z"⟩, 69) := ⟨⟨by decide +kernel, by decide +kernel⟩, List.mem_of_getElem? (i := 1299) (by decide +kernel), List.mem_of_getElem? (i := 1770) (by decide +kernel), List.mem_of_getElem? (i := 1771) (by decide +kernel)⟩
theorem lw_p91 : lw_okq (⟨"GiftTableModel", "ofThing", "(II)I"⟩, 69) := ⟨⟨by decide +kernel, by decide +kernel⟩, List.mem_of_getElem? (i := 1299) (by decide +kernel), List.mem_of_getElem? (i := 1774) (by decide +kernel), List.mem_of_getElem? (i := 1775) (by decide +kernel)⟩
theorem lw_p92 : lw_okq (⟨"GiftTableModel", "asks", "(III)I"⟩, 69) := ⟨⟨by decide +kernel, by decide +kernel⟩, List.mem_of_getElem? (i := 1299) (by decide +kernel), List.mem_of_getElem? (i := 1778) (by decide +kernel), List.mem_of_getElem? (i := 1779) (by decide +kernel)⟩
theorem lw_p93 : lw_okq (⟨"GiftTableModel", "givers", "()I"⟩, 69) := ⟨⟨by decide +kernel, by decide +kernel⟩, List.mem_of_getElem? (i := 1299) (by decide +kernel), List.mem_of_getElem? (i := 1782) (by decide +kernel), List.mem_of_getElem? (i := 1783) (by decide +kernel)⟩
theorem lw_p94 : lw_okq (⟨"GiftTableModel", "isSo", "(I)Z"⟩, 69) := ⟨⟨by decide +kernel, by decide +kernel⟩, List.mem_of_getElem? (i := 1299) (by decide +kernel), List.mem_of_getElem? (i := 1786) (by decide +kernel), List.mem_of_getElem? (i := 1787) (by decide +kernel)⟩
theorem lw_p95 : lw_okq (⟨"GiftTableModel", "reckonAll", "(II)V"⟩, 69) := ⟨⟨by decide +kernel, by decide +kernel⟩, List.mem_of_getElem? (i := 1299) (by decide +kernel), List.mem_of_getElem? (i := 1790) (by decide +kernel), List.mem_of_getElem? (i := 1791) (by decide +kernel)⟩
def lw_privs_6 : List (MethodName × Nat) := [(⟨"GiftTableModel", "partAt", "()I"⟩, 69), (⟨"GiftTableModel", "leaf", "(ZII)V"⟩, 69), (⟨"GiftTableModel", "emit", "(II)V"⟩, 69), (⟨"GiftTableModel", "behindSum", "(Z)I"⟩, 69), (⟨"GiftTableModel", "settle", "(I)V"⟩, 69), (⟨"GiftTableModel", "inner", "()I"⟩, 69), (⟨"GiftTableModel", "isCompared", "()Z"⟩, 69), (⟨"GiftTableModel", "behindTest", "()I"⟩, 69), (⟨"GiftTableModel", "isText", "(I)Z"⟩, 69), (⟨"GiftTableModel", "weigh", "(III)I"⟩, 69), (⟨"GiftTableModel", "canPay", "(II)Z"⟩, 69), (⟨"GiftTableModel", "ofThing", "(II)I"⟩, 69), (⟨"GiftTableModel", "asks", "(III)I"⟩, 69), (⟨"GiftTableModel", "givers", "()I"⟩, 69), (⟨"GiftTableModel", "isSo", "(I)Z"⟩, 69), (⟨"GiftTableModel", "reckonAll", "(II)V"⟩, 69)]
theorem lw_r6 : ∀ q ∈ lw_privs_6, lw_okq q := List.forall_mem_cons.mpr ⟨lw_p80, List.forall_mem_cons.mpr ⟨lw_p81, List.forall_mem_cons.mpr ⟨lw_p82, List.forall_mem_cons.mpr ⟨lw_p83, List.forall_mem_cons.mpr ⟨lw_p84, List.forall_mem_cons.mpr ⟨lw_p85, List.forall_mem_cons.mpr ⟨lw_p86, List.forall_mem_cons.mpr ⟨lw_p87, List.forall_mem_cons.mpr ⟨lw_p88, List.forall_mem_cons.mpr ⟨lw_p89, List.forall_mem_cons.mpr ⟨lw_p90, List.forall_mem_cons.mpr ⟨lw_p91, List.forall_mem_cons.mpr ⟨lw_p92, List.forall_mem_cons.mpr ⟨lw_p93, List.forall_mem_cons.mpr ⟨lw_p94, List.forall_mem_cons.mpr ⟨lw_p95, fun _ h => absurd h List.not_mem_nil⟩⟩⟩⟩⟩⟩⟩⟩⟩⟩⟩⟩⟩⟩⟩⟩
theorem lw_p96 : lw_okq (⟨"GiftTableModel", "reckon", "(IJJ)J"⟩, 69) := ⟨⟨by decide +kernel, by decide +kernel⟩, List.mem_of_getElem? (i := 1299) (by decide +kernel), List.mem_of_getElem? (i := 1794) (by decide +kernel), List.mem_of_getElem? (i := 1795) (by decide +kernel)⟩
theorem lw_p97 : lw_okq (⟨"GiftTableModel", "isHeap", "(IIII)Z"⟩, 69) := ⟨⟨by decide +kernel, by decide +kernel⟩, List.mem_of_getElem? (i := 1299) (by decide +kernel), List.mem_of_getElem? (i := 1804) (by decide +kernel), List.mem_of_getElem? (i := 1805) (by decide +kernel)⟩
theorem lw_p98 : lw_okq (⟨"GiftTableModel", "worthOf", "(I)I"⟩, 69) := ⟨⟨by decide +kernel, by decide +kernel⟩, List.mem_of_getElem? (i := 1299) (by decide +kernel), List.mem_of_getElem? (i := 1809) (by decide +kernel), List.mem_of_getElem? (i := 1810) (by decide +kernel)⟩
theorem lw_p99 : lw_okq (⟨"GiftTableModel", "meanOf", "(I)I"⟩, 69) := ⟨⟨by decide +kernel, by decide +kernel⟩, List.mem_of_getElem? (i := 1299) (by decide +kernel), List.mem_of_getElem? (i := 1826) (by decide +kernel), List.mem_of_getElem? (i := 1827) (by decide +kernel)⟩
theorem lw_p100 : lw_okq (⟨"GiftTableModel", "spread", "()V"⟩, 69) := ⟨⟨by decide +kernel, by decide +kernel⟩, List.mem_of_getElem? (i := 1299) (by decide +kernel), List.mem_of_getElem? (i := 1830) (by decide +kernel), List.mem_of_getElem? (i := 1831) (by decide +kernel)⟩
theorem lw_p101 : lw_okq (⟨"GiftTableModel", "findWorths", "()V"⟩, 69) := ⟨⟨by decide +kernel, by decide +kernel⟩, List.mem_of_getElem? (i := 1299) (by decide +kernel), List.mem_of_getElem? (i := 1834) (by decide +kernel), List.mem_of_getElem? (i := 1835) (by decide +kernel)⟩
theorem lw_p102 : lw_okq (⟨"GiftTableModel", "weighAll", "(I)I"⟩, 69) := ⟨⟨by decide +kernel, by decide +kernel⟩, List.mem_of_getElem? (i := 1299) (by decide +kernel), List.mem_of_getElem? (i := 1841) (by decide +kernel), List.mem_of_getElem? (i := 1842) (by decide +kernel)⟩
theorem lw_p103 : lw_okq (⟨"GiftTableModel", "spreadOne", "(I)V"⟩, 69) := ⟨⟨by decide +kernel, by decide +kernel⟩, List.mem_of_getElem? (i := 1299) (by decide +kernel), List.mem_of_getElem? (i := 1848) (by decide +kernel), List.mem_of_getElem? (i := 1849) (by decide +kernel)⟩
theorem lw_p104 : lw_okq (⟨"GiftTableModel", "addMoney", "()V"⟩, 69) := ⟨⟨by decide +kernel, by decide +kernel⟩, List.mem_of_getElem? (i := 1299) (by decide +kernel), List.mem_of_getElem? (i := 1858) (by decide +kernel), List.mem_of_getElem? (i := 1859) (by decide +kernel)⟩
theorem lw_p105 : lw_okq (⟨"GiftTableModel", "coinOf", "(I)I"⟩, 69) := ⟨⟨by decide +kernel, by decide +kernel⟩, List.mem_of_getElem? (i := 1299) (by decide +kernel), List.mem_of_getElem? (i := 1862) (by decide +kernel), List.mem_of_getElem? (i := 1863) (by decide +kernel)⟩
theorem lw_p106 : lw_okq (⟨"GiftTableModel", "ratio", "()I"⟩, 69) := ⟨⟨by decide +kernel, by decide +kernel⟩, List.mem_of_getElem? (i := 1299) (by decide +kernel), List.mem_of_getElem? (i := 1866) (by decide +kernel), List.mem_of_getElem? (i := 1867) (by decide +kernel)⟩
theorem lw_p107 : lw_okq (⟨"GiftTableModel", "gather", "(II)V"⟩, 69) := ⟨⟨by decide +kernel, by decide +kernel⟩, List.mem_of_getElem? (i := 1299) (by decide +kernel), List.mem_of_getElem? (i := 1883) (by decide +kernel), List.mem_of_getElem? (i := 1884) (by decide +kernel)⟩
theorem lw_p108 : lw_okq (⟨"GiftTableModel", "gatherOne", "(III)V"⟩, 69) := ⟨⟨by decide +kernel, by decide +kernel⟩, List.mem_of_getElem? (i := 1299) (by decide +kernel), List.mem_of_getElem? (i := 1888) (by decide +kernel), List.mem_of_getElem? (i := 1889) (by decide +kernel)⟩
theorem lw_p109 : lw_okq (⟨"GiftTableModel", "may", "(II)Z"⟩, 69) := ⟨⟨by decide +kernel, by decide +kernel⟩, List.mem_of_getElem? (i := 1299) (by decide +kernel), List.mem_of_getElem? (i := 1892) (by decide +kernel), List.mem_of_getElem? (i := 1893) (by decide +kernel)⟩
theorem lw_p110 : lw_okq (⟨"GiftTableModel", "moneyOf", "(II)I"⟩, 69) := ⟨⟨by decide +kernel, by decide +kernel⟩, List.mem_of_getElem? (i := 1299) (by decide +kernel), List.mem_of_getElem? (i := 1896) (by decide +kernel), List.mem_of_getElem? (i := 1897) (by decide +kernel)⟩
theorem lw_p111 : lw_okq (⟨"GiftTableModel", "greatest", "()I"⟩, 69) := ⟨⟨by decide +kernel, by decide +kernel⟩, List.mem_of_getElem? (i := 1299) (by decide +kernel), List.mem_of_getElem? (i := 1901) (by decide +kernel), List.mem_of_getElem? (i := 1902) (by decide +kernel)⟩
def lw_privs_7 : List (MethodName × Nat) := [(⟨"GiftTableModel", "reckon", "(IJJ)J"⟩, 69), (⟨"GiftTableModel", "isHeap", "(IIII)Z"⟩, 69), (⟨"GiftTableModel", "worthOf", "(I)I"⟩, 69), (⟨"GiftTableModel", "meanOf", "(I)I"⟩, 69), (⟨"GiftTableModel", "spread", "()V"⟩, 69), (⟨"GiftTableModel", "findWorths", "()V"⟩, 69), (⟨"GiftTableModel", "weighAll", "(I)I"⟩, 69), (⟨"GiftTableModel", "spreadOne", "(I)V"⟩, 69), (⟨"GiftTableModel", "addMoney", "()V"⟩, 69), (⟨"GiftTableModel", "coinOf", "(I)I"⟩, 69), (⟨"GiftTableModel", "ratio", "()I"⟩, 69), (⟨"GiftTableModel", "gather", "(II)V"⟩, 69), (⟨"GiftTableModel", "gatherOne", "(III)V"⟩, 69), (⟨"GiftTableModel", "may", "(II)Z"⟩, 69), (⟨"GiftTableModel", "moneyOf", "(II)I"⟩, 69), (⟨"GiftTableModel", "greatest", "()I"⟩, 69)]
theorem lw_r7 : ∀ q ∈ lw_privs_7, lw_okq q := List.forall_mem_cons.mpr ⟨lw_p96, List.forall_mem_cons.mpr ⟨lw_p97, List.forall_mem_cons.mpr ⟨lw_p98, List.forall_mem_cons.mpr ⟨lw_p99, List.forall_mem_cons.mpr ⟨lw_p100, List.forall_mem_cons.mpr ⟨lw_p101, List.forall_mem_cons.mpr ⟨lw_p102, List.forall_mem_cons.mpr ⟨lw_p103, List.forall_mem_cons.mpr ⟨lw_p104, List.forall_mem_cons.mpr ⟨lw_p105, List.forall_mem_cons.mpr ⟨lw_p106, List.forall_mem_cons.mpr ⟨lw_p107, List.forall_mem_cons.mpr ⟨lw_p108, List.forall_mem_cons.mpr ⟨lw_p109, List.forall_mem_cons.mpr ⟨lw_p110, List.forall_mem_cons.mpr ⟨lw_p111, fun _ h => absurd h List.not_mem_nil⟩⟩⟩⟩⟩⟩⟩⟩⟩⟩⟩⟩⟩⟩⟩⟩
theorem lw_p112 : lw_okq (⟨"GiftTableModel", "findFirst", "(I)V"⟩, 69) := ⟨⟨by decide +kernel, by decide +kernel⟩, List.mem_of_getElem? (i := 1299) (by decide +kernel), List.mem_of_getElem? (i := 1905) (by decide +kernel), List.mem_of_getElem? (i := 1906) (by decide +kernel)⟩
theorem lw_p113 : lw_okq (⟨"GiftTableModel", "isOnWay", "(IIII)Z"⟩, 69) := ⟨⟨by decide +kernel, by decide +kernel⟩, List.mem_of_getElem? (i := 1299) (by decide +kernel), List.mem_of_getElem? (i := 1909) (by decide +kernel), List.mem_of_getElem? (i := 1910) (by decide +kernel)⟩
theorem lw_p114 : lw_okq (⟨"GiftTableModel", "findBlind", "(I)V"⟩, 69) := ⟨⟨by decide +kernel, by decide +kernel⟩, List.mem_of_getElem? (i := 1299) (by decide +kernel), List.mem_of_getElem? (i := 1930) (by decide +kernel), List.mem_of_getElem? (i := 1931) (by decide +kernel)⟩
theorem lw_p115 : lw_okq (⟨"GiftTableModel", "findShares", "(I)V"⟩, 69) := ⟨⟨by decide +kernel, by decide +kernel⟩, List.mem_of_getElem? (i := 1299) (by decide +kernel), List.mem_of_getElem? (i := 1934) (by decide +kernel), List.mem_of_getElem? (i := 1935) (by decide +kernel)⟩
theorem lw_p116 : lw_okq (⟨"GiftTableModel", "tryTenths", "(I)V"⟩, 69) := ⟨⟨by decide +kernel, by decide +kernel⟩, List.mem_of_getElem? (i := 1299) (by decide +kernel), List.mem_of_getElem? (i := 1941) (by decide +kernel), List.mem_of_getElem? (i := 1942) (by decide +kernel)⟩
theorem lw_p117 : lw_okq (⟨"GiftTableModel", "blindMean", "(I)J"⟩, 69) := ⟨⟨by decide +kernel, by decide +kernel⟩, List.mem_of_getElem? (i := 1299) (by decide +kernel), List.mem_of_getElem? (i := 1945) (by decide +kernel), List.mem_of_getElem? (i := 1946) (by decide +kernel)⟩
theorem lw_p118 : lw_okq (⟨"GiftTableModel", "ruleValue", "()I"⟩, 69) := ⟨⟨by decide +kernel, by decide +kernel⟩, List.mem_of_getElem? (i := 1299) (by decide +kernel), List.mem_of_getElem? (i := 1953) (by decide +kernel), List.mem_of_getElem? (i := 1954) (by decide +kernel)⟩
theorem lw_p119 : lw_okq (⟨"GiftTableModel", "byRule", "(I)I"⟩, 69) := ⟨⟨by decide +kernel, by decide +kernel⟩, List.mem_of_getElem? (i := 1299) (by decide +kernel), List.mem_of_getElem? (i := 1957) (by decide +kernel), List.mem_of_getElem? (i := 1958) (by decide +kernel)⟩
theorem lw_p120 : lw_okq (⟨"GiftTableModel", "nextBounds", "()Z"⟩, 69) := ⟨⟨by decide +kernel, by decide +kernel⟩, List.mem_of_getElem? (i := 1299) (by decide +kernel), List.mem_of_getElem? (i := 1961) (by decide +kernel), List.mem_of_getElem? (i := 1962) (by decide +kernel)⟩
theorem lw_p121 : lw_okq (⟨"GiftTableModel", "findRest", "()V"⟩, 69) := ⟨⟨by decide +kernel, by decide +kernel⟩, List.mem_of_getElem? (i := 1299) (by decide +kernel), List.mem_of_getElem? (i := 1973) (by decide +kernel), List.mem_of_getElem? (i := 1974) (by decide +kernel)⟩
theorem lw_p122 : lw_okq (⟨"GiftTableModel", "goesOn", "(I)Z"⟩, 69) := ⟨⟨by decide +kernel, by decide +kernel⟩, List.mem_of_getElem? (i := 1299) (by decide +kernel), List.mem_of_getElem? (i := 1978) (by decide +kernel), List.mem_of_getElem? (i := 1979) (by decide +kernel)⟩
theorem lw_p123 : lw_okq (⟨"GiftTableModel", "drawAll", "()I"⟩, 69) := ⟨⟨by decide +kernel, by decide +kernel⟩, List.mem_of_getElem? (i := 1299) (by decide +kernel), List.mem_of_getElem? (i := 1990) (by decide +kernel), List.mem_of_getElem? (i := 1991) (by decide +kernel)⟩
theorem lw_p124 : lw_okq (⟨"GiftTableModel", "best", "(II)I"⟩, 69) := ⟨⟨by decide +kernel, by decide +kernel⟩, List.mem_of_getElem? (i := 1299) (by decide +kernel), List.mem_of_getElem? (i := 1994) (by decide +kernel), List.mem_of_getElem? (i := 1995) (by decide +kernel)⟩
theorem lw_p125 : lw_okq (⟨"GiftTableModel", "drawnBy", "(I)I"⟩, 69) := ⟨⟨by decide +kernel, by decide +kernel⟩, List.mem_of_getElem? (i := 1299) (by decide +kernel), List.mem_of_getElem? (i := 1998) (by decide +kernel), List.mem_of_getElem? (i := 1999) (by decide +kernel)⟩
theorem lw_p126 : lw_okq (⟨"GiftTableModel", "draw", "(I)I"⟩, 69) := ⟨⟨by decide +kernel, by decide +kernel⟩, List.mem_of_getElem? (i := 1299) (by decide +kernel), List.mem_of_getElem? (i := 2002) (by decide +kernel), List.mem_of_getElem? (i := 2003) (by decide +kernel)⟩
theorem lw_p127 : lw_okq (⟨"GiftTableModel", "likedBy", "(I)I"⟩, 69) := ⟨⟨by decide +kernel, by decide +kernel⟩, List.mem_of_getElem? (i := 1299) (by decide +kernel), List.mem_of_getElem? (i := 2029) (by decide +kernel), List.mem_of_getElem? (i := 2030) (by decide +kernel)⟩
def lw_privs_8 : List (MethodName × Nat) := [(⟨"GiftTableModel", "findFirst", "(I)V"⟩, 69), (⟨"GiftTableModel", "isOnWay", "(IIII)Z"⟩, 69), (⟨"GiftTableModel", "findBlind", "(I)V"⟩, 69), (⟨"GiftTableModel", "findShares", "(I)V"⟩, 69), (⟨"GiftTableModel", "tryTenths", "(I)V"⟩, 69), (⟨"GiftTableModel", "blindMean", "(I)J"⟩, 69), (⟨"GiftTableModel", "ruleValue", "()I"⟩, 69), (⟨"GiftTableModel", "byRule", "(I)I"⟩, 69), (⟨"GiftTableModel", "nextBounds", "()Z"⟩, 69), (⟨"GiftTableModel", "findRest", "()V"⟩, 69), (⟨"GiftTableModel", "goesOn", "(I)Z"⟩, 69), (⟨"GiftTableModel", "drawAll", "()I"⟩, 69), (⟨"GiftTableModel", "best", "(II)I"⟩, 69), (⟨"GiftTableModel", "drawnBy", "(I)I"⟩, 69), (⟨"GiftTableModel", "draw", "(I)I"⟩, 69), (⟨"GiftTableModel", "likedBy", "(I)I"⟩, 69)]
theorem lw_r8 : ∀ q ∈ lw_privs_8, lw_okq q := List.forall_mem_cons.mpr ⟨lw_p112, List.forall_mem_cons.mpr ⟨lw_p113, List.forall_mem_cons.mpr ⟨lw_p114, List.forall_mem_cons.mpr ⟨lw_p115, List.forall_mem_cons.mpr ⟨lw_p116, List.forall_mem_cons.mpr ⟨lw_p117, List.forall_mem_cons.mpr ⟨lw_p118, List.forall_mem_cons.mpr ⟨lw_p119, List.forall_mem_cons.mpr ⟨lw_p120, List.forall_mem_cons.mpr ⟨lw_p121, List.forall_mem_cons.mpr ⟨lw_p122, List.forall_mem_cons.mpr ⟨lw_p123, List.forall_mem_cons.mpr ⟨lw_p124, List.forall_mem_cons.mpr ⟨lw_p125, List.forall_mem_cons.mpr ⟨lw_p126, List.forall_mem_cons.mpr ⟨lw_p127, fun _ h => absurd h List.not_mem_nil⟩⟩⟩⟩⟩⟩⟩⟩⟩⟩⟩⟩⟩⟩⟩⟩
def lw_privs : List (MethodName × Nat) := lw_privs_1 ++ (lw_privs_2 ++ (lw_privs_3 ++ (lw_privs_4 ++ (lw_privs_5 ++ (lw_privs_6 ++ (lw_privs_7 ++ (lw_privs_8)))))))
def lw_tbl : List Cond := k2_sels lw_privs ++ tables_1
theorem lw_privs_ok : ∀ q ∈ lw_privs, lw_okq q := by
  show ∀ q ∈ lw_privs_1 ++ (lw_privs_2 ++ (lw_privs_3 ++ (lw_privs_4 ++ (lw_privs_5 ++ (lw_privs_6 ++ (lw_privs_7 ++ (lw_privs_8))))))), lw_okq q
  exact List.forall_mem_append.mpr ⟨lw_r1, List.forall_mem_append.mpr ⟨lw_r2, List.forall_mem_append.mpr ⟨lw_r3, List.forall_mem_append.mpr ⟨lw_r4, List.forall_mem_append.mpr ⟨lw_r5, List.forall_mem_append.mpr ⟨lw_r6, List.forall_mem_append.mpr ⟨lw_r7, lw_r8⟩⟩⟩⟩⟩⟩⟩
-- ===== end of PART A; then your names; then what follows =====
end
section
/-! ===== BEGIN words of one list among another's, by their places ===== -/
theorem goodIn_r {big : List Cond} (ws : List Cond) (ps : List Nat) (hp : ws = ps.filterMap (fun i => big[i]?)) (h : ws.all goodWord = true) : GoodIn big ws := by
  intro w hw
  have h1 := List.all_eq_true.mp h w hw
  rw [hp] at hw
  obtain ⟨i, -, hi⟩ := List.mem_filterMap.mp hw
  have hm : w ∈ big := by first | exact List.mem_of_getElem? hi | exact List.getElem?_mem hi
  exact ⟨hm, good_of_word h1⟩
theorem goodIn_app {big a b : List Cond} (ha : GoodIn big a) (hb : GoodIn big b) : GoodIn big (a ++ b) := fun w h => (List.mem_append.mp h).elim (ha w) (hb w)
theorem goodIn_ca {big a b : List Cond} {c : Cond} (ha : GoodIn big (c :: a)) (hb : GoodIn big b) : GoodIn big (c :: (a ++ b)) := fun w h => (List.mem_cons.mp h).elim (fun e => ha w (List.mem_cons.mpr (Or.inl e))) (fun h => (List.mem_append.mp h).elim (fun h => ha w (List.mem_cons.mpr (Or.inr h))) (hb w))
theorem goodIn_sub {big ws : List Cond} (hm : ∀ w ∈ ws, w ∈ big) (h : ws.all goodWord = true) : GoodIn big ws := fun w hw => ⟨hm w hw, good_of_word (List.all_eq_true.mp h w hw)⟩
/-! ===== END ===== -/
/-! ===== BEGIN printed: names, fields, word lists, decode rows ===== -/
def RX0 : String := "GiftTable$Blind"
def TX0 : u_T := fun k => match k with
  | 0 => ("GiftTable$Blind", "counted", "[J", true)
  | 1 => ("GiftTable$Blind", "levels", "[[J", true)
  | 2 => ("GiftTable$Blind", "powers", "[[I", true)
  | 3 => ("GiftTable$Blind", "sizes", "[I", true)
  | 4 => ("GiftTable$Blind", "heap", "[I", true)
  | 5 => ("GiftTable$Blind", "row", "[I", true)
  | 6 => ("GiftTable$Blind", "bestRow", "[I", true)
  | 7 => ("GiftTable$Blind", "best", "J", false)
  | 8 => ("GiftTable$Blind", "things", "I", false)
  | 9 => ("GiftTable$Blind", "givers", "I", false)
  | 10 => ("GiftTable$Blind", "worked", "I", false)
  | _ => ("GiftTable$Blind", "hundredths", "I", false)
def tyX0 : Nat → FieldType := fun k => match k with
  | 0 => .array .long
  | 1 => .array (.array .long)
  | 2 => .array (.array .int)
  | 3 => .array .int
  | 4 => .array .int
  | 5 => .array .int
  | 6 => .array .int
  | 7 => .long
  | 8 => .int
  | 9 => .int
  | 10 => .int
  | _ => .int
abbrev wsX00 : List Cond := u_ws RX0 TX0 12
theorem nmX0 : ∀ a, a < 12 → ∀ b, b < 12 → a ≠ b → (TX0 a).2.1 ≠ (TX0 b).2.1 := by decide +kernel
theorem tyX0_ok : ∀ k, k < 12 → parseFieldDescriptor (TX0 k).2.2.1 = some (tyX0 k) := by decide +kernel
abbrev cX0_init : ByteArray := prog_2_method_1_code
def yX0_init : MethodName := ⟨RX0, "<init>", "()V"⟩
abbrev cX0_work : ByteArray := prog_2_method_2_code
def yX0_work : MethodName := ⟨RX0, "work", "(LGiftTable$State;LGiftTable$Heaps;II)V"⟩
abbrev cX0_tenthsOf : ByteArray := prog_2_method_3_code
def yX0_tenthsOf : MethodName := ⟨RX0, "tenthsOf", "(II)I"⟩
abbrev cX0_shapeLevels : ByteArray := prog_2_method_4_code
def yX0_shapeLevels : MethodName := ⟨RX0, "shapeLevels", "()V"⟩
abbrev cX0_monomial : ByteArray := prog_2_method_5_code
def yX0_monomial : MethodName := ⟨RX0, "monomial", "(III)I"⟩
abbrev cX0_degree : ByteArray := prog_2_method_6_code
def yX0_degree : MethodName := ⟨RX0, "degree", "(I)I"⟩
abbrev cX0_powerOf : ByteArray := prog_2_method_7_code
def yX0_powerOf : MethodName := ⟨RX0, "powerOf", "(II)I"⟩
abbrev cX0_countHeaps : ByteArray := prog_2_method_8_code
def yX0_countHeaps : MethodName := ⟨RX0, "countHeaps", "(LGiftTable$State;LGiftTable$Heaps;)V"⟩
abbrev cX0_factorial : ByteArray := prog_2_method_9_code
def yX0_factorial : MethodName := ⟨RX0, "factorial", "(I)J"⟩
abbrev cX0_spread : ByteArray := prog_2_method_10_code
def yX0_spread : MethodName := ⟨RX0, "spread", "(II)V"⟩
abbrev cX0_putFirst : ByteArray := prog_2_method_11_code
def yX0_putFirst : MethodName := ⟨RX0, "putFirst", "(I)V"⟩
abbrev cX0_putIn : ByteArray := prog_2_method_12_code
def yX0_putIn : MethodName := ⟨RX0, "putIn", "(II)V"⟩
abbrev cX0_compare : ByteArray := prog_2_method_13_code
def yX0_compare : MethodName := ⟨RX0, "compare", "(I)V"⟩
def RX1 : String := "GiftTable$Heaps"
def TX1 : u_T := fun k => match k with
  | 0 => ("GiftTable$Heaps", "spare", "[I", true)
  | 1 => ("GiftTable$Heaps", "lacks", "[I", true)
  | 2 => ("GiftTable$Heaps", "row", "[I", true)
  | 3 => ("GiftTable$Heaps", "value", "I", false)
  | 4 => ("GiftTable$Heaps", "doubled", "I", false)
  | 5 => ("GiftTable$Heaps", "missing", "I", false)
  | 6 => ("GiftTable$Heaps", "gain", "I", false)
  | 7 => ("GiftTable$Heaps", "given", "I", false)
  | 8 => ("GiftTable$Heaps", "gotten", "I", false)
  | 9 => ("GiftTable$Heaps", "things", "I", false)
  | 10 => ("GiftTable$Heaps", "priced", "I", false)
  | 11 => ("GiftTable$Heaps", "upTo", "[I", true)
  | 12 => ("GiftTable$Heaps", "counts", "[I", true)
  | 13 => ("GiftTable$Heaps", "next", "[I", true)
  | 14 => ("GiftTable$Heaps", "parent", "[I", true)
  | 15 => ("GiftTable$Heaps", "highest", "[I", true)
  | 16 => ("GiftTable$Heaps", "values", "[I", true)
  | 17 => ("GiftTable$Heaps", "doubles", "[I", true)
  | _ => ("GiftTable$Heaps", "misses", "[I", true)
def tyX1 : Nat → FieldType := fun k => match k with
  | 0 => .array .int
  | 1 => .array .int
  | 2 => .array .int
  | 3 => .int
  | 4 => .int
  | 5 => .int
  | 6 => .int
  | 7 => .int
  | 8 => .int
  | 9 => .int
  | 10 => .int
  | 11 => .array .int
  | 12 => .array .int
  | 13 => .array .int
  | 14 => .array .int
  | 15 => .array .int
  | 16 => .array .int
  | 17 => .array .int
  | _ => .array .int
abbrev wsX10 : List Cond := u_ws RX1 TX1 19
theorem nmX1 : ∀ a, a < 19 → ∀ b, b < 19 → a ≠ b → (TX1 a).2.1 ≠ (TX1 b).2.1 := by decide +kernel
theorem tyX1_ok : ∀ k, k < 19 → parseFieldDescriptor (TX1 k).2.2.1 = some (tyX1 k) := by decide +kernel
abbrev cX1_init : ByteArray := prog_3_method_1_code
def yX1_init : MethodName := ⟨RX1, "<init>", "()V"⟩
abbrev cX1_weigh : ByteArray := prog_3_method_2_code
def yX1_weigh : MethodName := ⟨RX1, "weigh", "(LGiftTable$State;[I)V"⟩
abbrev cX1_makeUp : ByteArray := prog_3_method_3_code
def yX1_makeUp : MethodName := ⟨RX1, "makeUp", "(LGiftTable$State;I)V"⟩
abbrev cX1_findChange : ByteArray := prog_3_method_4_code
def yX1_findChange : MethodName := ⟨RX1, "findChange", "(LGiftTable$State;[II)V"⟩
abbrev cX1_tryChange : ByteArray := prog_3_method_5_code
def yX1_tryChange : MethodName := ⟨RX1, "tryChange", "(LGiftTable$State;[IIII)V"⟩
abbrev cX1_after : ByteArray := prog_3_method_6_code
def yX1_after : MethodName := ⟨RX1, "after", "(II)I"⟩
abbrev cX1_price : ByteArray := prog_3_method_7_code
def yX1_price : MethodName := ⟨RX1, "price", "(LGiftTable$State;II)V"⟩
abbrev cX1_shape : ByteArray := prog_3_method_8_code
def yX1_shape : MethodName := ⟨RX1, "shape", "(I)V"⟩
abbrev cX1_grow : ByteArray := prog_3_method_9_code
def yX1_grow : MethodName := ⟨RX1, "grow", "(III)I"⟩
def RX2 : String := "GiftTable$Mean"
def TX2 : u_T := fun k => match k with
  | 0 => ("GiftTable$Mean", "low", "[J", true)
  | 1 => ("GiftTable$Mean", "middle", "[J", true)
  | 2 => ("GiftTable$Mean", "high", "[J", true)
  | 3 => ("GiftTable$Mean", "whole", "[J", true)
  | 4 => ("GiftTable$Mean", "money", "[J", true)
  | 5 => ("GiftTable$Mean", "sum", "[J", true)
  | 6 => ("GiftTable$Mean", "divisor", "[J", true)
  | 7 => ("GiftTable$Mean", "means", "[I", true)
  | _ => ("GiftTable$Mean", "worked", "I", false)
def tyX2 : Nat → FieldType := fun k => match k with
  | 0 => .array .long
  | 1 => .array .long
  | 2 => .array .long
  | 3 => .array .long
  | 4 => .array .long
  | 5 => .array .long
  | 6 => .array .long
  | 7 => .array .int
  | _ => .int
abbrev wsX20 : List Cond := u_ws RX2 TX2 9
theorem nmX2 : ∀ a, a < 9 → ∀ b, b < 9 → a ≠ b → (TX2 a).2.1 ≠ (TX2 b).2.1 := by decide +kernel
theorem tyX2_ok : ∀ k, k < 9 → parseFieldDescriptor (TX2 k).2.2.1 = some (tyX2 k) := by decide +kernel
abbrev cX2_init : ByteArray := prog_4_method_1_code
def yX2_init : MethodName := ⟨RX2, "<init>", "()V"⟩
abbrev cX2_work : ByteArray := prog_4_method_2_code
def yX2_work : MethodName := ⟨RX2, "work", "(LGiftTable$Party;LGiftTable$Heaps;I)V"⟩
abbrev cX2_addMoney : ByteArray := prog_4_method_3_code
def yX2_addMoney : MethodName := ⟨RX2, "addMoney", "(LGiftTable$Party;I)V"⟩
abbrev cX2_addGifts : ByteArray := prog_4_method_4_code
def yX2_addGifts : MethodName := ⟨RX2, "addGifts", "(LGiftTable$Party;LGiftTable$Heaps;I)V"⟩
abbrev cX2_carryAll : ByteArray := prog_4_method_5_code
def yX2_carryAll : MethodName := ⟨RX2, "carryAll", "(I)V"⟩
abbrev cX2_meanOf : ByteArray := prog_4_method_6_code
def yX2_meanOf : MethodName := ⟨RX2, "meanOf", "([II[J)I"⟩
abbrev cX2_lacking : ByteArray := prog_4_method_7_code
def yX2_lacking : MethodName := ⟨RX2, "lacking", "(LGiftTable$Party;I)I"⟩
abbrev cX2_quotient : ByteArray := prog_4_method_8_code
def yX2_quotient : MethodName := ⟨RX2, "quotient", "()I"⟩
abbrev cX2_set : ByteArray := prog_4_method_9_code
def yX2_set : MethodName := ⟨RX2, "set", "([JJ)V"⟩
abbrev cX2_carry : ByteArray := prog_4_method_10_code
def yX2_carry : MethodName := ⟨RX2, "carry", "([J)V"⟩
abbrev cX2_multiply : ByteArray := prog_4_method_11_code
def yX2_multiply : MethodName := ⟨RX2, "multiply", "([JI)V"⟩
abbrev cX2_add : ByteArray := prog_4_method_12_code
def yX2_add : MethodName := ⟨RX2, "add", "([J[J)V"⟩
abbrev cX2_subtract : ByteArray := prog_4_method_13_code
def yX2_subtract : MethodName := ⟨RX2, "subtract", "([J[J)V"⟩
abbrev cX2_halve : ByteArray := prog_4_method_14_code
def yX2_halve : MethodName := ⟨RX2, "halve", "([J)V"⟩
abbrev cX2_below : ByteArray := prog_4_method_15_code
def yX2_below : MethodName := ⟨RX2, "below", "([J[J)Z"⟩
def RX3 : String := "GiftTable$Party"
def TX3 : u_T := fun k => match k with
  | 0 => ("GiftTable$Party", "givers", "I", false)
  | 1 => ("GiftTable$Party", "guestAt", "[I", true)
  | 2 => ("GiftTable$Party", "giverAt", "[I", true)
  | 3 => ("GiftTable$Party", "purse", "[I", true)
  | 4 => ("GiftTable$Party", "money", "[I", true)
  | 5 => ("GiftTable$Party", "letter", "[I", true)
  | 6 => ("GiftTable$Party", "fixed", "[I", true)
  | 7 => ("GiftTable$Party", "choices", "[I", true)
  | 8 => ("GiftTable$Party", "chances", "[I", true)
  | 9 => ("GiftTable$Party", "asked", "[I", true)
  | 10 => ("GiftTable$Party", "stack", "[J", true)
  | 11 => ("GiftTable$Party", "seated", "I", false)
  | _ => ("GiftTable$Party", "chanced", "I", false)
def tyX3 : Nat → FieldType := fun k => match k with
  | 0 => .int
  | 1 => .array .int
  | 2 => .array .int
  | 3 => .array .int
  | 4 => .array .int
  | 5 => .array .int
  | 6 => .array .int
  | 7 => .array .int
  | 8 => .array .int
  | 9 => .array .int
  | 10 => .array .long
  | 11 => .int
  | _ => .int
abbrev wsX30 : List Cond := u_ws RX3 TX3 13
theorem nmX3 : ∀ a, a < 13 → ∀ b, b < 13 → a ≠ b → (TX3 a).2.1 ≠ (TX3 b).2.1 := by decide +kernel
theorem tyX3_ok : ∀ k, k < 13 → parseFieldDescriptor (TX3 k).2.2.1 = some (tyX3 k) := by decide +kernel
abbrev cX3_init : ByteArray := prog_5_method_1_code
def yX3_init : MethodName := ⟨RX3, "<init>", "()V"⟩
abbrev cX3_seat : ByteArray := prog_5_method_2_code
def yX3_seat : MethodName := ⟨RX3, "seat", "(LGiftTable$State;I)V"⟩
abbrev cX3_seatGiver : ByteArray := prog_5_method_3_code
def yX3_seatGiver : MethodName := ⟨RX3, "seatGiver", "(LGiftTable$State;I)V"⟩
abbrev cX3_moneyBy : ByteArray := prog_5_method_4_code
def yX3_moneyBy : MethodName := ⟨RX3, "moneyBy", "(II)I"⟩
abbrev cX3_canBring : ByteArray := prog_5_method_5_code
def yX3_canBring : MethodName := ⟨RX3, "canBring", "(II)Z"⟩
abbrev cX3_weightOf : ByteArray := prog_5_method_6_code
def yX3_weightOf : MethodName := ⟨RX3, "weightOf", "(LGiftTable$State;III)I"⟩
abbrev cX3_clauseWeight : ByteArray := prog_5_method_7_code
def yX3_clauseWeight : MethodName := ⟨RX3, "clauseWeight", "(LGiftTable$State;III)I"⟩
abbrev cX3_fillChances : ByteArray := prog_5_method_8_code
def yX3_fillChances : MethodName := ⟨RX3, "fillChances", "(LGiftTable$State;I)V"⟩
abbrev cX3_chanceSum : ByteArray := prog_5_method_9_code
def yX3_chanceSum : MethodName := ⟨RX3, "chanceSum", "(I)I"⟩
abbrev cX3_mostLiked : ByteArray := prog_5_method_10_code
def yX3_mostLiked : MethodName := ⟨RX3, "mostLiked", "(LGiftTable$State;[I)I"⟩
abbrev cX3_likedBest : ByteArray := prog_5_method_11_code
def yX3_likedBest : MethodName := ⟨RX3, "likedBest", "(LGiftTable$State;I)I"⟩
def RX4 : String := "GiftTable$Quiet"
def TX4 : u_T := fun k => match k with
  | 0 => ("GiftTable$Quiet", "heap", "[I", true)
  | 1 => ("GiftTable$Quiet", "candidates", "[I", true)
  | 2 => ("GiftTable$Quiet", "candidateCount", "I", false)
  | 3 => ("GiftTable$Quiet", "bounds", "[I", true)
  | 4 => ("GiftTable$Quiet", "bestBounds", "[I", true)
  | 5 => ("GiftTable$Quiet", "ruleValue", "I", false)
  | 6 => ("GiftTable$Quiet", "ruled", "I", false)
  | 7 => ("GiftTable$Quiet", "restBrings", "[I", true)
  | 8 => ("GiftTable$Quiet", "restMoney", "I", false)
  | 9 => ("GiftTable$Quiet", "restValue", "I", false)
  | 10 => ("GiftTable$Quiet", "restDoubled", "I", false)
  | 11 => ("GiftTable$Quiet", "restMissing", "I", false)
  | 12 => ("GiftTable$Quiet", "rounds", "I", false)
  | _ => ("GiftTable$Quiet", "settled", "I", false)
def tyX4 : Nat → FieldType := fun k => match k with
  | 0 => .array .int
  | 1 => .array .int
  | 2 => .int
  | 3 => .array .int
  | 4 => .array .int
  | 5 => .int
  | 6 => .int
  | 7 => .array .int
  | 8 => .int
  | 9 => .int
  | 10 => .int
  | 11 => .int
  | 12 => .int
  | _ => .int
abbrev wsX40 : List Cond := u_ws RX4 TX4 14
theorem nmX4 : ∀ a, a < 14 → ∀ b, b < 14 → a ≠ b → (TX4 a).2.1 ≠ (TX4 b).2.1 := by decide +kernel
theorem tyX4_ok : ∀ k, k < 14 → parseFieldDescriptor (TX4 k).2.2.1 = some (tyX4 k) := by decide +kernel
abbrev cX4_init : ByteArray := prog_6_method_1_code
def yX4_init : MethodName := ⟨RX4, "<init>", "()V"⟩
abbrev cX4_choiceBy : ByteArray := prog_6_method_2_code
def yX4_choiceBy : MethodName := ⟨RX4, "choiceBy", "(LGiftTable$Party;I[II)I"⟩
abbrev cX4_valueBy : ByteArray := prog_6_method_3_code
def yX4_valueBy : MethodName := ⟨RX4, "valueBy", "(LGiftTable$State;LGiftTable$Party;LGiftTable$Heaps;[I)I"⟩
abbrev cX4_findRule : ByteArray := prog_6_method_4_code
def yX4_findRule : MethodName := ⟨RX4, "findRule", "(LGiftTable$Party;LGiftTable$Heaps;I)V"⟩
abbrev cX4_gatherCandidates : ByteArray := prog_6_method_5_code
def yX4_gatherCandidates : MethodName := ⟨RX4, "gatherCandidates", "(LGiftTable$Party;)V"⟩
abbrev cX4_tryBounds : ByteArray := prog_6_method_6_code
def yX4_tryBounds : MethodName := ⟨RX4, "tryBounds", "(LGiftTable$Party;LGiftTable$Heaps;II)V"⟩
abbrev cX4_tryRule : ByteArray := prog_6_method_7_code
def yX4_tryRule : MethodName := ⟨RX4, "tryRule", "(LGiftTable$Party;LGiftTable$Heaps;)V"⟩
abbrev cX4_settle : ByteArray := prog_6_method_8_code
def yX4_settle : MethodName := ⟨RX4, "settle", "(LGiftTable$State;LGiftTable$Party;LGiftTable$Heaps;I)V"⟩
abbrev cX4_lay : ByteArray := prog_6_method_9_code
def yX4_lay : MethodName := ⟨RX4, "lay", "(LGiftTable$Party;III)V"⟩
abbrev cX4_valueNow : ByteArray := prog_6_method_10_code
def yX4_valueNow : MethodName := ⟨RX4, "valueNow", "(LGiftTable$State;LGiftTable$Heaps;)I"⟩
abbrev cX4_goRound : ByteArray := prog_6_method_11_code
def yX4_goRound : MethodName := ⟨RX4, "goRound", "(LGiftTable$State;LGiftTable$Party;LGiftTable$Heaps;)Z"⟩
def RX5 : String := "GiftTable$Reader"
def TX5 : u_T := fun k => match k with
  | 0 => ("GiftTable$Reader", "tokens", "[I", true)
  | 1 => ("GiftTable$Reader", "places", "[I", true)
  | 2 => ("GiftTable$Reader", "code", "[I", true)
  | 3 => ("GiftTable$Reader", "clauses", "[I", true)
  | 4 => ("GiftTable$Reader", "tokenCount", "I", false)
  | 5 => ("GiftTable$Reader", "at", "I", false)
  | 6 => ("GiftTable$Reader", "size", "I", false)
  | 7 => ("GiftTable$Reader", "clauseCount", "I", false)
  | 8 => ("GiftTable$Reader", "parts", "I", false)
  | _ => ("GiftTable$Reader", "faultAt", "I", false)
def tyX5 : Nat → FieldType := fun k => match k with
  | 0 => .array .int
  | 1 => .array .int
  | 2 => .array .int
  | 3 => .array .int
  | 4 => .int
  | 5 => .int
  | 6 => .int
  | 7 => .int
  | 8 => .int
  | _ => .int
abbrev wsX50 : List Cond := u_ws RX5 TX5 10
theorem nmX5 : ∀ a, a < 10 → ∀ b, b < 10 → a ≠ b → (TX5 a).2.1 ≠ (TX5 b).2.1 := by decide +kernel
theorem tyX5_ok : ∀ k, k < 10 → parseFieldDescriptor (TX5 k).2.2.1 = some (tyX5 k) := by decide +kernel
abbrev cX5_init : ByteArray := prog_7_method_1_code
def yX5_init : MethodName := ⟨RX5, "<init>", "()V"⟩
abbrev cX5_read : ByteArray := prog_7_method_2_code
def yX5_read : MethodName := ⟨RX5, "read", "([II)LGiftTable$Text;"⟩
abbrev cX5_split : ByteArray := prog_7_method_3_code
def yX5_split : MethodName := ⟨RX5, "split", "([II)V"⟩
abbrev cX5_addToken : ByteArray := prog_7_method_4_code
def yX5_addToken : MethodName := ⟨RX5, "addToken", "(II)V"⟩
abbrev cX5_rowKind : ByteArray := prog_7_method_5_code
def yX5_rowKind : MethodName := ⟨RX5, "rowKind", "(I)I"⟩
abbrev cX5_tokenOf : ByteArray := prog_7_method_6_code
def yX5_tokenOf : MethodName := ⟨RX5, "tokenOf", "([III)I"⟩
abbrev cX5_wordOf : ByteArray := prog_7_method_7_code
def yX5_wordOf : MethodName := ⟨RX5, "wordOf", "([III)I"⟩
abbrev cX5_numberOf : ByteArray := prog_7_method_8_code
def yX5_numberOf : MethodName := ⟨RX5, "numberOf", "([III)I"⟩
abbrev cX5_takes : ByteArray := prog_7_method_9_code
def yX5_takes : MethodName := ⟨RX5, "takes", "(I)Z"⟩
abbrev cX5_fail : ByteArray := prog_7_method_10_code
def yX5_fail : MethodName := ⟨RX5, "fail", "()V"⟩
abbrev cX5_write : ByteArray := prog_7_method_11_code
def yX5_write : MethodName := ⟨RX5, "write", "(II)V"⟩
abbrev cX5_readClause : ByteArray := prog_7_method_12_code
def yX5_readClause : MethodName := ⟨RX5, "readClause", "()V"⟩
abbrev cX5_readTest : ByteArray := prog_7_method_13_code
def yX5_readTest : MethodName := ⟨RX5, "readTest", "(I)V"⟩
abbrev cX5_readBoth : ByteArray := prog_7_method_14_code
def yX5_readBoth : MethodName := ⟨RX5, "readBoth", "(I)V"⟩
abbrev cX5_fill : ByteArray := prog_7_method_15_code
def yX5_fill : MethodName := ⟨RX5, "fill", "(II)V"⟩
abbrev cX5_readPlain : ByteArray := prog_7_method_16_code
def yX5_readPlain : MethodName := ⟨RX5, "readPlain", "(I)V"⟩
abbrev cX5_readComparison : ByteArray := prog_7_method_17_code
def yX5_readComparison : MethodName := ⟨RX5, "readComparison", "(I)V"⟩
abbrev cX5_opens : ByteArray := prog_7_method_18_code
def yX5_opens : MethodName := ⟨RX5, "opens", "(IC)Z"⟩
abbrev cX5_closes : ByteArray := prog_7_method_19_code
def yX5_closes : MethodName := ⟨RX5, "closes", "(C)V"⟩
abbrev cX5_readSum : ByteArray := prog_7_method_20_code
def yX5_readSum : MethodName := ⟨RX5, "readSum", "(I)V"⟩
abbrev cX5_readTerm : ByteArray := prog_7_method_21_code
def yX5_readTerm : MethodName := ⟨RX5, "readTerm", "(I)V"⟩
abbrev cX5_readPart : ByteArray := prog_7_method_22_code
def yX5_readPart : MethodName := ⟨RX5, "readPart", "(I)V"⟩
def RX6 : String := "GiftTable$State"
def TX6 : u_T := fun k => match k with
  | 0 => ("GiftTable$State", "things", "I", false)
  | 1 => ("GiftTable$State", "thingFacts", "[I", true)
  | 2 => ("GiftTable$State", "insteadBy", "[I", true)
  | 3 => ("GiftTable$State", "insteadHundredths", "[I", true)
  | 4 => ("GiftTable$State", "bonuses", "[I", true)
  | 5 => ("GiftTable$State", "guests", "I", false)
  | 6 => ("GiftTable$State", "guestFacts", "[I", true)
  | 7 => ("GiftTable$State", "alwaysBrings", "[I", true)
  | 8 => ("GiftTable$State", "seesList", "[I", true)
  | 9 => ("GiftTable$State", "with", "[I", true)
  | 10 => ("GiftTable$State", "coinHundredths", "I", false)
  | 11 => ("GiftTable$State", "texts", "I", false)
  | 12 => ("GiftTable$State", "written", "[LGiftTable$Text;", true)
  | _ => ("GiftTable$State", "ways", "[I", true)
def tyX6 : Nat → FieldType := fun k => match k with
  | 0 => .int
  | 1 => .array .int
  | 2 => .array .int
  | 3 => .array .int
  | 4 => .array .int
  | 5 => .int
  | 6 => .array .int
  | 7 => .array .int
  | 8 => .array .int
  | 9 => .array .int
  | 10 => .int
  | 11 => .int
  | 12 => .array (.object "GiftTable$Text")
  | _ => .array .int
abbrev wsX60 : List Cond := u_ws RX6 TX6 14
theorem nmX6 : ∀ a, a < 14 → ∀ b, b < 14 → a ≠ b → (TX6 a).2.1 ≠ (TX6 b).2.1 := by decide +kernel
theorem tyX6_ok : ∀ k, k < 14 → parseFieldDescriptor (TX6 k).2.2.1 = some (tyX6 k) := by decide +kernel
abbrev cX6_init : ByteArray := prog_8_method_1_code
def yX6_init : MethodName := ⟨RX6, "<init>", "()V"⟩
abbrev cX6_copyFrom : ByteArray := prog_8_method_2_code
def yX6_copyFrom : MethodName := ⟨RX6, "copyFrom", "(LGiftTable$State;)V"⟩
abbrev cX6_hasThing : ByteArray := prog_8_method_3_code
def yX6_hasThing : MethodName := ⟨RX6, "hasThing", "(I)Z"⟩
abbrev cX6_hasGuest : ByteArray := prog_8_method_4_code
def yX6_hasGuest : MethodName := ⟨RX6, "hasGuest", "(I)Z"⟩
abbrev cX6_fact : ByteArray := prog_8_method_5_code
def yX6_fact : MethodName := ⟨RX6, "fact", "(II)I"⟩
abbrev cX6_addGuest : ByteArray := prog_8_method_6_code
def yX6_addGuest : MethodName := ⟨RX6, "addGuest", "(IIII)I"⟩
abbrev cX6_part : ByteArray := prog_8_method_7_code
def yX6_part : MethodName := ⟨RX6, "part", "(I)V"⟩
abbrev cX6_isWithThird : ByteArray := prog_8_method_8_code
def yX6_isWithThird : MethodName := ⟨RX6, "isWithThird", "(II)Z"⟩
abbrev cX6_isGiver : ByteArray := prog_8_method_9_code
def yX6_isGiver : MethodName := ⟨RX6, "isGiver", "(I)Z"⟩
abbrev cX6_countGivers : ByteArray := prog_8_method_10_code
def yX6_countGivers : MethodName := ⟨RX6, "countGivers", "()I"⟩
abbrev cX6_purseOf : ByteArray := prog_8_method_11_code
def yX6_purseOf : MethodName := ⟨RX6, "purseOf", "(I)I"⟩
abbrev cX6_wayOf : ByteArray := prog_8_method_12_code
def yX6_wayOf : MethodName := ⟨RX6, "wayOf", "(I)LGiftTable$Text;"⟩
def RX7 : String := "GiftTable$Text"
def TX7 : u_T := fun k => match k with
  | 0 => ("GiftTable$Text", "code", "[I", true)
  | _ => ("GiftTable$Text", "clauses", "[I", true)
def tyX7 : Nat → FieldType := fun k => match k with
  | 0 => .array .int
  | _ => .array .int
abbrev wsX70 : List Cond := u_ws RX7 TX7 2
theorem nmX7 : ∀ a, a < 2 → ∀ b, b < 2 → a ≠ b → (TX7 a).2.1 ≠ (TX7 b).2.1 := by decide +kernel
theorem tyX7_ok : ∀ k, k < 2 → parseFieldDescriptor (TX7 k).2.2.1 = some (tyX7 k) := by decide +kernel
abbrev cX7_init : ByteArray := prog_9_method_1_code
def yX7_init : MethodName := ⟨RX7, "<init>", "([I[I)V"⟩
abbrev cX7_tells : ByteArray := prog_9_method_2_code
def yX7_tells : MethodName := ⟨RX7, "tells", "(I[I[J)I"⟩
abbrev cX7_reckon : ByteArray := prog_9_method_3_code
def yX7_reckon : MethodName := ⟨RX7, "reckon", "(II[I[J)J"⟩
abbrev cX7_join : ByteArray := prog_9_method_4_code
def yX7_join : MethodName := ⟨RX7, "join", "(IJJ)J"⟩
def RX8 : String := "GiftTable$Together"
def TX8 : u_T := fun k => match k with
  | 0 => ("GiftTable$Together", "best", "[I", true)
  | 1 => ("GiftTable$Together", "start", "[I", true)
  | 2 => ("GiftTable$Together", "ways", "[I", true)
  | 3 => ("GiftTable$Together", "trial", "[I", true)
  | 4 => ("GiftTable$Together", "firsts", "[I", true)
  | 5 => ("GiftTable$Together", "doubled", "I", false)
  | 6 => ("GiftTable$Together", "missing", "I", false)
  | _ => ("GiftTable$Together", "worked", "I", false)
def tyX8 : Nat → FieldType := fun k => match k with
  | 0 => .array .int
  | 1 => .array .int
  | 2 => .array .int
  | 3 => .array .int
  | 4 => .array .int
  | 5 => .int
  | 6 => .int
  | _ => .int
abbrev wsX80 : List Cond := u_ws RX8 TX8 8
theorem nmX8 : ∀ a, a < 8 → ∀ b, b < 8 → a ≠ b → (TX8 a).2.1 ≠ (TX8 b).2.1 := by decide +kernel
theorem tyX8_ok : ∀ k, k < 8 → parseFieldDescriptor (TX8 k).2.2.1 = some (tyX8 k) := by decide +kernel
abbrev cX8_init : ByteArray := prog_10_method_1_code
def yX8_init : MethodName := ⟨RX8, "<init>", "()V"⟩
abbrev cX8_work : ByteArray := prog_10_method_2_code
def yX8_work : MethodName := ⟨RX8, "work", "(LGiftTable$Party;LGiftTable$Heaps;I)V"⟩
abbrev cX8_greatest : ByteArray := prog_10_method_3_code
def yX8_greatest : MethodName := ⟨RX8, "greatest", "()I"⟩
abbrev cX8_countedWays : ByteArray := prog_10_method_4_code
def yX8_countedWays : MethodName := ⟨RX8, "countedWays", "()I"⟩
abbrev cX8_valueAfter : ByteArray := prog_10_method_5_code
def yX8_valueAfter : MethodName := ⟨RX8, "valueAfter", "(LGiftTable$Party;LGiftTable$Heaps;III)I"⟩
abbrev cX8_workLayer : ByteArray := prog_10_method_6_code
def yX8_workLayer : MethodName := ⟨RX8, "workLayer", "(LGiftTable$Party;LGiftTable$Heaps;I)V"⟩
abbrev cX8_walkFirst : ByteArray := prog_10_method_7_code
def yX8_walkFirst : MethodName := ⟨RX8, "walkFirst", "(LGiftTable$Party;LGiftTable$Heaps;)V"⟩
abbrev cX8_lessWith : ByteArray := prog_10_method_8_code
def yX8_lessWith : MethodName := ⟨RX8, "lessWith", "(LGiftTable$Party;LGiftTable$Heaps;II)I"⟩
abbrev cX8_tryLayer : ByteArray := prog_10_method_9_code
def yX8_tryLayer : MethodName := ⟨RX8, "tryLayer", "(LGiftTable$Party;LGiftTable$Heaps;I)V"⟩
def RX9 : String := "GiftTable$Wedding"
def TX9 : u_T := fun k => match k with
  | 0 => ("GiftTable$Wedding", "held", "Z", false)
  | 1 => ("GiftTable$Wedding", "value", "I", false)
  | 2 => ("GiftTable$Wedding", "drawn", "I", false)
  | 3 => ("GiftTable$Wedding", "heap", "[I", true)
  | 4 => ("GiftTable$Wedding", "broughtBy", "[I", true)
  | _ => ("GiftTable$Wedding", "struck", "[I", true)
def tyX9 : Nat → FieldType := fun k => match k with
  | 0 => .boolean
  | 1 => .int
  | 2 => .int
  | 3 => .array .int
  | 4 => .array .int
  | _ => .array .int
abbrev wsX90 : List Cond := u_ws RX9 TX9 6
theorem nmX9 : ∀ a, a < 6 → ∀ b, b < 6 → a ≠ b → (TX9 a).2.1 ≠ (TX9 b).2.1 := by decide +kernel
theorem tyX9_ok : ∀ k, k < 6 → parseFieldDescriptor (TX9 k).2.2.1 = some (tyX9 k) := by decide +kernel
abbrev cX9_init : ByteArray := prog_11_method_1_code
def yX9_init : MethodName := ⟨RX9, "<init>", "()V"⟩
abbrev cX9_hold : ByteArray := prog_11_method_2_code
def yX9_hold : MethodName := ⟨RX9, "hold", "(LGiftTable$State;LGiftTable$Party;LGiftTable$Heaps;I)V"⟩
abbrev cX9_choose : ByteArray := prog_11_method_3_code
def yX9_choose : MethodName := ⟨RX9, "choose", "(LGiftTable$State;LGiftTable$Party;LGiftTable$Heaps;IZ)I"⟩
abbrev cX9_bestByList : ByteArray := prog_11_method_4_code
def yX9_bestByList : MethodName := ⟨RX9, "bestByList", "(LGiftTable$State;LGiftTable$Party;LGiftTable$Heaps;I)I"⟩
abbrev cX9_drawnChoice : ByteArray := prog_11_method_5_code
def yX9_drawnChoice : MethodName := ⟨RX9, "drawnChoice", "(LGiftTable$Party;I)I"⟩
def RX10 : String := "GiftTable"
def TX10 : u_T := fun k => match k with
  | 0 => ("GiftTable", "state", "LGiftTable$State;", true)
  | 1 => ("GiftTable", "images", "[LGiftTable$State;", true)
  | 2 => ("GiftTable", "imageKept", "[Z", true)
  | 3 => ("GiftTable", "tape", "[I", true)
  | 4 => ("GiftTable", "tapeLength", "I", false)
  | 5 => ("GiftTable", "faultAt", "I", false)
  | 6 => ("GiftTable", "lateGuests", "I", false)
  | 7 => ("GiftTable", "refusedBy", "I", false)
  | 8 => ("GiftTable", "refusals", "[I", true)
  | 9 => ("GiftTable", "version", "I", false)
  | 10 => ("GiftTable", "told", "[I", true)
  | 11 => ("GiftTable", "reader", "LGiftTable$Reader;", true)
  | 12 => ("GiftTable", "heaps", "LGiftTable$Heaps;", true)
  | 13 => ("GiftTable", "party", "LGiftTable$Party;", true)
  | 14 => ("GiftTable", "meanHeap", "LGiftTable$Mean;", true)
  | 15 => ("GiftTable", "speaking", "LGiftTable$Together;", true)
  | 16 => ("GiftTable", "blindWay", "LGiftTable$Blind;", true)
  | 17 => ("GiftTable", "quiet", "LGiftTable$Quiet;", true)
  | 18 => ("GiftTable", "latest", "LGiftTable$Wedding;", true)
  | _ => ("GiftTable", "passing", "LGiftTable$Wedding;", true)
def tyX10 : Nat → FieldType := fun k => match k with
  | 0 => .object "GiftTable$State"
  | 1 => .array (.object "GiftTable$State")
  | 2 => .array .boolean
  | 3 => .array .int
  | 4 => .int
  | 5 => .int
  | 6 => .int
  | 7 => .int
  | 8 => .array .int
  | 9 => .int
  | 10 => .array .int
  | 11 => .object "GiftTable$Reader"
  | 12 => .object "GiftTable$Heaps"
  | 13 => .object "GiftTable$Party"
  | 14 => .object "GiftTable$Mean"
  | 15 => .object "GiftTable$Together"
  | 16 => .object "GiftTable$Blind"
  | 17 => .object "GiftTable$Quiet"
  | 18 => .object "GiftTable$Wedding"
  | _ => .object "GiftTable$Wedding"
abbrev wsX100 : List Cond := u_ws RX10 TX10 20
theorem nmX10 : ∀ a, a < 20 → ∀ b, b < 20 → a ≠ b → (TX10 a).2.1 ≠ (TX10 b).2.1 := by decide +kernel
theorem tyX10_ok : ∀ k, k < 20 → parseFieldDescriptor (TX10 k).2.2.1 = some (tyX10 k) := by decide +kernel
abbrev cX10_init : ByteArray := prog_1_method_1_code
def yX10_init : MethodName := ⟨RX10, "<init>", "()V"⟩
abbrev cX10_thing : ByteArray := prog_1_method_2_code
def yX10_thing : MethodName := ⟨RX10, "thing", "(IIII)I"⟩
abbrev cX10_put : ByteArray := prog_1_method_3_code
def yX10_put : MethodName := ⟨RX10, "put", "(III)I"⟩
abbrev cX10_instead : ByteArray := prog_1_method_4_code
def yX10_instead : MethodName := ⟨RX10, "instead", "(III)I"⟩
abbrev cX10_bonus : ByteArray := prog_1_method_5_code
def yX10_bonus : MethodName := ⟨RX10, "bonus", "(III)I"⟩
abbrev cX10_guest : ByteArray := prog_1_method_6_code
def yX10_guest : MethodName := ⟨RX10, "guest", "(IIII)I"⟩
abbrev cX10_always : ByteArray := prog_1_method_7_code
def yX10_always : MethodName := ⟨RX10, "always", "(II)I"⟩
abbrev cX10_sees : ByteArray := prog_1_method_8_code
def yX10_sees : MethodName := ⟨RX10, "sees", "(II)I"⟩
abbrev cX10_pair : ByteArray := prog_1_method_9_code
def yX10_pair : MethodName := ⟨RX10, "pair", "(II)I"⟩
abbrev cX10_coin : ByteArray := prog_1_method_10_code
def yX10_coin : MethodName := ⟨RX10, "coin", "(I)I"⟩
abbrev cX10_of : ByteArray := prog_1_method_11_code
def yX10_of : MethodName := ⟨RX10, "of", "(II)I"⟩
abbrev cX10_feed : ByteArray := prog_1_method_12_code
def yX10_feed : MethodName := ⟨RX10, "feed", "(IIIII)I"⟩
abbrev cX10_end : ByteArray := prog_1_method_13_code
def yX10_end : MethodName := ⟨RX10, "end", "(I)I"⟩
abbrev cX10_row : ByteArray := prog_1_method_14_code
def yX10_row : MethodName := ⟨RX10, "row", "()I"⟩
abbrev cX10_late : ByteArray := prog_1_method_15_code
def yX10_late : MethodName := ⟨RX10, "late", "()I"⟩
abbrev cX10_text : ByteArray := prog_1_method_16_code
def yX10_text : MethodName := ⟨RX10, "text", "()I"⟩
abbrev cX10_fault : ByteArray := prog_1_method_17_code
def yX10_fault : MethodName := ⟨RX10, "fault", "()I"⟩
abbrev cX10_way : ByteArray := prog_1_method_18_code
def yX10_way : MethodName := ⟨RX10, "way", "(II)I"⟩
abbrev cX10_weight : ByteArray := prog_1_method_19_code
def yX10_weight : MethodName := ⟨RX10, "weight", "(III)I"⟩
abbrev cX10_heap : ByteArray := prog_1_method_20_code
def yX10_heap : MethodName := ⟨RX10, "heap", "(IIIII)I"⟩
abbrev cX10_mean : ByteArray := prog_1_method_21_code
def yX10_mean : MethodName := ⟨RX10, "mean", "(I)I"⟩
abbrev cX10_none : ByteArray := prog_1_method_22_code
def yX10_none : MethodName := ⟨RX10, "none", "(I)I"⟩
abbrev cX10_together : ByteArray := prog_1_method_23_code
def yX10_together : MethodName := ⟨RX10, "together", "(I)I"⟩
abbrev cX10_brings : ByteArray := prog_1_method_24_code
def yX10_brings : MethodName := ⟨RX10, "brings", "(I)I"⟩
abbrev cX10_dear : ByteArray := prog_1_method_25_code
def yX10_dear : MethodName := ⟨RX10, "dear", "(II)I"⟩
abbrev cX10_loss : ByteArray := prog_1_method_26_code
def yX10_loss : MethodName := ⟨RX10, "loss", "()I"⟩
abbrev cX10_blind : ByteArray := prog_1_method_27_code
def yX10_blind : MethodName := ⟨RX10, "blind", "(II)I"⟩
abbrev cX10_rule : ByteArray := prog_1_method_28_code
def yX10_rule : MethodName := ⟨RX10, "rule", "(I)I"⟩
abbrev cX10_letters : ByteArray := prog_1_method_29_code
def yX10_letters : MethodName := ⟨RX10, "letters", "(IIII)I"⟩
abbrev cX10_rest : ByteArray := prog_1_method_30_code
def yX10_rest : MethodName := ⟨RX10, "rest", "(I)I"⟩
abbrev cX10_find : ByteArray := prog_1_method_31_code
def yX10_find : MethodName := ⟨RX10, "find", "(I)I"⟩
abbrev cX10_wed : ByteArray := prog_1_method_32_code
def yX10_wed : MethodName := ⟨RX10, "wed", "(I)I"⟩
abbrev cX10_had : ByteArray := prog_1_method_33_code
def yX10_had : MethodName := ⟨RX10, "had", "(I)I"⟩
abbrev cX10_brought : ByteArray := prog_1_method_34_code
def yX10_brought : MethodName := ⟨RX10, "brought", "(I)I"⟩
abbrev cX10_round : ByteArray := prog_1_method_35_code
def yX10_round : MethodName := ⟨RX10, "round", "(II)I"⟩
abbrev cX10_change : ByteArray := prog_1_method_36_code
def yX10_change : MethodName := ⟨RX10, "change", "(IIIIII)I"⟩
abbrev cX10_sure : ByteArray := prog_1_method_37_code
def yX10_sure : MethodName := ⟨RX10, "sure", "(I)I"⟩
abbrev cX10_image : ByteArray := prog_1_method_38_code
def yX10_image : MethodName := ⟨RX10, "image", "(I)I"⟩
abbrev cX10_back : ByteArray := prog_1_method_39_code
def yX10_back : MethodName := ⟨RX10, "back", "(I)I"⟩
abbrev cX10_count : ByteArray := prog_1_method_40_code
def yX10_count : MethodName := ⟨RX10, "count", "(I)I"⟩
abbrev cX10_status : ByteArray := prog_1_method_41_code
def yX10_status : MethodName := ⟨RX10, "status", "()I"⟩
abbrev cX10_within : ByteArray := prog_1_method_42_code
def yX10_within : MethodName := ⟨RX10, "within", "(III)Z"⟩
abbrev cX10_thingFactCanBe : ByteArray := prog_1_method_43_code
def yX10_thingFactCanBe : MethodName := ⟨RX10, "thingFactCanBe", "(II)Z"⟩
abbrev cX10_guestCanBe : ByteArray := prog_1_method_44_code
def yX10_guestCanBe : MethodName := ⟨RX10, "guestCanBe", "(IIII)Z"⟩
abbrev cX10_refuse : ByteArray := prog_1_method_45_code
def yX10_refuse : MethodName := ⟨RX10, "refuse", "(I)I"⟩
abbrev cX10_accept : ByteArray := prog_1_method_46_code
def yX10_accept : MethodName := ⟨RX10, "accept", "(I)I"⟩
abbrev cX10_altered : ByteArray := prog_1_method_47_code
def yX10_altered : MethodName := ⟨RX10, "altered", "(I)I"⟩
abbrev cX10_feedFour : ByteArray := prog_1_method_48_code
def yX10_feedFour : MethodName := ⟨RX10, "feedFour", "(I)V"⟩
abbrev cX10_giverOf : ByteArray := prog_1_method_49_code
def yX10_giverOf : MethodName := ⟨RX10, "giverOf", "(I)I"⟩
abbrev cX10_isChoice : ByteArray := prog_1_method_50_code
def yX10_isChoice : MethodName := ⟨RX10, "isChoice", "(I)Z"⟩
abbrev cX10_fillTold : ByteArray := prog_1_method_51_code
def yX10_fillTold : MethodName := ⟨RX10, "fillTold", "(IIII)V"⟩
abbrev cX10_tellHeap : ByteArray := prog_1_method_52_code
def yX10_tellHeap : MethodName := ⟨RX10, "tellHeap", "(IIII)Z"⟩
abbrev cX10_workMean : ByteArray := prog_1_method_53_code
def yX10_workMean : MethodName := ⟨RX10, "workMean", "()V"⟩
abbrev cX10_speakOut : ByteArray := prog_1_method_54_code
def yX10_speakOut : MethodName := ⟨RX10, "speakOut", "()V"⟩
abbrev cX10_settle : ByteArray := prog_1_method_55_code
def yX10_settle : MethodName := ⟨RX10, "settle", "()V"⟩
def RX11 : String := "GiftTableModel"
def TX11 : u_T := fun k => match k with
  | 0 => ("GiftTableModel", "thrown", "I", false)
  | 1 => ("GiftTableModel", "status", "I", false)
  | 2 => ("GiftTableModel", "refusals", "[I", true)
  | 3 => ("GiftTableModel", "row", "[I", true)
  | 4 => ("GiftTableModel", "images", "[I", true)
  | 5 => ("GiftTableModel", "isKept", "[Z", true)
  | 6 => ("GiftTableModel", "late", "I", false)
  | 7 => ("GiftTableModel", "tape", "[I", true)
  | 8 => ("GiftTableModel", "taped", "I", false)
  | 9 => ("GiftTableModel", "from", "I", false)
  | 10 => ("GiftTableModel", "to", "I", false)
  | 11 => ("GiftTableModel", "sort", "I", false)
  | 12 => ("GiftTableModel", "worth", "J", false)
  | 13 => ("GiftTableModel", "fault", "I", false)
  | 14 => ("GiftTableModel", "bad", "Z", false)
  | 15 => ("GiftTableModel", "nClauses", "I", false)
  | 16 => ("GiftTableModel", "nClause", "[I", true)
  | 17 => ("GiftTableModel", "nCode", "I", false)
  | 18 => ("GiftTableModel", "nOp", "[I", true)
  | 19 => ("GiftTableModel", "nArg", "[I", true)
  | 20 => ("GiftTableModel", "nLeaves", "I", false)
  | 21 => ("GiftTableModel", "pile", "[I", true)
  | 22 => ("GiftTableModel", "pileAt", "[I", true)
  | 23 => ("GiftTableModel", "piled", "I", false)
  | 24 => ("GiftTableModel", "opened", "I", false)
  | 25 => ("GiftTableModel", "words", "[J", true)
  | 26 => ("GiftTableModel", "law", "I", false)
  | 27 => ("GiftTableModel", "set", "[J", true)
  | 28 => ("GiftTableModel", "rest", "[J", true)
  | 29 => ("GiftTableModel", "broken", "Z", false)
  | 30 => ("GiftTableModel", "value", "J", false)
  | 31 => ("GiftTableModel", "sum", "J", false)
  | 32 => ("GiftTableModel", "weights", "[I", true)
  | 33 => ("GiftTableModel", "heaps", "[I", true)
  | 34 => ("GiftTableModel", "numbers", "[I", true)
  | 35 => ("GiftTableModel", "worths", "[I", true)
  | 36 => ("GiftTableModel", "doubled", "[I", true)
  | 37 => ("GiftTableModel", "missing", "[I", true)
  | 38 => ("GiftTableModel", "spare", "[I", true)
  | 39 => ("GiftTableModel", "lacks", "[I", true)
  | 40 => ("GiftTableModel", "now", "[J", true)
  | 41 => ("GiftTableModel", "then", "[J", true)
  | 42 => ("GiftTableModel", "whole", "[J", true)
  | 43 => ("GiftTableModel", "part", "[J", true)
  | 44 => ("GiftTableModel", "tried", "[J", true)
  | 45 => ("GiftTableModel", "money", "[I", true)
  | 46 => ("GiftTableModel", "ways", "[I", true)
  | 47 => ("GiftTableModel", "waysBest", "I", false)
  | 48 => ("GiftTableModel", "took", "[I", true)
  | 49 => ("GiftTableModel", "firstHeap", "I", false)
  | 50 => ("GiftTableModel", "tenths", "[I", true)
  | 51 => ("GiftTableModel", "bestTenths", "[I", true)
  | 52 => ("GiftTableModel", "powers", "[J", true)
  | 53 => ("GiftTableModel", "shares", "[J", true)
  | 54 => ("GiftTableModel", "blindBest", "J", false)
  | 55 => ("GiftTableModel", "bounds", "[I", true)
  | 56 => ("GiftTableModel", "bestBounds", "[I", true)
  | 57 => ("GiftTableModel", "rests", "[I", true)
  | 58 => ("GiftTableModel", "restHeap", "I", false)
  | 59 => ("GiftTableModel", "restMoney", "I", false)
  | 60 => ("GiftTableModel", "rounds", "I", false)
  | 61 => ("GiftTableModel", "state", "J", false)
  | 62 => ("GiftTableModel", "brought", "[I", true)
  | 63 => ("GiftTableModel", "wedGuests", "I", false)
  | 64 => ("GiftTableModel", "wedHeap", "I", false)
  | 65 => ("GiftTableModel", "wedMoney", "I", false)
  | 66 => ("GiftTableModel", "choices", "[I", true)
  | 67 => ("GiftTableModel", "drawnHeap", "I", false)
  | _ => ("GiftTableModel", "drawnMoney", "I", false)
def tyX11 : Nat → FieldType := fun k => match k with
  | 0 => .int
  | 1 => .int
  | 2 => .array .int
  | 3 => .array .int
  | 4 => .array .int
  | 5 => .array .boolean
  | 6 => .int
  | 7 => .array .int
  | 8 => .int
  | 9 => .int
  | 10 => .int
  | 11 => .int
  | 12 => .long
  | 13 => .int
  | 14 => .boolean
  | 15 => .int
  | 16 => .array .int
  | 17 => .int
  | 18 => .array .int
  | 19 => .array .int
  | 20 => .int
  | 21 => .array .int
  | 22 => .array .int
  | 23 => .int
  | 24 => .int
  | 25 => .array .long
  | 26 => .int
  | 27 => .array .long
  | 28 => .array .long
  | 29 => .boolean
  | 30 => .long
  | 31 => .long
  | 32 => .array .int
  | 33 => .array .int
  | 34 => .array .int
  | 35 => .array .int
  | 36 => .array .int
  | 37 => .array .int
  | 38 => .array .int
  | 39 => .array .int
  | 40 => .array .long
  | 41 => .array .long
  | 42 => .array .long
  | 43 => .array .long
  | 44 => .array .long
  | 45 => .array .int
  | 46 => .array .int
  | 47 => .int
  | 48 => .array .int
  | 49 => .int
  | 50 => .array .int
  | 51 => .array .int
  | 52 => .array .long
  | 53 => .array .long
  | 54 => .long
  | 55 => .array .int
  | 56 => .array .int
  | 57 => .array .int
  | 58 => .int
  | 59 => .int
  | 60 => .int
  | 61 => .long
  | 62 => .array .int
  | 63 => .int
  | 64 => .int
  | 65 => .int
  | 66 => .array .int
  | 67 => .int
  | _ => .int
abbrev wsX110 : List Cond := u_ws RX11 TX11 69
theorem nmX11 : ∀ a, a < 69 → ∀ b, b < 69 → a ≠ b → (TX11 a).2.1 ≠ (TX11 b).2.1 := by decide +kernel
theorem tyX11_ok : ∀ k, k < 69 → parseFieldDescriptor (TX11 k).2.2.1 = some (tyX11 k) := by decide +kernel
abbrev cX11_init : ByteArray := prog_13_method_1_code
def yX11_init : MethodName := ⟨RX11, "<init>", "()V"⟩
abbrev cX11_in : ByteArray := prog_13_method_3_code
def yX11_in : MethodName := ⟨RX11, "in", "(JJJ)Z"⟩
abbrev cX11_tell : ByteArray := prog_13_method_4_code
def yX11_tell : MethodName := ⟨RX11, "tell", "(I)I"⟩
abbrev cX11_was : ByteArray := prog_13_method_5_code
def yX11_was : MethodName := ⟨RX11, "was", "(I)I"⟩
abbrev cX11_change : ByteArray := prog_13_method_6_code
def yX11_change : MethodName := ⟨RX11, "change", "(II)I"⟩
abbrev cX11_image : ByteArray := prog_13_method_7_code
def yX11_image : MethodName := ⟨RX11, "image", "(I)I"⟩
abbrev cX11_back : ByteArray := prog_13_method_8_code
def yX11_back : MethodName := ⟨RX11, "back", "(I)I"⟩
abbrev cX11_isThing : ByteArray := prog_13_method_9_code
def yX11_isThing : MethodName := ⟨RX11, "isThing", "(I)Z"⟩
abbrev cX11_isGuest : ByteArray := prog_13_method_10_code
def yX11_isGuest : MethodName := ⟨RX11, "isGuest", "(I)Z"⟩
abbrev cX11_isText : ByteArray := prog_13_method_11_code
def yX11_isText : MethodName := ⟨RX11, "isText", "(I)Z"⟩
abbrev cX11_fits : ByteArray := prog_13_method_12_code
def yX11_fits : MethodName := ⟨RX11, "fits", "(II)Z"⟩
abbrev cX11_ofThing : ByteArray := prog_13_method_13_code
def yX11_ofThing : MethodName := ⟨RX11, "ofThing", "(II)I"⟩
abbrev cX11_ofGuest : ByteArray := prog_13_method_14_code
def yX11_ofGuest : MethodName := ⟨RX11, "ofGuest", "(II)I"⟩
abbrev cX11_thing : ByteArray := prog_13_method_15_code
def yX11_thing : MethodName := ⟨RX11, "thing", "(IIII)I"⟩
abbrev cX11_put : ByteArray := prog_13_method_16_code
def yX11_put : MethodName := ⟨RX11, "put", "(III)I"⟩
abbrev cX11_instead : ByteArray := prog_13_method_17_code
def yX11_instead : MethodName := ⟨RX11, "instead", "(III)I"⟩
abbrev cX11_bonus : ByteArray := prog_13_method_18_code
def yX11_bonus : MethodName := ⟨RX11, "bonus", "(III)I"⟩
abbrev cX11_isNew : ByteArray := prog_13_method_19_code
def yX11_isNew : MethodName := ⟨RX11, "isNew", "(IIII)Z"⟩
abbrev cX11_add : ByteArray := prog_13_method_20_code
def yX11_add : MethodName := ⟨RX11, "add", "(IIII)V"⟩
abbrev cX11_guest : ByteArray := prog_13_method_21_code
def yX11_guest : MethodName := ⟨RX11, "guest", "(IIII)I"⟩
abbrev cX11_always : ByteArray := prog_13_method_22_code
def yX11_always : MethodName := ⟨RX11, "always", "(II)I"⟩
abbrev cX11_sees : ByteArray := prog_13_method_23_code
def yX11_sees : MethodName := ⟨RX11, "sees", "(II)I"⟩
abbrev cX11_pair : ByteArray := prog_13_method_24_code
def yX11_pair : MethodName := ⟨RX11, "pair", "(II)I"⟩
abbrev cX11_coin : ByteArray := prog_13_method_25_code
def yX11_coin : MethodName := ⟨RX11, "coin", "(I)I"⟩
abbrev cX11_isGiver : ByteArray := prog_13_method_26_code
def yX11_isGiver : MethodName := ⟨RX11, "isGiver", "(I)Z"⟩
abbrev cX11_pays : ByteArray := prog_13_method_27_code
def yX11_pays : MethodName := ⟨RX11, "pays", "(I)I"⟩
abbrev cX11_givers : ByteArray := prog_13_method_28_code
def yX11_givers : MethodName := ⟨RX11, "givers", "()I"⟩
abbrev cX11_of : ByteArray := prog_13_method_29_code
def yX11_of : MethodName := ⟨RX11, "of", "(II)I"⟩
abbrev cX11_row : ByteArray := prog_13_method_30_code
def yX11_row : MethodName := ⟨RX11, "row", "()I"⟩
abbrev cX11_late : ByteArray := prog_13_method_31_code
def yX11_late : MethodName := ⟨RX11, "late", "()I"⟩
abbrev cX11_four : ByteArray := prog_13_method_32_code
def yX11_four : MethodName := ⟨RX11, "four", "(I)V"⟩
abbrev cX11_feed : ByteArray := prog_13_method_33_code
def yX11_feed : MethodName := ⟨RX11, "feed", "(IIIII)I"⟩
abbrev cX11_end : ByteArray := prog_13_method_34_code
def yX11_end : MethodName := ⟨RX11, "end", "(I)I"⟩
abbrev cX11_isSmall : ByteArray := prog_13_method_35_code
def yX11_isSmall : MethodName := ⟨RX11, "isSmall", "(I)Z"⟩
abbrev cX11_isDigit : ByteArray := prog_13_method_36_code
def yX11_isDigit : MethodName := ⟨RX11, "isDigit", "(I)Z"⟩
abbrev cX11_begin : ByteArray := prog_13_method_37_code
def yX11_begin : MethodName := ⟨RX11, "begin", "()V"⟩
abbrev cX11_next : ByteArray := prog_13_method_38_code
def yX11_next : MethodName := ⟨RX11, "next", "()V"⟩
abbrev cX11_isWord : ByteArray := prog_13_method_39_code
def yX11_isWord : MethodName := ⟨RX11, "isWord", "(J)Z"⟩
abbrev cX11_isSign : ByteArray := prog_13_method_40_code
def yX11_isSign : MethodName := ⟨RX11, "isSign", "(I)Z"⟩
abbrev cX11_must : ByteArray := prog_13_method_41_code
def yX11_must : MethodName := ⟨RX11, "must", "(Z)V"⟩
abbrev cX11_fault : ByteArray := prog_13_method_43_code
def yX11_fault : MethodName := ⟨RX11, "fault", "()I"⟩
abbrev cX11_emit : ByteArray := prog_13_method_44_code
def yX11_emit : MethodName := ⟨RX11, "emit", "(II)V"⟩
abbrev cX11_push : ByteArray := prog_13_method_45_code
def yX11_push : MethodName := ⟨RX11, "push", "(II)V"⟩
abbrev cX11_binds : ByteArray := prog_13_method_46_code
def yX11_binds : MethodName := ⟨RX11, "binds", "(I)I"⟩
abbrev cX11_settle : ByteArray := prog_13_method_47_code
def yX11_settle : MethodName := ⟨RX11, "settle", "(I)V"⟩
abbrev cX11_inner : ByteArray := prog_13_method_48_code
def yX11_inner : MethodName := ⟨RX11, "inner", "()I"⟩
abbrev cX11_isCompared : ByteArray := prog_13_method_49_code
def yX11_isCompared : MethodName := ⟨RX11, "isCompared", "()Z"⟩
abbrev cX11_partAt : ByteArray := prog_13_method_50_code
def yX11_partAt : MethodName := ⟨RX11, "partAt", "()I"⟩
abbrev cX11_openBracket : ByteArray := prog_13_method_51_code
def yX11_openBracket : MethodName := ⟨RX11, "openBracket", "(I)V"⟩
abbrev cX11_leaf : ByteArray := prog_13_method_52_code
def yX11_leaf : MethodName := ⟨RX11, "leaf", "(ZII)V"⟩
abbrev cX11_readPart : ByteArray := prog_13_method_53_code
def yX11_readPart : MethodName := ⟨RX11, "readPart", "()I"⟩
abbrev cX11_readPlain : ByteArray := prog_13_method_54_code
def yX11_readPlain : MethodName := ⟨RX11, "readPlain", "()I"⟩
abbrev cX11_behindSum : ByteArray := prog_13_method_55_code
def yX11_behindSum : MethodName := ⟨RX11, "behindSum", "(Z)I"⟩
abbrev cX11_behindTest : ByteArray := prog_13_method_56_code
def yX11_behindTest : MethodName := ⟨RX11, "behindTest", "()I"⟩
abbrev cX11_readExpression : ByteArray := prog_13_method_57_code
def yX11_readExpression : MethodName := ⟨RX11, "readExpression", "(Z)V"⟩
abbrev cX11_readClause : ByteArray := prog_13_method_58_code
def yX11_readClause : MethodName := ⟨RX11, "readClause", "()V"⟩
abbrev cX11_text : ByteArray := prog_13_method_59_code
def yX11_text : MethodName := ⟨RX11, "text", "()I"⟩
abbrev cX11_way : ByteArray := prog_13_method_60_code
def yX11_way : MethodName := ⟨RX11, "way", "(II)I"⟩
abbrev cX11_reckon : ByteArray := prog_13_method_61_code
def yX11_reckon : MethodName := ⟨RX11, "reckon", "(IJJ)J"⟩
abbrev cX11_reckonAll : ByteArray := prog_13_method_62_code
def yX11_reckonAll : MethodName := ⟨RX11, "reckonAll", "(II)V"⟩
abbrev cX11_isSo : ByteArray := prog_13_method_63_code
def yX11_isSo : MethodName := ⟨RX11, "isSo", "(I)Z"⟩
abbrev cX11_asks : ByteArray := prog_13_method_64_code
def yX11_asks : MethodName := ⟨RX11, "asks", "(III)I"⟩
abbrev cX11_canPay : ByteArray := prog_13_method_65_code
def yX11_canPay : MethodName := ⟨RX11, "canPay", "(II)Z"⟩
abbrev cX11_weigh : ByteArray := prog_13_method_66_code
def yX11_weigh : MethodName := ⟨RX11, "weigh", "(III)I"⟩
abbrev cX11_weight : ByteArray := prog_13_method_67_code
def yX11_weight : MethodName := ⟨RX11, "weight", "(III)I"⟩
abbrev cX11_coinOf : ByteArray := prog_13_method_68_code
def yX11_coinOf : MethodName := ⟨RX11, "coinOf", "(I)I"⟩
abbrev cX11_scale : ByteArray := prog_13_method_69_code
def yX11_scale : MethodName := ⟨RX11, "scale", "(I)I"⟩
abbrev cX11_many : ByteArray := prog_13_method_70_code
def yX11_many : MethodName := ⟨RX11, "many", "(II)I"⟩
abbrev cX11_worthOf : ByteArray := prog_13_method_71_code
def yX11_worthOf : MethodName := ⟨RX11, "worthOf", "(I)I"⟩
abbrev cX11_all : ByteArray := prog_13_method_72_code
def yX11_all : MethodName := ⟨RX11, "all", "([I)I"⟩
abbrev cX11_findWorths : ByteArray := prog_13_method_73_code
def yX11_findWorths : MethodName := ⟨RX11, "findWorths", "()V"⟩
abbrev cX11_isHeap : ByteArray := prog_13_method_74_code
def yX11_isHeap : MethodName := ⟨RX11, "isHeap", "(IIII)Z"⟩
abbrev cX11_heap : ByteArray := prog_13_method_75_code
def yX11_heap : MethodName := ⟨RX11, "heap", "(IIIII)I"⟩
abbrev cX11_may : ByteArray := prog_13_method_76_code
def yX11_may : MethodName := ⟨RX11, "may", "(II)Z"⟩
abbrev cX11_moneyOf : ByteArray := prog_13_method_77_code
def yX11_moneyOf : MethodName := ⟨RX11, "moneyOf", "(II)I"⟩
abbrev cX11_step : ByteArray := prog_13_method_78_code
def yX11_step : MethodName := ⟨RX11, "step", "(I)I"⟩
abbrev cX11_setTo : ByteArray := prog_13_method_79_code
def yX11_setTo : MethodName := ⟨RX11, "setTo", "([JJ)V"⟩
abbrev cX11_times : ByteArray := prog_13_method_80_code
def yX11_times : MethodName := ⟨RX11, "times", "([JJ)V"⟩
abbrev cX11_add_ : ByteArray := prog_13_method_81_code
def yX11_add_ : MethodName := ⟨RX11, "add", "([JI[JIJ)V"⟩
abbrev cX11_compare : ByteArray := prog_13_method_82_code
def yX11_compare : MethodName := ⟨RX11, "compare", "([J[J)I"⟩
abbrev cX11_ratio : ByteArray := prog_13_method_83_code
def yX11_ratio : MethodName := ⟨RX11, "ratio", "()I"⟩
abbrev cX11_weighAll : ByteArray := prog_13_method_84_code
def yX11_weighAll : MethodName := ⟨RX11, "weighAll", "(I)I"⟩
abbrev cX11_spread : ByteArray := prog_13_method_85_code
def yX11_spread : MethodName := ⟨RX11, "spread", "()V"⟩
abbrev cX11_spreadOne : ByteArray := prog_13_method_86_code
def yX11_spreadOne : MethodName := ⟨RX11, "spreadOne", "(I)V"⟩
abbrev cX11_addMoney : ByteArray := prog_13_method_87_code
def yX11_addMoney : MethodName := ⟨RX11, "addMoney", "()V"⟩
abbrev cX11_meanOf : ByteArray := prog_13_method_88_code
def yX11_meanOf : MethodName := ⟨RX11, "meanOf", "(I)I"⟩
abbrev cX11_mean : ByteArray := prog_13_method_89_code
def yX11_mean : MethodName := ⟨RX11, "mean", "(I)I"⟩
abbrev cX11_none : ByteArray := prog_13_method_90_code
def yX11_none : MethodName := ⟨RX11, "none", "(I)I"⟩
abbrev cX11_gather : ByteArray := prog_13_method_91_code
def yX11_gather : MethodName := ⟨RX11, "gather", "(II)V"⟩
abbrev cX11_gatherOne : ByteArray := prog_13_method_92_code
def yX11_gatherOne : MethodName := ⟨RX11, "gatherOne", "(III)V"⟩
abbrev cX11_greatest : ByteArray := prog_13_method_93_code
def yX11_greatest : MethodName := ⟨RX11, "greatest", "()I"⟩
abbrev cX11_findFirst : ByteArray := prog_13_method_94_code
def yX11_findFirst : MethodName := ⟨RX11, "findFirst", "(I)V"⟩
abbrev cX11_isOnWay : ByteArray := prog_13_method_95_code
def yX11_isOnWay : MethodName := ⟨RX11, "isOnWay", "(IIII)Z"⟩
abbrev cX11_together : ByteArray := prog_13_method_96_code
def yX11_together : MethodName := ⟨RX11, "together", "(I)I"⟩
abbrev cX11_brings : ByteArray := prog_13_method_97_code
def yX11_brings : MethodName := ⟨RX11, "brings", "(I)I"⟩
abbrev cX11_dear : ByteArray := prog_13_method_98_code
def yX11_dear : MethodName := ⟨RX11, "dear", "(II)I"⟩
abbrev cX11_loss : ByteArray := prog_13_method_99_code
def yX11_loss : MethodName := ⟨RX11, "loss", "()I"⟩
abbrev cX11_over : ByteArray := prog_13_method_100_code
def yX11_over : MethodName := ⟨RX11, "over", "(II)J"⟩
abbrev cX11_findShares : ByteArray := prog_13_method_101_code
def yX11_findShares : MethodName := ⟨RX11, "findShares", "(I)V"⟩
abbrev cX11_blindMean : ByteArray := prog_13_method_102_code
def yX11_blindMean : MethodName := ⟨RX11, "blindMean", "(I)J"⟩
abbrev cX11_findBlind : ByteArray := prog_13_method_103_code
def yX11_findBlind : MethodName := ⟨RX11, "findBlind", "(I)V"⟩
abbrev cX11_tryTenths : ByteArray := prog_13_method_104_code
def yX11_tryTenths : MethodName := ⟨RX11, "tryTenths", "(I)V"⟩
abbrev cX11_blind : ByteArray := prog_13_method_105_code
def yX11_blind : MethodName := ⟨RX11, "blind", "(II)I"⟩
abbrev cX11_byRule : ByteArray := prog_13_method_106_code
def yX11_byRule : MethodName := ⟨RX11, "byRule", "(I)I"⟩
abbrev cX11_ruleValue : ByteArray := prog_13_method_107_code
def yX11_ruleValue : MethodName := ⟨RX11, "ruleValue", "()I"⟩
abbrev cX11_nextBounds : ByteArray := prog_13_method_108_code
def yX11_nextBounds : MethodName := ⟨RX11, "nextBounds", "()Z"⟩
abbrev cX11_rule : ByteArray := prog_13_method_109_code
def yX11_rule : MethodName := ⟨RX11, "rule", "(I)I"⟩
abbrev cX11_letters : ByteArray := prog_13_method_110_code
def yX11_letters : MethodName := ⟨RX11, "letters", "(IIII)I"⟩
abbrev cX11_goesOn : ByteArray := prog_13_method_111_code
def yX11_goesOn : MethodName := ⟨RX11, "goesOn", "(I)Z"⟩
abbrev cX11_findRest : ByteArray := prog_13_method_112_code
def yX11_findRest : MethodName := ⟨RX11, "findRest", "()V"⟩
abbrev cX11_rest : ByteArray := prog_13_method_113_code
def yX11_rest : MethodName := ⟨RX11, "rest", "(I)I"⟩
abbrev cX11_find : ByteArray := prog_13_method_114_code
def yX11_find : MethodName := ⟨RX11, "find", "(I)I"⟩
abbrev cX11_draw : ByteArray := prog_13_method_115_code
def yX11_draw : MethodName := ⟨RX11, "draw", "(I)I"⟩
abbrev cX11_best : ByteArray := prog_13_method_116_code
def yX11_best : MethodName := ⟨RX11, "best", "(II)I"⟩
abbrev cX11_drawnBy : ByteArray := prog_13_method_117_code
def yX11_drawnBy : MethodName := ⟨RX11, "drawnBy", "(I)I"⟩
abbrev cX11_drawAll : ByteArray := prog_13_method_118_code
def yX11_drawAll : MethodName := ⟨RX11, "drawAll", "()I"⟩
abbrev cX11_wed : ByteArray := prog_13_method_119_code
def yX11_wed : MethodName := ⟨RX11, "wed", "(I)I"⟩
abbrev cX11_had : ByteArray := prog_13_method_120_code
def yX11_had : MethodName := ⟨RX11, "had", "(I)I"⟩
abbrev cX11_brought : ByteArray := prog_13_method_121_code
def yX11_brought : MethodName := ⟨RX11, "brought", "(I)I"⟩
abbrev cX11_round : ByteArray := prog_13_method_122_code
def yX11_round : MethodName := ⟨RX11, "round", "(II)I"⟩
abbrev cX11_change_ : ByteArray := prog_13_method_123_code
def yX11_change_ : MethodName := ⟨RX11, "change", "(IIIIII)I"⟩
abbrev cX11_likedBy : ByteArray := prog_13_method_124_code
def yX11_likedBy : MethodName := ⟨RX11, "likedBy", "(I)I"⟩
abbrev cX11_sure : ByteArray := prog_13_method_125_code
def yX11_sure : MethodName := ⟨RX11, "sure", "(I)I"⟩
abbrev cX11_count : ByteArray := prog_13_method_126_code
def yX11_count : MethodName := ⟨RX11, "count", "(I)I"⟩
abbrev cX11_status : ByteArray := prog_13_method_127_code
def yX11_status : MethodName := ⟨RX11, "status", "()I"⟩
def RJx145de : String := "java/io/Serializable"
def TJx145de : u_T := fun k => match k with
  | _ => ("", "", "", false)
def tyJx145de : Nat → FieldType := fun k => match k with
  | _ => .int
abbrev wsJx145de0 : List Cond := u_ws RJx145de TJx145de 0
theorem nmJx145de : ∀ a, a < 0 → ∀ b, b < 0 → a ≠ b → (TJx145de a).2.1 ≠ (TJx145de b).2.1 := by decide +kernel
theorem tyJx145de_ok : ∀ k, k < 0 → parseFieldDescriptor (TJx145de k).2.2.1 = some (tyJx145de k) := by decide +kernel
def RJx9f9b0 : String := "java/lang/CharSequence"
def TJx9f9b0 : u_T := fun k => match k with
  | _ => ("", "", "", false)
def tyJx9f9b0 : Nat → FieldType := fun k => match k with
  | _ => .int
abbrev wsJx9f9b00 : List Cond := u_ws RJx9f9b0 TJx9f9b0 0
theorem nmJx9f9b0 : ∀ a, a < 0 → ∀ b, b < 0 → a ≠ b → (TJx9f9b0 a).2.1 ≠ (TJx9f9b0 b).2.1 := by decide +kernel
theorem tyJx9f9b0_ok : ∀ k, k < 0 → parseFieldDescriptor (TJx9f9b0 k).2.2.1 = some (tyJx9f9b0 k) := by decide +kernel
def RJx8e188 : String := "java/lang/Cloneable"
def TJx8e188 : u_T := fun k => match k with
  | _ => ("", "", "", false)
def tyJx8e188 : Nat → FieldType := fun k => match k with
  | _ => .int
abbrev wsJx8e1880 : List Cond := u_ws RJx8e188 TJx8e188 0
theorem nmJx8e188 : ∀ a, a < 0 → ∀ b, b < 0 → a ≠ b → (TJx8e188 a).2.1 ≠ (TJx8e188 b).2.1 := by decide +kernel
theorem tyJx8e188_ok : ∀ k, k < 0 → parseFieldDescriptor (TJx8e188 k).2.2.1 = some (tyJx8e188 k) := by decide +kernel
def RJxb160c : String := "java/lang/Comparable"
def TJxb160c : u_T := fun k => match k with
  | _ => ("", "", "", false)
def tyJxb160c : Nat → FieldType := fun k => match k with
  | _ => .int
abbrev wsJxb160c0 : List Cond := u_ws RJxb160c TJxb160c 0
theorem nmJxb160c : ∀ a, a < 0 → ∀ b, b < 0 → a ≠ b → (TJxb160c a).2.1 ≠ (TJxb160c b).2.1 := by decide +kernel
theorem tyJxb160c_ok : ∀ k, k < 0 → parseFieldDescriptor (TJxb160c k).2.2.1 = some (tyJxb160c k) := by decide +kernel
def RJ9 : String := "java/lang/Math"
def TJ9 : u_T := fun k => match k with
  | _ => ("", "", "", false)
def tyJ9 : Nat → FieldType := fun k => match k with
  | _ => .int
abbrev wsJ90 : List Cond := u_ws RJ9 TJ9 0
theorem nmJ9 : ∀ a, a < 0 → ∀ b, b < 0 → a ≠ b → (TJ9 a).2.1 ≠ (TJ9 b).2.1 := by decide +kernel
theorem tyJ9_ok : ∀ k, k < 0 → parseFieldDescriptor (TJ9 k).2.2.1 = some (tyJ9 k) := by decide +kernel
abbrev cJ9_max_7cf53 : ByteArray := prog_15_method_65_code
def yJ9_max_7cf53 : MethodName := ⟨RJ9, "max", "(II)I"⟩
abbrev cJ9_max_f86c9 : ByteArray := prog_15_method_66_code
def yJ9_max_f86c9 : MethodName := ⟨RJ9, "max", "(JJ)J"⟩
abbrev cJ9_min_7cf53 : ByteArray := prog_15_method_69_code
def yJ9_min_7cf53 : MethodName := ⟨RJ9, "min", "(II)I"⟩
abbrev cJ9_min_f86c9 : ByteArray := prog_15_method_70_code
def yJ9_min_f86c9 : MethodName := ⟨RJ9, "min", "(JJ)J"⟩
def RJ0 : String := "java/lang/String"
def TJ0 : u_T := fun k => match k with
  | _ => ("", "", "", false)
def tyJ0 : Nat → FieldType := fun k => match k with
  | _ => .int
abbrev wsJ00 : List Cond := u_ws RJ0 TJ0 0
theorem nmJ0 : ∀ a, a < 0 → ∀ b, b < 0 → a ≠ b → (TJ0 a).2.1 ≠ (TJ0 b).2.1 := by decide +kernel
theorem tyJ0_ok : ∀ k, k < 0 → parseFieldDescriptor (TJ0 k).2.2.1 = some (tyJ0 k) := by decide +kernel
abbrev cJ0_charAt_5068e : ByteArray := prog_16_method_56_code
def yJ0_charAt_5068e : MethodName := ⟨RJ0, "charAt", "(I)C"⟩
abbrev cJ0_isLatin1_aae02 : ByteArray := prog_16_method_154_code
def yJ0_isLatin1_aae02 : MethodName := ⟨RJ0, "isLatin1", "()Z"⟩
abbrev cJ0_checkIndex_df160 : ByteArray := prog_16_method_155_code
def yJ0_checkIndex_df160 : MethodName := ⟨RJ0, "checkIndex", "(II)V"⟩
def RJ1 : String := "java/lang/StringLatin1"
def TJ1 : u_T := fun k => match k with
  | _ => ("", "", "", false)
def tyJ1 : Nat → FieldType := fun k => match k with
  | _ => .int
abbrev wsJ10 : List Cond := u_ws RJ1 TJ1 0
theorem nmJ1 : ∀ a, a < 0 → ∀ b, b < 0 → a ≠ b → (TJ1 a).2.1 ≠ (TJ1 b).2.1 := by decide +kernel
theorem tyJ1_ok : ∀ k, k < 0 → parseFieldDescriptor (TJ1 k).2.2.1 = some (tyJ1 k) := by decide +kernel
abbrev cJ1_charAt_3b067 : ByteArray := prog_17_method_2_code
def yJ1_charAt_3b067 : MethodName := ⟨RJ1, "charAt", "([BI)C"⟩
def RJ2 : String := "java/lang/StringUTF16"
def TJ2 : u_T := fun k => match k with
  | _ => ("", "", "", false)
def tyJ2 : Nat → FieldType := fun k => match k with
  | _ => .int
abbrev wsJ20 : List Cond := u_ws RJ2 TJ2 0
theorem nmJ2 : ∀ a, a < 0 → ∀ b, b < 0 → a ≠ b → (TJ2 a).2.1 ≠ (TJ2 b).2.1 := by decide +kernel
theorem tyJ2_ok : ∀ k, k < 0 → parseFieldDescriptor (TJ2 k).2.2.1 = some (tyJ2 k) := by decide +kernel
abbrev cJ2_getChar_3b067 : ByteArray := prog_18_method_5_code
def yJ2_getChar_3b067 : MethodName := ⟨RJ2, "getChar", "([BI)C"⟩
abbrev cJ2_length_9d52b : ByteArray := prog_18_method_6_code
def yJ2_length_9d52b : MethodName := ⟨RJ2, "length", "([B)I"⟩
abbrev cJ2_charAt_3b067 : ByteArray := prog_18_method_83_code
def yJ2_charAt_3b067 : MethodName := ⟨RJ2, "charAt", "([BI)C"⟩
abbrev cJ2_checkIndex_2214a : ByteArray := prog_18_method_91_code
def yJ2_checkIndex_2214a : MethodName := ⟨RJ2, "checkIndex", "(I[B)V"⟩
def RJ10 : String := "java/lang/System"
def TJ10 : u_T := fun k => match k with
  | _ => ("", "", "", false)
def tyJ10 : Nat → FieldType := fun k => match k with
  | _ => .int
abbrev wsJ100 : List Cond := u_ws RJ10 TJ10 0
theorem nmJ10 : ∀ a, a < 0 → ∀ b, b < 0 → a ≠ b → (TJ10 a).2.1 ≠ (TJ10 b).2.1 := by decide +kernel
theorem tyJ10_ok : ∀ k, k < 0 → parseFieldDescriptor (TJ10 k).2.2.1 = some (tyJ10 k) := by decide +kernel
def RJxfd54e : String := "java/lang/constant/Constable"
def TJxfd54e : u_T := fun k => match k with
  | _ => ("", "", "", false)
def tyJxfd54e : Nat → FieldType := fun k => match k with
  | _ => .int
abbrev wsJxfd54e0 : List Cond := u_ws RJxfd54e TJxfd54e 0
theorem nmJxfd54e : ∀ a, a < 0 → ∀ b, b < 0 → a ≠ b → (TJxfd54e a).2.1 ≠ (TJxfd54e b).2.1 := by decide +kernel
theorem tyJxfd54e_ok : ∀ k, k < 0 → parseFieldDescriptor (TJxfd54e k).2.2.1 = some (tyJxfd54e k) := by decide +kernel
def RJx3cf43 : String := "java/lang/constant/ConstantDesc"
def TJx3cf43 : u_T := fun k => match k with
  | _ => ("", "", "", false)
def tyJx3cf43 : Nat → FieldType := fun k => match k with
  | _ => .int
abbrev wsJx3cf430 : List Cond := u_ws RJx3cf43 TJx3cf43 0
theorem nmJx3cf43 : ∀ a, a < 0 → ∀ b, b < 0 → a ≠ b → (TJx3cf43 a).2.1 ≠ (TJx3cf43 b).2.1 := by decide +kernel
theorem tyJx3cf43_ok : ∀ k, k < 0 → parseFieldDescriptor (TJx3cf43 k).2.2.1 = some (tyJx3cf43 k) := by decide +kernel
def RJ7 : String := "java/util/Arrays"
def TJ7 : u_T := fun k => match k with
  | _ => ("", "", "", false)
def tyJ7 : Nat → FieldType := fun k => match k with
  | _ => .int
abbrev wsJ70 : List Cond := u_ws RJ7 TJ7 0
theorem nmJ7 : ∀ a, a < 0 → ∀ b, b < 0 → a ≠ b → (TJ7 a).2.1 ≠ (TJ7 b).2.1 := by decide +kernel
theorem tyJ7_ok : ∀ k, k < 0 → parseFieldDescriptor (TJ7 k).2.2.1 = some (tyJ7 k) := by decide +kernel
abbrev cJ7_rangeCheck_23922 : ByteArray := prog_20_method_30_code
def yJ7_rangeCheck_23922 : MethodName := ⟨RJ7, "rangeCheck", "(III)V"⟩
abbrev cJ7_fill_d0a16 : ByteArray := prog_20_method_101_code
def yJ7_fill_d0a16 : MethodName := ⟨RJ7, "fill", "([JJ)V"⟩
abbrev cJ7_fill_bad5a : ByteArray := prog_20_method_102_code
def yJ7_fill_bad5a : MethodName := ⟨RJ7, "fill", "([JIIJ)V"⟩
abbrev cJ7_fill_53178 : ByteArray := prog_20_method_103_code
def yJ7_fill_53178 : MethodName := ⟨RJ7, "fill", "([II)V"⟩
abbrev cJ7_fill_fda19 : ByteArray := prog_20_method_104_code
def yJ7_fill_fda19 : MethodName := ⟨RJ7, "fill", "([IIII)V"⟩
abbrev cJ7_copyOf_59c91 : ByteArray := prog_20_method_123_code
def yJ7_copyOf_59c91 : MethodName := ⟨RJ7, "copyOf", "([II)[I"⟩
def RJ3 : String := "jdk/internal/util/Preconditions"
def TJ3 : u_T := fun k => match k with
  | _ => ("", "", "", false)
def tyJ3 : Nat → FieldType := fun k => match k with
  | _ => .int
abbrev wsJ30 : List Cond := u_ws RJ3 TJ3 0
theorem nmJ3 : ∀ a, a < 0 → ∀ b, b < 0 → a ≠ b → (TJ3 a).2.1 ≠ (TJ3 b).2.1 := by decide +kernel
theorem tyJ3_ok : ∀ k, k < 0 → parseFieldDescriptor (TJ3 k).2.2.1 = some (tyJ3 k) := by decide +kernel
abbrev cJ3_checkIndex_8e157 : ByteArray := prog_21_method_11_code
def yJ3_checkIndex_8e157 : MethodName := ⟨RJ3, "checkIndex", "(IILjava/util/function/BiFunction;)I"⟩
def RL : String := "GiftTableLaw"
abbrev cL_law : ByteArray := code
abbrev vwCl : List vw_C := [(RX0, TX0, 12), (RX1, TX1, 19), (RX2, TX2, 9), (RX3, TX3, 13), (RX4, TX4, 14), (RX5, TX5, 10), (RX6, TX6, 14), (RX7, TX7, 2), (RX8, TX8, 8), (RX9, TX9, 6), (RX10, TX10, 20), (RX11, TX11, 69)]
end
section
/-! THE SMALL MACHINE: a store of numbered cells, a step of one instruction over it, as a function. No word of the claim's own stands here. -/
abbrev gt_S : Type := (Nat → Nat → Int32) × (Nat → Nat → Int64) × (Nat → Nat → Option Nat) × List (Nat × Nat)
abbrev gt_K : Type := (FieldType × Nat × List Nat) ⊕ (Nat × List (Option (Option Nat)))
/-- the fixed cells: what each is, and how many -/
abbrev gt_KS : Type := (Nat → Option gt_K) × Nat
abbrev gt_L : Type := List (Nat × Value)
abbrev gt_F : Type := Nat × gt_L × List Value × gt_S
abbrev gt_I : Type := Nat × Instr × Nat
abbrev gt_G : Type := List Value → gt_S → Option (Option Value × gt_S)
/-- fields, int constants, long constants, calls (0 virtual, 1 static, 2 special; 0 nothing, 1 an int, 2 a long, 3 a reference comes back; how many words it takes; what it does), each by its pool number; special steps, by their place -/
abbrev gt_E : Type := List (Nat × Nat × Nat × Nat) × List (Nat × Int32) × List (Nat × Int64) × List (Nat × Nat × Nat × Nat × gt_G) × List (Nat × (gt_L → List Value → gt_S → Option gt_F))
def gt_len : Instr → Nat
  | .bipush _ | .ldc _ | .iload _ | .lload _ | .aload _ | .istore _ | .lstore _ | .astore _ => 2
  | .sipush _ | .ldc_w _ | .ldc2_w _ | .iinc _ _ | .goto _ | .ifCond _ _ | .if_icmp _ _ | .ifnull _ | .ifnonnull _ | .getfield _ | .putfield _ | .invokevirtual _ | .invokestatic _ | .invokespecial _ => 3
  | _ => 1
def gt_lok (q : gt_I) : Bool := match q.2.1 with
  | .tableswitch _ _ _ _ => true
  | .lookupswitch _ _ => true
  | i => Nat.beq q.2.2 (gt_len i)
def gt_dok (cc : ByteArray) (cs : List gt_I) : Prop := ∀ q ∈ cs, decode cc q.1 = .ok (q.2.1, q.2.2) ∧ gt_lok q = true
theorem gt_dok_of {cc : ByteArray} {cs : List gt_I} (h : cs.all (fun q => decide (decode cc q.1 = .ok (q.2.1, q.2.2)) && gt_lok q) = true) : gt_dok cc cs := by
  intro q hq
  have := List.all_eq_true.mp h q hq
  simp only [Bool.and_eq_true, decide_eq_true_eq] at this
  exact this
def gt_isN : Cond → Bool
  | .fieldLinkNest .. => true
  | .methodLinkNest .. => true
  | _ => false
/-- the tables' words of nest mates -/
def gt_N : List Cond := lw_tbl.filter gt_isN
/-- the words that every method has: those of the tables that last -/
def gt_T : List Cond := lw_tbl.filter goodWord
theorem gt_T_in {w : Cond} (h : w ∈ lw_tbl) (g : goodWord w = true) : w ∈ gt_T := List.mem_filter.mpr ⟨h, g⟩
/-! a word of the tables, by its place -/
theorem gt_Ti (i : Nat) {w : Cond} (h : tables_1[i]? = some w) (g : goodWord w = true) : w ∈ gt_T := gt_T_in (List.mem_append_right _ (List.mem_of_getElem? h)) g
theorem gt_Ni (i : Nat) {w : Cond} (h : tables_1[i]? = some w) (g : gt_isN w = true) : w ∈ gt_N := List.mem_filter.mpr ⟨List.mem_append_right _ (List.mem_of_getElem? h), g⟩
theorem gt_Pi (i : Nat) {w : Cond} (h : (k2_sels lw_privs)[i]? = some w) (g : goodWord w = true) : w ∈ gt_T := gt_T_in (List.mem_append_left _ (List.mem_of_getElem? h)) g
/-! a word of one of the nine tables, by its place there -/
def gt_nth : List Cond → Nat → Option Cond
  | [], _ => none
  | a :: _, 0 => some a
  | _ :: t, n + 1 => gt_nth t n
theorem gt_nth_mem : ∀ {l : List Cond} {n : Nat} {w : Cond}, gt_nth l n = some w → w ∈ l
  | [], _, _, h => by cases h
  | a :: t, 0, w, h => by cases h; exact List.mem_cons_self
  | a :: t, n + 1, w, h => List.mem_cons_of_mem _ (gt_nth_mem h)
theorem gt_T9 {w : Cond} (h : w ∈ tables_1) (g : goodWord w = true) : w ∈ gt_T := gt_T_in (List.mem_append_right _ h) g
theorem gt_t1 (i : Nat) {w : Cond} (h : gt_nth tables_1_1 i = some w) (g : goodWord w = true) : w ∈ gt_T := gt_T9 (List.mem_append_left _ (gt_nth_mem h)) g
theorem gt_t2 (i : Nat) {w : Cond} (h : gt_nth tables_1_2 i = some w) (g : goodWord w = true) : w ∈ gt_T := gt_T9 (List.mem_append_right _ (List.mem_append_left _ (gt_nth_mem h))) g
theorem gt_t3 (i : Nat) {w : Cond} (h : gt_nth tables_1_3 i = some w) (g : goodWord w = true) : w ∈ gt_T := gt_T9 (List.mem_append_right _ (List.mem_append_right _ (List.mem_append_left _ (gt_nth_mem h)))) g
theorem gt_t4 (i : Nat) {w : Cond} (h : gt_nth tables_1_4 i = some w) (g : goodWord w = true) : w ∈ gt_T := gt_T9 (List.mem_append_right _ (List.mem_append_right _ (List.mem_append_right _ (List.mem_append_left _ (gt_nth_mem h))))) g
theorem gt_t5 (i : Nat) {w : Cond} (h : gt_nth tables_1_5 i = some w) (g : goodWord w = true) : w ∈ gt_T := gt_T9 (List.mem_append_right _ (List.mem_append_right _ (List.mem_append_right _ (List.mem_append_right _ (List.mem_append_left _ (gt_nth_mem h)))))) g
theorem gt_t6 (i : Nat) {w : Cond} (h : gt_nth tables_1_6 i = some w) (g : goodWord w = true) : w ∈ gt_T := gt_T9 (List.mem_append_right _ (List.mem_append_right _ (List.mem_append_right _ (List.mem_append_right _ (List.mem_append_right _ (List.mem_append_left _ (gt_nth_mem h))))))) g
theorem gt_t7 (i : Nat) {w : Cond} (h : gt_nth tables_1_7 i = some w) (g : goodWord w = true) : w ∈ gt_T := gt_T9 (List.mem_append_right _ (List.mem_append_right _ (List.mem_append_right _ (List.mem_append_right _ (List.mem_append_right _ (List.mem_append_right _ (List.mem_append_left _ (gt_nth_mem h)))))))) g
theorem gt_t8 (i : Nat) {w : Cond} (h : gt_nth tables_1_8 i = some w) (g : goodWord w = true) : w ∈ gt_T := gt_T9 (List.mem_append_right _ (List.mem_append_right _ (List.mem_append_right _ (List.mem_append_right _ (List.mem_append_right _ (List.mem_append_right _ (List.mem_append_right _ (List.mem_append_left _ (gt_nth_mem h))))))))) g
theorem gt_t9 (i : Nat) {w : Cond} (h : gt_nth tables_1_9 i = some w) (g : goodWord w = true) : w ∈ gt_T := gt_T9 (List.mem_append_right _ (List.mem_append_right _ (List.mem_append_right _ (List.mem_append_right _ (List.mem_append_right _ (List.mem_append_right _ (List.mem_append_right _ (List.mem_append_right _ (gt_nth_mem h))))))))) g
def gt_nthp : List (MethodName × Nat) → Nat → Option (MethodName × Nat)
  | [], _ => none
  | a :: _, 0 => some a
  | _ :: t, n + 1 => gt_nthp t n
theorem gt_nthp_mem : ∀ {l : List (MethodName × Nat)} {n : Nat} {w : MethodName × Nat}, gt_nthp l n = some w → w ∈ l
  | [], _, _, h => by cases h
  | a :: t, 0, w, h => by cases h; exact List.mem_cons_self
  | a :: t, n + 1, w, h => List.mem_cons_of_mem _ (gt_nthp_mem h)
theorem gt_ps {q : MethodName × Nat} (h : q ∈ lw_privs) : Cond.selects q.1.cls q.1 q.1 ∈ gt_T := gt_T_in (List.mem_append_left _ (List.mem_map.mpr ⟨q, h, rfl⟩)) rfl
theorem gt_p1 (i : Nat) {y : MethodName} {n : Nat} (h : gt_nthp lw_privs_1 i = some (y, n)) : Cond.selects y.cls y y ∈ gt_T := gt_ps (q := (y, n)) (List.mem_append_left _ (gt_nthp_mem h))
theorem gt_p2 (i : Nat) {y : MethodName} {n : Nat} (h : gt_nthp lw_privs_2 i = some (y, n)) : Cond.selects y.cls y y ∈ gt_T := gt_ps (q := (y, n)) (List.mem_append_right _ (List.mem_append_left _ (gt_nthp_mem h)))
theorem gt_p3 (i : Nat) {y : MethodName} {n : Nat} (h : gt_nthp lw_privs_3 i = some (y, n)) : Cond.selects y.cls y y ∈ gt_T := gt_ps (q := (y, n)) (List.mem_append_right _ (List.mem_append_right _ (List.mem_append_left _ (gt_nthp_mem h))))
theorem gt_p4 (i : Nat) {y : MethodName} {n : Nat} (h : gt_nthp lw_privs_4 i = some (y, n)) : Cond.selects y.cls y y ∈ gt_T := gt_ps (q := (y, n)) (List.mem_append_right _ (List.mem_append_right _ (List.mem_append_right _ (List.mem_append_left _ (gt_nthp_mem h)))))
theorem gt_p5 (i : Nat) {y : MethodName} {n : Nat} (h : gt_nthp lw_privs_5 i = some (y, n)) : Cond.selects y.cls y y ∈ gt_T := gt_ps (q := (y, n)) (List.mem_append_right _ (List.mem_append_right _ (List.mem_append_right _ (List.mem_append_right _ (List.mem_append_left _ (gt_nthp_mem h))))))
theorem gt_p6 (i : Nat) {y : MethodName} {n : Nat} (h : gt_nthp lw_privs_6 i = some (y, n)) : Cond.selects y.cls y y ∈ gt_T := gt_ps (q := (y, n)) (List.mem_append_right _ (List.mem_append_right _ (List.mem_append_right _ (List.mem_append_right _ (List.mem_append_right _ (List.mem_append_left _ (gt_nthp_mem h)))))))
theorem gt_p7 (i : Nat) {y : MethodName} {n : Nat} (h : gt_nthp lw_privs_7 i = some (y, n)) : Cond.selects y.cls y y ∈ gt_T := gt_ps (q := (y, n)) (List.mem_append_right _ (List.mem_append_right _ (List.mem_append_right _ (List.mem_append_right _ (List.mem_append_right _ (List.mem_append_right _ (List.mem_append_left _ (gt_nthp_mem h))))))))
theorem gt_p8 (i : Nat) {y : MethodName} {n : Nat} (h : gt_nthp lw_privs_8 i = some (y, n)) : Cond.selects y.cls y y ∈ gt_T := gt_ps (q := (y, n)) (List.mem_append_right _ (List.mem_append_right _ (List.mem_append_right _ (List.mem_append_right _ (List.mem_append_right _ (List.mem_append_right _ (List.mem_append_right _ (gt_nthp_mem h))))))))
def gt_fok (Ts : List Cond) (own : String) (cl : List vw_C) (q : Nat × Nat × Nat × Nat) : Prop := ∃ (C : String) (T : u_T) (N : Nat) (ty : Nat → FieldType), cl[q.2.1]? = some (C, T, N) ∧ q.2.2.1 < N ∧ (∀ w ∈ u_ws C T N, w ∈ Ts) ∧ (∀ k, k < N → parseFieldDescriptor (T k).2.2.1 = some (ty k)) ∧ (∀ a, a < N → ∀ b, b < N → a ≠ b → (T a).2.1 ≠ (T b).2.1) ∧
  (Cond.fieldLink own q.1 (T q.2.2.1).1 (T q.2.2.1).2.1 (T q.2.2.1).2.2.1 ∈ Ts ∨ ∃ host, Cond.fieldLinkNest own q.1 (T q.2.2.1).1 (T q.2.2.1).2.1 (T q.2.2.1).2.2.1 host ∈ Ts) ∧
  (q.2.2.2 = 0 ∨ ((T q.2.2.1).2.2.2 = false ∧ ((q.2.2.2 = 1 ∧ ty q.2.2.1 = .int) ∨ (q.2.2.2 = 2 ∧ ty q.2.2.1 = .boolean) ∨ (q.2.2.2 = 3 ∧ ty q.2.2.1 = .long))))
theorem gt_fall {Ts : List Cond} {own : String} {cl : List vw_C} {q : Nat × Nat × Nat × Nat} {t : List (Nat × Nat × Nat × Nat)} (h : gt_fok Ts own cl q) (ht : ∀ q ∈ t, gt_fok Ts own cl q) : ∀ x ∈ q :: t, gt_fok Ts own cl x := List.forall_mem_cons.mpr ⟨h, ht⟩
theorem gt_4 {a b c d : Cond} (ha : a ∈ gt_T) (hb : b ∈ gt_T) (hc : c ∈ gt_T) (hd : d ∈ gt_T) : ∀ w ∈ ([a, b, c, d] : List Cond), w ∈ gt_T := List.forall_mem_cons.mpr ⟨ha, List.forall_mem_cons.mpr ⟨hb, List.forall_mem_cons.mpr ⟨hc, List.forall_mem_cons.mpr ⟨hd, fun _ h => absurd h List.not_mem_nil⟩⟩⟩⟩
end
section
abbrev cJ0 : ByteArray := prog_15_method_65_code
def yJ0 : MethodName := ⟨"java/lang/Math", "max", "(II)I"⟩
abbrev cJ1 : ByteArray := prog_15_method_69_code
def yJ1 : MethodName := ⟨"java/lang/Math", "min", "(II)I"⟩
abbrev cJ2 : ByteArray := prog_15_method_66_code
def yJ2 : MethodName := ⟨"java/lang/Math", "max", "(JJ)J"⟩
abbrev cJ3 : ByteArray := prog_15_method_70_code
def yJ3 : MethodName := ⟨"java/lang/Math", "min", "(JJ)J"⟩
abbrev cJ4 : ByteArray := prog_20_method_30_code
def yJ4 : MethodName := ⟨"java/util/Arrays", "rangeCheck", "(III)V"⟩
abbrev cJ5 : ByteArray := prog_20_method_103_code
def yJ5 : MethodName := ⟨"java/util/Arrays", "fill", "([II)V"⟩
abbrev cJ6 : ByteArray := prog_20_method_104_code
def yJ6 : MethodName := ⟨"java/util/Arrays", "fill", "([IIII)V"⟩
abbrev cJ7 : ByteArray := prog_20_method_101_code
def yJ7 : MethodName := ⟨"java/util/Arrays", "fill", "([JJ)V"⟩
abbrev cJ8 : ByteArray := prog_20_method_102_code
def yJ8 : MethodName := ⟨"java/util/Arrays", "fill", "([JIIJ)V"⟩
def cs_X0_work : List gt_I := [(0, .aload_n 0, 1), (1, .getfield 38, 3), (4, .iload 4, 2), (6, .if_icmp .ne 12, 3), (9, .aload_n 0, 1), (10, .getfield 42, 3), (13, .iload_n 3, 1), (14, .if_icmp .ne 4, 3), (17, .return_, 1), (18, .aload_n 0, 1), (19, .iload 4, 2), (21, .putfield 38, 3), (24, .aload_n 0, 1), (25, .iload_n 3, 1), (26, .putfield 42, 3), (29, .aload_n 0, 1), (30, .aload_n 1, 1), (31, .getfield 45, 3), (34, .putfield 50, 3), (37, .aload_n 0, 1), (38, .invokevirtual 51, 3), (41, .aload_n 0, 1), (42, .aload_n 1, 1), (43, .aload_n 2, 1), (44, .invokevirtual 54, 3), (47, .aload_n 0, 1), (48, .ldc2_w 58, 3), (51, .putfield 60, 3), (54, .aload_n 0, 1), (55, .iconst 0, 1), (56, .bipush 10, 2), (58, .invokevirtual 64, 3), (61, .lconst 1, 1), (62, .lstore 5, 2), (64, .iconst 0, 1), (65, .istore 7, 2), (67, .iload 7, 2), (69, .iload_n 3, 1), (70, .if_icmp .ge 17, 3), (73, .lload 5, 2), (75, .ldc2_w 68, 3), (78, .lmul, 1), (79, .lstore 5, 2), (81, .iinc 7 1, 3), (84, .goto (-17), 3), (87, .aload_n 0, 1), (88, .aload_n 0, 1), (89, .getfield 60, 3), (92, .ldc2_w 70, 3), (95, .lmul, 1), (96, .lload 5, 2), (98, .ldiv, 1), (99, .l2i, 1), (100, .putfield 72, 3), (103, .return_, 1)]
theorem d_X0_work : gt_dok cX0_work cs_X0_work := gt_dok_of (by decide +kernel)
def cs_X0_tenthsOf : List gt_I := [(0, .iload_n 1, 1), (1, .iconst 4, 1), (2, .if_icmp .ne 12, 3), (5, .aload_n 0, 1), (6, .getfield 35, 3), (9, .iload_n 2, 1), (10, .iaload, 1), (11, .goto 9, 3), (14, .aload_n 0, 1), (15, .getfield 35, 3), (18, .iload_n 1, 1), (19, .iaload, 1), (20, .ireturn, 1)]
theorem d_X0_tenthsOf : gt_dok cX0_tenthsOf cs_X0_tenthsOf := gt_dok_of (by decide +kernel)
def cs_X0_shapeLevels : List gt_I := [(0, .aload_n 0, 1), (1, .getfield 25, 3), (4, .aload_n 0, 1), (5, .getfield 50, 3), (8, .aload_n 0, 1), (9, .getfield 42, 3), (12, .iconst 1, 1), (13, .iadd, 1), (14, .iastore, 1), (15, .iconst 0, 1), (16, .istore_n 1, 1), (17, .iload_n 1, 1), (18, .aload_n 0, 1), (19, .getfield 42, 3), (22, .if_icmp .gt 29, 3), (25, .aload_n 0, 1), (26, .getfield 22, 3), (29, .aload_n 0, 1), (30, .getfield 50, 3), (33, .aaload, 1), (34, .iload_n 1, 1), (35, .iconst 0, 1), (36, .aload_n 0, 1), (37, .getfield 50, 3), (40, .iload_n 1, 1), (41, .invokestatic 75, 3), (44, .iastore, 1), (45, .iinc 1 1, 3), (48, .goto (-31), 3), (51, .aload_n 0, 1), (52, .getfield 50, 3), (55, .iconst 1, 1), (56, .isub, 1), (57, .istore_n 1, 1), (58, .iload_n 1, 1), (59, .iconst 1, 1), (60, .if_icmp .lt 108, 3), (63, .iconst 0, 1), (64, .istore_n 2, 1), (65, .iconst 0, 1), (66, .istore_n 3, 1), (67, .iload_n 3, 1), (68, .aload_n 0, 1), (69, .getfield 25, 3), (72, .iload_n 1, 1), (73, .iconst 1, 1), (74, .iadd, 1), (75, .iaload, 1), (76, .if_icmp .ge 79, 3), (79, .aload_n 0, 1), (80, .getfield 42, 3), (83, .aload_n 0, 1), (84, .getfield 22, 3), (87, .iload_n 1, 1), (88, .iconst 1, 1), (89, .iadd, 1), (90, .aaload, 1), (91, .iload_n 3, 1), (92, .iaload, 1), (93, .invokestatic 79, 3), (96, .isub, 1), (97, .istore 4, 2), (99, .iconst 0, 1), (100, .istore 5, 2), (102, .iload 5, 2), (104, .iload 4, 2), (106, .if_icmp .gt 43, 3), (109, .iload_n 2, 1), (110, .sipush 495, 3), (113, .if_icmp .ge 36, 3), (116, .aload_n 0, 1), (117, .getfield 22, 3), (120, .iload_n 1, 1), (121, .aaload, 1), (122, .iload_n 2, 1), (123, .aload_n 0, 1), (124, .getfield 22, 3), (127, .iload_n 1, 1), (128, .iconst 1, 1), (129, .iadd, 1), (130, .aaload, 1), (131, .iload_n 3, 1), (132, .iaload, 1), (133, .iload_n 1, 1), (134, .iload 5, 2), (136, .invokestatic 75, 3), (139, .iastore, 1), (140, .iinc 2 1, 3), (143, .iinc 5 1, 3), (146, .goto (-44), 3), (149, .iinc 3 1, 3), (152, .goto (-85), 3), (155, .aload_n 0, 1), (156, .getfield 25, 3), (159, .iload_n 1, 1), (160, .iload_n 2, 1), (161, .iastore, 1), (162, .iinc 1 (-1), 3), (165, .goto (-107), 3), (168, .return_, 1)]
theorem d_X0_shapeLevels : gt_dok cX0_shapeLevels cs_X0_shapeLevels := gt_dok_of (by decide +kernel)
def cs_X0_monomial : List gt_I := [(0, .iload_n 0, 1), (1, .iload_n 2, 1), (2, .iload_n 1, 1), (3, .iconst 4, 1), (4, .imul, 1), (5, .ishl, 1), (6, .iadd, 1), (7, .iload_n 2, 1), (8, .bipush 24, 2), (10, .ishl, 1), (11, .iadd, 1), (12, .ireturn, 1)]
theorem d_X0_monomial : gt_dok cX0_monomial cs_X0_monomial := gt_dok_of (by decide +kernel)
def cs_X0_degree : List gt_I := [(0, .iload_n 0, 1), (1, .bipush 24, 2), (3, .ishr, 1), (4, .ireturn, 1)]
theorem d_X0_degree : gt_dok cX0_degree cs_X0_degree := gt_dok_of (by decide +kernel)
def cs_X0_powerOf : List gt_I := [(0, .iload_n 0, 1), (1, .iload_n 1, 1), (2, .iconst 4, 1), (3, .imul, 1), (4, .ishr, 1), (5, .bipush 15, 2), (7, .iand, 1), (8, .ireturn, 1)]
theorem d_X0_powerOf : gt_dok cX0_powerOf cs_X0_powerOf := gt_dok_of (by decide +kernel)
def cs_X0_countHeaps : List gt_I := [(0, .iconst 0, 1), (1, .istore_n 3, 1), (2, .iload_n 3, 1), (3, .aload_n 0, 1), (4, .getfield 25, 3), (7, .iconst 1, 1), (8, .iaload, 1), (9, .if_icmp .ge 137, 3), (12, .aload_n 0, 1), (13, .getfield 22, 3), (16, .iconst 1, 1), (17, .aaload, 1), (18, .iload_n 3, 1), (19, .iaload, 1), (20, .istore 4, 2), (22, .aload_n 0, 1), (23, .getfield 29, 3), (26, .iconst 0, 1), (27, .aload_n 0, 1), (28, .getfield 42, 3), (31, .iload 4, 2), (33, .invokestatic 79, 3), (36, .isub, 1), (37, .iastore, 1), (38, .aload_n 0, 1), (39, .getfield 42, 3), (42, .invokestatic 83, 3), (45, .aload_n 0, 1), (46, .getfield 29, 3), (49, .iconst 0, 1), (50, .iaload, 1), (51, .invokestatic 83, 3), (54, .ldiv, 1), (55, .iload 4, 2), (57, .aload_n 0, 1), (58, .getfield 50, 3), (61, .invokestatic 87, 3), (64, .invokestatic 83, 3), (67, .ldiv, 1), (68, .lstore 5, 2), (70, .iconst 1, 1), (71, .istore 7, 2), (73, .iload 7, 2), (75, .aload_n 0, 1), (76, .getfield 50, 3), (79, .if_icmp .ge 38, 3), (82, .aload_n 0, 1), (83, .getfield 29, 3), (86, .iload 7, 2), (88, .iload 4, 2), (90, .iload 7, 2), (92, .invokestatic 87, 3), (95, .iastore, 1), (96, .lload 5, 2), (98, .aload_n 0, 1), (99, .getfield 29, 3), (102, .iload 7, 2), (104, .iaload, 1), (105, .invokestatic 83, 3), (108, .ldiv, 1), (109, .lstore 5, 2), (111, .iinc 7 1, 3), (114, .goto (-41), 3), (117, .aload_n 2, 1), (118, .aload_n 1, 1), (119, .aload_n 0, 1), (120, .getfield 29, 3), (123, .invokevirtual 91, 3), (126, .aload_n 0, 1), (127, .getfield 11, 3), (130, .iload_n 3, 1), (131, .lload 5, 2), (133, .aload_n 2, 1), (134, .getfield 97, 3), (137, .i2l, 1), (138, .lmul, 1), (139, .lastore, 1), (140, .iinc 3 1, 3), (143, .goto (-141), 3), (146, .return_, 1)]
theorem d_X0_countHeaps : gt_dok cX0_countHeaps cs_X0_countHeaps := gt_dok_of (by decide +kernel)
def cs_X0_factorial : List gt_I := [(0, .lconst 1, 1), (1, .lstore_n 1, 1), (2, .iconst 2, 1), (3, .istore_n 3, 1), (4, .iload_n 3, 1), (5, .iload_n 0, 1), (6, .if_icmp .gt 14, 3), (9, .lload_n 1, 1), (10, .iload_n 3, 1), (11, .i2l, 1), (12, .lmul, 1), (13, .lstore_n 1, 1), (14, .iinc 3 1, 3), (17, .goto (-13), 3), (20, .lload_n 1, 1), (21, .lreturn, 1)]
theorem d_X0_factorial : gt_dok cX0_factorial cs_X0_factorial := gt_dok_of (by decide +kernel)
def cs_X0_spread : List gt_I := [(0, .iload_n 2, 1), (1, .istore_n 3, 1), (2, .iload_n 3, 1), (3, .ifCond .lt 64, 3), (6, .aload_n 0, 1), (7, .getfield 32, 3), (10, .iload_n 1, 1), (11, .iload_n 3, 1), (12, .iastore, 1), (13, .iload_n 1, 1), (14, .ifCond .ne 11, 3), (17, .aload_n 0, 1), (18, .iload_n 3, 1), (19, .invokevirtual 100, 3), (22, .goto 9, 3), (25, .aload_n 0, 1), (26, .iload_n 1, 1), (27, .iload_n 3, 1), (28, .invokevirtual 104, 3), (31, .iload_n 1, 1), (32, .iconst 1, 1), (33, .iadd, 1), (34, .aload_n 0, 1), (35, .getfield 50, 3), (38, .if_icmp .ge 16, 3), (41, .aload_n 0, 1), (42, .iload_n 1, 1), (43, .iconst 1, 1), (44, .iadd, 1), (45, .iload_n 2, 1), (46, .iload_n 3, 1), (47, .isub, 1), (48, .invokevirtual 64, 3), (51, .goto 10, 3), (54, .aload_n 0, 1), (55, .iload_n 2, 1), (56, .iload_n 3, 1), (57, .isub, 1), (58, .invokevirtual 107, 3), (61, .iinc 3 (-1), 3), (64, .goto (-62), 3), (67, .return_, 1)]
theorem d_X0_spread : gt_dok cX0_spread cs_X0_spread := gt_dok_of (by decide +kernel)
def cs_X0_putFirst : List gt_I := [(0, .iconst 0, 1), (1, .istore_n 2, 1), (2, .iload_n 2, 1), (3, .aload_n 0, 1), (4, .getfield 25, 3), (7, .iconst 1, 1), (8, .iaload, 1), (9, .if_icmp .ge 59, 3), (12, .aload_n 0, 1), (13, .getfield 11, 3), (16, .iload_n 2, 1), (17, .laload, 1), (18, .lstore_n 3, 1), (19, .aload_n 0, 1), (20, .getfield 42, 3), (23, .aload_n 0, 1), (24, .getfield 22, 3), (27, .iconst 1, 1), (28, .aaload, 1), (29, .iload_n 2, 1), (30, .iaload, 1), (31, .invokestatic 79, 3), (34, .isub, 1), (35, .istore 5, 2), (37, .iload 5, 2), (39, .ifCond .le 14, 3), (42, .lload_n 3, 1), (43, .iload_n 1, 1), (44, .i2l, 1), (45, .lmul, 1), (46, .lstore_n 3, 1), (47, .iinc 5 (-1), 3), (50, .goto (-13), 3), (53, .aload_n 0, 1), (54, .getfield 17, 3), (57, .iconst 1, 1), (58, .aaload, 1), (59, .iload_n 2, 1), (60, .lload_n 3, 1), (61, .lastore, 1), (62, .iinc 2 1, 3), (65, .goto (-63), 3), (68, .return_, 1)]
theorem d_X0_putFirst : gt_dok cX0_putFirst cs_X0_putFirst := gt_dok_of (by decide +kernel)
def cs_X0_putIn : List gt_I := [(0, .iconst 0, 1), (1, .istore_n 3, 1), (2, .iconst 0, 1), (3, .istore 4, 2), (5, .iload 4, 2), (7, .aload_n 0, 1), (8, .getfield 25, 3), (11, .iload_n 1, 1), (12, .iconst 1, 1), (13, .iadd, 1), (14, .iaload, 1), (15, .if_icmp .ge 87, 3), (18, .aload_n 0, 1), (19, .getfield 42, 3), (22, .aload_n 0, 1), (23, .getfield 22, 3), (26, .iload_n 1, 1), (27, .iconst 1, 1), (28, .iadd, 1), (29, .aaload, 1), (30, .iload 4, 2), (32, .iaload, 1), (33, .invokestatic 79, 3), (36, .isub, 1), (37, .istore 5, 2), (39, .lconst 0, 1), (40, .lstore 6, 2), (42, .iload 5, 2), (44, .istore 8, 2), (46, .iload 8, 2), (48, .ifCond .lt 28, 3), (51, .lload 6, 2), (53, .iload_n 2, 1), (54, .i2l, 1), (55, .lmul, 1), (56, .aload_n 0, 1), (57, .getfield 17, 3), (60, .iload_n 1, 1), (61, .aaload, 1), (62, .iload_n 3, 1), (63, .iload 8, 2), (65, .iadd, 1), (66, .laload, 1), (67, .ladd, 1), (68, .lstore 6, 2), (70, .iinc 8 (-1), 3), (73, .goto (-27), 3), (76, .aload_n 0, 1), (77, .getfield 17, 3), (80, .iload_n 1, 1), (81, .iconst 1, 1), (82, .iadd, 1), (83, .aaload, 1), (84, .iload 4, 2), (86, .lload 6, 2), (88, .lastore, 1), (89, .iload_n 3, 1), (90, .iload 5, 2), (92, .iconst 1, 1), (93, .iadd, 1), (94, .iadd, 1), (95, .istore_n 3, 1), (96, .iinc 4 1, 3), (99, .goto (-94), 3), (102, .return_, 1)]
theorem d_X0_putIn : gt_dok cX0_putIn cs_X0_putIn := gt_dok_of (by decide +kernel)
def cs_X0_compare : List gt_I := [(0, .lconst 0, 1), (1, .lstore_n 2, 1), (2, .aload_n 0, 1), (3, .getfield 42, 3), (6, .istore 4, 2), (8, .iload 4, 2), (10, .ifCond .lt 27, 3), (13, .lload_n 2, 1), (14, .iload_n 1, 1), (15, .i2l, 1), (16, .lmul, 1), (17, .aload_n 0, 1), (18, .getfield 17, 3), (21, .aload_n 0, 1), (22, .getfield 50, 3), (25, .aaload, 1), (26, .iload 4, 2), (28, .laload, 1), (29, .ladd, 1), (30, .lstore_n 2, 1), (31, .iinc 4 (-1), 3), (34, .goto (-26), 3), (37, .lload_n 2, 1), (38, .aload_n 0, 1), (39, .getfield 60, 3), (42, .lcmp, 1), (43, .ifCond .le 32, 3), (46, .aload_n 0, 1), (47, .lload_n 2, 1), (48, .putfield 60, 3), (51, .aload_n 0, 1), (52, .getfield 32, 3), (55, .aload_n 0, 1), (56, .getfield 50, 3), (59, .iload_n 1, 1), (60, .iastore, 1), (61, .aload_n 0, 1), (62, .getfield 32, 3), (65, .iconst 0, 1), (66, .aload_n 0, 1), (67, .getfield 35, 3), (70, .iconst 0, 1), (71, .iconst 5, 1), (72, .invokestatic 110, 3), (75, .return_, 1)]
theorem d_X0_compare : gt_dok cX0_compare cs_X0_compare := gt_dok_of (by decide +kernel)
def cs_X1_weigh : List gt_I := [(0, .aload_n 0, 1), (1, .iconst 0, 1), (2, .putfield 52, 3), (5, .iconst 0, 1), (6, .istore_n 3, 1), (7, .iload_n 3, 1), (8, .aload_n 1, 1), (9, .getfield 55, 3), (12, .if_icmp .ge 68, 3), (15, .aload_n 1, 1), (16, .iload_n 3, 1), (17, .iconst 0, 1), (18, .invokevirtual 58, 3), (21, .istore 4, 2), (23, .aload_n 2, 1), (24, .iload_n 3, 1), (25, .iaload, 1), (26, .iload 4, 2), (28, .invokestatic 62, 3), (31, .istore 5, 2), (33, .aload_n 0, 1), (34, .dup, 1), (35, .getfield 52, 3), (38, .iload 5, 2), (40, .aload_n 1, 1), (41, .iload_n 3, 1), (42, .iconst 1, 1), (43, .invokevirtual 58, 3), (46, .imul, 1), (47, .iadd, 1), (48, .putfield 52, 3), (51, .aload_n 0, 1), (52, .getfield 9, 3), (55, .iload_n 3, 1), (56, .aload_n 2, 1), (57, .iload_n 3, 1), (58, .iaload, 1), (59, .iload 5, 2), (61, .isub, 1), (62, .iastore, 1), (63, .aload_n 0, 1), (64, .getfield 15, 3), (67, .iload_n 3, 1), (68, .iload 4, 2), (70, .iload 5, 2), (72, .isub, 1), (73, .iastore, 1), (74, .iinc 3 1, 3), (77, .goto (-70), 3), (80, .iconst 0, 1), (81, .istore_n 3, 1), (82, .iload_n 3, 1), (83, .aload_n 1, 1), (84, .getfield 55, 3), (87, .if_icmp .ge 15, 3), (90, .aload_n 0, 1), (91, .aload_n 1, 1), (92, .iload_n 3, 1), (93, .invokevirtual 67, 3), (96, .iinc 3 1, 3), (99, .goto (-17), 3), (102, .aload_n 0, 1), (103, .iconst 0, 1), (104, .putfield 71, 3), (107, .aload_n 0, 1), (108, .iconst 0, 1), (109, .putfield 74, 3), (112, .iconst 0, 1), (113, .istore_n 3, 1), (114, .iload_n 3, 1), (115, .aload_n 1, 1), (116, .getfield 55, 3), (119, .if_icmp .ge 109, 3), (122, .aload_n 0, 1), (123, .dup, 1), (124, .getfield 52, 3), (127, .aload_n 0, 1), (128, .getfield 9, 3), (131, .iload_n 3, 1), (132, .iaload, 1), (133, .aload_n 1, 1), (134, .iload_n 3, 1), (135, .iconst 2, 1), (136, .invokevirtual 58, 3), (139, .imul, 1), (140, .iadd, 1), (141, .putfield 52, 3), (144, .aload_n 0, 1), (145, .dup, 1), (146, .getfield 71, 3), (149, .aload_n 0, 1), (150, .getfield 9, 3), (153, .iload_n 3, 1), (154, .iaload, 1), (155, .iadd, 1), (156, .putfield 71, 3), (159, .aload_n 0, 1), (160, .dup, 1), (161, .getfield 74, 3), (164, .aload_n 0, 1), (165, .getfield 15, 3), (168, .iload_n 3, 1), (169, .iaload, 1), (170, .iadd, 1), (171, .putfield 74, 3), (174, .iconst 0, 1), (175, .istore 4, 2), (177, .iload 4, 2), (179, .iload_n 3, 1), (180, .if_icmp .ge 42, 3), (183, .aload_n 2, 1), (184, .iload_n 3, 1), (185, .iaload, 1), (186, .ifCond .le 30, 3), (189, .aload_n 2, 1), (190, .iload 4, 2), (192, .iaload, 1), (193, .ifCond .le 23, 3), (196, .aload_n 0, 1), (197, .dup, 1), (198, .getfield 52, 3), (201, .aload_n 1, 1), (202, .getfield 77, 3), (205, .iload_n 3, 1), (206, .iconst 4, 1), (207, .imul, 1), (208, .iload 4, 2), (210, .iadd, 1), (211, .iaload, 1), (212, .iadd, 1), (213, .putfield 52, 3), (216, .iinc 4 1, 3), (219, .goto (-42), 3), (222, .iinc 3 1, 3), (225, .goto (-111), 3), (228, .return_, 1)]
theorem d_X1_weigh : gt_dok cX1_weigh cs_X1_weigh := gt_dok_of (by decide +kernel)
def cs_X1_makeUp : List gt_I := [(0, .aload_n 1, 1), (1, .getfield 80, 3), (4, .iload_n 2, 1), (5, .iaload, 1), (6, .istore_n 3, 1), (7, .iload_n 3, 1), (8, .ifCond .lt 11, 3), (11, .iload_n 3, 1), (12, .aload_n 1, 1), (13, .getfield 55, 3), (16, .if_icmp .lt 4, 3), (19, .return_, 1), (20, .aload_n 0, 1), (21, .getfield 15, 3), (24, .iload_n 2, 1), (25, .iaload, 1), (26, .aload_n 0, 1), (27, .getfield 9, 3), (30, .iload_n 3, 1), (31, .iaload, 1), (32, .invokestatic 62, 3), (35, .istore 4, 2), (37, .aload_n 0, 1), (38, .dup, 1), (39, .getfield 52, 3), (42, .iload 4, 2), (44, .aload_n 1, 1), (45, .iload_n 2, 1), (46, .iconst 1, 1), (47, .invokevirtual 58, 3), (50, .aload_n 1, 1), (51, .getfield 83, 3), (54, .iload_n 2, 1), (55, .iaload, 1), (56, .imul, 1), (57, .bipush 100, 2), (59, .idiv, 1), (60, .imul, 1), (61, .iadd, 1), (62, .putfield 52, 3), (65, .aload_n 0, 1), (66, .getfield 9, 3), (69, .iload_n 3, 1), (70, .dup2, 1), (71, .iaload, 1), (72, .iload 4, 2), (74, .isub, 1), (75, .iastore, 1), (76, .aload_n 0, 1), (77, .getfield 15, 3), (80, .iload_n 2, 1), (81, .dup2, 1), (82, .iaload, 1), (83, .iload 4, 2), (85, .isub, 1), (86, .iastore, 1), (87, .return_, 1)]
theorem d_X1_makeUp : gt_dok cX1_makeUp cs_X1_makeUp := gt_dok_of (by decide +kernel)
def cs_X1_findChange : List gt_I := [(0, .aload_n 0, 1), (1, .aload_n 1, 1), (2, .aload_n 2, 1), (3, .invokevirtual 86, 3), (6, .aload_n 0, 1), (7, .getfield 52, 3), (10, .istore 4, 2), (12, .aload_n 0, 1), (13, .iconst 0, 1), (14, .putfield 90, 3), (17, .aload_n 0, 1), (18, .iconst (-1), 1), (19, .putfield 93, 3), (22, .aload_n 0, 1), (23, .iconst (-1), 1), (24, .putfield 96, 3), (27, .iconst 0, 1), (28, .istore 5, 2), (30, .iload 5, 2), (32, .aload_n 1, 1), (33, .getfield 55, 3), (36, .if_icmp .ge 84, 3), (39, .aload_n 1, 1), (40, .iload 5, 2), (42, .iconst 1, 1), (43, .invokevirtual 58, 3), (46, .iload_n 3, 1), (47, .imul, 1), (48, .bipush 100, 2), (50, .idiv, 1), (51, .istore 6, 2), (53, .iconst 0, 1), (54, .istore 7, 2), (56, .iload 7, 2), (58, .aload_n 1, 1), (59, .getfield 55, 3), (62, .if_icmp .ge 52, 3), (65, .aload_n 2, 1), (66, .iload 5, 2), (68, .iaload, 1), (69, .aload_n 1, 1), (70, .iload 5, 2), (72, .iconst 0, 1), (73, .invokevirtual 58, 3), (76, .if_icmp .le 32, 3), (79, .aload_n 2, 1), (80, .iload 7, 2), (82, .iaload, 1), (83, .aload_n 1, 1), (84, .iload 7, 2), (86, .iconst 0, 1), (87, .invokevirtual 58, 3), (90, .if_icmp .ge 18, 3), (93, .aload_n 0, 1), (94, .aload_n 1, 1), (95, .aload_n 2, 1), (96, .iload 5, 2), (98, .iload 7, 2), (100, .iload 4, 2), (102, .iload 6, 2), (104, .iadd, 1), (105, .invokevirtual 99, 3), (108, .iinc 7 1, 3), (111, .goto (-55), 3), (114, .iinc 5 1, 3), (117, .goto (-87), 3), (120, .return_, 1)]
theorem d_X1_findChange : gt_dok cX1_findChange cs_X1_findChange := gt_dok_of (by decide +kernel)
def cs_X1_tryChange : List gt_I := [(0, .aload_n 2, 1), (1, .iload_n 3, 1), (2, .dup2, 1), (3, .iaload, 1), (4, .iconst 1, 1), (5, .isub, 1), (6, .iastore, 1), (7, .aload_n 2, 1), (8, .iload 4, 2), (10, .dup2, 1), (11, .iaload, 1), (12, .iconst 1, 1), (13, .iadd, 1), (14, .iastore, 1), (15, .aload_n 0, 1), (16, .aload_n 1, 1), (17, .aload_n 2, 1), (18, .invokevirtual 86, 3), (21, .aload_n 2, 1), (22, .iload_n 3, 1), (23, .dup2, 1), (24, .iaload, 1), (25, .iconst 1, 1), (26, .iadd, 1), (27, .iastore, 1), (28, .aload_n 2, 1), (29, .iload 4, 2), (31, .dup2, 1), (32, .iaload, 1), (33, .iconst 1, 1), (34, .isub, 1), (35, .iastore, 1), (36, .aload_n 0, 1), (37, .getfield 52, 3), (40, .iload 5, 2), (42, .isub, 1), (43, .aload_n 0, 1), (44, .getfield 90, 3), (47, .if_icmp .le 25, 3), (50, .aload_n 0, 1), (51, .aload_n 0, 1), (52, .getfield 52, 3), (55, .iload 5, 2), (57, .isub, 1), (58, .putfield 90, 3), (61, .aload_n 0, 1), (62, .iload_n 3, 1), (63, .putfield 93, 3), (66, .aload_n 0, 1), (67, .iload 4, 2), (69, .putfield 96, 3), (72, .return_, 1)]
theorem d_X1_tryChange : gt_dok cX1_tryChange cs_X1_tryChange := gt_dok_of (by decide +kernel)
def cs_X1_after : List gt_I := [(0, .iload_n 1, 1), (1, .iconst 4, 1), (2, .imul, 1), (3, .iload_n 2, 1), (4, .iadd, 1), (5, .istore_n 3, 1), (6, .iload_n 2, 1), (7, .iconst 4, 1), (8, .if_icmp .eq 16, 3), (11, .iload_n 3, 1), (12, .ifCond .lt 12, 3), (15, .iload_n 3, 1), (16, .aload_n 0, 1), (17, .getfield 34, 3), (20, .arraylength, 1), (21, .if_icmp .lt 7, 3), (24, .iload_n 1, 1), (25, .goto 9, 3), (28, .aload_n 0, 1), (29, .getfield 34, 3), (32, .iload_n 3, 1), (33, .iaload, 1), (34, .ireturn, 1)]
theorem d_X1_after : gt_dok cX1_after cs_X1_after := gt_dok_of (by decide +kernel)
def cs_X1_price : List gt_I := [(0, .aload_n 0, 1), (1, .getfield 25, 3), (4, .iload_n 3, 1), (5, .if_icmp .ne 4, 3), (8, .return_, 1), (9, .aload_n 0, 1), (10, .iload_n 3, 1), (11, .putfield 25, 3), (14, .aload_n 0, 1), (15, .aload_n 1, 1), (16, .getfield 55, 3), (19, .invokevirtual 103, 3), (22, .iconst 0, 1), (23, .istore 4, 2), (25, .iload 4, 2), (27, .aload_n 0, 1), (28, .getfield 28, 3), (31, .iload_n 2, 1), (32, .iaload, 1), (33, .if_icmp .ge 68, 3), (36, .aload_n 0, 1), (37, .getfield 31, 3), (40, .iload 4, 2), (42, .iconst 4, 1), (43, .imul, 1), (44, .aload_n 0, 1), (45, .getfield 18, 3), (48, .iconst 0, 1), (49, .iconst 4, 1), (50, .invokestatic 107, 3), (53, .aload_n 0, 1), (54, .aload_n 1, 1), (55, .aload_n 0, 1), (56, .getfield 18, 3), (59, .invokevirtual 86, 3), (62, .aload_n 0, 1), (63, .getfield 43, 3), (66, .iload 4, 2), (68, .aload_n 0, 1), (69, .getfield 52, 3), (72, .iastore, 1), (73, .aload_n 0, 1), (74, .getfield 46, 3), (77, .iload 4, 2), (79, .aload_n 0, 1), (80, .getfield 71, 3), (83, .iastore, 1), (84, .aload_n 0, 1), (85, .getfield 49, 3), (88, .iload 4, 2), (90, .aload_n 0, 1), (91, .getfield 74, 3), (94, .iastore, 1), (95, .iinc 4 1, 3), (98, .goto (-73), 3), (101, .return_, 1)]
theorem d_X1_price : gt_dok cX1_price cs_X1_price := gt_dok_of (by decide +kernel)
def cs_X1_shape : List gt_I := [(0, .aload_n 0, 1), (1, .getfield 21, 3), (4, .iload_n 1, 1), (5, .if_icmp .ne 4, 3), (8, .return_, 1), (9, .aload_n 0, 1), (10, .iload_n 1, 1), (11, .putfield 21, 3), (14, .iconst 1, 1), (15, .istore_n 2, 1), (16, .iconst 0, 1), (17, .istore_n 3, 1), (18, .aload_n 0, 1), (19, .getfield 28, 3), (22, .iconst 0, 1), (23, .iconst 1, 1), (24, .iastore, 1), (25, .iconst 0, 1), (26, .istore 4, 2), (28, .iload 4, 2), (30, .bipush 12, 2), (32, .if_icmp .ge 63, 3), (35, .iload_n 3, 1), (36, .aload_n 0, 1), (37, .getfield 28, 3), (40, .iload 4, 2), (42, .iaload, 1), (43, .if_icmp .ge 36, 3), (46, .iconst 0, 1), (47, .istore 5, 2), (49, .iload 5, 2), (51, .aload_n 0, 1), (52, .getfield 21, 3), (55, .if_icmp .ge 18, 3), (58, .aload_n 0, 1), (59, .iload_n 3, 1), (60, .iload 5, 2), (62, .iload_n 2, 1), (63, .invokevirtual 113, 3), (66, .istore_n 2, 1), (67, .iinc 5 1, 3), (70, .goto (-21), 3), (73, .iinc 3 1, 3), (76, .goto (-41), 3), (79, .aload_n 0, 1), (80, .getfield 28, 3), (83, .iload 4, 2), (85, .iconst 1, 1), (86, .iadd, 1), (87, .iload_n 2, 1), (88, .iastore, 1), (89, .iinc 4 1, 3), (92, .goto (-64), 3), (95, .return_, 1)]
theorem d_X1_shape : gt_dok cX1_shape cs_X1_shape := gt_dok_of (by decide +kernel)
def cs_X1_grow : List gt_I := [(0, .iload_n 1, 1), (1, .iconst 4, 1), (2, .imul, 1), (3, .iload_n 2, 1), (4, .iadd, 1), (5, .istore 4, 2), (7, .iload_n 2, 1), (8, .aload_n 0, 1), (9, .getfield 40, 3), (12, .iload_n 1, 1), (13, .iaload, 1), (14, .if_icmp .ge 45, 3), (17, .aload_n 0, 1), (18, .getfield 34, 3), (21, .aload_n 0, 1), (22, .getfield 37, 3), (25, .iload_n 1, 1), (26, .iaload, 1), (27, .iconst 4, 1), (28, .imul, 1), (29, .iload_n 2, 1), (30, .iadd, 1), (31, .iaload, 1), (32, .istore 5, 2), (34, .aload_n 0, 1), (35, .getfield 34, 3), (38, .iload 4, 2), (40, .aload_n 0, 1), (41, .getfield 34, 3), (44, .iload 5, 2), (46, .iconst 4, 1), (47, .imul, 1), (48, .aload_n 0, 1), (49, .getfield 40, 3), (52, .iload_n 1, 1), (53, .iaload, 1), (54, .iadd, 1), (55, .iaload, 1), (56, .iastore, 1), (57, .iload_n 3, 1), (58, .ireturn, 1), (59, .iload_n 3, 1), (60, .sipush 1820, 3), (63, .if_icmp .lt 5, 3), (66, .iload_n 3, 1), (67, .ireturn, 1), (68, .aload_n 0, 1), (69, .getfield 34, 3), (72, .iload 4, 2), (74, .iload_n 3, 1), (75, .iastore, 1), (76, .aload_n 0, 1), (77, .getfield 37, 3), (80, .iload_n 3, 1), (81, .iload_n 1, 1), (82, .iastore, 1), (83, .aload_n 0, 1), (84, .getfield 40, 3), (87, .iload_n 3, 1), (88, .iload_n 2, 1), (89, .iastore, 1), (90, .aload_n 0, 1), (91, .getfield 31, 3), (94, .iload_n 1, 1), (95, .iconst 4, 1), (96, .imul, 1), (97, .aload_n 0, 1), (98, .getfield 31, 3), (101, .iload_n 3, 1), (102, .iconst 4, 1), (103, .imul, 1), (104, .iconst 4, 1), (105, .invokestatic 107, 3), (108, .aload_n 0, 1), (109, .getfield 31, 3), (112, .iload_n 3, 1), (113, .iconst 4, 1), (114, .imul, 1), (115, .iload_n 2, 1), (116, .iadd, 1), (117, .dup2, 1), (118, .iaload, 1), (119, .iconst 1, 1), (120, .iadd, 1), (121, .iastore, 1), (122, .iload_n 3, 1), (123, .iconst 1, 1), (124, .iadd, 1), (125, .ireturn, 1)]
theorem d_X1_grow : gt_dok cX1_grow cs_X1_grow := gt_dok_of (by decide +kernel)
def cs_X2_work : List gt_I := [(0, .aload_n 0, 1), (1, .getfield 39, 3), (4, .iload_n 3, 1), (5, .if_icmp .ne 4, 3), (8, .return_, 1), (9, .aload_n 0, 1), (10, .iload_n 3, 1), (11, .putfield 39, 3), (14, .aload_n 2, 1), (15, .getfield 43, 3), (18, .aload_n 1, 1), (19, .getfield 46, 3), (22, .iaload, 1), (23, .istore 4, 2), (25, .aload_n 0, 1), (26, .getfield 13, 3), (29, .iconst 0, 1), (30, .iload 4, 2), (32, .lconst 0, 1), (33, .invokestatic 51, 3), (36, .aload_n 0, 1), (37, .getfield 17, 3), (40, .iconst 0, 1), (41, .iload 4, 2), (43, .lconst 0, 1), (44, .invokestatic 51, 3), (47, .aload_n 0, 1), (48, .getfield 20, 3), (51, .iconst 0, 1), (52, .iload 4, 2), (54, .lconst 0, 1), (55, .invokestatic 51, 3), (58, .aload_n 0, 1), (59, .getfield 13, 3), (62, .iconst 0, 1), (63, .lconst 1, 1), (64, .lastore, 1), (65, .aload_n 0, 1), (66, .getfield 23, 3), (69, .lconst 1, 1), (70, .invokestatic 57, 3), (73, .aload_n 0, 1), (74, .getfield 26, 3), (77, .lconst 0, 1), (78, .invokestatic 57, 3), (81, .iconst 0, 1), (82, .istore 5, 2), (84, .iload 5, 2), (86, .aload_n 1, 1), (87, .getfield 46, 3), (90, .if_icmp .ge 37, 3), (93, .aload_n 0, 1), (94, .aload_n 1, 1), (95, .iload 5, 2), (97, .invokevirtual 61, 3), (100, .aload_n 0, 1), (101, .aload_n 1, 1), (102, .aload_n 2, 1), (103, .iload 5, 2), (105, .invokevirtual 65, 3), (108, .aload_n 0, 1), (109, .aload_n 2, 1), (110, .getfield 43, 3), (113, .iload 5, 2), (115, .iconst 1, 1), (116, .iadd, 1), (117, .iaload, 1), (118, .invokevirtual 69, 3), (121, .iinc 5 1, 3), (124, .goto (-40), 3), (127, .aload_n 0, 1), (128, .getfield 35, 3), (131, .iconst 0, 1), (132, .aload_n 0, 1), (133, .aload_n 2, 1), (134, .getfield 73, 3), (137, .iload 4, 2), (139, .aload_n 0, 1), (140, .getfield 26, 3), (143, .invokevirtual 76, 3), (146, .iastore, 1), (147, .aload_n 0, 1), (148, .getfield 26, 3), (151, .lconst 0, 1), (152, .invokestatic 57, 3), (155, .aload_n 0, 1), (156, .getfield 35, 3), (159, .iconst 1, 1), (160, .aload_n 0, 1), (161, .aload_n 2, 1), (162, .getfield 80, 3), (165, .iload 4, 2), (167, .aload_n 0, 1), (168, .getfield 26, 3), (171, .invokevirtual 76, 3), (174, .iastore, 1), (175, .aload_n 0, 1), (176, .getfield 35, 3), (179, .iconst 2, 1), (180, .aload_n 0, 1), (181, .aload_n 2, 1), (182, .getfield 83, 3), (185, .iload 4, 2), (187, .aload_n 0, 1), (188, .getfield 26, 3), (191, .invokevirtual 76, 3), (194, .iastore, 1), (195, .return_, 1)]
theorem d_X2_work : gt_dok cX2_work cs_X2_work := gt_dok_of (by decide +kernel)
def cs_X2_addMoney : List gt_I := [(0, .aload_n 1, 1), (1, .iload_n 2, 1), (2, .invokevirtual 86, 3), (5, .istore_n 3, 1), (6, .aload_n 0, 1), (7, .getfield 23, 3), (10, .iconst 0, 1), (11, .aload_n 0, 1), (12, .getfield 29, 3), (15, .iconst 0, 1), (16, .iconst 4, 1), (17, .invokestatic 90, 3), (20, .aload_n 0, 1), (21, .getfield 29, 3), (24, .aload_n 1, 1), (25, .getfield 96, 3), (28, .iload_n 2, 1), (29, .iconst 5, 1), (30, .imul, 1), (31, .iconst 4, 1), (32, .iadd, 1), (33, .iaload, 1), (34, .invokestatic 99, 3), (37, .aload_n 0, 1), (38, .getfield 29, 3), (41, .aload_n 1, 1), (42, .getfield 103, 3), (45, .iload_n 2, 1), (46, .iaload, 1), (47, .invokestatic 99, 3), (50, .aload_n 0, 1), (51, .getfield 26, 3), (54, .iload_n 3, 1), (55, .invokestatic 99, 3), (58, .aload_n 0, 1), (59, .getfield 26, 3), (62, .aload_n 0, 1), (63, .getfield 29, 3), (66, .invokestatic 105, 3), (69, .aload_n 0, 1), (70, .getfield 23, 3), (73, .iload_n 3, 1), (74, .invokestatic 99, 3), (77, .return_, 1)]
theorem d_X2_addMoney : gt_dok cX2_addMoney cs_X2_addMoney := gt_dok_of (by decide +kernel)
def cs_X2_addGifts : List gt_I := [(0, .iload_n 3, 1), (1, .iconst 5, 1), (2, .imul, 1), (3, .istore 4, 2), (5, .aload_n 2, 1), (6, .getfield 43, 3), (9, .iload_n 3, 1), (10, .iaload, 1), (11, .iconst 1, 1), (12, .isub, 1), (13, .istore 5, 2), (15, .iload 5, 2), (17, .ifCond .lt 190, 3), (20, .aload_n 0, 1), (21, .getfield 13, 3), (24, .iload 5, 2), (26, .laload, 1), (27, .lstore 6, 2), (29, .aload_n 0, 1), (30, .getfield 17, 3), (33, .iload 5, 2), (35, .laload, 1), (36, .lstore 8, 2), (38, .aload_n 0, 1), (39, .getfield 20, 3), (42, .iload 5, 2), (44, .laload, 1), (45, .lstore 10, 2), (47, .lload 6, 2), (49, .lload 8, 2), (51, .lor, 1), (52, .lload 10, 2), (54, .lor, 1), (55, .lconst 0, 1), (56, .lcmp, 1), (57, .ifCond .ne 6, 3), (60, .goto 141, 3), (63, .aload_n 1, 1), (64, .getfield 96, 3), (67, .iload 4, 2), (69, .iconst 4, 1), (70, .iadd, 1), (71, .iaload, 1), (72, .i2l, 1), (73, .lstore 12, 2), (75, .aload_n 0, 1), (76, .getfield 13, 3), (79, .iload 5, 2), (81, .lload 6, 2), (83, .lload 12, 2), (85, .lmul, 1), (86, .lastore, 1), (87, .aload_n 0, 1), (88, .getfield 17, 3), (91, .iload 5, 2), (93, .lload 8, 2), (95, .lload 12, 2), (97, .lmul, 1), (98, .lastore, 1), (99, .aload_n 0, 1), (100, .getfield 20, 3), (103, .iload 5, 2), (105, .lload 10, 2), (107, .lload 12, 2), (109, .lmul, 1), (110, .lastore, 1), (111, .iconst 0, 1), (112, .istore 14, 2), (114, .iload 14, 2), (116, .iconst 4, 1), (117, .if_icmp .ge 84, 3), (120, .aload_n 1, 1), (121, .getfield 96, 3), (124, .iload 4, 2), (126, .iload 14, 2), (128, .iadd, 1), (129, .iaload, 1), (130, .i2l, 1), (131, .lstore 12, 2), (133, .lload 12, 2), (135, .lconst 0, 1), (136, .lcmp, 1), (137, .ifCond .le 58, 3), (140, .aload_n 2, 1), (141, .iload 5, 2), (143, .iload 14, 2), (145, .invokevirtual 109, 3), (148, .istore 15, 2), (150, .aload_n 0, 1), (151, .getfield 13, 3), (154, .iload 15, 2), (156, .dup2, 1), (157, .laload, 1), (158, .lload 6, 2), (160, .lload 12, 2), (162, .lmul, 1), (163, .ladd, 1), (164, .lastore, 1), (165, .aload_n 0, 1), (166, .getfield 17, 3), (169, .iload 15, 2), (171, .dup2, 1), (172, .laload, 1), (173, .lload 8, 2), (175, .lload 12, 2), (177, .lmul, 1), (178, .ladd, 1), (179, .lastore, 1), (180, .aload_n 0, 1), (181, .getfield 20, 3), (184, .iload 15, 2), (186, .dup2, 1), (187, .laload, 1), (188, .lload 10, 2), (190, .lload 12, 2), (192, .lmul, 1), (193, .ladd, 1), (194, .lastore, 1), (195, .iinc 14 1, 3), (198, .goto (-84), 3), (201, .iinc 5 (-1), 3), (204, .goto (-189), 3), (207, .return_, 1)]
theorem d_X2_addGifts : gt_dok cX2_addGifts cs_X2_addGifts := gt_dok_of (by decide +kernel)
def cs_X2_carryAll : List gt_I := [(0, .iconst 0, 1), (1, .istore_n 2, 1), (2, .iload_n 2, 1), (3, .iload_n 1, 1), (4, .if_icmp .ge 69, 3), (7, .aload_n 0, 1), (8, .getfield 17, 3), (11, .iload_n 2, 1), (12, .dup2, 1), (13, .laload, 1), (14, .aload_n 0, 1), (15, .getfield 13, 3), (18, .iload_n 2, 1), (19, .laload, 1), (20, .bipush 50, 2), (22, .lshr, 1), (23, .ladd, 1), (24, .lastore, 1), (25, .aload_n 0, 1), (26, .getfield 13, 3), (29, .iload_n 2, 1), (30, .dup2, 1), (31, .laload, 1), (32, .ldc2_w 113, 3), (35, .land, 1), (36, .lastore, 1), (37, .aload_n 0, 1), (38, .getfield 20, 3), (41, .iload_n 2, 1), (42, .dup2, 1), (43, .laload, 1), (44, .aload_n 0, 1), (45, .getfield 17, 3), (48, .iload_n 2, 1), (49, .laload, 1), (50, .bipush 50, 2), (52, .lshr, 1), (53, .ladd, 1), (54, .lastore, 1), (55, .aload_n 0, 1), (56, .getfield 17, 3), (59, .iload_n 2, 1), (60, .dup2, 1), (61, .laload, 1), (62, .ldc2_w 113, 3), (65, .land, 1), (66, .lastore, 1), (67, .iinc 2 1, 3), (70, .goto (-68), 3), (73, .return_, 1)]
theorem d_X2_carryAll : gt_dok cX2_carryAll cs_X2_carryAll := gt_dok_of (by decide +kernel)
def cs_X2_meanOf : List gt_I := [(0, .aload_n 0, 1), (1, .getfield 29, 3), (4, .lconst 0, 1), (5, .invokestatic 57, 3), (8, .iconst 0, 1), (9, .istore 4, 2), (11, .iload 4, 2), (13, .iload_n 2, 1), (14, .if_icmp .ge 115, 3), (17, .aload_n 1, 1), (18, .iload 4, 2), (20, .iaload, 1), (21, .i2l, 1), (22, .lstore 5, 2), (24, .lload 5, 2), (26, .lconst 0, 1), (27, .lcmp, 1), (28, .ifCond .le 95, 3), (31, .aload_n 0, 1), (32, .getfield 13, 3), (35, .iload 4, 2), (37, .laload, 1), (38, .aload_n 0, 1), (39, .getfield 17, 3), (42, .iload 4, 2), (44, .laload, 1), (45, .lor, 1), (46, .aload_n 0, 1), (47, .getfield 20, 3), (50, .iload 4, 2), (52, .laload, 1), (53, .lor, 1), (54, .lconst 0, 1), (55, .lcmp, 1), (56, .ifCond .eq 67, 3), (59, .aload_n 0, 1), (60, .getfield 29, 3), (63, .iconst 0, 1), (64, .dup2, 1), (65, .laload, 1), (66, .aload_n 0, 1), (67, .getfield 13, 3), (70, .iload 4, 2), (72, .laload, 1), (73, .lload 5, 2), (75, .lmul, 1), (76, .ladd, 1), (77, .lastore, 1), (78, .aload_n 0, 1), (79, .getfield 29, 3), (82, .iconst 1, 1), (83, .dup2, 1), (84, .laload, 1), (85, .aload_n 0, 1), (86, .getfield 17, 3), (89, .iload 4, 2), (91, .laload, 1), (92, .lload 5, 2), (94, .lmul, 1), (95, .ladd, 1), (96, .lastore, 1), (97, .aload_n 0, 1), (98, .getfield 29, 3), (101, .iconst 2, 1), (102, .dup2, 1), (103, .laload, 1), (104, .aload_n 0, 1), (105, .getfield 20, 3), (108, .iload 4, 2), (110, .laload, 1), (111, .lload 5, 2), (113, .lmul, 1), (114, .ladd, 1), (115, .lastore, 1), (116, .aload_n 0, 1), (117, .getfield 29, 3), (120, .invokestatic 115, 3), (123, .iinc 4 1, 3), (126, .goto (-115), 3), (129, .aload_n 0, 1), (130, .getfield 29, 3), (133, .aload_n 3, 1), (134, .invokestatic 105, 3), (137, .aload_n 0, 1), (138, .getfield 29, 3), (141, .bipush 100, 2), (143, .invokestatic 99, 3), (146, .aload_n 0, 1), (147, .invokevirtual 119, 3), (150, .ireturn, 1)]
theorem d_X2_meanOf : gt_dok cX2_meanOf cs_X2_meanOf := gt_dok_of (by decide +kernel)
def cs_X2_lacking : List gt_I := [(0, .aload_n 0, 1), (1, .getfield 29, 3), (4, .lconst 1, 1), (5, .invokestatic 57, 3), (8, .aload_n 0, 1), (9, .getfield 23, 3), (12, .lconst 1, 1), (13, .invokestatic 57, 3), (16, .iconst 0, 1), (17, .istore_n 3, 1), (18, .iload_n 3, 1), (19, .aload_n 1, 1), (20, .getfield 46, 3), (23, .if_icmp .ge 45, 3), (26, .aload_n 1, 1), (27, .iload_n 3, 1), (28, .invokevirtual 86, 3), (31, .istore 4, 2), (33, .aload_n 0, 1), (34, .getfield 29, 3), (37, .iload 4, 2), (39, .aload_n 1, 1), (40, .getfield 96, 3), (43, .iload_n 3, 1), (44, .iconst 5, 1), (45, .imul, 1), (46, .iload_n 2, 1), (47, .iadd, 1), (48, .iaload, 1), (49, .isub, 1), (50, .invokestatic 99, 3), (53, .aload_n 0, 1), (54, .getfield 23, 3), (57, .iload 4, 2), (59, .invokestatic 99, 3), (62, .iinc 3 1, 3), (65, .goto (-47), 3), (68, .aload_n 0, 1), (69, .getfield 29, 3), (72, .sipush 1000, 3), (75, .invokestatic 99, 3), (78, .aload_n 0, 1), (79, .getfield 29, 3), (82, .sipush 1000, 3), (85, .invokestatic 99, 3), (88, .aload_n 0, 1), (89, .invokevirtual 119, 3), (92, .ireturn, 1)]
theorem d_X2_lacking : gt_dok cX2_lacking cs_X2_lacking := gt_dok_of (by decide +kernel)
def cs_X2_quotient : List gt_I := [(0, .aload_n 0, 1), (1, .getfield 23, 3), (4, .iconst 0, 1), (5, .aload_n 0, 1), (6, .getfield 32, 3), (9, .iconst 0, 1), (10, .iconst 4, 1), (11, .invokestatic 90, 3), (14, .iconst 0, 1), (15, .istore_n 1, 1), (16, .iload_n 1, 1), (17, .bipush 20, 2), (19, .if_icmp .ge 17, 3), (22, .aload_n 0, 1), (23, .getfield 32, 3), (26, .iconst 2, 1), (27, .invokestatic 99, 3), (30, .iinc 1 1, 3), (33, .goto (-17), 3), (36, .iconst 0, 1), (37, .istore_n 1, 1), (38, .bipush 20, 2), (40, .istore_n 2, 1), (41, .iload_n 2, 1), (42, .ifCond .lt 47, 3), (45, .aload_n 0, 1), (46, .getfield 29, 3), (49, .aload_n 0, 1), (50, .getfield 32, 3), (53, .invokestatic 123, 3), (56, .ifCond .ne 20, 3), (59, .aload_n 0, 1), (60, .getfield 29, 3), (63, .aload_n 0, 1), (64, .getfield 32, 3), (67, .invokestatic 127, 3), (70, .iload_n 1, 1), (71, .iconst 1, 1), (72, .iload_n 2, 1), (73, .ishl, 1), (74, .ior, 1), (75, .istore_n 1, 1), (76, .aload_n 0, 1), (77, .getfield 32, 3), (80, .invokestatic 130, 3), (83, .iinc 2 (-1), 3), (86, .goto (-45), 3), (89, .iload_n 1, 1), (90, .ireturn, 1)]
theorem d_X2_quotient : gt_dok cX2_quotient cs_X2_quotient := gt_dok_of (by decide +kernel)
def cs_X2_set : List gt_I := [(0, .aload_n 0, 1), (1, .lconst 0, 1), (2, .invokestatic 133, 3), (5, .aload_n 0, 1), (6, .iconst 0, 1), (7, .lload_n 1, 1), (8, .lastore, 1), (9, .return_, 1)]
theorem d_X2_set : gt_dok cX2_set cs_X2_set := gt_dok_of (by decide +kernel)
def cs_X2_carry : List gt_I := [(0, .iconst 0, 1), (1, .istore_n 1, 1), (2, .iload_n 1, 1), (3, .iconst 3, 1), (4, .if_icmp .ge 32, 3), (7, .aload_n 0, 1), (8, .iload_n 1, 1), (9, .iconst 1, 1), (10, .iadd, 1), (11, .dup2, 1), (12, .laload, 1), (13, .aload_n 0, 1), (14, .iload_n 1, 1), (15, .laload, 1), (16, .bipush 50, 2), (18, .lshr, 1), (19, .ladd, 1), (20, .lastore, 1), (21, .aload_n 0, 1), (22, .iload_n 1, 1), (23, .dup2, 1), (24, .laload, 1), (25, .ldc2_w 113, 3), (28, .land, 1), (29, .lastore, 1), (30, .iinc 1 1, 3), (33, .goto (-31), 3), (36, .return_, 1)]
theorem d_X2_carry : gt_dok cX2_carry cs_X2_carry := gt_dok_of (by decide +kernel)
def cs_X2_multiply : List gt_I := [(0, .iconst 0, 1), (1, .istore_n 2, 1), (2, .iload_n 2, 1), (3, .iconst 4, 1), (4, .if_icmp .ge 17, 3), (7, .aload_n 0, 1), (8, .iload_n 2, 1), (9, .dup2, 1), (10, .laload, 1), (11, .iload_n 1, 1), (12, .i2l, 1), (13, .lmul, 1), (14, .lastore, 1), (15, .iinc 2 1, 3), (18, .goto (-16), 3), (21, .aload_n 0, 1), (22, .invokestatic 115, 3), (25, .return_, 1)]
theorem d_X2_multiply : gt_dok cX2_multiply cs_X2_multiply := gt_dok_of (by decide +kernel)
def cs_X2_add : List gt_I := [(0, .iconst 0, 1), (1, .istore_n 2, 1), (2, .iload_n 2, 1), (3, .iconst 4, 1), (4, .if_icmp .ge 18, 3), (7, .aload_n 0, 1), (8, .iload_n 2, 1), (9, .dup2, 1), (10, .laload, 1), (11, .aload_n 1, 1), (12, .iload_n 2, 1), (13, .laload, 1), (14, .ladd, 1), (15, .lastore, 1), (16, .iinc 2 1, 3), (19, .goto (-17), 3), (22, .aload_n 0, 1), (23, .invokestatic 115, 3), (26, .return_, 1)]
theorem d_X2_add : gt_dok cX2_add cs_X2_add := gt_dok_of (by decide +kernel)
def cs_X2_subtract : List gt_I := [(0, .iconst 0, 1), (1, .istore_n 2, 1), (2, .iload_n 2, 1), (3, .iconst 4, 1), (4, .if_icmp .ge 18, 3), (7, .aload_n 0, 1), (8, .iload_n 2, 1), (9, .dup2, 1), (10, .laload, 1), (11, .aload_n 1, 1), (12, .iload_n 2, 1), (13, .laload, 1), (14, .lsub, 1), (15, .lastore, 1), (16, .iinc 2 1, 3), (19, .goto (-17), 3), (22, .aload_n 0, 1), (23, .invokestatic 115, 3), (26, .return_, 1)]
theorem d_X2_subtract : gt_dok cX2_subtract cs_X2_subtract := gt_dok_of (by decide +kernel)
def cs_X2_halve : List gt_I := [(0, .iconst 0, 1), (1, .istore_n 1, 1), (2, .iload_n 1, 1), (3, .iconst 4, 1), (4, .if_icmp .ge 41, 3), (7, .iload_n 1, 1), (8, .iconst 1, 1), (9, .iadd, 1), (10, .iconst 4, 1), (11, .if_icmp .ge 13, 3), (14, .aload_n 0, 1), (15, .iload_n 1, 1), (16, .iconst 1, 1), (17, .iadd, 1), (18, .laload, 1), (19, .lconst 1, 1), (20, .land, 1), (21, .goto 4, 3), (24, .lconst 0, 1), (25, .lstore_n 2, 1), (26, .aload_n 0, 1), (27, .iload_n 1, 1), (28, .aload_n 0, 1), (29, .iload_n 1, 1), (30, .laload, 1), (31, .iconst 1, 1), (32, .lshr, 1), (33, .lload_n 2, 1), (34, .bipush 49, 2), (36, .lshl, 1), (37, .ladd, 1), (38, .lastore, 1), (39, .iinc 1 1, 3), (42, .goto (-40), 3), (45, .return_, 1)]
theorem d_X2_halve : gt_dok cX2_halve cs_X2_halve := gt_dok_of (by decide +kernel)
def cs_X2_below : List gt_I := [(0, .iconst 3, 1), (1, .istore_n 2, 1), (2, .iload_n 2, 1), (3, .ifCond .lt 35, 3), (6, .aload_n 0, 1), (7, .iload_n 2, 1), (8, .laload, 1), (9, .aload_n 1, 1), (10, .iload_n 2, 1), (11, .laload, 1), (12, .lcmp, 1), (13, .ifCond .eq 19, 3), (16, .aload_n 0, 1), (17, .iload_n 2, 1), (18, .laload, 1), (19, .aload_n 1, 1), (20, .iload_n 2, 1), (21, .laload, 1), (22, .lcmp, 1), (23, .ifCond .ge 7, 3), (26, .iconst 1, 1), (27, .goto 4, 3), (30, .iconst 0, 1), (31, .ireturn, 1), (32, .iinc 2 (-1), 3), (35, .goto (-33), 3), (38, .iconst 0, 1), (39, .ireturn, 1)]
theorem d_X2_below : gt_dok cX2_below cs_X2_below := gt_dok_of (by decide +kernel)
def cs_X3_seat : List gt_I := [(0, .aload_n 0, 1), (1, .getfield 45, 3), (4, .iload_n 2, 1), (5, .if_icmp .ne 4, 3), (8, .return_, 1), (9, .aload_n 0, 1), (10, .iload_n 2, 1), (11, .putfield 45, 3), (14, .aload_n 0, 1), (15, .iconst 0, 1), (16, .putfield 52, 3), (19, .iconst 0, 1), (20, .istore_n 3, 1), (21, .iload_n 3, 1), (22, .aload_n 1, 1), (23, .getfield 55, 3), (26, .if_icmp .ge 30, 3), (29, .aload_n 0, 1), (30, .getfield 15, 3), (33, .iload_n 3, 1), (34, .iconst (-1), 1), (35, .iastore, 1), (36, .aload_n 1, 1), (37, .iload_n 3, 1), (38, .invokevirtual 60, 3), (41, .ifCond .eq 9, 3), (44, .aload_n 0, 1), (45, .aload_n 1, 1), (46, .iload_n 3, 1), (47, .invokevirtual 64, 3), (50, .iinc 3 1, 3), (53, .goto (-32), 3), (56, .return_, 1)]
theorem d_X3_seat : gt_dok cX3_seat cs_X3_seat := gt_dok_of (by decide +kernel)
def cs_X3_seatGiver : List gt_I := [(0, .aload_n 0, 1), (1, .getfield 52, 3), (4, .istore_n 3, 1), (5, .aload_n 0, 1), (6, .iload_n 3, 1), (7, .iconst 1, 1), (8, .iadd, 1), (9, .putfield 52, 3), (12, .aload_n 0, 1), (13, .getfield 15, 3), (16, .iload_n 2, 1), (17, .iload_n 3, 1), (18, .iastore, 1), (19, .aload_n 0, 1), (20, .getfield 9, 3), (23, .iload_n 3, 1), (24, .iload_n 2, 1), (25, .iastore, 1), (26, .aload_n 0, 1), (27, .getfield 18, 3), (30, .iload_n 3, 1), (31, .aload_n 1, 1), (32, .iload_n 2, 1), (33, .invokevirtual 68, 3), (36, .iastore, 1), (37, .aload_n 0, 1), (38, .getfield 21, 3), (41, .iload_n 3, 1), (42, .aload_n 0, 1), (43, .getfield 18, 3), (46, .iload_n 3, 1), (47, .iaload, 1), (48, .aload_n 1, 1), (49, .getfield 72, 3), (52, .imul, 1), (53, .bipush 100, 2), (55, .idiv, 1), (56, .iastore, 1), (57, .aload_n 0, 1), (58, .getfield 24, 3), (61, .iload_n 3, 1), (62, .aload_n 1, 1), (63, .getfield 75, 3), (66, .iload_n 2, 1), (67, .iconst 4, 1), (68, .imul, 1), (69, .iconst 0, 1), (70, .iadd, 1), (71, .iaload, 1), (72, .iastore, 1), (73, .aload_n 0, 1), (74, .getfield 27, 3), (77, .iload_n 3, 1), (78, .aload_n 1, 1), (79, .getfield 78, 3), (82, .iload_n 2, 1), (83, .iaload, 1), (84, .iastore, 1), (85, .aload_n 0, 1), (86, .getfield 30, 3), (89, .iload_n 3, 1), (90, .bipush 16, 2), (92, .iastore, 1), (93, .iconst 0, 1), (94, .istore 4, 2), (96, .iload 4, 2), (98, .aload_n 1, 1), (99, .getfield 81, 3), (102, .if_icmp .ge 38, 3), (105, .aload_n 1, 1), (106, .iload 4, 2), (108, .iconst 3, 1), (109, .invokevirtual 84, 3), (112, .aload_n 0, 1), (113, .getfield 18, 3), (116, .iload_n 3, 1), (117, .iaload, 1), (118, .if_icmp .gt 16, 3), (121, .aload_n 0, 1), (122, .getfield 30, 3), (125, .iload_n 3, 1), (126, .dup2, 1), (127, .iaload, 1), (128, .iconst 1, 1), (129, .iload 4, 2), (131, .ishl, 1), (132, .ior, 1), (133, .iastore, 1), (134, .iinc 4 1, 3), (137, .goto (-41), 3), (140, .aload_n 0, 1), (141, .getfield 27, 3), (144, .iload_n 3, 1), (145, .iaload, 1), (146, .iconst (-1), 1), (147, .if_icmp .eq 17, 3), (150, .aload_n 0, 1), (151, .getfield 30, 3), (154, .iload_n 3, 1), (155, .iconst 1, 1), (156, .aload_n 0, 1), (157, .getfield 27, 3), (160, .iload_n 3, 1), (161, .iaload, 1), (162, .ishl, 1), (163, .iastore, 1), (164, .return_, 1)]
theorem d_X3_seatGiver : gt_dok cX3_seatGiver cs_X3_seatGiver := gt_dok_of (by decide +kernel)
def cs_X3_moneyBy : List gt_I := [(0, .iload_n 2, 1), (1, .iconst 4, 1), (2, .if_icmp .ne 12, 3), (5, .aload_n 0, 1), (6, .getfield 21, 3), (9, .iload_n 1, 1), (10, .iaload, 1), (11, .goto 4, 3), (14, .iconst 0, 1), (15, .ireturn, 1)]
theorem d_X3_moneyBy : gt_dok cX3_moneyBy cs_X3_moneyBy := gt_dok_of (by decide +kernel)
def cs_X3_canBring : List gt_I := [(0, .iload_n 2, 1), (1, .iconst 0, 1), (2, .iconst 4, 1), (3, .invokestatic 88, 3), (6, .ifCond .eq 21, 3), (9, .aload_n 0, 1), (10, .getfield 30, 3), (13, .iload_n 1, 1), (14, .iaload, 1), (15, .iload_n 2, 1), (16, .ishr, 1), (17, .iconst 1, 1), (18, .iand, 1), (19, .iconst 1, 1), (20, .if_icmp .ne 7, 3), (23, .iconst 1, 1), (24, .goto 4, 3), (27, .iconst 0, 1), (28, .ireturn, 1)]
theorem d_X3_canBring : gt_dok cX3_canBring cs_X3_canBring := gt_dok_of (by decide +kernel)
def cs_X3_weightOf : List gt_I := [(0, .aload_n 0, 1), (1, .aload_n 1, 1), (2, .iload_n 2, 1), (3, .iload_n 3, 1), (4, .iload 4, 2), (6, .invokevirtual 92, 3), (9, .istore 5, 2), (11, .iload_n 3, 1), (12, .iconst 4, 1), (13, .if_icmp .ne 8, 3), (16, .iload 5, 2), (18, .ifCond .le 6, 3), (21, .iload 5, 2), (23, .ireturn, 1), (24, .iconst 0, 1), (25, .istore 6, 2), (27, .iload 6, 2), (29, .aload_n 1, 1), (30, .getfield 81, 3), (33, .if_icmp .ge 23, 3), (36, .aload_n 0, 1), (37, .aload_n 1, 1), (38, .iload_n 2, 1), (39, .iload 6, 2), (41, .iconst 0, 1), (42, .invokevirtual 92, 3), (45, .ifCond .le 5, 3), (48, .iconst 0, 1), (49, .ireturn, 1), (50, .iinc 6 1, 3), (53, .goto (-26), 3), (56, .iconst 1, 1), (57, .ireturn, 1)]
theorem d_X3_weightOf : gt_dok cX3_weightOf cs_X3_weightOf := gt_dok_of (by decide +kernel)
def cs_X3_clauseWeight : List gt_I := [(0, .aload_n 0, 1), (1, .getfield 9, 3), (4, .iload_n 2, 1), (5, .iaload, 1), (6, .istore 5, 2), (8, .aload_n 1, 1), (9, .getfield 75, 3), (12, .iload 5, 2), (14, .iconst 4, 1), (15, .imul, 1), (16, .iconst 3, 1), (17, .iadd, 1), (18, .iaload, 1), (19, .istore 6, 2), (21, .aload_n 1, 1), (22, .iload 6, 2), (24, .invokevirtual 96, 3), (27, .astore 7, 2), (29, .aload 7, 2), (31, .ifnull 23, 3), (34, .iload_n 3, 1), (35, .iconst 4, 1), (36, .if_icmp .eq 20, 3), (39, .aload_n 1, 1), (40, .iload_n 3, 1), (41, .iconst 3, 1), (42, .invokevirtual 84, 3), (45, .aload_n 0, 1), (46, .getfield 18, 3), (49, .iload_n 2, 1), (50, .iaload, 1), (51, .if_icmp .le 5, 3), (54, .iconst 0, 1), (55, .ireturn, 1), (56, .aload_n 0, 1), (57, .getfield 38, 3), (60, .iconst 0, 1), (61, .iload_n 3, 1), (62, .iastore, 1), (63, .aload_n 0, 1), (64, .getfield 38, 3), (67, .iconst 1, 1), (68, .iload_n 3, 1), (69, .iconst 4, 1), (70, .if_icmp .ne 7, 3), (73, .iconst 0, 1), (74, .goto 9, 3), (77, .aload_n 1, 1), (78, .iload_n 3, 1), (79, .iconst 0, 1), (80, .invokevirtual 84, 3), (83, .iastore, 1), (84, .aload_n 0, 1), (85, .getfield 38, 3), (88, .iconst 2, 1), (89, .iload_n 3, 1), (90, .iconst 4, 1), (91, .if_icmp .ne 7, 3), (94, .iconst 0, 1), (95, .goto 9, 3), (98, .aload_n 1, 1), (99, .iload_n 3, 1), (100, .iconst 1, 1), (101, .invokevirtual 84, 3), (104, .iastore, 1), (105, .aload_n 0, 1), (106, .getfield 38, 3), (109, .iconst 3, 1), (110, .iload_n 3, 1), (111, .iconst 4, 1), (112, .if_icmp .ne 7, 3), (115, .iconst 0, 1), (116, .goto 9, 3), (119, .aload_n 1, 1), (120, .iload_n 3, 1), (121, .iconst 3, 1), (122, .invokevirtual 84, 3), (125, .iastore, 1), (126, .aload_n 0, 1), (127, .getfield 38, 3), (130, .iconst 4, 1), (131, .aload_n 0, 1), (132, .getfield 24, 3), (135, .iload_n 2, 1), (136, .iaload, 1), (137, .iastore, 1), (138, .aload_n 0, 1), (139, .getfield 38, 3), (142, .iconst 5, 1), (143, .aload_n 1, 1), (144, .getfield 75, 3), (147, .iload 5, 2), (149, .iconst 4, 1), (150, .imul, 1), (151, .iconst 1, 1), (152, .iadd, 1), (153, .iaload, 1), (154, .iastore, 1), (155, .aload_n 0, 1), (156, .getfield 38, 3), (159, .bipush 6, 2), (161, .aload_n 0, 1), (162, .getfield 18, 3), (165, .iload_n 2, 1), (166, .iaload, 1), (167, .iastore, 1), (168, .aload_n 0, 1), (169, .getfield 38, 3), (172, .bipush 7, 2), (174, .iload 6, 2), (176, .iastore, 1), (177, .aload_n 0, 1), (178, .getfield 38, 3), (181, .bipush 8, 2), (183, .aload_n 0, 1), (184, .getfield 52, 3), (187, .iastore, 1), (188, .aload_n 0, 1), (189, .getfield 38, 3), (192, .bipush 9, 2), (194, .iload_n 3, 1), (195, .iconst 4, 1), (196, .if_icmp .eq 13, 3), (199, .aload_n 1, 1), (200, .getfield 100, 3), (203, .iload 5, 2), (205, .iaload, 1), (206, .ifCond .ne 7, 3), (209, .iconst 0, 1), (210, .goto 5, 3), (213, .iload 4, 2), (215, .iastore, 1), (216, .aload 7, 2), (218, .iload_n 3, 1), (219, .iconst 4, 1), (220, .if_icmp .ne 7, 3), (223, .iconst 1, 1), (224, .goto 4, 3), (227, .iconst 0, 1), (228, .aload_n 0, 1), (229, .getfield 38, 3), (232, .aload_n 0, 1), (233, .getfield 41, 3), (236, .invokevirtual 103, 3), (239, .ireturn, 1)]
theorem d_X3_clauseWeight : gt_dok cX3_clauseWeight cs_X3_clauseWeight := gt_dok_of (by decide +kernel)
def cs_X3_fillChances : List gt_I := [(0, .aload_n 0, 1), (1, .getfield 49, 3), (4, .iload_n 2, 1), (5, .if_icmp .ne 4, 3), (8, .return_, 1), (9, .aload_n 0, 1), (10, .iload_n 2, 1), (11, .putfield 49, 3), (14, .aload_n 0, 1), (15, .getfield 33, 3), (18, .iconst 0, 1), (19, .invokestatic 107, 3), (22, .iconst 0, 1), (23, .istore_n 3, 1), (24, .iload_n 3, 1), (25, .aload_n 0, 1), (26, .getfield 52, 3), (29, .if_icmp .ge 114, 3), (32, .iload_n 3, 1), (33, .iconst 5, 1), (34, .imul, 1), (35, .istore 4, 2), (37, .aload_n 0, 1), (38, .getfield 27, 3), (41, .iload_n 3, 1), (42, .iaload, 1), (43, .iconst (-1), 1), (44, .if_icmp .eq 21, 3), (47, .aload_n 0, 1), (48, .getfield 33, 3), (51, .iload 4, 2), (53, .aload_n 0, 1), (54, .getfield 27, 3), (57, .iload_n 3, 1), (58, .iaload, 1), (59, .iadd, 1), (60, .iconst 1, 1), (61, .iastore, 1), (62, .goto 75, 3), (65, .iconst 0, 1), (66, .istore 5, 2), (68, .iload 5, 2), (70, .aload_n 1, 1), (71, .getfield 81, 3), (74, .if_icmp .ge 28, 3), (77, .aload_n 0, 1), (78, .getfield 33, 3), (81, .iload 4, 2), (83, .iload 5, 2), (85, .iadd, 1), (86, .aload_n 0, 1), (87, .aload_n 1, 1), (88, .iload_n 3, 1), (89, .iload 5, 2), (91, .iconst 0, 1), (92, .invokevirtual 92, 3), (95, .iastore, 1), (96, .iinc 5 1, 3), (99, .goto (-31), 3), (102, .aload_n 0, 1), (103, .getfield 33, 3), (106, .iload 4, 2), (108, .iconst 4, 1), (109, .iadd, 1), (110, .aload_n 0, 1), (111, .aload_n 1, 1), (112, .iload_n 3, 1), (113, .iconst 4, 1), (114, .iconst 0, 1), (115, .invokevirtual 92, 3), (118, .iastore, 1), (119, .aload_n 0, 1), (120, .iload_n 3, 1), (121, .invokevirtual 113, 3), (124, .ifCond .ne 13, 3), (127, .aload_n 0, 1), (128, .getfield 33, 3), (131, .iload 4, 2), (133, .iconst 4, 1), (134, .iadd, 1), (135, .iconst 1, 1), (136, .iastore, 1), (137, .iinc 3 1, 3), (140, .goto (-116), 3), (143, .return_, 1)]
theorem d_X3_fillChances : gt_dok cX3_fillChances cs_X3_fillChances := gt_dok_of (by decide +kernel)
def cs_X3_chanceSum : List gt_I := [(0, .iconst 0, 1), (1, .istore_n 2, 1), (2, .iconst 0, 1), (3, .istore_n 3, 1), (4, .iload_n 3, 1), (5, .iconst 5, 1), (6, .if_icmp .ge 22, 3), (9, .iload_n 2, 1), (10, .aload_n 0, 1), (11, .getfield 33, 3), (14, .iload_n 1, 1), (15, .iconst 5, 1), (16, .imul, 1), (17, .iload_n 3, 1), (18, .iadd, 1), (19, .iaload, 1), (20, .iadd, 1), (21, .istore_n 2, 1), (22, .iinc 3 1, 3), (25, .goto (-21), 3), (28, .iload_n 2, 1), (29, .ireturn, 1)]
theorem d_X3_chanceSum : gt_dok cX3_chanceSum cs_X3_chanceSum := gt_dok_of (by decide +kernel)
def cs_X3_mostLiked : List gt_I := [(0, .aload_n 2, 1), (1, .iconst 0, 1), (2, .invokestatic 107, 3), (5, .iconst 0, 1), (6, .istore_n 3, 1), (7, .iload_n 3, 1), (8, .aload_n 0, 1), (9, .getfield 52, 3), (12, .if_icmp .ge 45, 3), (15, .aload_n 0, 1), (16, .getfield 27, 3), (19, .iload_n 3, 1), (20, .iaload, 1), (21, .iconst (-1), 1), (22, .if_icmp .ne 12, 3), (25, .aload_n 0, 1), (26, .aload_n 1, 1), (27, .iload_n 3, 1), (28, .invokevirtual 116, 3), (31, .goto 4, 3), (34, .iconst (-1), 1), (35, .istore 4, 2), (37, .iload 4, 2), (39, .iconst (-1), 1), (40, .if_icmp .eq 11, 3), (43, .aload_n 2, 1), (44, .iload 4, 2), (46, .dup2, 1), (47, .iaload, 1), (48, .iconst 1, 1), (49, .iadd, 1), (50, .iastore, 1), (51, .iinc 3 1, 3), (54, .goto (-47), 3), (57, .iconst (-1), 1), (58, .istore_n 3, 1), (59, .iconst 0, 1), (60, .istore 4, 2), (62, .iload 4, 2), (64, .aload_n 1, 1), (65, .getfield 81, 3), (68, .if_icmp .ge 31, 3), (71, .aload_n 2, 1), (72, .iload 4, 2), (74, .iaload, 1), (75, .iload_n 3, 1), (76, .iconst (-1), 1), (77, .if_icmp .ne 7, 3), (80, .iconst 0, 1), (81, .goto 6, 3), (84, .aload_n 2, 1), (85, .iload_n 3, 1), (86, .iaload, 1), (87, .if_icmp .le 6, 3), (90, .iload 4, 2), (92, .istore_n 3, 1), (93, .iinc 4 1, 3), (96, .goto (-34), 3), (99, .iload_n 3, 1), (100, .ireturn, 1)]
theorem d_X3_mostLiked : gt_dok cX3_mostLiked cs_X3_mostLiked := gt_dok_of (by decide +kernel)
def cs_X3_likedBest : List gt_I := [(0, .iconst (-1), 1), (1, .istore_n 3, 1), (2, .iconst 0, 1), (3, .istore 4, 2), (5, .iconst 0, 1), (6, .istore 5, 2), (8, .iload 5, 2), (10, .aload_n 1, 1), (11, .getfield 81, 3), (14, .if_icmp .ge 34, 3), (17, .aload_n 0, 1), (18, .aload_n 1, 1), (19, .iload_n 2, 1), (20, .iload 5, 2), (22, .iconst 0, 1), (23, .invokevirtual 92, 3), (26, .istore 6, 2), (28, .iload 6, 2), (30, .iload 4, 2), (32, .if_icmp .le 10, 3), (35, .iload 6, 2), (37, .istore 4, 2), (39, .iload 5, 2), (41, .istore_n 3, 1), (42, .iinc 5 1, 3), (45, .goto (-37), 3), (48, .iload_n 3, 1), (49, .ireturn, 1)]
theorem d_X3_likedBest : gt_dok cX3_likedBest cs_X3_likedBest := gt_dok_of (by decide +kernel)
def cs_X4_choiceBy : List gt_I := [(0, .aload_n 0, 1), (1, .getfield 34, 3), (4, .iload_n 1, 1), (5, .iaload, 1), (6, .iconst (-1), 1), (7, .if_icmp .eq 10, 3), (10, .aload_n 0, 1), (11, .getfield 34, 3), (14, .iload_n 1, 1), (15, .iaload, 1), (16, .ireturn, 1), (17, .iconst 0, 1), (18, .istore 4, 2), (20, .iload 4, 2), (22, .iload_n 3, 1), (23, .if_icmp .ge 39, 3), (26, .aload_n 0, 1), (27, .getfield 39, 3), (30, .iload_n 1, 1), (31, .iaload, 1), (32, .aload_n 2, 1), (33, .iload 4, 2), (35, .iaload, 1), (36, .if_icmp .ge 20, 3), (39, .aload_n 0, 1), (40, .iload_n 1, 1), (41, .iload 4, 2), (43, .invokevirtual 42, 3), (46, .ifCond .eq 8, 3), (49, .iload 4, 2), (51, .goto 4, 3), (54, .iconst 4, 1), (55, .ireturn, 1), (56, .iinc 4 1, 3), (59, .goto (-39), 3), (62, .iconst 4, 1), (63, .ireturn, 1)]
theorem d_X4_choiceBy : gt_dok cX4_choiceBy cs_X4_choiceBy := gt_dok_of (by decide +kernel)
def cs_X4_valueBy : List gt_I := [(0, .aload_n 0, 1), (1, .getfield 9, 3), (4, .iconst 0, 1), (5, .invokestatic 46, 3), (8, .iconst 0, 1), (9, .istore 5, 2), (11, .iconst 0, 1), (12, .istore 6, 2), (14, .iload 6, 2), (16, .aload_n 2, 1), (17, .getfield 52, 3), (20, .if_icmp .ge 55, 3), (23, .aload_n 2, 1), (24, .iload 6, 2), (26, .aload 4, 2), (28, .aload_n 1, 1), (29, .getfield 55, 3), (32, .invokestatic 60, 3), (35, .istore 7, 2), (37, .iload 7, 2), (39, .iconst 4, 1), (40, .if_icmp .ne 18, 3), (43, .iload 5, 2), (45, .aload_n 2, 1), (46, .getfield 64, 3), (49, .iload 6, 2), (51, .iaload, 1), (52, .iadd, 1), (53, .istore 5, 2), (55, .goto 14, 3), (58, .aload_n 0, 1), (59, .getfield 9, 3), (62, .iload 7, 2), (64, .dup2, 1), (65, .iaload, 1), (66, .iconst 1, 1), (67, .iadd, 1), (68, .iastore, 1), (69, .iinc 6 1, 3), (72, .goto (-58), 3), (75, .aload_n 3, 1), (76, .aload_n 1, 1), (77, .aload_n 0, 1), (78, .getfield 9, 3), (81, .invokevirtual 67, 3), (84, .aload_n 3, 1), (85, .getfield 73, 3), (88, .iload 5, 2), (90, .iadd, 1), (91, .ireturn, 1)]
theorem d_X4_valueBy : gt_dok cX4_valueBy cs_X4_valueBy := gt_dok_of (by decide +kernel)
def cs_X4_findRule : List gt_I := [(0, .aload_n 0, 1), (1, .getfield 24, 3), (4, .iload_n 3, 1), (5, .if_icmp .ne 4, 3), (8, .return_, 1), (9, .aload_n 0, 1), (10, .iload_n 3, 1), (11, .putfield 24, 3), (14, .aload_n 0, 1), (15, .aload_n 1, 1), (16, .invokevirtual 76, 3), (19, .aload_n 0, 1), (20, .iconst (-1), 1), (21, .putfield 80, 3), (24, .aload_n 0, 1), (25, .aload_n 1, 1), (26, .aload_n 2, 1), (27, .iconst 0, 1), (28, .iconst 0, 1), (29, .invokevirtual 83, 3), (32, .return_, 1)]
theorem d_X4_findRule : gt_dok cX4_findRule cs_X4_findRule := gt_dok_of (by decide +kernel)
def cs_X4_gatherCandidates : List gt_I := [(0, .aload_n 0, 1), (1, .getfield 15, 3), (4, .iconst 0, 1), (5, .iconst 0, 1), (6, .iastore, 1), (7, .aload_n 0, 1), (8, .iconst 1, 1), (9, .putfield 87, 3), (12, .iconst 1, 1), (13, .istore_n 2, 1), (14, .iload_n 2, 1), (15, .bipush 27, 2), (17, .if_icmp .ge 74, 3), (20, .iconst 0, 1), (21, .istore_n 3, 1), (22, .iconst 0, 1), (23, .istore 4, 2), (25, .iload 4, 2), (27, .aload_n 1, 1), (28, .getfield 52, 3), (31, .if_icmp .ge 30, 3), (34, .iload_n 3, 1), (35, .aload_n 1, 1), (36, .getfield 39, 3), (39, .iload 4, 2), (41, .iaload, 1), (42, .iload_n 2, 1), (43, .iconst 1, 1), (44, .isub, 1), (45, .if_icmp .ne 7, 3), (48, .iconst 1, 1), (49, .goto 4, 3), (52, .iconst 0, 1), (53, .ior, 1), (54, .istore_n 3, 1), (55, .iinc 4 1, 3), (58, .goto (-33), 3), (61, .iload_n 3, 1), (62, .ifCond .eq 23, 3), (65, .aload_n 0, 1), (66, .getfield 15, 3), (69, .aload_n 0, 1), (70, .getfield 87, 3), (73, .iload_n 2, 1), (74, .iastore, 1), (75, .aload_n 0, 1), (76, .dup, 1), (77, .getfield 87, 3), (80, .iconst 1, 1), (81, .iadd, 1), (82, .putfield 87, 3), (85, .iinc 2 1, 3), (88, .goto (-74), 3), (91, .return_, 1)]
theorem d_X4_gatherCandidates : gt_dok cX4_gatherCandidates cs_X4_gatherCandidates := gt_dok_of (by decide +kernel)
def cs_X4_tryBounds : List gt_I := [(0, .iload 4, 2), (2, .istore 5, 2), (4, .iload 5, 2), (6, .aload_n 0, 1), (7, .getfield 87, 3), (10, .if_icmp .ge 52, 3), (13, .aload_n 0, 1), (14, .getfield 18, 3), (17, .iload_n 3, 1), (18, .aload_n 0, 1), (19, .getfield 15, 3), (22, .iload 5, 2), (24, .iaload, 1), (25, .iastore, 1), (26, .iload_n 3, 1), (27, .iconst 1, 1), (28, .iadd, 1), (29, .aload_n 2, 1), (30, .getfield 90, 3), (33, .if_icmp .ge 17, 3), (36, .aload_n 0, 1), (37, .aload_n 1, 1), (38, .aload_n 2, 1), (39, .iload_n 3, 1), (40, .iconst 1, 1), (41, .iadd, 1), (42, .iload 5, 2), (44, .invokevirtual 83, 3), (47, .goto 9, 3), (50, .aload_n 0, 1), (51, .aload_n 1, 1), (52, .aload_n 2, 1), (53, .invokevirtual 91, 3), (56, .iinc 5 1, 3), (59, .goto (-55), 3), (62, .return_, 1)]
theorem d_X4_tryBounds : gt_dok cX4_tryBounds cs_X4_tryBounds := gt_dok_of (by decide +kernel)
def cs_X4_tryRule : List gt_I := [(0, .iconst 0, 1), (1, .istore_n 3, 1), (2, .iconst 0, 1), (3, .istore 4, 2), (5, .iconst 0, 1), (6, .istore 5, 2), (8, .iload 5, 2), (10, .aload_n 1, 1), (11, .getfield 52, 3), (14, .if_icmp .ge 46, 3), (17, .aload_n 1, 1), (18, .iload 5, 2), (20, .aload_n 0, 1), (21, .getfield 18, 3), (24, .aload_n 2, 1), (25, .getfield 90, 3), (28, .invokestatic 60, 3), (31, .istore 6, 2), (33, .aload_n 2, 1), (34, .iload_n 3, 1), (35, .iload 6, 2), (37, .invokevirtual 95, 3), (40, .istore_n 3, 1), (41, .iload 4, 2), (43, .aload_n 1, 1), (44, .iload 5, 2), (46, .iload 6, 2), (48, .invokevirtual 99, 3), (51, .iadd, 1), (52, .istore 4, 2), (54, .iinc 5 1, 3), (57, .goto (-49), 3), (60, .aload_n 2, 1), (61, .getfield 102, 3), (64, .iload_n 3, 1), (65, .iaload, 1), (66, .iload 4, 2), (68, .iadd, 1), (69, .aload_n 0, 1), (70, .getfield 80, 3), (73, .if_icmp .le 30, 3), (76, .aload_n 0, 1), (77, .aload_n 2, 1), (78, .getfield 102, 3), (81, .iload_n 3, 1), (82, .iaload, 1), (83, .iload 4, 2), (85, .iadd, 1), (86, .putfield 80, 3), (89, .aload_n 0, 1), (90, .getfield 18, 3), (93, .iconst 0, 1), (94, .aload_n 0, 1), (95, .getfield 21, 3), (98, .iconst 0, 1), (99, .iconst 4, 1), (100, .invokestatic 105, 3), (103, .return_, 1)]
theorem d_X4_tryRule : gt_dok cX4_tryRule cs_X4_tryRule := gt_dok_of (by decide +kernel)
def cs_X4_settle : List gt_I := [(0, .aload_n 0, 1), (1, .getfield 31, 3), (4, .iload 4, 2), (6, .if_icmp .ne 4, 3), (9, .return_, 1), (10, .aload_n 0, 1), (11, .iload 4, 2), (13, .putfield 31, 3), (16, .aload_n 0, 1), (17, .getfield 9, 3), (20, .iconst 0, 1), (21, .invokestatic 46, 3), (24, .aload_n 0, 1), (25, .iconst 0, 1), (26, .putfield 111, 3), (29, .iconst 0, 1), (30, .istore 5, 2), (32, .iload 5, 2), (34, .aload_n 2, 1), (35, .getfield 52, 3), (38, .if_icmp .ge 53, 3), (41, .aload_n 0, 1), (42, .getfield 28, 3), (45, .iload 5, 2), (47, .aload_n 2, 1), (48, .getfield 34, 3), (51, .iload 5, 2), (53, .iaload, 1), (54, .iconst (-1), 1), (55, .if_icmp .ne 7, 3), (58, .iconst 4, 1), (59, .goto 10, 3), (62, .aload_n 2, 1), (63, .getfield 34, 3), (66, .iload 5, 2), (68, .iaload, 1), (69, .iastore, 1), (70, .aload_n 0, 1), (71, .aload_n 2, 1), (72, .iload 5, 2), (74, .aload_n 0, 1), (75, .getfield 28, 3), (78, .iload 5, 2), (80, .iaload, 1), (81, .iconst 1, 1), (82, .invokevirtual 114, 3), (85, .iinc 5 1, 3), (88, .goto (-56), 3), (91, .aload_n 0, 1), (92, .iconst 0, 1), (93, .putfield 118, 3), (96, .iconst 1, 1), (97, .istore 5, 2), (99, .iload 5, 2), (101, .ifCond .eq 35, 3), (104, .aload_n 0, 1), (105, .getfield 118, 3), (108, .sipush 10000, 3), (111, .if_icmp .ge 25, 3), (114, .aload_n 0, 1), (115, .aload_n 1, 1), (116, .aload_n 2, 1), (117, .aload_n 3, 1), (118, .invokevirtual 121, 3), (121, .istore 5, 2), (123, .aload_n 0, 1), (124, .dup, 1), (125, .getfield 118, 3), (128, .iconst 1, 1), (129, .iadd, 1), (130, .putfield 118, 3), (133, .goto (-34), 3), (136, .aload_n 0, 1), (137, .aload_n 0, 1), (138, .aload_n 1, 1), (139, .aload_n 3, 1), (140, .invokevirtual 125, 3), (143, .putfield 129, 3), (146, .aload_n 0, 1), (147, .aload_n 3, 1), (148, .getfield 132, 3), (151, .putfield 135, 3), (154, .aload_n 0, 1), (155, .aload_n 3, 1), (156, .getfield 138, 3), (159, .putfield 141, 3), (162, .return_, 1)]
theorem d_X4_settle : gt_dok cX4_settle cs_X4_settle := gt_dok_of (by decide +kernel)
def cs_X4_lay : List gt_I := [(0, .iload_n 3, 1), (1, .iconst 4, 1), (2, .if_icmp .ne 24, 3), (5, .aload_n 0, 1), (6, .dup, 1), (7, .getfield 111, 3), (10, .iload 4, 2), (12, .aload_n 1, 1), (13, .getfield 64, 3), (16, .iload_n 2, 1), (17, .iaload, 1), (18, .imul, 1), (19, .iadd, 1), (20, .putfield 111, 3), (23, .goto 14, 3), (26, .aload_n 0, 1), (27, .getfield 9, 3), (30, .iload_n 3, 1), (31, .dup2, 1), (32, .iaload, 1), (33, .iload 4, 2), (35, .iadd, 1), (36, .iastore, 1), (37, .return_, 1)]
theorem d_X4_lay : gt_dok cX4_lay cs_X4_lay := gt_dok_of (by decide +kernel)
def cs_X4_valueNow : List gt_I := [(0, .aload_n 2, 1), (1, .aload_n 1, 1), (2, .aload_n 0, 1), (3, .getfield 9, 3), (6, .invokevirtual 67, 3), (9, .aload_n 2, 1), (10, .getfield 73, 3), (13, .aload_n 0, 1), (14, .getfield 111, 3), (17, .iadd, 1), (18, .ireturn, 1)]
theorem d_X4_valueNow : gt_dok cX4_valueNow cs_X4_valueNow := gt_dok_of (by decide +kernel)
def cs_X4_goRound : List gt_I := [(0, .iconst 0, 1), (1, .istore 4, 2), (3, .iconst 0, 1), (4, .istore 5, 2), (6, .iload 5, 2), (8, .aload_n 2, 1), (9, .getfield 52, 3), (12, .if_icmp .ge 145, 3), (15, .aload_n 0, 1), (16, .getfield 28, 3), (19, .iload 5, 2), (21, .iaload, 1), (22, .istore 6, 2), (24, .iload 6, 2), (26, .istore 7, 2), (28, .aload_n 0, 1), (29, .aload_n 1, 1), (30, .aload_n 3, 1), (31, .invokevirtual 125, 3), (34, .istore 8, 2), (36, .aload_n 0, 1), (37, .aload_n 2, 1), (38, .iload 5, 2), (40, .iload 6, 2), (42, .iconst (-1), 1), (43, .invokevirtual 114, 3), (46, .iconst 0, 1), (47, .istore 9, 2), (49, .iload 9, 2), (51, .iconst 5, 1), (52, .if_icmp .ge 63, 3), (55, .aload_n 2, 1), (56, .iload 5, 2), (58, .iload 9, 2), (60, .invokevirtual 42, 3), (63, .ifCond .eq 46, 3), (66, .aload_n 0, 1), (67, .aload_n 2, 1), (68, .iload 5, 2), (70, .iload 9, 2), (72, .iconst 1, 1), (73, .invokevirtual 114, 3), (76, .aload_n 0, 1), (77, .aload_n 1, 1), (78, .aload_n 3, 1), (79, .invokevirtual 125, 3), (82, .istore 10, 2), (84, .aload_n 0, 1), (85, .aload_n 2, 1), (86, .iload 5, 2), (88, .iload 9, 2), (90, .iconst (-1), 1), (91, .invokevirtual 114, 3), (94, .iload 10, 2), (96, .iload 8, 2), (98, .if_icmp .le 11, 3), (101, .iload 10, 2), (103, .istore 8, 2), (105, .iload 9, 2), (107, .istore 7, 2), (109, .iinc 9 1, 3), (112, .goto (-63), 3), (115, .aload_n 0, 1), (116, .aload_n 2, 1), (117, .iload 5, 2), (119, .iload 7, 2), (121, .iconst 1, 1), (122, .invokevirtual 114, 3), (125, .aload_n 0, 1), (126, .getfield 28, 3), (129, .iload 5, 2), (131, .iload 7, 2), (133, .iastore, 1), (134, .iload 4, 2), (136, .iload 7, 2), (138, .iload 6, 2), (140, .if_icmp .eq 7, 3), (143, .iconst 1, 1), (144, .goto 4, 3), (147, .iconst 0, 1), (148, .ior, 1), (149, .istore 4, 2), (151, .iinc 5 1, 3), (154, .goto (-148), 3), (157, .iload 4, 2), (159, .ireturn, 1)]
theorem d_X4_goRound : gt_dok cX4_goRound cs_X4_goRound := gt_dok_of (by decide +kernel)
def cs_X5_split : List gt_I := [(0, .aload_n 0, 1), (1, .iconst 0, 1), (2, .putfield 65, 3), (5, .iconst 0, 1), (6, .istore_n 3, 1), (7, .iconst 1, 1), (8, .istore 4, 2), (10, .iload 4, 2), (12, .iload_n 2, 1), (13, .if_icmp .gt 67, 3), (16, .iload 4, 2), (18, .iload_n 2, 1), (19, .if_icmp .ge 32, 3), (22, .aload_n 1, 1), (23, .iload 4, 2), (25, .iaload, 1), (26, .invokestatic 68, 3), (29, .ifCond .eq 22, 3), (32, .aload_n 1, 1), (33, .iload 4, 2), (35, .iaload, 1), (36, .invokestatic 68, 3), (39, .aload_n 1, 1), (40, .iload_n 3, 1), (41, .iaload, 1), (42, .invokestatic 68, 3), (45, .if_icmp .ne 6, 3), (48, .goto 26, 3), (51, .aload_n 1, 1), (52, .iload_n 3, 1), (53, .iaload, 1), (54, .bipush 32, 2), (56, .if_icmp .eq 15, 3), (59, .aload_n 0, 1), (60, .aload_n 1, 1), (61, .iload_n 3, 1), (62, .iload 4, 2), (64, .invokestatic 72, 3), (67, .iload_n 3, 1), (68, .invokevirtual 76, 3), (71, .iload 4, 2), (73, .istore_n 3, 1), (74, .iinc 4 1, 3), (77, .goto (-67), 3), (80, .aload_n 0, 1), (81, .iconst (-1), 1), (82, .iload_n 2, 1), (83, .invokevirtual 76, 3), (86, .return_, 1)]
theorem d_X5_split : gt_dok cX5_split cs_X5_split := gt_dok_of (by decide +kernel)
def cs_X5_addToken : List gt_I := [(0, .aload_n 0, 1), (1, .getfield 65, 3), (4, .aload_n 0, 1), (5, .getfield 9, 3), (8, .arraylength, 1), (9, .if_icmp .ge 33, 3), (12, .aload_n 0, 1), (13, .getfield 9, 3), (16, .aload_n 0, 1), (17, .getfield 65, 3), (20, .iload_n 1, 1), (21, .iastore, 1), (22, .aload_n 0, 1), (23, .getfield 15, 3), (26, .aload_n 0, 1), (27, .getfield 65, 3), (30, .iload_n 2, 1), (31, .iastore, 1), (32, .aload_n 0, 1), (33, .dup, 1), (34, .getfield 65, 3), (37, .iconst 1, 1), (38, .iadd, 1), (39, .putfield 65, 3), (42, .return_, 1)]
theorem d_X5_addToken : gt_dok cX5_addToken cs_X5_addToken := gt_dok_of (by decide +kernel)
def cs_X5_rowKind : List gt_I := [(0, .iload_n 0, 1), (1, .bipush 97, 2), (3, .bipush 122, 2), (5, .invokestatic 80, 3), (8, .ifCond .eq 5, 3), (11, .iconst 1, 1), (12, .ireturn, 1), (13, .iload_n 0, 1), (14, .bipush 48, 2), (16, .bipush 57, 2), (18, .invokestatic 80, 3), (21, .ifCond .eq 7, 3), (24, .iconst 2, 1), (25, .goto 4, 3), (28, .iconst 0, 1), (29, .ireturn, 1)]
theorem d_X5_rowKind : gt_dok cX5_rowKind cs_X5_rowKind := gt_dok_of (by decide +kernel)
def cs_X5_tokenOf : List gt_I := [(0, .aload_n 0, 1), (1, .iload_n 1, 1), (2, .iaload, 1), (3, .invokestatic 68, 3), (6, .lookupswitch 40 #[(1, 26), (2, 33)], 26), (32, .aload_n 0, 1), (33, .iload_n 1, 1), (34, .iload_n 2, 1), (35, .invokestatic 84, 3), (38, .ireturn, 1), (39, .aload_n 0, 1), (40, .iload_n 1, 1), (41, .iload_n 2, 1), (42, .invokestatic 87, 3), (45, .ireturn, 1), (46, .bipush 100, 2), (48, .aload_n 0, 1), (49, .iload_n 1, 1), (50, .iaload, 1), (51, .iadd, 1), (52, .ireturn, 1)]
theorem d_X5_tokenOf : gt_dok cX5_tokenOf cs_X5_tokenOf := gt_dok_of (by decide +kernel)
def cs_X5_numberOf : List gt_I := [(0, .iconst 0, 1), (1, .istore_n 3, 1), (2, .iload_n 1, 1), (3, .istore 4, 2), (5, .iload 4, 2), (7, .iload_n 2, 1), (8, .if_icmp .ge 28, 3), (11, .sipush 1001, 3), (14, .iload_n 3, 1), (15, .bipush 10, 2), (17, .imul, 1), (18, .aload_n 0, 1), (19, .iload 4, 2), (21, .iaload, 1), (22, .iadd, 1), (23, .bipush 48, 2), (25, .isub, 1), (26, .invokestatic 98, 3), (29, .istore_n 3, 1), (30, .iinc 4 1, 3), (33, .goto (-28), 3), (36, .iload_n 3, 1), (37, .sipush 1000, 3), (40, .if_icmp .le 8, 3), (43, .bipush (-2), 2), (45, .goto 8, 3), (48, .sipush 1000, 3), (51, .iload_n 3, 1), (52, .iadd, 1), (53, .ireturn, 1)]
theorem d_X5_numberOf : gt_dok cX5_numberOf cs_X5_numberOf := gt_dok_of (by decide +kernel)
def cs_X5_takes : List gt_I := [(0, .aload_n 0, 1), (1, .getfield 26, 3), (4, .iconst (-1), 1), (5, .if_icmp .ne 29, 3), (8, .aload_n 0, 1), (9, .getfield 9, 3), (12, .aload_n 0, 1), (13, .getfield 34, 3), (16, .iaload, 1), (17, .iload_n 1, 1), (18, .if_icmp .ne 16, 3), (21, .aload_n 0, 1), (22, .getfield 34, 3), (25, .aload_n 0, 1), (26, .getfield 65, 3), (29, .iconst 1, 1), (30, .isub, 1), (31, .if_icmp .lt 5, 3), (34, .iconst 0, 1), (35, .ireturn, 1), (36, .aload_n 0, 1), (37, .dup, 1), (38, .getfield 34, 3), (41, .iconst 1, 1), (42, .iadd, 1), (43, .putfield 34, 3), (46, .iconst 1, 1), (47, .ireturn, 1)]
theorem d_X5_takes : gt_dok cX5_takes cs_X5_takes := gt_dok_of (by decide +kernel)
def cs_X5_fail : List gt_I := [(0, .aload_n 0, 1), (1, .getfield 26, 3), (4, .iconst (-1), 1), (5, .if_icmp .ne 16, 3), (8, .aload_n 0, 1), (9, .aload_n 0, 1), (10, .getfield 15, 3), (13, .aload_n 0, 1), (14, .getfield 34, 3), (17, .iaload, 1), (18, .putfield 26, 3), (21, .return_, 1)]
theorem d_X5_fail : gt_dok cX5_fail cs_X5_fail := gt_dok_of (by decide +kernel)
def cs_X5_write : List gt_I := [(0, .aload_n 0, 1), (1, .getfield 26, 3), (4, .iconst (-1), 1), (5, .if_icmp .ne 41, 3), (8, .aload_n 0, 1), (9, .getfield 37, 3), (12, .aload_n 0, 1), (13, .getfield 18, 3), (16, .arraylength, 1), (17, .if_icmp .ge 29, 3), (20, .aload_n 0, 1), (21, .getfield 18, 3), (24, .aload_n 0, 1), (25, .getfield 37, 3), (28, .iload_n 1, 1), (29, .sipush 2048, 3), (32, .imul, 1), (33, .iload_n 2, 1), (34, .iadd, 1), (35, .iastore, 1), (36, .aload_n 0, 1), (37, .dup, 1), (38, .getfield 37, 3), (41, .iconst 1, 1), (42, .iadd, 1), (43, .putfield 37, 3), (46, .return_, 1)]
theorem d_X5_write : gt_dok cX5_write cs_X5_write := gt_dok_of (by decide +kernel)
def cs_X5_readClause : List gt_I := [(0, .aload_n 0, 1), (1, .getfield 40, 3), (4, .bipush 12, 2), (6, .if_icmp .ge 15, 3), (9, .aload_n 0, 1), (10, .iconst 0, 1), (11, .invokevirtual 49, 3), (14, .ifCond .eq 7, 3), (17, .iconst 1, 1), (18, .goto 4, 3), (21, .iconst 0, 1), (22, .istore_n 1, 1), (23, .iload_n 1, 1), (24, .ifCond .ne 25, 3), (27, .aload_n 0, 1), (28, .getfield 40, 3), (31, .bipush 12, 2), (33, .if_icmp .ge 11, 3), (36, .aload_n 0, 1), (37, .iconst 1, 1), (38, .invokevirtual 49, 3), (41, .ifCond .ne 8, 3), (44, .aload_n 0, 1), (45, .invokevirtual 53, 3), (48, .return_, 1), (49, .aload_n 0, 1), (50, .getfield 40, 3), (53, .iconst 4, 1), (54, .imul, 1), (55, .istore_n 2, 1), (56, .aload_n 0, 1), (57, .getfield 23, 3), (60, .iload_n 2, 1), (61, .iload_n 1, 1), (62, .ifCond .eq 7, 3), (65, .iconst 0, 1), (66, .goto 4, 3), (69, .iconst 1, 1), (70, .iastore, 1), (71, .aload_n 0, 1), (72, .getfield 23, 3), (75, .iload_n 2, 1), (76, .iconst 1, 1), (77, .iadd, 1), (78, .aload_n 0, 1), (79, .getfield 37, 3), (82, .iastore, 1), (83, .aload_n 0, 1), (84, .iconst 0, 1), (85, .invokevirtual 104, 3), (88, .aload_n 0, 1), (89, .getfield 23, 3), (92, .iload_n 2, 1), (93, .iconst 2, 1), (94, .iadd, 1), (95, .aload_n 0, 1), (96, .getfield 37, 3), (99, .iastore, 1), (100, .aload_n 0, 1), (101, .iconst 2, 1), (102, .invokevirtual 49, 3), (105, .ifCond .eq 8, 3), (108, .aload_n 0, 1), (109, .iconst 0, 1), (110, .invokevirtual 108, 3), (113, .aload_n 0, 1), (114, .getfield 23, 3), (117, .iload_n 2, 1), (118, .iconst 3, 1), (119, .iadd, 1), (120, .aload_n 0, 1), (121, .getfield 37, 3), (124, .iastore, 1), (125, .aload_n 0, 1), (126, .dup, 1), (127, .getfield 40, 3), (130, .iconst 1, 1), (131, .iadd, 1), (132, .putfield 40, 3), (135, .return_, 1)]
theorem d_X5_readClause : gt_dok cX5_readClause cs_X5_readClause := gt_dok_of (by decide +kernel)
def cs_X5_readTest : List gt_I := [(0, .aload_n 0, 1), (1, .iload_n 1, 1), (2, .invokevirtual 111, 3), (5, .iconst 0, 1), (6, .istore_n 2, 1), (7, .iload_n 2, 1), (8, .sipush 400, 3), (11, .if_icmp .ge 41, 3), (14, .aload_n 0, 1), (15, .iconst 3, 1), (16, .invokevirtual 49, 3), (19, .ifCond .eq 33, 3), (22, .aload_n 0, 1), (23, .getfield 37, 3), (26, .istore_n 3, 1), (27, .aload_n 0, 1), (28, .bipush 11, 2), (30, .iconst 0, 1), (31, .invokevirtual 114, 3), (34, .aload_n 0, 1), (35, .iload_n 1, 1), (36, .invokevirtual 111, 3), (39, .aload_n 0, 1), (40, .iload_n 3, 1), (41, .bipush 11, 2), (43, .invokevirtual 117, 3), (46, .iinc 2 1, 3), (49, .goto (-42), 3), (52, .return_, 1)]
theorem d_X5_readTest : gt_dok cX5_readTest cs_X5_readTest := gt_dok_of (by decide +kernel)
def cs_X5_readBoth : List gt_I := [(0, .aload_n 0, 1), (1, .iload_n 1, 1), (2, .invokevirtual 120, 3), (5, .iconst 0, 1), (6, .istore_n 2, 1), (7, .iload_n 2, 1), (8, .sipush 400, 3), (11, .if_icmp .ge 41, 3), (14, .aload_n 0, 1), (15, .iconst 4, 1), (16, .invokevirtual 49, 3), (19, .ifCond .eq 33, 3), (22, .aload_n 0, 1), (23, .getfield 37, 3), (26, .istore_n 3, 1), (27, .aload_n 0, 1), (28, .bipush 10, 2), (30, .iconst 0, 1), (31, .invokevirtual 114, 3), (34, .aload_n 0, 1), (35, .iload_n 1, 1), (36, .invokevirtual 120, 3), (39, .aload_n 0, 1), (40, .iload_n 3, 1), (41, .bipush 10, 2), (43, .invokevirtual 117, 3), (46, .iinc 2 1, 3), (49, .goto (-42), 3), (52, .return_, 1)]
theorem d_X5_readBoth : gt_dok cX5_readBoth cs_X5_readBoth := gt_dok_of (by decide +kernel)
def cs_X5_fill : List gt_I := [(0, .aload_n 0, 1), (1, .getfield 26, 3), (4, .iconst (-1), 1), (5, .if_icmp .ne 27, 3), (8, .iload_n 1, 1), (9, .aload_n 0, 1), (10, .getfield 37, 3), (13, .if_icmp .ge 19, 3), (16, .aload_n 0, 1), (17, .getfield 18, 3), (20, .iload_n 1, 1), (21, .iload_n 2, 1), (22, .sipush 2048, 3), (25, .imul, 1), (26, .aload_n 0, 1), (27, .getfield 37, 3), (30, .iadd, 1), (31, .iastore, 1), (32, .return_, 1)]
theorem d_X5_fill : gt_dok cX5_fill cs_X5_fill := gt_dok_of (by decide +kernel)
def cs_X5_readPlain : List gt_I := [(0, .iconst 0, 1), (1, .istore_n 2, 1), (2, .iconst 0, 1), (3, .istore_n 3, 1), (4, .iload_n 3, 1), (5, .sipush 400, 3), (8, .if_icmp .ge 27, 3), (11, .aload_n 0, 1), (12, .iconst 5, 1), (13, .invokevirtual 49, 3), (16, .ifCond .eq 19, 3), (19, .iload_n 2, 1), (20, .ifCond .ne 7, 3), (23, .iconst 1, 1), (24, .goto 4, 3), (27, .iconst 0, 1), (28, .istore_n 2, 1), (29, .iinc 3 1, 3), (32, .goto (-28), 3), (35, .aload_n 0, 1), (36, .getfield 9, 3), (39, .aload_n 0, 1), (40, .getfield 34, 3), (43, .iaload, 1), (44, .sipush 140, 3), (47, .if_icmp .ne 29, 3), (50, .aload_n 0, 1), (51, .iload_n 1, 1), (52, .bipush 40, 2), (54, .invokevirtual 123, 3), (57, .ifCond .eq 24, 3), (60, .aload_n 0, 1), (61, .iload_n 1, 1), (62, .iconst 1, 1), (63, .iadd, 1), (64, .invokevirtual 108, 3), (67, .aload_n 0, 1), (68, .bipush 41, 2), (70, .invokevirtual 127, 3), (73, .goto 8, 3), (76, .aload_n 0, 1), (77, .iload_n 1, 1), (78, .invokevirtual 131, 3), (81, .iload_n 2, 1), (82, .ifCond .eq 10, 3), (85, .aload_n 0, 1), (86, .bipush 9, 2), (88, .iconst 0, 1), (89, .invokevirtual 114, 3), (92, .return_, 1)]
theorem d_X5_readPlain : gt_dok cX5_readPlain cs_X5_readPlain := gt_dok_of (by decide +kernel)
def cs_X5_readComparison : List gt_I := [(0, .aload_n 0, 1), (1, .iload_n 1, 1), (2, .invokevirtual 104, 3), (5, .bipush 6, 2), (7, .istore_n 2, 1), (8, .aload_n 0, 1), (9, .sipush 162, 3), (12, .invokevirtual 49, 3), (15, .ifCond .eq 9, 3), (18, .bipush 7, 2), (20, .istore_n 2, 1), (21, .goto 34, 3), (24, .aload_n 0, 1), (25, .sipush 161, 3), (28, .invokevirtual 49, 3), (31, .ifCond .eq 9, 3), (34, .bipush 8, 2), (36, .istore_n 2, 1), (37, .goto 18, 3), (40, .aload_n 0, 1), (41, .sipush 160, 3), (44, .invokevirtual 49, 3), (47, .ifCond .ne 8, 3), (50, .aload_n 0, 1), (51, .invokevirtual 53, 3), (54, .return_, 1), (55, .aload_n 0, 1), (56, .iload_n 1, 1), (57, .invokevirtual 104, 3), (60, .aload_n 0, 1), (61, .iload_n 2, 1), (62, .iconst 0, 1), (63, .invokevirtual 114, 3), (66, .return_, 1)]
theorem d_X5_readComparison : gt_dok cX5_readComparison cs_X5_readComparison := gt_dok_of (by decide +kernel)
def cs_X5_opens : List gt_I := [(0, .iload_n 1, 1), (1, .bipush 8, 2), (3, .if_icmp .lt 9, 3), (6, .aload_n 0, 1), (7, .invokevirtual 53, 3), (10, .iconst 0, 1), (11, .ireturn, 1), (12, .aload_n 0, 1), (13, .bipush 100, 2), (15, .iload_n 2, 1), (16, .iadd, 1), (17, .invokevirtual 49, 3), (20, .ireturn, 1)]
theorem d_X5_opens : gt_dok cX5_opens cs_X5_opens := gt_dok_of (by decide +kernel)
def cs_X5_closes : List gt_I := [(0, .aload_n 0, 1), (1, .bipush 100, 2), (3, .iload_n 1, 1), (4, .iadd, 1), (5, .invokevirtual 49, 3), (8, .ifCond .ne 7, 3), (11, .aload_n 0, 1), (12, .invokevirtual 53, 3), (15, .return_, 1)]
theorem d_X5_closes : gt_dok cX5_closes cs_X5_closes := gt_dok_of (by decide +kernel)
def cs_X5_readSum : List gt_I := [(0, .aload_n 0, 1), (1, .iload_n 1, 1), (2, .invokevirtual 134, 3), (5, .iconst 0, 1), (6, .istore_n 2, 1), (7, .iload_n 2, 1), (8, .sipush 400, 3), (11, .if_icmp .ge 51, 3), (14, .aload_n 0, 1), (15, .sipush 143, 3), (18, .invokevirtual 49, 3), (21, .istore_n 3, 1), (22, .iload_n 3, 1), (23, .ifCond .ne 14, 3), (26, .aload_n 0, 1), (27, .sipush 145, 3), (30, .invokevirtual 49, 3), (33, .ifCond .ne 4, 3), (36, .return_, 1), (37, .aload_n 0, 1), (38, .iload_n 1, 1), (39, .invokevirtual 134, 3), (42, .aload_n 0, 1), (43, .iload_n 3, 1), (44, .ifCond .eq 7, 3), (47, .iconst 2, 1), (48, .goto 4, 3), (51, .iconst 3, 1), (52, .iconst 0, 1), (53, .invokevirtual 114, 3), (56, .iinc 2 1, 3), (59, .goto (-52), 3), (62, .return_, 1)]
theorem d_X5_readSum : gt_dok cX5_readSum cs_X5_readSum := gt_dok_of (by decide +kernel)
def cs_X5_readTerm : List gt_I := [(0, .aload_n 0, 1), (1, .iload_n 1, 1), (2, .invokevirtual 137, 3), (5, .iconst 0, 1), (6, .istore_n 2, 1), (7, .iload_n 2, 1), (8, .sipush 400, 3), (11, .if_icmp .ge 51, 3), (14, .aload_n 0, 1), (15, .sipush 142, 3), (18, .invokevirtual 49, 3), (21, .istore_n 3, 1), (22, .iload_n 3, 1), (23, .ifCond .ne 14, 3), (26, .aload_n 0, 1), (27, .sipush 147, 3), (30, .invokevirtual 49, 3), (33, .ifCond .ne 4, 3), (36, .return_, 1), (37, .aload_n 0, 1), (38, .iload_n 1, 1), (39, .invokevirtual 137, 3), (42, .aload_n 0, 1), (43, .iload_n 3, 1), (44, .ifCond .eq 7, 3), (47, .iconst 4, 1), (48, .goto 4, 3), (51, .iconst 5, 1), (52, .iconst 0, 1), (53, .invokevirtual 114, 3), (56, .iinc 2 1, 3), (59, .goto (-52), 3), (62, .return_, 1)]
theorem d_X5_readTerm : gt_dok cX5_readTerm cs_X5_readTerm := gt_dok_of (by decide +kernel)
def cs_X5_readPart : List gt_I := [(0, .aload_n 0, 1), (1, .getfield 9, 3), (4, .aload_n 0, 1), (5, .getfield 34, 3), (8, .iaload, 1), (9, .istore_n 2, 1), (10, .iload_n 2, 1), (11, .sipush 191, 3), (14, .if_icmp .ne 27, 3), (17, .aload_n 0, 1), (18, .iload_n 1, 1), (19, .bipush 91, 2), (21, .invokevirtual 123, 3), (24, .ifCond .eq 16, 3), (27, .aload_n 0, 1), (28, .iload_n 1, 1), (29, .iconst 1, 1), (30, .iadd, 1), (31, .invokevirtual 104, 3), (34, .aload_n 0, 1), (35, .bipush 93, 2), (37, .invokevirtual 127, 3), (40, .return_, 1), (41, .iload_n 2, 1), (42, .sipush 1000, 3), (45, .if_icmp .lt 7, 3), (48, .iconst 1, 1), (49, .goto 4, 3), (52, .iconst 0, 1), (53, .istore_n 3, 1), (54, .iload_n 3, 1), (55, .ifCond .ne 14, 3), (58, .iload_n 2, 1), (59, .bipush 6, 2), (61, .bipush 15, 2), (63, .invokestatic 80, 3), (66, .ifCond .eq 20, 3), (69, .aload_n 0, 1), (70, .getfield 43, 3), (73, .bipush 50, 2), (75, .if_icmp .ge 11, 3), (78, .aload_n 0, 1), (79, .iload_n 2, 1), (80, .invokevirtual 49, 3), (83, .ifCond .ne 8, 3), (86, .aload_n 0, 1), (87, .invokevirtual 53, 3), (90, .return_, 1), (91, .aload_n 0, 1), (92, .dup, 1), (93, .getfield 43, 3), (96, .iconst 1, 1), (97, .iadd, 1), (98, .putfield 43, 3), (101, .aload_n 0, 1), (102, .iload_n 3, 1), (103, .ifCond .eq 7, 3), (106, .iconst 0, 1), (107, .goto 4, 3), (110, .iconst 1, 1), (111, .iload_n 3, 1), (112, .ifCond .eq 11, 3), (115, .iload_n 2, 1), (116, .sipush 1000, 3), (119, .isub, 1), (120, .goto 7, 3), (123, .iload_n 2, 1), (124, .bipush 6, 2), (126, .isub, 1), (127, .invokevirtual 114, 3), (130, .return_, 1)]
theorem d_X5_readPart : gt_dok cX5_readPart cs_X5_readPart := gt_dok_of (by decide +kernel)
def cs_X6_copyFrom : List gt_I := [(0, .aload_n 0, 1), (1, .aload_n 1, 1), (2, .getfield 55, 3), (5, .putfield 55, 3), (8, .aload_n 1, 1), (9, .getfield 9, 3), (12, .iconst 0, 1), (13, .aload_n 0, 1), (14, .getfield 9, 3), (17, .iconst 0, 1), (18, .aload_n 0, 1), (19, .getfield 9, 3), (22, .arraylength, 1), (23, .invokestatic 58, 3), (26, .aload_n 1, 1), (27, .getfield 15, 3), (30, .iconst 0, 1), (31, .aload_n 0, 1), (32, .getfield 15, 3), (35, .iconst 0, 1), (36, .aload_n 0, 1), (37, .getfield 15, 3), (40, .arraylength, 1), (41, .invokestatic 58, 3), (44, .aload_n 1, 1), (45, .getfield 18, 3), (48, .iconst 0, 1), (49, .aload_n 0, 1), (50, .getfield 18, 3), (53, .iconst 0, 1), (54, .aload_n 0, 1), (55, .getfield 18, 3), (58, .arraylength, 1), (59, .invokestatic 58, 3), (62, .aload_n 1, 1), (63, .getfield 21, 3), (66, .iconst 0, 1), (67, .aload_n 0, 1), (68, .getfield 21, 3), (71, .iconst 0, 1), (72, .aload_n 0, 1), (73, .getfield 21, 3), (76, .arraylength, 1), (77, .invokestatic 58, 3), (80, .aload_n 0, 1), (81, .aload_n 1, 1), (82, .getfield 64, 3), (85, .putfield 64, 3), (88, .aload_n 1, 1), (89, .getfield 24, 3), (92, .iconst 0, 1), (93, .aload_n 0, 1), (94, .getfield 24, 3), (97, .iconst 0, 1), (98, .aload_n 0, 1), (99, .getfield 24, 3), (102, .arraylength, 1), (103, .invokestatic 58, 3), (106, .aload_n 1, 1), (107, .getfield 27, 3), (110, .iconst 0, 1), (111, .aload_n 0, 1), (112, .getfield 27, 3), (115, .iconst 0, 1), (116, .aload_n 0, 1), (117, .getfield 27, 3), (120, .arraylength, 1), (121, .invokestatic 58, 3), (124, .aload_n 1, 1), (125, .getfield 30, 3), (128, .iconst 0, 1), (129, .aload_n 0, 1), (130, .getfield 30, 3), (133, .iconst 0, 1), (134, .aload_n 0, 1), (135, .getfield 30, 3), (138, .arraylength, 1), (139, .invokestatic 58, 3), (142, .aload_n 1, 1), (143, .getfield 33, 3), (146, .iconst 0, 1), (147, .aload_n 0, 1), (148, .getfield 33, 3), (151, .iconst 0, 1), (152, .aload_n 0, 1), (153, .getfield 33, 3), (156, .arraylength, 1), (157, .invokestatic 58, 3), (160, .aload_n 0, 1), (161, .aload_n 1, 1), (162, .getfield 36, 3), (165, .putfield 36, 3), (168, .aload_n 0, 1), (169, .aload_n 1, 1), (170, .getfield 67, 3), (173, .putfield 67, 3), (176, .iconst 0, 1), (177, .istore_n 2, 1), (178, .iload_n 2, 1), (179, .bipush 6, 2), (181, .if_icmp .ge 21, 3), (184, .aload_n 0, 1), (185, .getfield 42, 3), (188, .iload_n 2, 1), (189, .aload_n 1, 1), (190, .getfield 42, 3), (193, .iload_n 2, 1), (194, .aaload, 1), (195, .aastore, 1), (196, .iinc 2 1, 3), (199, .goto (-21), 3), (202, .aload_n 1, 1), (203, .getfield 46, 3), (206, .iconst 0, 1), (207, .aload_n 0, 1), (208, .getfield 46, 3), (211, .iconst 0, 1), (212, .aload_n 0, 1), (213, .getfield 46, 3), (216, .arraylength, 1), (217, .invokestatic 58, 3), (220, .return_, 1)]
theorem d_X6_copyFrom : gt_dok cX6_copyFrom cs_X6_copyFrom := gt_dok_of (by decide +kernel)
def cs_X6_hasThing : List gt_I := [(0, .iload_n 1, 1), (1, .iconst 0, 1), (2, .aload_n 0, 1), (3, .getfield 55, 3), (6, .iconst 1, 1), (7, .isub, 1), (8, .invokestatic 70, 3), (11, .ireturn, 1)]
theorem d_X6_hasThing : gt_dok cX6_hasThing cs_X6_hasThing := gt_dok_of (by decide +kernel)
def cs_X6_hasGuest : List gt_I := [(0, .iload_n 1, 1), (1, .iconst 0, 1), (2, .aload_n 0, 1), (3, .getfield 64, 3), (6, .iconst 1, 1), (7, .isub, 1), (8, .invokestatic 70, 3), (11, .ireturn, 1)]
theorem d_X6_hasGuest : gt_dok cX6_hasGuest cs_X6_hasGuest := gt_dok_of (by decide +kernel)
def cs_X6_fact : List gt_I := [(0, .aload_n 0, 1), (1, .getfield 9, 3), (4, .iload_n 1, 1), (5, .iconst 4, 1), (6, .imul, 1), (7, .iload_n 2, 1), (8, .iadd, 1), (9, .iaload, 1), (10, .ireturn, 1)]
theorem d_X6_fact : gt_dok cX6_fact cs_X6_fact := gt_dok_of (by decide +kernel)
def cs_X6_addGuest : List gt_I := [(0, .aload_n 0, 1), (1, .getfield 64, 3), (4, .iconst 4, 1), (5, .imul, 1), (6, .istore 5, 2), (8, .aload_n 0, 1), (9, .getfield 24, 3), (12, .iload 5, 2), (14, .iconst 0, 1), (15, .iadd, 1), (16, .iload_n 1, 1), (17, .iastore, 1), (18, .aload_n 0, 1), (19, .getfield 24, 3), (22, .iload 5, 2), (24, .iconst 1, 1), (25, .iadd, 1), (26, .iload_n 2, 1), (27, .iastore, 1), (28, .aload_n 0, 1), (29, .getfield 24, 3), (32, .iload 5, 2), (34, .iconst 2, 1), (35, .iadd, 1), (36, .iload_n 3, 1), (37, .iastore, 1), (38, .aload_n 0, 1), (39, .getfield 24, 3), (42, .iload 5, 2), (44, .iconst 3, 1), (45, .iadd, 1), (46, .iload 4, 2), (48, .iastore, 1), (49, .aload_n 0, 1), (50, .dup, 1), (51, .getfield 64, 3), (54, .iconst 1, 1), (55, .iadd, 1), (56, .putfield 64, 3), (59, .aload_n 0, 1), (60, .getfield 64, 3), (63, .iconst 1, 1), (64, .isub, 1), (65, .ireturn, 1)]
theorem d_X6_addGuest : gt_dok cX6_addGuest cs_X6_addGuest := gt_dok_of (by decide +kernel)
def cs_X6_part : List gt_I := [(0, .aload_n 0, 1), (1, .getfield 33, 3), (4, .iload_n 1, 1), (5, .iaload, 1), (6, .istore_n 2, 1), (7, .iload_n 2, 1), (8, .iconst (-1), 1), (9, .if_icmp .eq 17, 3), (12, .aload_n 0, 1), (13, .getfield 33, 3), (16, .iload_n 2, 1), (17, .iconst (-1), 1), (18, .iastore, 1), (19, .aload_n 0, 1), (20, .getfield 33, 3), (23, .iload_n 1, 1), (24, .iconst (-1), 1), (25, .iastore, 1), (26, .return_, 1)]
theorem d_X6_part : gt_dok cX6_part cs_X6_part := gt_dok_of (by decide +kernel)
def cs_X6_isWithThird : List gt_I := [(0, .aload_n 0, 1), (1, .getfield 33, 3), (4, .iload_n 1, 1), (5, .iaload, 1), (6, .iconst (-1), 1), (7, .if_icmp .eq 17, 3), (10, .aload_n 0, 1), (11, .getfield 33, 3), (14, .iload_n 1, 1), (15, .iaload, 1), (16, .iload_n 2, 1), (17, .if_icmp .eq 7, 3), (20, .iconst 1, 1), (21, .goto 4, 3), (24, .iconst 0, 1), (25, .ireturn, 1)]
theorem d_X6_isWithThird : gt_dok cX6_isWithThird cs_X6_isWithThird := gt_dok_of (by decide +kernel)
def cs_X6_isGiver : List gt_I := [(0, .aload_n 0, 1), (1, .getfield 33, 3), (4, .iload_n 1, 1), (5, .iaload, 1), (6, .iconst (-1), 1), (7, .if_icmp .eq 13, 3), (10, .aload_n 0, 1), (11, .getfield 33, 3), (14, .iload_n 1, 1), (15, .iaload, 1), (16, .iload_n 1, 1), (17, .if_icmp .le 7, 3), (20, .iconst 1, 1), (21, .goto 4, 3), (24, .iconst 0, 1), (25, .ireturn, 1)]
theorem d_X6_isGiver : gt_dok cX6_isGiver cs_X6_isGiver := gt_dok_of (by decide +kernel)
def cs_X6_countGivers : List gt_I := [(0, .iconst 0, 1), (1, .istore_n 1, 1), (2, .iconst 0, 1), (3, .istore_n 2, 1), (4, .iload_n 2, 1), (5, .aload_n 0, 1), (6, .getfield 64, 3), (9, .if_icmp .ge 20, 3), (12, .aload_n 0, 1), (13, .iload_n 2, 1), (14, .invokevirtual 74, 3), (17, .ifCond .eq 6, 3), (20, .iinc 1 1, 3), (23, .iinc 2 1, 3), (26, .goto (-22), 3), (29, .iload_n 1, 1), (30, .ireturn, 1)]
theorem d_X6_countGivers : gt_dok cX6_countGivers cs_X6_countGivers := gt_dok_of (by decide +kernel)
def cs_X6_purseOf : List gt_I := [(0, .aload_n 0, 1), (1, .getfield 24, 3), (4, .iload_n 1, 1), (5, .iconst 4, 1), (6, .imul, 1), (7, .iconst 2, 1), (8, .iadd, 1), (9, .iaload, 1), (10, .istore_n 2, 1), (11, .aload_n 0, 1), (12, .getfield 33, 3), (15, .iload_n 1, 1), (16, .iaload, 1), (17, .iconst (-1), 1), (18, .if_icmp .ne 7, 3), (21, .iload_n 2, 1), (22, .goto 20, 3), (25, .iload_n 2, 1), (26, .aload_n 0, 1), (27, .getfield 24, 3), (30, .aload_n 0, 1), (31, .getfield 33, 3), (34, .iload_n 1, 1), (35, .iaload, 1), (36, .iconst 4, 1), (37, .imul, 1), (38, .iconst 2, 1), (39, .iadd, 1), (40, .iaload, 1), (41, .iadd, 1), (42, .ireturn, 1)]
theorem d_X6_purseOf : gt_dok cX6_purseOf cs_X6_purseOf := gt_dok_of (by decide +kernel)
def cs_X6_wayOf : List gt_I := [(0, .aload_n 0, 1), (1, .getfield 46, 3), (4, .iload_n 1, 1), (5, .iaload, 1), (6, .istore_n 2, 1), (7, .iload_n 2, 1), (8, .iconst 0, 1), (9, .aload_n 0, 1), (10, .getfield 67, 3), (13, .iconst 1, 1), (14, .isub, 1), (15, .invokestatic 70, 3), (18, .ifCond .eq 12, 3), (21, .aload_n 0, 1), (22, .getfield 42, 3), (25, .iload_n 2, 1), (26, .aaload, 1), (27, .goto 4, 3), (30, .aconst_null, 1), (31, .areturn, 1)]
theorem d_X6_wayOf : gt_dok cX6_wayOf cs_X6_wayOf := gt_dok_of (by decide +kernel)
def cs_X7_tells : List gt_I := [(0, .aload_n 0, 1), (1, .getfield 15, 3), (4, .arraylength, 1), (5, .iconst 4, 1), (6, .isub, 1), (7, .istore 4, 2), (9, .iload 4, 2), (11, .ifCond .lt 106, 3), (14, .aload_n 0, 1), (15, .getfield 15, 3), (18, .iload 4, 2), (20, .iconst 2, 1), (21, .iadd, 1), (22, .iaload, 1), (23, .istore 5, 2), (25, .aload_n 0, 1), (26, .getfield 15, 3), (29, .iload 4, 2), (31, .iconst 3, 1), (32, .iadd, 1), (33, .iaload, 1), (34, .istore 6, 2), (36, .aload_n 0, 1), (37, .getfield 15, 3), (40, .iload 4, 2), (42, .iaload, 1), (43, .iload_n 1, 1), (44, .if_icmp .ne 67, 3), (47, .iload 5, 2), (49, .iload 6, 2), (51, .if_icmp .eq 18, 3), (54, .aload_n 0, 1), (55, .iload 5, 2), (57, .iload 6, 2), (59, .aload_n 2, 1), (60, .aload_n 3, 1), (61, .invokevirtual 18, 3), (64, .lconst 1, 1), (65, .lcmp, 1), (66, .ifCond .ne 45, 3), (69, .aload_n 0, 1), (70, .aload_n 0, 1), (71, .getfield 15, 3), (74, .iload 4, 2), (76, .iconst 1, 1), (77, .iadd, 1), (78, .iaload, 1), (79, .iload 5, 2), (81, .aload_n 2, 1), (82, .aload_n 3, 1), (83, .invokevirtual 18, 3), (86, .lstore 7, 2), (88, .lload 7, 2), (90, .ldc2_w 22, 3), (93, .lcmp, 1), (94, .ifCond .eq 17, 3), (97, .lconst 0, 1), (98, .ldc2_w 24, 3), (101, .lload 7, 2), (103, .invokestatic 26, 3), (106, .invokestatic 32, 3), (109, .l2i, 1), (110, .ireturn, 1), (111, .iinc 4 (-4), 3), (114, .goto (-105), 3), (117, .iconst 0, 1), (118, .ireturn, 1)]
theorem d_X7_tells : gt_dok cX7_tells cs_X7_tells := gt_dok_of (by decide +kernel)
def cs_X7_reckon : List gt_I := [(0, .iconst 0, 1), (1, .istore 5, 2), (3, .iload_n 1, 1), (4, .istore 6, 2), (6, .iload 6, 2), (8, .iload_n 2, 1), (9, .if_icmp .ge 253, 3), (12, .aload_n 0, 1), (13, .getfield 9, 3), (16, .iload 6, 2), (18, .iaload, 1), (19, .sipush 2048, 3), (22, .idiv, 1), (23, .istore 7, 2), (25, .aload_n 0, 1), (26, .getfield 9, 3), (29, .iload 6, 2), (31, .iaload, 1), (32, .sipush 2048, 3), (35, .irem, 1), (36, .istore 8, 2), (38, .iload 7, 2), (40, .ifCond .eq 9, 3), (43, .iload 7, 2), (45, .iconst 1, 1), (46, .if_icmp .ne 41, 3), (49, .iload 5, 2), (51, .bipush 64, 2), (53, .if_icmp .lt 7, 3), (56, .ldc2_w 22, 3), (59, .lreturn, 1), (60, .aload 4, 2), (62, .iload 5, 2), (64, .iload 7, 2), (66, .ifCond .ne 9, 3), (69, .iload 8, 2), (71, .i2l, 1), (72, .goto 8, 3), (75, .aload_n 3, 1), (76, .iload 8, 2), (78, .iaload, 1), (79, .i2l, 1), (80, .lastore, 1), (81, .iinc 5 1, 3), (84, .goto 172, 3), (87, .iload 5, 2), (89, .iconst 1, 1), (90, .if_icmp .ge 7, 3), (93, .ldc2_w 22, 3), (96, .lreturn, 1), (97, .iload 7, 2), (99, .bipush 9, 2), (101, .if_icmp .ne 22, 3), (104, .aload 4, 2), (106, .iload 5, 2), (108, .iconst 1, 1), (109, .isub, 1), (110, .lconst 1, 1), (111, .aload 4, 2), (113, .iload 5, 2), (115, .iconst 1, 1), (116, .isub, 1), (117, .laload, 1), (118, .lsub, 1), (119, .lastore, 1), (120, .goto 136, 3), (123, .iload 7, 2), (125, .bipush 10, 2), (127, .if_icmp .eq 10, 3), (130, .iload 7, 2), (132, .bipush 11, 2), (134, .if_icmp .ne 55, 3), (137, .aload 4, 2), (139, .iload 5, 2), (141, .iconst 1, 1), (142, .isub, 1), (143, .laload, 1), (144, .lconst 1, 1), (145, .lcmp, 1), (146, .ifCond .ne 7, 3), (149, .iconst 1, 1), (150, .goto 4, 3), (153, .iconst 0, 1), (154, .iload 7, 2), (156, .bipush 11, 2), (158, .if_icmp .ne 7, 3), (161, .iconst 1, 1), (162, .goto 4, 3), (165, .iconst 0, 1), (166, .if_icmp .ne 17, 3), (169, .iload 6, 2), (171, .iload 8, 2), (173, .iconst 1, 1), (174, .isub, 1), (175, .invokestatic 35, 3), (178, .istore 6, 2), (180, .goto 76, 3), (183, .iinc 5 (-1), 3), (186, .goto 70, 3), (189, .iload 5, 2), (191, .iconst 2, 1), (192, .if_icmp .ge 9, 3), (195, .ldc2_w 22, 3), (198, .goto 22, 3), (201, .iload 7, 2), (203, .aload 4, 2), (205, .iload 5, 2), (207, .iconst 2, 1), (208, .isub, 1), (209, .laload, 1), (210, .aload 4, 2), (212, .iload 5, 2), (214, .iconst 1, 1), (215, .isub, 1), (216, .laload, 1), (217, .invokestatic 38, 3), (220, .lstore 9, 2), (222, .lload 9, 2), (224, .ldc2_w 42, 3), (227, .lcmp, 1), (228, .ifCond .gt 12, 3), (231, .lload 9, 2), (233, .ldc2_w 44, 3), (236, .lcmp, 1), (237, .ifCond .ge 7, 3), (240, .ldc2_w 22, 3), (243, .lreturn, 1), (244, .iinc 5 (-1), 3), (247, .aload 4, 2), (249, .iload 5, 2), (251, .iconst 1, 1), (252, .isub, 1), (253, .lload 9, 2), (255, .lastore, 1), (256, .iinc 6 1, 3), (259, .goto (-253), 3), (262, .iload 5, 2), (264, .iconst 1, 1), (265, .if_icmp .ne 10, 3), (268, .aload 4, 2), (270, .iconst 0, 1), (271, .laload, 1), (272, .goto 6, 3), (275, .ldc2_w 22, 3), (278, .lreturn, 1)]
theorem d_X7_reckon : gt_dok cX7_reckon cs_X7_reckon := gt_dok_of (by decide +kernel)
def cs_X7_join : List gt_I := [(0, .iload_n 0, 1), (1, .tableswitch 91 2 7 #[39, 43, 47, 51, 67, 79], 39), (40, .lload_n 1, 1), (41, .lload_n 3, 1), (42, .ladd, 1), (43, .lreturn, 1), (44, .lload_n 1, 1), (45, .lload_n 3, 1), (46, .lsub, 1), (47, .lreturn, 1), (48, .lload_n 1, 1), (49, .lload_n 3, 1), (50, .lmul, 1), (51, .lreturn, 1), (52, .lload_n 3, 1), (53, .lconst 0, 1), (54, .lcmp, 1), (55, .ifCond .ne 9, 3), (58, .ldc2_w 22, 3), (61, .goto 6, 3), (64, .lload_n 1, 1), (65, .lload_n 3, 1), (66, .ldiv, 1), (67, .lreturn, 1), (68, .lload_n 1, 1), (69, .lload_n 3, 1), (70, .lcmp, 1), (71, .ifCond .ge 7, 3), (74, .lconst 1, 1), (75, .goto 4, 3), (78, .lconst 0, 1), (79, .lreturn, 1), (80, .lload_n 1, 1), (81, .lload_n 3, 1), (82, .lcmp, 1), (83, .ifCond .le 7, 3), (86, .lconst 1, 1), (87, .goto 4, 3), (90, .lconst 0, 1), (91, .lreturn, 1), (92, .lload_n 1, 1), (93, .lload_n 3, 1), (94, .lcmp, 1), (95, .ifCond .ne 7, 3), (98, .lconst 1, 1), (99, .goto 4, 3), (102, .lconst 0, 1), (103, .lreturn, 1)]
theorem d_X7_join : gt_dok cX7_join cs_X7_join := gt_dok_of (by decide +kernel)
def cs_X8_work : List gt_I := [(0, .aload_n 0, 1), (1, .getfield 29, 3), (4, .iload_n 3, 1), (5, .if_icmp .ne 4, 3), (8, .return_, 1), (9, .aload_n 0, 1), (10, .iload_n 3, 1), (11, .putfield 29, 3), (14, .aload_n 1, 1), (15, .getfield 33, 3), (18, .istore 4, 2), (20, .aload_n 0, 1), (21, .getfield 15, 3), (24, .iconst 0, 1), (25, .iconst 0, 1), (26, .iastore, 1), (27, .iconst 0, 1), (28, .istore 5, 2), (30, .iload 5, 2), (32, .iload 4, 2), (34, .if_icmp .ge 33, 3), (37, .aload_n 0, 1), (38, .getfield 15, 3), (41, .iload 5, 2), (43, .iconst 1, 1), (44, .iadd, 1), (45, .aload_n 0, 1), (46, .getfield 15, 3), (49, .iload 5, 2), (51, .iaload, 1), (52, .aload_n 2, 1), (53, .getfield 38, 3), (56, .iload 5, 2), (58, .iaload, 1), (59, .iadd, 1), (60, .iastore, 1), (61, .iinc 5 1, 3), (64, .goto (-34), 3), (67, .aload_n 2, 1), (68, .getfield 41, 3), (71, .iconst 0, 1), (72, .aload_n 0, 1), (73, .getfield 11, 3), (76, .aload_n 0, 1), (77, .getfield 15, 3), (80, .iload 4, 2), (82, .iaload, 1), (83, .aload_n 2, 1), (84, .getfield 38, 3), (87, .iload 4, 2), (89, .iaload, 1), (90, .invokestatic 44, 3), (93, .aload_n 0, 1), (94, .getfield 20, 3), (97, .iconst 0, 1), (98, .aload_n 2, 1), (99, .getfield 38, 3), (102, .iload 4, 2), (104, .iaload, 1), (105, .iconst 1, 1), (106, .invokestatic 50, 3), (109, .iload 4, 2), (111, .iconst 1, 1), (112, .isub, 1), (113, .istore 5, 2), (115, .iload 5, 2), (117, .ifCond .lt 17, 3), (120, .aload_n 0, 1), (121, .aload_n 1, 1), (122, .aload_n 2, 1), (123, .iload 5, 2), (125, .invokevirtual 56, 3), (128, .iinc 5 (-1), 3), (131, .goto (-16), 3), (134, .aload_n 0, 1), (135, .aload_n 1, 1), (136, .aload_n 2, 1), (137, .invokevirtual 60, 3), (140, .return_, 1)]
theorem d_X8_work : gt_dok cX8_work cs_X8_work := gt_dok_of (by decide +kernel)
def cs_X8_greatest : List gt_I := [(0, .aload_n 0, 1), (1, .getfield 11, 3), (4, .iconst 0, 1), (5, .iaload, 1), (6, .ireturn, 1)]
theorem d_X8_greatest : gt_dok cX8_greatest cs_X8_greatest := gt_dok_of (by decide +kernel)
def cs_X8_countedWays : List gt_I := [(0, .aload_n 0, 1), (1, .getfield 20, 3), (4, .iconst 0, 1), (5, .iaload, 1), (6, .ireturn, 1)]
theorem d_X8_countedWays : gt_dok cX8_countedWays cs_X8_countedWays := gt_dok_of (by decide +kernel)
def cs_X8_valueAfter : List gt_I := [(0, .aload_n 0, 1), (1, .getfield 11, 3), (4, .aload_n 0, 1), (5, .getfield 15, 3), (8, .iload_n 3, 1), (9, .iconst 1, 1), (10, .iadd, 1), (11, .iaload, 1), (12, .aload_n 2, 1), (13, .iload 4, 2), (15, .iload 5, 2), (17, .invokevirtual 64, 3), (20, .iadd, 1), (21, .iaload, 1), (22, .aload_n 1, 1), (23, .iload_n 3, 1), (24, .iload 5, 2), (26, .invokevirtual 68, 3), (29, .iadd, 1), (30, .ireturn, 1)]
theorem d_X8_valueAfter : gt_dok cX8_valueAfter cs_X8_valueAfter := gt_dok_of (by decide +kernel)
def cs_X8_workLayer : List gt_I := [(0, .aload_n 0, 1), (1, .getfield 15, 3), (4, .iload_n 3, 1), (5, .iconst 1, 1), (6, .iadd, 1), (7, .iaload, 1), (8, .istore 4, 2), (10, .iconst 0, 1), (11, .istore 5, 2), (13, .iload 5, 2), (15, .aload_n 2, 1), (16, .getfield 38, 3), (19, .iload_n 3, 1), (20, .iaload, 1), (21, .if_icmp .ge 144, 3), (24, .iconst (-1), 1), (25, .istore 6, 2), (27, .iconst 0, 1), (28, .istore 7, 2), (30, .iconst 0, 1), (31, .istore 8, 2), (33, .iload 8, 2), (35, .iconst 5, 1), (36, .if_icmp .ge 98, 3), (39, .aload_n 1, 1), (40, .getfield 71, 3), (43, .iload_n 3, 1), (44, .iaload, 1), (45, .iload 8, 2), (47, .ishr, 1), (48, .iconst 1, 1), (49, .iand, 1), (50, .ifCond .ne 6, 3), (53, .goto 75, 3), (56, .aload_n 2, 1), (57, .iload 5, 2), (59, .iload 8, 2), (61, .invokevirtual 64, 3), (64, .istore 9, 2), (66, .aload_n 0, 1), (67, .getfield 11, 3), (70, .iload 4, 2), (72, .iload 9, 2), (74, .iadd, 1), (75, .iaload, 1), (76, .aload_n 1, 1), (77, .iload_n 3, 1), (78, .iload 8, 2), (80, .invokevirtual 68, 3), (83, .iadd, 1), (84, .istore 10, 2), (86, .iload 10, 2), (88, .iload 6, 2), (90, .if_icmp .le 19, 3), (93, .iload 10, 2), (95, .istore 6, 2), (97, .aload_n 0, 1), (98, .getfield 20, 3), (101, .iload 9, 2), (103, .iaload, 1), (104, .istore 7, 2), (106, .goto 22, 3), (109, .iload 10, 2), (111, .iload 6, 2), (113, .if_icmp .ne 15, 3), (116, .iload 7, 2), (118, .aload_n 0, 1), (119, .getfield 20, 3), (122, .iload 9, 2), (124, .iaload, 1), (125, .iadd, 1), (126, .istore 7, 2), (128, .iinc 8 1, 3), (131, .goto (-98), 3), (134, .aload_n 0, 1), (135, .getfield 11, 3), (138, .aload_n 0, 1), (139, .getfield 15, 3), (142, .iload_n 3, 1), (143, .iaload, 1), (144, .iload 5, 2), (146, .iadd, 1), (147, .iload 6, 2), (149, .iastore, 1), (150, .aload_n 0, 1), (151, .getfield 20, 3), (154, .iload 5, 2), (156, .iload 7, 2), (158, .iastore, 1), (159, .iinc 5 1, 3), (162, .goto (-149), 3), (165, .return_, 1)]
theorem d_X8_workLayer : gt_dok cX8_workLayer cs_X8_workLayer := gt_dok_of (by decide +kernel)
def cs_X8_walkFirst : List gt_I := [(0, .iconst 0, 1), (1, .istore_n 3, 1), (2, .iconst 0, 1), (3, .istore 4, 2), (5, .iload 4, 2), (7, .aload_n 1, 1), (8, .getfield 33, 3), (11, .if_icmp .ge 80, 3), (14, .iconst 0, 1), (15, .istore 5, 2), (17, .iload 5, 2), (19, .iconst 4, 1), (20, .if_icmp .ge 48, 3), (23, .aload_n 1, 1), (24, .iload 4, 2), (26, .iload 5, 2), (28, .invokevirtual 74, 3), (31, .ifCond .eq 31, 3), (34, .aload_n 0, 1), (35, .aload_n 1, 1), (36, .aload_n 2, 1), (37, .iload 4, 2), (39, .iload_n 3, 1), (40, .iload 5, 2), (42, .invokevirtual 78, 3), (45, .aload_n 0, 1), (46, .getfield 11, 3), (49, .aload_n 0, 1), (50, .getfield 15, 3), (53, .iload 4, 2), (55, .iaload, 1), (56, .iload_n 3, 1), (57, .iadd, 1), (58, .iaload, 1), (59, .if_icmp .eq 9, 3), (62, .iinc 5 1, 3), (65, .goto (-48), 3), (68, .aload_n 0, 1), (69, .getfield 26, 3), (72, .iload 4, 2), (74, .iload 5, 2), (76, .iastore, 1), (77, .aload_n 2, 1), (78, .iload_n 3, 1), (79, .iload 5, 2), (81, .invokevirtual 64, 3), (84, .istore_n 3, 1), (85, .iinc 4 1, 3), (88, .goto (-83), 3), (91, .aload_n 0, 1), (92, .aload_n 2, 1), (93, .getfield 82, 3), (96, .iload_n 3, 1), (97, .iaload, 1), (98, .putfield 85, 3), (101, .aload_n 0, 1), (102, .aload_n 2, 1), (103, .getfield 88, 3), (106, .iload_n 3, 1), (107, .iaload, 1), (108, .putfield 91, 3), (111, .return_, 1)]
theorem d_X8_walkFirst : gt_dok cX8_walkFirst cs_X8_walkFirst := gt_dok_of (by decide +kernel)
def cs_X8_lessWith : List gt_I := [(0, .iconst 0, 1), (1, .istore 5, 2), (3, .iload 5, 2), (5, .aload_n 2, 1), (6, .getfield 38, 3), (9, .iload_n 3, 1), (10, .iaload, 1), (11, .if_icmp .ge 27, 3), (14, .aload_n 0, 1), (15, .getfield 23, 3), (18, .iload 5, 2), (20, .aload_n 0, 1), (21, .aload_n 1, 1), (22, .aload_n 2, 1), (23, .iload_n 3, 1), (24, .iload 5, 2), (26, .iload 4, 2), (28, .invokevirtual 78, 3), (31, .iastore, 1), (32, .iinc 5 1, 3), (35, .goto (-32), 3), (38, .iload_n 3, 1), (39, .iconst 1, 1), (40, .isub, 1), (41, .istore 5, 2), (43, .iload 5, 2), (45, .ifCond .lt 17, 3), (48, .aload_n 0, 1), (49, .aload_n 1, 1), (50, .aload_n 2, 1), (51, .iload 5, 2), (53, .invokevirtual 94, 3), (56, .iinc 5 (-1), 3), (59, .goto (-16), 3), (62, .aload_n 0, 1), (63, .getfield 11, 3), (66, .iconst 0, 1), (67, .iaload, 1), (68, .aload_n 0, 1), (69, .getfield 23, 3), (72, .iconst 0, 1), (73, .iaload, 1), (74, .isub, 1), (75, .ireturn, 1)]
theorem d_X8_lessWith : gt_dok cX8_lessWith cs_X8_lessWith := gt_dok_of (by decide +kernel)
def cs_X8_tryLayer : List gt_I := [(0, .iconst 0, 1), (1, .istore 4, 2), (3, .iload 4, 2), (5, .aload_n 2, 1), (6, .getfield 38, 3), (9, .iload_n 3, 1), (10, .iaload, 1), (11, .if_icmp .ge 79, 3), (14, .iconst (-1), 1), (15, .istore 5, 2), (17, .iconst 0, 1), (18, .istore 6, 2), (20, .iload 6, 2), (22, .iconst 5, 1), (23, .if_icmp .ge 52, 3), (26, .aload_n 1, 1), (27, .getfield 71, 3), (30, .iload_n 3, 1), (31, .iaload, 1), (32, .iload 6, 2), (34, .ishr, 1), (35, .iconst 1, 1), (36, .iand, 1), (37, .iconst 1, 1), (38, .if_icmp .ne 31, 3), (41, .iload 5, 2), (43, .aload_n 0, 1), (44, .getfield 23, 3), (47, .aload_n 2, 1), (48, .iload 4, 2), (50, .iload 6, 2), (52, .invokevirtual 64, 3), (55, .iaload, 1), (56, .aload_n 1, 1), (57, .iload_n 3, 1), (58, .iload 6, 2), (60, .invokevirtual 68, 3), (63, .iadd, 1), (64, .invokestatic 97, 3), (67, .istore 5, 2), (69, .iinc 6 1, 3), (72, .goto (-52), 3), (75, .aload_n 0, 1), (76, .getfield 23, 3), (79, .iload 4, 2), (81, .iload 5, 2), (83, .iastore, 1), (84, .iinc 4 1, 3), (87, .goto (-84), 3), (90, .return_, 1)]
theorem d_X8_tryLayer : gt_dok cX8_tryLayer cs_X8_tryLayer := gt_dok_of (by decide +kernel)
def cs_X9_hold : List gt_I := [(0, .aload_n 0, 1), (1, .iconst 1, 1), (2, .putfield 21, 3), (5, .aload_n 0, 1), (6, .iload 4, 2), (8, .putfield 25, 3), (11, .aload_n 0, 1), (12, .getfield 9, 3), (15, .iconst 0, 1), (16, .invokestatic 29, 3), (19, .aload_n 0, 1), (20, .getfield 15, 3), (23, .iconst (-1), 1), (24, .invokestatic 29, 3), (27, .aload_n 0, 1), (28, .getfield 18, 3), (31, .iconst 0, 1), (32, .invokestatic 29, 3), (35, .iconst 0, 1), (36, .istore 5, 2), (38, .iload 5, 2), (40, .aload_n 2, 1), (41, .getfield 35, 3), (44, .if_icmp .ge 107, 3), (47, .aload_n 2, 1), (48, .getfield 40, 3), (51, .iload 5, 2), (53, .iaload, 1), (54, .istore 6, 2), (56, .aload_n 1, 1), (57, .getfield 43, 3), (60, .iload 6, 2), (62, .iaload, 1), (63, .iconst 1, 1), (64, .if_icmp .ne 7, 3), (67, .iconst 1, 1), (68, .goto 4, 3), (71, .iconst 0, 1), (72, .istore 7, 2), (74, .aload_n 0, 1), (75, .aload_n 1, 1), (76, .aload_n 2, 1), (77, .aload_n 3, 1), (78, .iload 5, 2), (80, .iload 7, 2), (82, .invokevirtual 48, 3), (85, .istore 8, 2), (87, .aload_n 0, 1), (88, .getfield 15, 3), (91, .iload 6, 2), (93, .iload 8, 2), (95, .iastore, 1), (96, .aload_n 0, 1), (97, .getfield 9, 3), (100, .iload 8, 2), (102, .dup2, 1), (103, .iaload, 1), (104, .iload 8, 2), (106, .iconst 4, 1), (107, .if_icmp .ne 13, 3), (110, .aload_n 2, 1), (111, .getfield 52, 3), (114, .iload 5, 2), (116, .iaload, 1), (117, .goto 4, 3), (120, .iconst 1, 1), (121, .iadd, 1), (122, .iastore, 1), (123, .iload 7, 2), (125, .ifCond .eq 20, 3), (128, .iload 8, 2), (130, .iconst 4, 1), (131, .if_icmp .eq 14, 3), (134, .aload_n 0, 1), (135, .getfield 18, 3), (138, .iload 8, 2), (140, .dup2, 1), (141, .iaload, 1), (142, .iconst 1, 1), (143, .iadd, 1), (144, .iastore, 1), (145, .iinc 5 1, 3), (148, .goto (-110), 3), (151, .aload_n 3, 1), (152, .aload_n 1, 1), (153, .aload_n 0, 1), (154, .getfield 9, 3), (157, .invokevirtual 55, 3), (160, .aload_n 0, 1), (161, .aload_n 3, 1), (162, .getfield 61, 3), (165, .aload_n 0, 1), (166, .getfield 9, 3), (169, .iconst 4, 1), (170, .iaload, 1), (171, .iadd, 1), (172, .putfield 64, 3), (175, .return_, 1)]
theorem d_X9_hold : gt_dok cX9_hold cs_X9_hold := gt_dok_of (by decide +kernel)
def cs_X9_choose : List gt_I := [(0, .aload_n 2, 1), (1, .getfield 65, 3), (4, .iload 4, 2), (6, .iaload, 1), (7, .iconst (-1), 1), (8, .if_icmp .eq 11, 3), (11, .aload_n 2, 1), (12, .getfield 65, 3), (15, .iload 4, 2), (17, .iaload, 1), (18, .ireturn, 1), (19, .iload 5, 2), (21, .ifCond .eq 15, 3), (24, .aload_n 0, 1), (25, .aload_n 1, 1), (26, .aload_n 2, 1), (27, .aload_n 3, 1), (28, .iload 4, 2), (30, .invokevirtual 68, 3), (33, .goto 10, 3), (36, .aload_n 0, 1), (37, .aload_n 2, 1), (38, .iload 4, 2), (40, .invokevirtual 72, 3), (43, .ireturn, 1)]
theorem d_X9_choose : gt_dok cX9_choose cs_X9_choose := gt_dok_of (by decide +kernel)
def cs_X9_bestByList : List gt_I := [(0, .iconst 4, 1), (1, .istore 5, 2), (3, .iconst (-1), 1), (4, .istore 6, 2), (6, .iconst 0, 1), (7, .istore 7, 2), (9, .iload 7, 2), (11, .aload_n 1, 1), (12, .getfield 76, 3), (15, .if_icmp .ge 70, 3), (18, .aload_n 2, 1), (19, .iload 4, 2), (21, .iload 7, 2), (23, .invokevirtual 79, 3), (26, .ifCond .eq 53, 3), (29, .aload_n 0, 1), (30, .getfield 18, 3), (33, .iload 7, 2), (35, .dup2, 1), (36, .iaload, 1), (37, .iconst 1, 1), (38, .iadd, 1), (39, .iastore, 1), (40, .aload_n 3, 1), (41, .aload_n 1, 1), (42, .aload_n 0, 1), (43, .getfield 18, 3), (46, .invokevirtual 55, 3), (49, .aload_n 0, 1), (50, .getfield 18, 3), (53, .iload 7, 2), (55, .dup2, 1), (56, .iaload, 1), (57, .iconst 1, 1), (58, .isub, 1), (59, .iastore, 1), (60, .aload_n 3, 1), (61, .getfield 61, 3), (64, .iload 6, 2), (66, .if_icmp .le 13, 3), (69, .aload_n 3, 1), (70, .getfield 61, 3), (73, .istore 6, 2), (75, .iload 7, 2), (77, .istore 5, 2), (79, .iinc 7 1, 3), (82, .goto (-73), 3), (85, .aload_n 3, 1), (86, .aload_n 1, 1), (87, .aload_n 0, 1), (88, .getfield 18, 3), (91, .invokevirtual 55, 3), (94, .aload_n 3, 1), (95, .getfield 61, 3), (98, .aload_n 2, 1), (99, .getfield 52, 3), (102, .iload 4, 2), (104, .iaload, 1), (105, .iadd, 1), (106, .iload 6, 2), (108, .if_icmp .le 7, 3), (111, .iconst 4, 1), (112, .goto 5, 3), (115, .iload 5, 2), (117, .ireturn, 1)]
theorem d_X9_bestByList : gt_dok cX9_bestByList cs_X9_bestByList := gt_dok_of (by decide +kernel)
def cs_X9_drawnChoice : List gt_I := [(0, .aload_n 0, 1), (1, .aload_n 0, 1), (2, .getfield 25, 3), (5, .i2l, 1), (6, .ldc2_w 83, 3), (9, .lmul, 1), (10, .ldc2_w 85, 3), (13, .ladd, 1), (14, .ldc2_w 87, 3), (17, .lrem, 1), (18, .l2i, 1), (19, .putfield 25, 3), (22, .aload_n 1, 1), (23, .iload_n 2, 1), (24, .invokevirtual 89, 3), (27, .istore_n 3, 1), (28, .iload_n 3, 1), (29, .ifCond .le 12, 3), (32, .aload_n 0, 1), (33, .getfield 25, 3), (36, .iload_n 3, 1), (37, .irem, 1), (38, .goto 4, 3), (41, .iconst 0, 1), (42, .istore 4, 2), (44, .iconst 0, 1), (45, .istore 5, 2), (47, .iconst 0, 1), (48, .istore 6, 2), (50, .iload 6, 2), (52, .iconst 4, 1), (53, .if_icmp .ge 35, 3), (56, .iload 5, 2), (58, .aload_n 1, 1), (59, .getfield 93, 3), (62, .iload_n 2, 1), (63, .iconst 5, 1), (64, .imul, 1), (65, .iload 6, 2), (67, .iadd, 1), (68, .iaload, 1), (69, .iadd, 1), (70, .istore 5, 2), (72, .iload 4, 2), (74, .iload 5, 2), (76, .if_icmp .ge 6, 3), (79, .iload 6, 2), (81, .ireturn, 1), (82, .iinc 6 1, 3), (85, .goto (-35), 3), (88, .iconst 4, 1), (89, .ireturn, 1)]
theorem d_X9_drawnChoice : gt_dok cX9_drawnChoice cs_X9_drawnChoice := gt_dok_of (by decide +kernel)
def cs_X10_thing : List gt_I := [(0, .iconst 0, 1), (1, .iload_n 1, 1), (2, .invokestatic 97, 3), (5, .ifCond .eq 28, 3), (8, .iconst 1, 1), (9, .iload_n 2, 1), (10, .invokestatic 97, 3), (13, .ifCond .eq 20, 3), (16, .iconst 2, 1), (17, .iload_n 3, 1), (18, .invokestatic 97, 3), (21, .ifCond .eq 12, 3), (24, .iconst 3, 1), (25, .iload 4, 2), (27, .invokestatic 97, 3), (30, .ifCond .ne 9, 3), (33, .aload_n 0, 1), (34, .iconst (-1), 1), (35, .invokevirtual 101, 3), (38, .ireturn, 1), (39, .aload_n 0, 1), (40, .getfield 10, 3), (43, .getfield 105, 3), (46, .iconst 4, 1), (47, .if_icmp .lt 10, 3), (50, .aload_n 0, 1), (51, .bipush (-5), 2), (53, .invokevirtual 101, 3), (56, .ireturn, 1), (57, .aload_n 0, 1), (58, .getfield 10, 3), (61, .getfield 105, 3), (64, .istore 5, 2), (66, .aload_n 0, 1), (67, .getfield 10, 3), (70, .iload 5, 2), (72, .iconst 1, 1), (73, .iadd, 1), (74, .putfield 105, 3), (77, .aload_n 0, 1), (78, .getfield 10, 3), (81, .getfield 108, 3), (84, .iload 5, 2), (86, .iconst 4, 1), (87, .imul, 1), (88, .iconst 0, 1), (89, .iadd, 1), (90, .iload_n 1, 1), (91, .iastore, 1), (92, .aload_n 0, 1), (93, .getfield 10, 3), (96, .getfield 108, 3), (99, .iload 5, 2), (101, .iconst 4, 1), (102, .imul, 1), (103, .iconst 1, 1), (104, .iadd, 1), (105, .iload_n 2, 1), (106, .iastore, 1), (107, .aload_n 0, 1), (108, .getfield 10, 3), (111, .getfield 108, 3), (114, .iload 5, 2), (116, .iconst 4, 1), (117, .imul, 1), (118, .iconst 2, 1), (119, .iadd, 1), (120, .iload_n 3, 1), (121, .iastore, 1), (122, .aload_n 0, 1), (123, .getfield 10, 3), (126, .getfield 108, 3), (129, .iload 5, 2), (131, .iconst 4, 1), (132, .imul, 1), (133, .iconst 3, 1), (134, .iadd, 1), (135, .iload 4, 2), (137, .iastore, 1), (138, .aload_n 0, 1), (139, .iload 5, 2), (141, .invokevirtual 111, 3), (144, .ireturn, 1)]
theorem d_X10_thing : gt_dok cX10_thing cs_X10_thing := gt_dok_of (by decide +kernel)
def cs_X10_put : List gt_I := [(0, .iload_n 2, 1), (1, .iload_n 3, 1), (2, .invokestatic 97, 3), (5, .ifCond .ne 9, 3), (8, .aload_n 0, 1), (9, .iconst (-1), 1), (10, .invokevirtual 101, 3), (13, .ireturn, 1), (14, .aload_n 0, 1), (15, .getfield 10, 3), (18, .iload_n 1, 1), (19, .invokevirtual 114, 3), (22, .ifCond .ne 10, 3), (25, .aload_n 0, 1), (26, .bipush (-2), 2), (28, .invokevirtual 101, 3), (31, .ireturn, 1), (32, .aload_n 0, 1), (33, .getfield 10, 3), (36, .getfield 108, 3), (39, .iload_n 1, 1), (40, .iconst 4, 1), (41, .imul, 1), (42, .iload_n 2, 1), (43, .iadd, 1), (44, .iaload, 1), (45, .istore 4, 2), (47, .aload_n 0, 1), (48, .getfield 10, 3), (51, .getfield 108, 3), (54, .iload_n 1, 1), (55, .iconst 4, 1), (56, .imul, 1), (57, .iload_n 2, 1), (58, .iadd, 1), (59, .iload_n 3, 1), (60, .iastore, 1), (61, .aload_n 0, 1), (62, .iload 4, 2), (64, .invokevirtual 111, 3), (67, .ireturn, 1)]
theorem d_X10_put : gt_dok cX10_put cs_X10_put := gt_dok_of (by decide +kernel)
def cs_X10_instead : List gt_I := [(0, .iload_n 3, 1), (1, .iconst 0, 1), (2, .bipush 100, 2), (4, .invokestatic 118, 3), (7, .ifCond .eq 12, 3), (10, .iload_n 2, 1), (11, .iconst (-1), 1), (12, .if_icmp .ne 13, 3), (15, .iload_n 3, 1), (16, .ifCond .eq 9, 3), (19, .aload_n 0, 1), (20, .iconst (-1), 1), (21, .invokevirtual 101, 3), (24, .ireturn, 1), (25, .aload_n 0, 1), (26, .getfield 10, 3), (29, .iload_n 1, 1), (30, .invokevirtual 114, 3), (33, .ifCond .eq 24, 3), (36, .iload_n 1, 1), (37, .iload_n 2, 1), (38, .if_icmp .eq 19, 3), (41, .iload_n 2, 1), (42, .iconst (-1), 1), (43, .if_icmp .eq 21, 3), (46, .aload_n 0, 1), (47, .getfield 10, 3), (50, .iload_n 2, 1), (51, .invokevirtual 114, 3), (54, .ifCond .ne 10, 3), (57, .aload_n 0, 1), (58, .bipush (-2), 2), (60, .invokevirtual 101, 3), (63, .ireturn, 1), (64, .aload_n 0, 1), (65, .getfield 10, 3), (68, .getfield 122, 3), (71, .iload_n 1, 1), (72, .iload_n 2, 1), (73, .iastore, 1), (74, .aload_n 0, 1), (75, .getfield 10, 3), (78, .getfield 125, 3), (81, .iload_n 1, 1), (82, .iload_n 3, 1), (83, .iastore, 1), (84, .aload_n 0, 1), (85, .iconst 0, 1), (86, .invokevirtual 111, 3), (89, .ireturn, 1)]
theorem d_X10_instead : gt_dok cX10_instead cs_X10_instead := gt_dok_of (by decide +kernel)
def cs_X10_bonus : List gt_I := [(0, .iload_n 3, 1), (1, .iconst 0, 1), (2, .sipush 200, 3), (5, .invokestatic 118, 3), (8, .ifCond .ne 9, 3), (11, .aload_n 0, 1), (12, .iconst (-1), 1), (13, .invokevirtual 101, 3), (16, .ireturn, 1), (17, .aload_n 0, 1), (18, .getfield 10, 3), (21, .iload_n 1, 1), (22, .invokevirtual 114, 3), (25, .ifCond .eq 19, 3), (28, .aload_n 0, 1), (29, .getfield 10, 3), (32, .iload_n 2, 1), (33, .invokevirtual 114, 3), (36, .ifCond .eq 8, 3), (39, .iload_n 1, 1), (40, .iload_n 2, 1), (41, .if_icmp .ne 10, 3), (44, .aload_n 0, 1), (45, .bipush (-2), 2), (47, .invokevirtual 101, 3), (50, .ireturn, 1), (51, .aload_n 0, 1), (52, .getfield 10, 3), (55, .getfield 128, 3), (58, .iload_n 1, 1), (59, .iconst 4, 1), (60, .imul, 1), (61, .iload_n 2, 1), (62, .iadd, 1), (63, .iaload, 1), (64, .istore 4, 2), (66, .aload_n 0, 1), (67, .getfield 10, 3), (70, .getfield 128, 3), (73, .iload_n 1, 1), (74, .iconst 4, 1), (75, .imul, 1), (76, .iload_n 2, 1), (77, .iadd, 1), (78, .iload_n 3, 1), (79, .iastore, 1), (80, .aload_n 0, 1), (81, .getfield 10, 3), (84, .getfield 128, 3), (87, .iload_n 2, 1), (88, .iconst 4, 1), (89, .imul, 1), (90, .iload_n 1, 1), (91, .iadd, 1), (92, .iload_n 3, 1), (93, .iastore, 1), (94, .aload_n 0, 1), (95, .iload 4, 2), (97, .invokevirtual 111, 3), (100, .ireturn, 1)]
theorem d_X10_bonus : gt_dok cX10_bonus cs_X10_bonus := gt_dok_of (by decide +kernel)
def cs_X10_guest : List gt_I := [(0, .iload_n 1, 1), (1, .iload_n 2, 1), (2, .iload_n 3, 1), (3, .iload 4, 2), (5, .invokestatic 131, 3), (8, .ifCond .ne 9, 3), (11, .aload_n 0, 1), (12, .iconst (-1), 1), (13, .invokevirtual 101, 3), (16, .ireturn, 1), (17, .aload_n 0, 1), (18, .getfield 10, 3), (21, .getfield 135, 3), (24, .bipush 12, 2), (26, .if_icmp .lt 10, 3), (29, .aload_n 0, 1), (30, .bipush (-5), 2), (32, .invokevirtual 101, 3), (35, .ireturn, 1), (36, .aload_n 0, 1), (37, .aload_n 0, 1), (38, .getfield 10, 3), (41, .iload_n 1, 1), (42, .iload_n 2, 1), (43, .iload_n 3, 1), (44, .iload 4, 2), (46, .invokevirtual 138, 3), (49, .invokevirtual 111, 3), (52, .ireturn, 1)]
theorem d_X10_guest : gt_dok cX10_guest cs_X10_guest := gt_dok_of (by decide +kernel)
def cs_X10_always : List gt_I := [(0, .aload_n 0, 1), (1, .getfield 10, 3), (4, .iload_n 1, 1), (5, .invokevirtual 142, 3), (8, .ifCond .eq 19, 3), (11, .iload_n 2, 1), (12, .iconst (-1), 1), (13, .if_icmp .eq 21, 3), (16, .aload_n 0, 1), (17, .getfield 10, 3), (20, .iload_n 2, 1), (21, .invokevirtual 114, 3), (24, .ifCond .ne 10, 3), (27, .aload_n 0, 1), (28, .bipush (-2), 2), (30, .invokevirtual 101, 3), (33, .ireturn, 1), (34, .aload_n 0, 1), (35, .getfield 10, 3), (38, .getfield 145, 3), (41, .iload_n 1, 1), (42, .iaload, 1), (43, .istore_n 3, 1), (44, .aload_n 0, 1), (45, .getfield 10, 3), (48, .getfield 145, 3), (51, .iload_n 1, 1), (52, .iload_n 2, 1), (53, .iastore, 1), (54, .aload_n 0, 1), (55, .iload_n 3, 1), (56, .invokevirtual 111, 3), (59, .ireturn, 1)]
theorem d_X10_always : gt_dok cX10_always cs_X10_always := gt_dok_of (by decide +kernel)
def cs_X10_sees : List gt_I := [(0, .iload_n 2, 1), (1, .iconst 0, 1), (2, .iconst 1, 1), (3, .invokestatic 118, 3), (6, .ifCond .ne 9, 3), (9, .aload_n 0, 1), (10, .iconst (-1), 1), (11, .invokevirtual 101, 3), (14, .ireturn, 1), (15, .aload_n 0, 1), (16, .getfield 10, 3), (19, .iload_n 1, 1), (20, .invokevirtual 142, 3), (23, .ifCond .ne 10, 3), (26, .aload_n 0, 1), (27, .bipush (-2), 2), (29, .invokevirtual 101, 3), (32, .ireturn, 1), (33, .aload_n 0, 1), (34, .getfield 10, 3), (37, .getfield 148, 3), (40, .iload_n 1, 1), (41, .iaload, 1), (42, .istore_n 3, 1), (43, .aload_n 0, 1), (44, .getfield 10, 3), (47, .getfield 148, 3), (50, .iload_n 1, 1), (51, .iload_n 2, 1), (52, .iastore, 1), (53, .aload_n 0, 1), (54, .iload_n 3, 1), (55, .invokevirtual 111, 3), (58, .ireturn, 1)]
theorem d_X10_sees : gt_dok cX10_sees cs_X10_sees := gt_dok_of (by decide +kernel)
def cs_X10_pair : List gt_I := [(0, .aload_n 0, 1), (1, .getfield 10, 3), (4, .iload_n 1, 1), (5, .invokevirtual 142, 3), (8, .ifCond .eq 19, 3), (11, .iload_n 2, 1), (12, .iconst (-1), 1), (13, .if_icmp .eq 21, 3), (16, .aload_n 0, 1), (17, .getfield 10, 3), (20, .iload_n 2, 1), (21, .invokevirtual 142, 3), (24, .ifCond .ne 10, 3), (27, .aload_n 0, 1), (28, .bipush (-2), 2), (30, .invokevirtual 101, 3), (33, .ireturn, 1), (34, .iload_n 2, 1), (35, .iconst (-1), 1), (36, .if_icmp .ne 17, 3), (39, .aload_n 0, 1), (40, .getfield 10, 3), (43, .iload_n 1, 1), (44, .invokevirtual 151, 3), (47, .aload_n 0, 1), (48, .iconst 0, 1), (49, .invokevirtual 111, 3), (52, .ireturn, 1), (53, .iload_n 1, 1), (54, .iload_n 2, 1), (55, .if_icmp .eq 27, 3), (58, .aload_n 0, 1), (59, .getfield 10, 3), (62, .iload_n 1, 1), (63, .iload_n 2, 1), (64, .invokevirtual 155, 3), (67, .ifCond .ne 15, 3), (70, .aload_n 0, 1), (71, .getfield 10, 3), (74, .iload_n 2, 1), (75, .iload_n 1, 1), (76, .invokevirtual 155, 3), (79, .ifCond .eq 10, 3), (82, .aload_n 0, 1), (83, .bipush (-3), 2), (85, .invokevirtual 101, 3), (88, .ireturn, 1), (89, .aload_n 0, 1), (90, .getfield 10, 3), (93, .getfield 158, 3), (96, .iload_n 1, 1), (97, .iload_n 2, 1), (98, .iastore, 1), (99, .aload_n 0, 1), (100, .getfield 10, 3), (103, .getfield 158, 3), (106, .iload_n 2, 1), (107, .iload_n 1, 1), (108, .iastore, 1), (109, .aload_n 0, 1), (110, .iconst 0, 1), (111, .invokevirtual 111, 3), (114, .ireturn, 1)]
theorem d_X10_pair : gt_dok cX10_pair cs_X10_pair := gt_dok_of (by decide +kernel)
def cs_X10_coin : List gt_I := [(0, .iload_n 1, 1), (1, .iconst 0, 1), (2, .bipush 100, 2), (4, .invokestatic 118, 3), (7, .ifCond .ne 9, 3), (10, .aload_n 0, 1), (11, .iconst (-1), 1), (12, .invokevirtual 101, 3), (15, .ireturn, 1), (16, .aload_n 0, 1), (17, .getfield 10, 3), (20, .getfield 161, 3), (23, .istore_n 2, 1), (24, .aload_n 0, 1), (25, .getfield 10, 3), (28, .iload_n 1, 1), (29, .putfield 161, 3), (32, .aload_n 0, 1), (33, .iload_n 2, 1), (34, .invokevirtual 111, 3), (37, .ireturn, 1)]
theorem d_X10_coin : gt_dok cX10_coin cs_X10_coin := gt_dok_of (by decide +kernel)
def cs_X10_of : List gt_I := [(0, .aload_n 0, 1), (1, .getfield 10, 3), (4, .iload_n 1, 1), (5, .invokevirtual 142, 3), (8, .ifCond .ne 7, 3), (11, .sipush (-1000), 3), (14, .ireturn, 1), (15, .iload_n 2, 1), (16, .tableswitch 137 0 8 #[52, 52, 52, 52, 66, 76, 86, 96, 113], 52), (68, .aload_n 0, 1), (69, .getfield 10, 3), (72, .getfield 164, 3), (75, .iload_n 1, 1), (76, .iconst 4, 1), (77, .imul, 1), (78, .iload_n 2, 1), (79, .iadd, 1), (80, .iaload, 1), (81, .ireturn, 1), (82, .aload_n 0, 1), (83, .getfield 10, 3), (86, .getfield 145, 3), (89, .iload_n 1, 1), (90, .iaload, 1), (91, .ireturn, 1), (92, .aload_n 0, 1), (93, .getfield 10, 3), (96, .getfield 148, 3), (99, .iload_n 1, 1), (100, .iaload, 1), (101, .ireturn, 1), (102, .aload_n 0, 1), (103, .getfield 10, 3), (106, .getfield 158, 3), (109, .iload_n 1, 1), (110, .iaload, 1), (111, .ireturn, 1), (112, .aload_n 0, 1), (113, .getfield 10, 3), (116, .iload_n 1, 1), (117, .invokevirtual 167, 3), (120, .ifCond .eq 7, 3), (123, .iconst 1, 1), (124, .goto 4, 3), (127, .iconst 0, 1), (128, .ireturn, 1), (129, .aload_n 0, 1), (130, .getfield 10, 3), (133, .iload_n 1, 1), (134, .invokevirtual 167, 3), (137, .ifCond .eq 14, 3), (140, .aload_n 0, 1), (141, .getfield 10, 3), (144, .iload_n 1, 1), (145, .invokevirtual 170, 3), (148, .goto 4, 3), (151, .iconst 0, 1), (152, .ireturn, 1), (153, .sipush (-1000), 3), (156, .ireturn, 1)]
theorem d_X10_of : gt_dok cX10_of cs_X10_of := gt_dok_of (by decide +kernel)
def cs_X10_feed : List gt_I := [(0, .aload_n 0, 1), (1, .getfield 173, 3), (4, .bipush 20, 2), (6, .iadd, 1), (7, .sipush 400, 3), (10, .if_icmp .le 5, 3), (13, .iconst (-1), 1), (14, .ireturn, 1), (15, .aload_n 0, 1), (16, .iload_n 1, 1), (17, .invokevirtual 176, 3), (20, .aload_n 0, 1), (21, .iload_n 2, 1), (22, .invokevirtual 176, 3), (25, .aload_n 0, 1), (26, .iload_n 3, 1), (27, .invokevirtual 176, 3), (30, .aload_n 0, 1), (31, .iload 4, 2), (33, .invokevirtual 176, 3), (36, .aload_n 0, 1), (37, .iload 5, 2), (39, .invokevirtual 176, 3), (42, .aload_n 0, 1), (43, .getfield 173, 3), (46, .ireturn, 1)]
theorem d_X10_feed : gt_dok cX10_feed cs_X10_feed := gt_dok_of (by decide +kernel)
def cs_X10_end : List gt_I := [(0, .iload_n 1, 1), (1, .iconst 0, 1), (2, .aload_n 0, 1), (3, .getfield 173, 3), (6, .invokestatic 118, 3), (9, .ifCond .ne 5, 3), (12, .iconst (-1), 1), (13, .ireturn, 1), (14, .aload_n 0, 1), (15, .iload_n 1, 1), (16, .putfield 173, 3), (19, .iload_n 1, 1), (20, .ireturn, 1)]
theorem d_X10_end : gt_dok cX10_end cs_X10_end := gt_dok_of (by decide +kernel)
def cs_X10_row : List gt_I := [(0, .aload_n 0, 1), (1, .getfield 173, 3), (4, .ifCond .ne 10, 3), (7, .aload_n 0, 1), (8, .bipush (-6), 2), (10, .invokevirtual 101, 3), (13, .ireturn, 1), (14, .iconst 0, 1), (15, .istore_n 1, 1), (16, .iconst 0, 1), (17, .istore_n 2, 1), (18, .iconst 0, 1), (19, .istore_n 3, 1), (20, .iload_n 3, 1), (21, .aload_n 0, 1), (22, .getfield 173, 3), (25, .if_icmp .ge 114, 3), (28, .iload_n 3, 1), (29, .iconst 4, 1), (30, .iadd, 1), (31, .aload_n 0, 1), (32, .getfield 173, 3), (35, .if_icmp .gt 95, 3), (38, .aload_n 0, 1), (39, .getfield 10, 3), (42, .getfield 135, 3), (45, .bipush 12, 2), (47, .if_icmp .ge 83, 3), (50, .aload_n 0, 1), (51, .getfield 24, 3), (54, .iload_n 3, 1), (55, .iaload, 1), (56, .aload_n 0, 1), (57, .getfield 24, 3), (60, .iload_n 3, 1), (61, .iconst 1, 1), (62, .iadd, 1), (63, .iaload, 1), (64, .aload_n 0, 1), (65, .getfield 24, 3), (68, .iload_n 3, 1), (69, .iconst 2, 1), (70, .iadd, 1), (71, .iaload, 1), (72, .aload_n 0, 1), (73, .getfield 24, 3), (76, .iload_n 3, 1), (77, .iconst 3, 1), (78, .iadd, 1), (79, .iaload, 1), (80, .invokestatic 131, 3), (83, .ifCond .eq 47, 3), (86, .aload_n 0, 1), (87, .getfield 10, 3), (90, .aload_n 0, 1), (91, .getfield 24, 3), (94, .iload_n 3, 1), (95, .iaload, 1), (96, .aload_n 0, 1), (97, .getfield 24, 3), (100, .iload_n 3, 1), (101, .iconst 1, 1), (102, .iadd, 1), (103, .iaload, 1), (104, .aload_n 0, 1), (105, .getfield 24, 3), (108, .iload_n 3, 1), (109, .iconst 2, 1), (110, .iadd, 1), (111, .iaload, 1), (112, .aload_n 0, 1), (113, .getfield 24, 3), (116, .iload_n 3, 1), (117, .iconst 3, 1), (118, .iadd, 1), (119, .iaload, 1), (120, .invokevirtual 138, 3), (123, .pop, 1), (124, .iinc 1 1, 3), (127, .goto 6, 3), (130, .iinc 2 1, 3), (133, .iinc 3 4, 3), (136, .goto (-116), 3), (139, .aload_n 0, 1), (140, .iconst 0, 1), (141, .putfield 173, 3), (144, .aload_n 0, 1), (145, .iload_n 2, 1), (146, .putfield 179, 3), (149, .aload_n 0, 1), (150, .iload_n 1, 1), (151, .invokevirtual 111, 3), (154, .ireturn, 1)]
theorem d_X10_row : gt_dok cX10_row cs_X10_row := gt_dok_of (by decide +kernel)
def cs_X10_late : List gt_I := [(0, .aload_n 0, 1), (1, .getfield 179, 3), (4, .ireturn, 1)]
theorem d_X10_late : gt_dok cX10_late cs_X10_late := gt_dok_of (by decide +kernel)
def cs_X10_fault : List gt_I := [(0, .aload_n 0, 1), (1, .getfield 28, 3), (4, .ireturn, 1)]
theorem d_X10_fault : gt_dok cX10_fault cs_X10_fault := gt_dok_of (by decide +kernel)
def cs_X10_way : List gt_I := [(0, .iload_n 1, 1), (1, .iconst 0, 1), (2, .iconst 5, 1), (3, .invokestatic 118, 3), (6, .ifCond .ne 9, 3), (9, .aload_n 0, 1), (10, .iconst (-1), 1), (11, .invokevirtual 101, 3), (14, .ireturn, 1), (15, .iload_n 2, 1), (16, .iconst (-1), 1), (17, .aload_n 0, 1), (18, .getfield 10, 3), (21, .getfield 182, 3), (24, .iconst 1, 1), (25, .isub, 1), (26, .invokestatic 118, 3), (29, .ifCond .ne 10, 3), (32, .aload_n 0, 1), (33, .bipush (-2), 2), (35, .invokevirtual 101, 3), (38, .ireturn, 1), (39, .aload_n 0, 1), (40, .getfield 10, 3), (43, .getfield 197, 3), (46, .iload_n 1, 1), (47, .iaload, 1), (48, .istore_n 3, 1), (49, .aload_n 0, 1), (50, .getfield 10, 3), (53, .getfield 197, 3), (56, .iload_n 1, 1), (57, .iload_n 2, 1), (58, .iastore, 1), (59, .aload_n 0, 1), (60, .iload_n 3, 1), (61, .invokevirtual 111, 3), (64, .ireturn, 1)]
theorem d_X10_way : gt_dok cX10_way cs_X10_way := gt_dok_of (by decide +kernel)
def cs_X10_weight : List gt_I := [(0, .aload_n 0, 1), (1, .iload_n 1, 1), (2, .invokevirtual 200, 3), (5, .istore 4, 2), (7, .iload 4, 2), (9, .iconst (-1), 1), (10, .if_icmp .eq 21, 3), (13, .aload_n 0, 1), (14, .iload_n 2, 1), (15, .invokevirtual 203, 3), (18, .ifCond .eq 13, 3), (21, .iload_n 3, 1), (22, .iconst 0, 1), (23, .bipush 12, 2), (25, .invokestatic 118, 3), (28, .ifCond .ne 5, 3), (31, .iconst (-1), 1), (32, .ireturn, 1), (33, .aload_n 0, 1), (34, .getfield 55, 3), (37, .aload_n 0, 1), (38, .getfield 10, 3), (41, .iload 4, 2), (43, .iload_n 2, 1), (44, .iload_n 3, 1), (45, .invokevirtual 206, 3), (48, .ireturn, 1)]
theorem d_X10_weight : gt_dok cX10_weight cs_X10_weight := gt_dok_of (by decide +kernel)
def cs_X10_heap : List gt_I := [(0, .aload_n 0, 1), (1, .iload_n 1, 1), (2, .iload_n 2, 1), (3, .iload_n 3, 1), (4, .iload 4, 2), (6, .invokevirtual 210, 3), (9, .ifCond .ne 5, 3), (12, .iconst (-1), 1), (13, .ireturn, 1), (14, .aload_n 0, 1), (15, .getfield 48, 3), (18, .aload_n 0, 1), (19, .getfield 10, 3), (22, .aload_n 0, 1), (23, .getfield 35, 3), (26, .invokevirtual 213, 3), (29, .iload 5, 2), (31, .tableswitch 49 0 2 #[25, 33, 41], 25), (56, .aload_n 0, 1), (57, .getfield 48, 3), (60, .getfield 217, 3), (63, .ireturn, 1), (64, .aload_n 0, 1), (65, .getfield 48, 3), (68, .getfield 220, 3), (71, .ireturn, 1), (72, .aload_n 0, 1), (73, .getfield 48, 3), (76, .getfield 223, 3), (79, .ireturn, 1), (80, .iconst (-1), 1), (81, .ireturn, 1)]
theorem d_X10_heap : gt_dok cX10_heap cs_X10_heap := gt_dok_of (by decide +kernel)
def cs_X10_mean : List gt_I := [(0, .iload_n 1, 1), (1, .iconst 0, 1), (2, .iconst 2, 1), (3, .invokestatic 118, 3), (6, .ifCond .ne 5, 3), (9, .iconst (-1), 1), (10, .ireturn, 1), (11, .aload_n 0, 1), (12, .invokevirtual 226, 3), (15, .aload_n 0, 1), (16, .getfield 62, 3), (19, .getfield 229, 3), (22, .iload_n 1, 1), (23, .iaload, 1), (24, .ireturn, 1)]
theorem d_X10_mean : gt_dok cX10_mean cs_X10_mean := gt_dok_of (by decide +kernel)
def cs_X10_none : List gt_I := [(0, .aload_n 0, 1), (1, .getfield 10, 3), (4, .iload_n 1, 1), (5, .invokevirtual 114, 3), (8, .ifCond .ne 5, 3), (11, .iconst (-1), 1), (12, .ireturn, 1), (13, .aload_n 0, 1), (14, .getfield 55, 3), (17, .aload_n 0, 1), (18, .getfield 10, 3), (21, .aload_n 0, 1), (22, .getfield 232, 3), (25, .invokevirtual 235, 3), (28, .aload_n 0, 1), (29, .getfield 55, 3), (32, .aload_n 0, 1), (33, .getfield 10, 3), (36, .aload_n 0, 1), (37, .getfield 232, 3), (40, .invokevirtual 239, 3), (43, .aload_n 0, 1), (44, .getfield 62, 3), (47, .aload_n 0, 1), (48, .getfield 55, 3), (51, .iload_n 1, 1), (52, .invokevirtual 242, 3), (55, .ireturn, 1)]
theorem d_X10_none : gt_dok cX10_none cs_X10_none := gt_dok_of (by decide +kernel)
def cs_X10_together : List gt_I := [(0, .aload_n 0, 1), (1, .invokevirtual 246, 3), (4, .iload_n 1, 1), (5, .tableswitch 63 0 3 #[31, 39, 47, 55], 31), (36, .aload_n 0, 1), (37, .getfield 69, 3), (40, .invokevirtual 249, 3), (43, .ireturn, 1), (44, .aload_n 0, 1), (45, .getfield 69, 3), (48, .invokevirtual 253, 3), (51, .ireturn, 1), (52, .aload_n 0, 1), (53, .getfield 69, 3), (56, .getfield 256, 3), (59, .ireturn, 1), (60, .aload_n 0, 1), (61, .getfield 69, 3), (64, .getfield 257, 3), (67, .ireturn, 1), (68, .iconst (-1), 1), (69, .ireturn, 1)]
theorem d_X10_together : gt_dok cX10_together cs_X10_together := gt_dok_of (by decide +kernel)
def cs_X10_brings : List gt_I := [(0, .aload_n 0, 1), (1, .iload_n 1, 1), (2, .invokevirtual 200, 3), (5, .istore_n 2, 1), (6, .iload_n 2, 1), (7, .iconst (-1), 1), (8, .if_icmp .ne 5, 3), (11, .iconst (-1), 1), (12, .ireturn, 1), (13, .aload_n 0, 1), (14, .invokevirtual 246, 3), (17, .aload_n 0, 1), (18, .getfield 69, 3), (21, .getfield 258, 3), (24, .iload_n 2, 1), (25, .iaload, 1), (26, .ireturn, 1)]
theorem d_X10_brings : gt_dok cX10_brings cs_X10_brings := gt_dok_of (by decide +kernel)
def cs_X10_dear : List gt_I := [(0, .aload_n 0, 1), (1, .iload_n 1, 1), (2, .invokevirtual 200, 3), (5, .istore_n 3, 1), (6, .iload_n 3, 1), (7, .iconst (-1), 1), (8, .if_icmp .eq 15, 3), (11, .aload_n 0, 1), (12, .getfield 55, 3), (15, .iload_n 3, 1), (16, .iload_n 2, 1), (17, .invokevirtual 261, 3), (20, .ifCond .ne 5, 3), (23, .iconst (-1), 1), (24, .ireturn, 1), (25, .aload_n 0, 1), (26, .invokevirtual 246, 3), (29, .aload_n 0, 1), (30, .getfield 69, 3), (33, .aload_n 0, 1), (34, .getfield 55, 3), (37, .aload_n 0, 1), (38, .getfield 48, 3), (41, .iload_n 3, 1), (42, .iload_n 2, 1), (43, .invokevirtual 264, 3), (46, .ireturn, 1)]
theorem d_X10_dear : gt_dok cX10_dear cs_X10_dear := gt_dok_of (by decide +kernel)
def cs_X10_loss : List gt_I := [(0, .aload_n 0, 1), (1, .invokevirtual 226, 3), (4, .aload_n 0, 1), (5, .invokevirtual 246, 3), (8, .bipush 100, 2), (10, .aload_n 0, 1), (11, .getfield 69, 3), (14, .invokevirtual 249, 3), (17, .imul, 1), (18, .aload_n 0, 1), (19, .getfield 62, 3), (22, .getfield 229, 3), (25, .iconst 0, 1), (26, .iaload, 1), (27, .isub, 1), (28, .ireturn, 1)]
theorem d_X10_loss : gt_dok cX10_loss cs_X10_loss := gt_dok_of (by decide +kernel)
def cs_X10_blind : List gt_I := [(0, .aload_n 0, 1), (1, .getfield 10, 3), (4, .getfield 105, 3), (7, .ifCond .eq 26, 3), (10, .iload_n 1, 1), (11, .iconst 1, 1), (12, .bipush 8, 2), (14, .invokestatic 118, 3), (17, .ifCond .eq 16, 3), (20, .iload_n 2, 1), (21, .iconst (-1), 1), (22, .if_icmp .eq 13, 3), (25, .aload_n 0, 1), (26, .iload_n 2, 1), (27, .invokevirtual 203, 3), (30, .ifCond .ne 5, 3), (33, .iconst (-1), 1), (34, .ireturn, 1), (35, .aload_n 0, 1), (36, .getfield 76, 3), (39, .aload_n 0, 1), (40, .getfield 10, 3), (43, .aload_n 0, 1), (44, .getfield 48, 3), (47, .iload_n 1, 1), (48, .aload_n 0, 1), (49, .getfield 232, 3), (52, .invokevirtual 268, 3), (55, .iload_n 2, 1), (56, .iconst (-1), 1), (57, .if_icmp .ne 13, 3), (60, .aload_n 0, 1), (61, .getfield 76, 3), (64, .getfield 272, 3), (67, .goto 18, 3), (70, .aload_n 0, 1), (71, .getfield 76, 3), (74, .iload_n 2, 1), (75, .aload_n 0, 1), (76, .getfield 10, 3), (79, .getfield 105, 3), (82, .invokevirtual 275, 3), (85, .ireturn, 1)]
theorem d_X10_blind : gt_dok cX10_blind cs_X10_blind := gt_dok_of (by decide +kernel)
def cs_X10_rule : List gt_I := [(0, .aload_n 0, 1), (1, .getfield 10, 3), (4, .getfield 105, 3), (7, .ifCond .eq 19, 3), (10, .iload_n 1, 1), (11, .iconst (-1), 1), (12, .if_icmp .eq 16, 3), (15, .aload_n 0, 1), (16, .getfield 10, 3), (19, .iload_n 1, 1), (20, .invokevirtual 114, 3), (23, .ifCond .ne 5, 3), (26, .iconst (-1), 1), (27, .ireturn, 1), (28, .aload_n 0, 1), (29, .getfield 55, 3), (32, .aload_n 0, 1), (33, .getfield 10, 3), (36, .aload_n 0, 1), (37, .getfield 232, 3), (40, .invokevirtual 235, 3), (43, .aload_n 0, 1), (44, .getfield 48, 3), (47, .aload_n 0, 1), (48, .getfield 10, 3), (51, .aload_n 0, 1), (52, .getfield 55, 3), (55, .getfield 279, 3), (58, .aload_n 0, 1), (59, .getfield 232, 3), (62, .invokevirtual 282, 3), (65, .aload_n 0, 1), (66, .getfield 83, 3), (69, .aload_n 0, 1), (70, .getfield 55, 3), (73, .aload_n 0, 1), (74, .getfield 48, 3), (77, .aload_n 0, 1), (78, .getfield 232, 3), (81, .invokevirtual 286, 3), (84, .iload_n 1, 1), (85, .iconst (-1), 1), (86, .if_icmp .ne 13, 3), (89, .aload_n 0, 1), (90, .getfield 83, 3), (93, .getfield 290, 3), (96, .goto 12, 3), (99, .aload_n 0, 1), (100, .getfield 83, 3), (103, .getfield 293, 3), (106, .iload_n 1, 1), (107, .iaload, 1), (108, .ireturn, 1)]
theorem d_X10_rule : gt_dok cX10_rule cs_X10_rule := gt_dok_of (by decide +kernel)
def cs_X10_letters : List gt_I := [(0, .aload_n 0, 1), (1, .iload_n 1, 1), (2, .iload_n 2, 1), (3, .iload_n 3, 1), (4, .iload 4, 2), (6, .invokevirtual 296, 3), (9, .iconst 0, 1), (10, .istore 5, 2), (12, .iconst 0, 1), (13, .istore 6, 2), (15, .iload 6, 2), (17, .iconst 4, 1), (18, .if_icmp .ge 62, 3), (21, .iload 6, 2), (23, .aload_n 0, 1), (24, .getfield 10, 3), (27, .getfield 105, 3), (30, .if_icmp .lt 16, 3), (33, .aload_n 0, 1), (34, .getfield 35, 3), (37, .iload 6, 2), (39, .iaload, 1), (40, .ifCond .eq 25, 3), (43, .goto 20, 3), (46, .aload_n 0, 1), (47, .getfield 35, 3), (50, .iload 6, 2), (52, .iaload, 1), (53, .iload 5, 2), (55, .bipush 26, 2), (57, .invokestatic 118, 3), (60, .ifCond .ne 5, 3), (63, .iconst (-1), 1), (64, .ireturn, 1), (65, .aload_n 0, 1), (66, .getfield 35, 3), (69, .iload 6, 2), (71, .iaload, 1), (72, .istore 5, 2), (74, .iinc 6 1, 3), (77, .goto (-62), 3), (80, .aload_n 0, 1), (81, .getfield 55, 3), (84, .aload_n 0, 1), (85, .getfield 10, 3), (88, .aload_n 0, 1), (89, .getfield 232, 3), (92, .invokevirtual 235, 3), (95, .aload_n 0, 1), (96, .getfield 83, 3), (99, .aload_n 0, 1), (100, .getfield 10, 3), (103, .aload_n 0, 1), (104, .getfield 55, 3), (107, .aload_n 0, 1), (108, .getfield 48, 3), (111, .aload_n 0, 1), (112, .getfield 35, 3), (115, .invokevirtual 300, 3), (118, .ireturn, 1)]
theorem d_X10_letters : gt_dok cX10_letters cs_X10_letters := gt_dok_of (by decide +kernel)
def cs_X10_rest : List gt_I := [(0, .aload_n 0, 1), (1, .invokevirtual 304, 3), (4, .iload_n 1, 1), (5, .tableswitch 63 0 3 #[31, 39, 47, 55], 31), (36, .aload_n 0, 1), (37, .getfield 83, 3), (40, .getfield 307, 3), (43, .ireturn, 1), (44, .aload_n 0, 1), (45, .getfield 83, 3), (48, .getfield 310, 3), (51, .ireturn, 1), (52, .aload_n 0, 1), (53, .getfield 83, 3), (56, .getfield 313, 3), (59, .ireturn, 1), (60, .aload_n 0, 1), (61, .getfield 83, 3), (64, .getfield 316, 3), (67, .ireturn, 1), (68, .iconst (-1), 1), (69, .ireturn, 1)]
theorem d_X10_rest : gt_dok cX10_rest cs_X10_rest := gt_dok_of (by decide +kernel)
def cs_X10_find : List gt_I := [(0, .aload_n 0, 1), (1, .iload_n 1, 1), (2, .invokevirtual 200, 3), (5, .istore_n 2, 1), (6, .iload_n 2, 1), (7, .iconst (-1), 1), (8, .if_icmp .ne 5, 3), (11, .iconst (-1), 1), (12, .ireturn, 1), (13, .aload_n 0, 1), (14, .invokevirtual 304, 3), (17, .aload_n 0, 1), (18, .getfield 83, 3), (21, .getfield 319, 3), (24, .iload_n 2, 1), (25, .iaload, 1), (26, .ireturn, 1)]
theorem d_X10_find : gt_dok cX10_find cs_X10_find := gt_dok_of (by decide +kernel)
def cs_X10_wed : List gt_I := [(0, .iload_n 1, 1), (1, .iconst 0, 1), (2, .ldc_w 322, 3), (5, .invokestatic 118, 3), (8, .ifCond .ne 9, 3), (11, .aload_n 0, 1), (12, .iconst (-1), 1), (13, .invokevirtual 101, 3), (16, .ireturn, 1), (17, .aload_n 0, 1), (18, .getfield 55, 3), (21, .aload_n 0, 1), (22, .getfield 10, 3), (25, .aload_n 0, 1), (26, .getfield 232, 3), (29, .invokevirtual 235, 3), (32, .aload_n 0, 1), (33, .getfield 55, 3), (36, .aload_n 0, 1), (37, .getfield 10, 3), (40, .aload_n 0, 1), (41, .getfield 232, 3), (44, .invokevirtual 239, 3), (47, .aload_n 0, 1), (48, .getfield 90, 3), (51, .aload_n 0, 1), (52, .getfield 10, 3), (55, .aload_n 0, 1), (56, .getfield 55, 3), (59, .aload_n 0, 1), (60, .getfield 48, 3), (63, .iload_n 1, 1), (64, .invokevirtual 323, 3), (67, .aload_n 0, 1), (68, .aload_n 0, 1), (69, .getfield 90, 3), (72, .getfield 327, 3), (75, .invokevirtual 194, 3), (78, .ireturn, 1)]
theorem d_X10_wed : gt_dok cX10_wed cs_X10_wed := gt_dok_of (by decide +kernel)
def cs_X10_had : List gt_I := [(0, .aload_n 0, 1), (1, .getfield 90, 3), (4, .getfield 328, 3), (7, .ifCond .eq 24, 3), (10, .iload_n 1, 1), (11, .iconst 0, 1), (12, .iconst 4, 1), (13, .invokestatic 118, 3), (16, .ifCond .eq 15, 3), (19, .aload_n 0, 1), (20, .getfield 90, 3), (23, .getfield 332, 3), (26, .iload_n 1, 1), (27, .iaload, 1), (28, .goto 4, 3), (31, .iconst (-1), 1), (32, .ireturn, 1)]
theorem d_X10_had : gt_dok cX10_had cs_X10_had := gt_dok_of (by decide +kernel)
def cs_X10_brought : List gt_I := [(0, .aload_n 0, 1), (1, .getfield 90, 3), (4, .getfield 328, 3), (7, .ifCond .eq 25, 3), (10, .iload_n 1, 1), (11, .iconst 0, 1), (12, .bipush 11, 2), (14, .invokestatic 118, 3), (17, .ifCond .eq 15, 3), (20, .aload_n 0, 1), (21, .getfield 90, 3), (24, .getfield 335, 3), (27, .iload_n 1, 1), (28, .iaload, 1), (29, .goto 4, 3), (32, .iconst (-1), 1), (33, .ireturn, 1)]
theorem d_X10_brought : gt_dok cX10_brought cs_X10_brought := gt_dok_of (by decide +kernel)
def cs_X10_round : List gt_I := [(0, .iload_n 1, 1), (1, .iconst 1, 1), (2, .bipush 100, 2), (4, .invokestatic 118, 3), (7, .ifCond .eq 14, 3), (10, .iload_n 2, 1), (11, .iconst 0, 1), (12, .ldc_w 322, 3), (15, .invokestatic 118, 3), (18, .ifCond .ne 5, 3), (21, .iconst (-1), 1), (22, .ireturn, 1), (23, .aload_n 0, 1), (24, .getfield 55, 3), (27, .aload_n 0, 1), (28, .getfield 10, 3), (31, .aload_n 0, 1), (32, .getfield 232, 3), (35, .invokevirtual 235, 3), (38, .aload_n 0, 1), (39, .getfield 55, 3), (42, .aload_n 0, 1), (43, .getfield 10, 3), (46, .aload_n 0, 1), (47, .getfield 232, 3), (50, .invokevirtual 239, 3), (53, .iconst 0, 1), (54, .istore_n 3, 1), (55, .iload_n 2, 1), (56, .istore 4, 2), (58, .iconst 0, 1), (59, .istore 5, 2), (61, .iload 5, 2), (63, .iload_n 1, 1), (64, .if_icmp .ge 49, 3), (67, .aload_n 0, 1), (68, .getfield 94, 3), (71, .aload_n 0, 1), (72, .getfield 10, 3), (75, .aload_n 0, 1), (76, .getfield 55, 3), (79, .aload_n 0, 1), (80, .getfield 48, 3), (83, .iload 4, 2), (85, .invokevirtual 323, 3), (88, .aload_n 0, 1), (89, .getfield 94, 3), (92, .getfield 338, 3), (95, .istore 4, 2), (97, .iload_n 3, 1), (98, .aload_n 0, 1), (99, .getfield 94, 3), (102, .getfield 327, 3), (105, .iadd, 1), (106, .istore_n 3, 1), (107, .iinc 5 1, 3), (110, .goto (-49), 3), (113, .iload_n 3, 1), (114, .ireturn, 1)]
theorem d_X10_round : gt_dok cX10_round cs_X10_round := gt_dok_of (by decide +kernel)
def cs_X10_change : List gt_I := [(0, .aload_n 0, 1), (1, .iload_n 1, 1), (2, .iload_n 2, 1), (3, .iload_n 3, 1), (4, .iload 4, 2), (6, .invokevirtual 210, 3), (9, .ifCond .eq 24, 3), (12, .iload 5, 2), (14, .iconst 0, 1), (15, .bipush 100, 2), (17, .invokestatic 118, 3), (20, .ifCond .eq 13, 3), (23, .iload 6, 2), (25, .iconst 0, 1), (26, .iconst 2, 1), (27, .invokestatic 118, 3), (30, .ifCond .ne 5, 3), (33, .iconst (-1), 1), (34, .ireturn, 1), (35, .aload_n 0, 1), (36, .getfield 48, 3), (39, .aload_n 0, 1), (40, .getfield 10, 3), (43, .aload_n 0, 1), (44, .getfield 35, 3), (47, .iload 5, 2), (49, .invokevirtual 341, 3), (52, .iload 6, 2), (54, .ifCond .ne 11, 3), (57, .aload_n 0, 1), (58, .getfield 48, 3), (61, .getfield 345, 3), (64, .ireturn, 1), (65, .iload 6, 2), (67, .iconst 1, 1), (68, .if_icmp .ne 13, 3), (71, .aload_n 0, 1), (72, .getfield 48, 3), (75, .getfield 348, 3), (78, .goto 10, 3), (81, .aload_n 0, 1), (82, .getfield 48, 3), (85, .getfield 351, 3), (88, .ireturn, 1)]
theorem d_X10_change : gt_dok cX10_change cs_X10_change := gt_dok_of (by decide +kernel)
def cs_X10_sure : List gt_I := [(0, .iload_n 1, 1), (1, .iconst 0, 1), (2, .iconst 1, 1), (3, .invokestatic 118, 3), (6, .ifCond .ne 5, 3), (9, .iconst (-1), 1), (10, .ireturn, 1), (11, .aload_n 0, 1), (12, .getfield 55, 3), (15, .aload_n 0, 1), (16, .getfield 10, 3), (19, .aload_n 0, 1), (20, .getfield 232, 3), (23, .invokevirtual 235, 3), (26, .aload_n 0, 1), (27, .getfield 55, 3), (30, .aload_n 0, 1), (31, .getfield 10, 3), (34, .aload_n 0, 1), (35, .getfield 35, 3), (38, .invokevirtual 354, 3), (41, .istore_n 2, 1), (42, .iload_n 2, 1), (43, .iconst (-1), 1), (44, .if_icmp .eq 7, 3), (47, .iload_n 1, 1), (48, .ifCond .ne 7, 3), (51, .iload_n 2, 1), (52, .goto 9, 3), (55, .aload_n 0, 1), (56, .getfield 35, 3), (59, .iload_n 2, 1), (60, .iaload, 1), (61, .ireturn, 1)]
theorem d_X10_sure : gt_dok cX10_sure cs_X10_sure := gt_dok_of (by decide +kernel)
def cs_X10_image : List gt_I := [(0, .iload_n 1, 1), (1, .iconst 0, 1), (2, .iconst 1, 1), (3, .invokestatic 118, 3), (6, .ifCond .ne 9, 3), (9, .aload_n 0, 1), (10, .iconst (-1), 1), (11, .invokevirtual 101, 3), (14, .ireturn, 1), (15, .aload_n 0, 1), (16, .getfield 16, 3), (19, .iload_n 1, 1), (20, .aaload, 1), (21, .aload_n 0, 1), (22, .getfield 10, 3), (25, .invokevirtual 358, 3), (28, .aload_n 0, 1), (29, .getfield 20, 3), (32, .iload_n 1, 1), (33, .iconst 1, 1), (34, .bastore, 1), (35, .aload_n 0, 1), (36, .iconst 0, 1), (37, .invokevirtual 194, 3), (40, .ireturn, 1)]
theorem d_X10_image : gt_dok cX10_image cs_X10_image := gt_dok_of (by decide +kernel)
def cs_X10_back : List gt_I := [(0, .iload_n 1, 1), (1, .iconst 0, 1), (2, .iconst 1, 1), (3, .invokestatic 118, 3), (6, .ifCond .ne 9, 3), (9, .aload_n 0, 1), (10, .iconst (-1), 1), (11, .invokevirtual 101, 3), (14, .ireturn, 1), (15, .aload_n 0, 1), (16, .getfield 20, 3), (19, .iload_n 1, 1), (20, .baload, 1), (21, .ifCond .ne 10, 3), (24, .aload_n 0, 1), (25, .bipush (-2), 2), (27, .invokevirtual 101, 3), (30, .ireturn, 1), (31, .aload_n 0, 1), (32, .getfield 10, 3), (35, .aload_n 0, 1), (36, .getfield 16, 3), (39, .iload_n 1, 1), (40, .aaload, 1), (41, .invokevirtual 358, 3), (44, .aload_n 0, 1), (45, .iconst 0, 1), (46, .invokevirtual 111, 3), (49, .ireturn, 1)]
theorem d_X10_back : gt_dok cX10_back cs_X10_back := gt_dok_of (by decide +kernel)
def cs_X10_count : List gt_I := [(0, .iload_n 1, 1), (1, .tableswitch 72 0 4 #[35, 43, 51, 59, 67], 35), (36, .aload_n 0, 1), (37, .getfield 10, 3), (40, .getfield 105, 3), (43, .ireturn, 1), (44, .aload_n 0, 1), (45, .getfield 10, 3), (48, .getfield 135, 3), (51, .ireturn, 1), (52, .aload_n 0, 1), (53, .getfield 10, 3), (56, .getfield 182, 3), (59, .ireturn, 1), (60, .aload_n 0, 1), (61, .getfield 10, 3), (64, .invokevirtual 362, 3), (67, .ireturn, 1), (68, .aload_n 0, 1), (69, .getfield 173, 3), (72, .ireturn, 1), (73, .iload_n 1, 1), (74, .iconst 5, 1), (75, .bipush 9, 2), (77, .invokestatic 118, 3), (80, .ifCond .eq 14, 3), (83, .aload_n 0, 1), (84, .getfield 32, 3), (87, .iload_n 1, 1), (88, .iconst 5, 1), (89, .isub, 1), (90, .iaload, 1), (91, .goto 4, 3), (94, .iconst (-1), 1), (95, .ireturn, 1)]
theorem d_X10_count : gt_dok cX10_count cs_X10_count := gt_dok_of (by decide +kernel)
def cs_X10_status : List gt_I := [(0, .aload_n 0, 1), (1, .getfield 365, 3), (4, .ireturn, 1)]
theorem d_X10_status : gt_dok cX10_status cs_X10_status := gt_dok_of (by decide +kernel)
def cs_X10_within : List gt_I := [(0, .iload_n 0, 1), (1, .iload_n 1, 1), (2, .if_icmp .lt 12, 3), (5, .iload_n 0, 1), (6, .iload_n 2, 1), (7, .if_icmp .gt 7, 3), (10, .iconst 1, 1), (11, .goto 4, 3), (14, .iconst 0, 1), (15, .ireturn, 1)]
theorem d_X10_within : gt_dok cX10_within cs_X10_within := gt_dok_of (by decide +kernel)
def cs_X10_thingFactCanBe : List gt_I := [(0, .iload_n 0, 1), (1, .tableswitch 56 0 3 #[31, 39, 39, 47], 31), (32, .iload_n 1, 1), (33, .iconst 0, 1), (34, .bipush 9, 2), (36, .invokestatic 118, 3), (39, .ireturn, 1), (40, .iload_n 1, 1), (41, .iconst 0, 1), (42, .bipush 99, 2), (44, .invokestatic 118, 3), (47, .ireturn, 1), (48, .iload_n 1, 1), (49, .iconst 1, 1), (50, .sipush 200, 3), (53, .invokestatic 118, 3), (56, .ireturn, 1), (57, .iconst 0, 1), (58, .ireturn, 1)]
theorem d_X10_thingFactCanBe : gt_dok cX10_thingFactCanBe cs_X10_thingFactCanBe := gt_dok_of (by decide +kernel)
def cs_X10_guestCanBe : List gt_I := [(0, .iload_n 0, 1), (1, .iconst 0, 1), (2, .bipush 25, 2), (4, .invokestatic 118, 3), (7, .ifCond .eq 37, 3), (10, .iload_n 1, 1), (11, .iconst 0, 1), (12, .bipush 99, 2), (14, .invokestatic 118, 3), (17, .ifCond .eq 27, 3), (20, .iload_n 2, 1), (21, .iconst 0, 1), (22, .sipush 200, 3), (25, .invokestatic 118, 3), (28, .ifCond .eq 16, 3), (31, .iload_n 3, 1), (32, .iconst 0, 1), (33, .iconst 5, 1), (34, .invokestatic 118, 3), (37, .ifCond .eq 7, 3), (40, .iconst 1, 1), (41, .goto 4, 3), (44, .iconst 0, 1), (45, .ireturn, 1)]
theorem d_X10_guestCanBe : gt_dok cX10_guestCanBe cs_X10_guestCanBe := gt_dok_of (by decide +kernel)
def cs_X10_refuse : List gt_I := [(0, .aload_n 0, 1), (1, .iload_n 1, 1), (2, .putfield 365, 3), (5, .aload_n 0, 1), (6, .getfield 32, 3), (9, .iload_n 1, 1), (10, .bipush (-3), 2), (12, .if_icmp .ge 10, 3), (15, .iload_n 1, 1), (16, .ineg, 1), (17, .iconst 2, 1), (18, .isub, 1), (19, .goto 7, 3), (22, .iload_n 1, 1), (23, .ineg, 1), (24, .iconst 1, 1), (25, .isub, 1), (26, .dup2, 1), (27, .iaload, 1), (28, .iconst 1, 1), (29, .iadd, 1), (30, .iastore, 1), (31, .iload_n 1, 1), (32, .ireturn, 1)]
theorem d_X10_refuse : gt_dok cX10_refuse cs_X10_refuse := gt_dok_of (by decide +kernel)
def cs_X10_accept : List gt_I := [(0, .aload_n 0, 1), (1, .iconst 0, 1), (2, .putfield 365, 3), (5, .iload_n 1, 1), (6, .ireturn, 1)]
theorem d_X10_accept : gt_dok cX10_accept cs_X10_accept := gt_dok_of (by decide +kernel)
def cs_X10_altered : List gt_I := [(0, .aload_n 0, 1), (1, .dup, 1), (2, .getfield 232, 3), (5, .iconst 1, 1), (6, .iadd, 1), (7, .putfield 232, 3), (10, .aload_n 0, 1), (11, .iload_n 1, 1), (12, .invokevirtual 194, 3), (15, .ireturn, 1)]
theorem d_X10_altered : gt_dok cX10_altered cs_X10_altered := gt_dok_of (by decide +kernel)
def cs_X10_feedFour : List gt_I := [(0, .bipush 24, 2), (2, .istore_n 2, 1), (3, .iload_n 2, 1), (4, .ifCond .lt 45, 3), (7, .aload_n 0, 1), (8, .getfield 173, 3), (11, .sipush 400, 3), (14, .if_icmp .ge 35, 3), (17, .aload_n 0, 1), (18, .getfield 24, 3), (21, .aload_n 0, 1), (22, .getfield 173, 3), (25, .iload_n 1, 1), (26, .iload_n 2, 1), (27, .ishr, 1), (28, .sipush 255, 3), (31, .iand, 1), (32, .iastore, 1), (33, .aload_n 0, 1), (34, .dup, 1), (35, .getfield 173, 3), (38, .iconst 1, 1), (39, .iadd, 1), (40, .putfield 173, 3), (43, .iinc 2 (-8), 3), (46, .goto (-43), 3), (49, .return_, 1)]
theorem d_X10_feedFour : gt_dok cX10_feedFour cs_X10_feedFour := gt_dok_of (by decide +kernel)
def cs_X10_giverOf : List gt_I := [(0, .aload_n 0, 1), (1, .getfield 10, 3), (4, .iload_n 1, 1), (5, .invokevirtual 142, 3), (8, .ifCond .ne 5, 3), (11, .iconst (-1), 1), (12, .ireturn, 1), (13, .aload_n 0, 1), (14, .getfield 55, 3), (17, .aload_n 0, 1), (18, .getfield 10, 3), (21, .aload_n 0, 1), (22, .getfield 232, 3), (25, .invokevirtual 235, 3), (28, .aload_n 0, 1), (29, .getfield 55, 3), (32, .getfield 368, 3), (35, .iload_n 1, 1), (36, .iaload, 1), (37, .ireturn, 1)]
theorem d_X10_giverOf : gt_dok cX10_giverOf cs_X10_giverOf := gt_dok_of (by decide +kernel)
def cs_X10_isChoice : List gt_I := [(0, .iload_n 1, 1), (1, .iconst 4, 1), (2, .if_icmp .eq 14, 3), (5, .aload_n 0, 1), (6, .getfield 10, 3), (9, .iload_n 1, 1), (10, .invokevirtual 114, 3), (13, .ifCond .eq 7, 3), (16, .iconst 1, 1), (17, .goto 4, 3), (20, .iconst 0, 1), (21, .ireturn, 1)]
theorem d_X10_isChoice : gt_dok cX10_isChoice cs_X10_isChoice := gt_dok_of (by decide +kernel)
def cs_X10_fillTold : List gt_I := [(0, .aload_n 0, 1), (1, .getfield 35, 3), (4, .iconst 0, 1), (5, .iload_n 1, 1), (6, .iastore, 1), (7, .aload_n 0, 1), (8, .getfield 35, 3), (11, .iconst 1, 1), (12, .iload_n 2, 1), (13, .iastore, 1), (14, .aload_n 0, 1), (15, .getfield 35, 3), (18, .iconst 2, 1), (19, .iload_n 3, 1), (20, .iastore, 1), (21, .aload_n 0, 1), (22, .getfield 35, 3), (25, .iconst 3, 1), (26, .iload 4, 2), (28, .iastore, 1), (29, .return_, 1)]
theorem d_X10_fillTold : gt_dok cX10_fillTold cs_X10_fillTold := gt_dok_of (by decide +kernel)
def cs_X10_tellHeap : List gt_I := [(0, .aload_n 0, 1), (1, .iload_n 1, 1), (2, .iload_n 2, 1), (3, .iload_n 3, 1), (4, .iload 4, 2), (6, .invokevirtual 296, 3), (9, .iconst 0, 1), (10, .istore 5, 2), (12, .iload 5, 2), (14, .iconst 4, 1), (15, .if_icmp .ge 43, 3), (18, .aload_n 0, 1), (19, .getfield 35, 3), (22, .iload 5, 2), (24, .iaload, 1), (25, .iconst 0, 1), (26, .iload 5, 2), (28, .aload_n 0, 1), (29, .getfield 10, 3), (32, .getfield 105, 3), (35, .if_icmp .ge 8, 3), (38, .bipush 12, 2), (40, .goto 4, 3), (43, .iconst 0, 1), (44, .invokestatic 118, 3), (47, .ifCond .ne 5, 3), (50, .iconst 0, 1), (51, .ireturn, 1), (52, .iinc 5 1, 3), (55, .goto (-43), 3), (58, .iconst 1, 1), (59, .ireturn, 1)]
theorem d_X10_tellHeap : gt_dok cX10_tellHeap cs_X10_tellHeap := gt_dok_of (by decide +kernel)
def cs_X10_workMean : List gt_I := [(0, .aload_n 0, 1), (1, .getfield 55, 3), (4, .aload_n 0, 1), (5, .getfield 10, 3), (8, .aload_n 0, 1), (9, .getfield 232, 3), (12, .invokevirtual 235, 3), (15, .aload_n 0, 1), (16, .getfield 55, 3), (19, .aload_n 0, 1), (20, .getfield 10, 3), (23, .aload_n 0, 1), (24, .getfield 232, 3), (27, .invokevirtual 239, 3), (30, .aload_n 0, 1), (31, .getfield 48, 3), (34, .aload_n 0, 1), (35, .getfield 10, 3), (38, .aload_n 0, 1), (39, .getfield 55, 3), (42, .getfield 279, 3), (45, .aload_n 0, 1), (46, .getfield 232, 3), (49, .invokevirtual 282, 3), (52, .aload_n 0, 1), (53, .getfield 62, 3), (56, .aload_n 0, 1), (57, .getfield 55, 3), (60, .aload_n 0, 1), (61, .getfield 48, 3), (64, .aload_n 0, 1), (65, .getfield 232, 3), (68, .invokevirtual 371, 3), (71, .return_, 1)]
theorem d_X10_workMean : gt_dok cX10_workMean cs_X10_workMean := gt_dok_of (by decide +kernel)
def cs_X10_speakOut : List gt_I := [(0, .aload_n 0, 1), (1, .getfield 55, 3), (4, .aload_n 0, 1), (5, .getfield 10, 3), (8, .aload_n 0, 1), (9, .getfield 232, 3), (12, .invokevirtual 235, 3), (15, .aload_n 0, 1), (16, .getfield 48, 3), (19, .aload_n 0, 1), (20, .getfield 10, 3), (23, .aload_n 0, 1), (24, .getfield 55, 3), (27, .getfield 279, 3), (30, .aload_n 0, 1), (31, .getfield 232, 3), (34, .invokevirtual 282, 3), (37, .aload_n 0, 1), (38, .getfield 69, 3), (41, .aload_n 0, 1), (42, .getfield 55, 3), (45, .aload_n 0, 1), (46, .getfield 48, 3), (49, .aload_n 0, 1), (50, .getfield 232, 3), (53, .invokevirtual 373, 3), (56, .return_, 1)]
theorem d_X10_speakOut : gt_dok cX10_speakOut cs_X10_speakOut := gt_dok_of (by decide +kernel)
def cs_X10_settle : List gt_I := [(0, .aload_n 0, 1), (1, .getfield 55, 3), (4, .aload_n 0, 1), (5, .getfield 10, 3), (8, .aload_n 0, 1), (9, .getfield 232, 3), (12, .invokevirtual 235, 3), (15, .aload_n 0, 1), (16, .getfield 83, 3), (19, .aload_n 0, 1), (20, .getfield 10, 3), (23, .aload_n 0, 1), (24, .getfield 55, 3), (27, .aload_n 0, 1), (28, .getfield 48, 3), (31, .aload_n 0, 1), (32, .getfield 232, 3), (35, .invokevirtual 374, 3), (38, .return_, 1)]
theorem d_X10_settle : gt_dok cX10_settle cs_X10_settle := gt_dok_of (by decide +kernel)
def cs_J0 : List gt_I := [(0, .iload_n 0, 1), (1, .iload_n 1, 1), (2, .if_icmp .lt 7, 3), (5, .iload_n 0, 1), (6, .goto 4, 3), (9, .iload_n 1, 1), (10, .ireturn, 1)]
theorem d_J0 : gt_dok cJ0 cs_J0 := gt_dok_of (by decide +kernel)
def cs_J1 : List gt_I := [(0, .iload_n 0, 1), (1, .iload_n 1, 1), (2, .if_icmp .gt 7, 3), (5, .iload_n 0, 1), (6, .goto 4, 3), (9, .iload_n 1, 1), (10, .ireturn, 1)]
theorem d_J1 : gt_dok cJ1 cs_J1 := gt_dok_of (by decide +kernel)
def cs_J2 : List gt_I := [(0, .lload_n 0, 1), (1, .lload_n 2, 1), (2, .lcmp, 1), (3, .ifCond .lt 7, 3), (6, .lload_n 0, 1), (7, .goto 4, 3), (10, .lload_n 2, 1), (11, .lreturn, 1)]
theorem d_J2 : gt_dok cJ2 cs_J2 := gt_dok_of (by decide +kernel)
def cs_J3 : List gt_I := [(0, .lload_n 0, 1), (1, .lload_n 2, 1), (2, .lcmp, 1), (3, .ifCond .gt 7, 3), (6, .lload_n 0, 1), (7, .goto 4, 3), (10, .lload_n 2, 1), (11, .lreturn, 1)]
theorem d_J3 : gt_dok cJ3 cs_J3 := gt_dok_of (by decide +kernel)
def cs_J4 : List gt_I := [(0, .iload_n 1, 1), (1, .iload_n 2, 1), (2, .if_icmp .le 44, 3), (46, .iload_n 1, 1), (47, .ifCond .ge 12, 3), (59, .iload_n 2, 1), (60, .iload_n 0, 1), (61, .if_icmp .le 12, 3), (73, .return_, 1)]
theorem d_J4 : gt_dok cJ4 cs_J4 := gt_dok_of (by decide +kernel)
def cs_J5 : List gt_I := [(0, .iconst 0, 1), (1, .istore_n 2, 1), (2, .aload_n 0, 1), (3, .arraylength, 1), (4, .istore_n 3, 1), (5, .iload_n 2, 1), (6, .iload_n 3, 1), (7, .if_icmp .ge 13, 3), (10, .aload_n 0, 1), (11, .iload_n 2, 1), (12, .iload_n 1, 1), (13, .iastore, 1), (14, .iinc 2 1, 3), (17, .goto (-12), 3), (20, .return_, 1)]
theorem d_J5 : gt_dok cJ5 cs_J5 := gt_dok_of (by decide +kernel)
def cs_J6 : List gt_I := [(0, .aload_n 0, 1), (1, .arraylength, 1), (2, .iload_n 1, 1), (3, .iload_n 2, 1), (4, .invokestatic 13, 3), (7, .iload_n 1, 1), (8, .istore 4, 2), (10, .iload 4, 2), (12, .iload_n 2, 1), (13, .if_icmp .ge 14, 3), (16, .aload_n 0, 1), (17, .iload 4, 2), (19, .iload_n 3, 1), (20, .iastore, 1), (21, .iinc 4 1, 3), (24, .goto (-14), 3), (27, .return_, 1)]
theorem d_J6 : gt_dok cJ6 cs_J6 := gt_dok_of (by decide +kernel)
def cs_J7 : List gt_I := [(0, .iconst 0, 1), (1, .istore_n 3, 1), (2, .aload_n 0, 1), (3, .arraylength, 1), (4, .istore 4, 2), (6, .iload_n 3, 1), (7, .iload 4, 2), (9, .if_icmp .ge 13, 3), (12, .aload_n 0, 1), (13, .iload_n 3, 1), (14, .lload_n 1, 1), (15, .lastore, 1), (16, .iinc 3 1, 3), (19, .goto (-13), 3), (22, .return_, 1)]
theorem d_J7 : gt_dok cJ7 cs_J7 := gt_dok_of (by decide +kernel)
def cs_J8 : List gt_I := [(0, .aload_n 0, 1), (1, .arraylength, 1), (2, .iload_n 1, 1), (3, .iload_n 2, 1), (4, .invokestatic 13, 3), (7, .iload_n 1, 1), (8, .istore 5, 2), (10, .iload 5, 2), (12, .iload_n 2, 1), (13, .if_icmp .ge 14, 3), (16, .aload_n 0, 1), (17, .iload 5, 2), (19, .lload_n 3, 1), (20, .lastore, 1), (21, .iinc 5 1, 3), (24, .goto (-14), 3), (27, .return_, 1)]
theorem d_J8 : gt_dok cJ8 cs_J8 := gt_dok_of (by decide +kernel)
end
section
def cs_X11_in : List gt_I := [(0, .lload_n 0, 1), (1, .lload_n 2, 1), (2, .lcmp, 1), (3, .ifCond .lt 14, 3), (6, .lload_n 0, 1), (7, .lload 4, 2), (9, .lcmp, 1), (10, .ifCond .gt 7, 3), (13, .iconst 1, 1), (14, .goto 4, 3), (17, .iconst 0, 1), (18, .ireturn, 1)]
theorem d_X11_in : gt_dok cX11_in cs_X11_in := gt_dok_of (by decide +kernel)
def cs_X11_tell : List gt_I := [(0, .aload_n 0, 1), (1, .iload_n 1, 1), (2, .ifCond .ge 7, 3), (5, .iload_n 1, 1), (6, .goto 4, 3), (9, .iconst 0, 1), (10, .putfield 156, 3), (13, .iload_n 1, 1), (14, .ifCond .ge 14, 3), (17, .aload_n 0, 1), (18, .getfield 7, 3), (21, .iload_n 1, 1), (22, .ineg, 1), (23, .dup2, 1), (24, .iaload, 1), (25, .iconst 1, 1), (26, .iadd, 1), (27, .iastore, 1), (28, .iload_n 1, 1), (29, .ireturn, 1)]
theorem d_X11_tell : gt_dok cX11_tell cs_X11_tell := gt_dok_of (by decide +kernel)
def cs_X11_was : List gt_I := [(0, .aload_n 0, 1), (1, .iconst 0, 1), (2, .putfield 156, 3), (5, .iload_n 1, 1), (6, .ireturn, 1)]
theorem d_X11_was : gt_dok cX11_was cs_X11_was := gt_dok_of (by decide +kernel)
def cs_X11_change : List gt_I := [(0, .aload_n 0, 1), (1, .getfield 13, 3), (4, .iload_n 1, 1), (5, .iaload, 1), (6, .istore_n 3, 1), (7, .aload_n 0, 1), (8, .getfield 13, 3), (11, .iload_n 1, 1), (12, .iload_n 2, 1), (13, .iastore, 1), (14, .aload_n 0, 1), (15, .iload_n 3, 1), (16, .invokevirtual 159, 3), (19, .ireturn, 1)]
theorem d_X11_change : gt_dok cX11_change cs_X11_change := gt_dok_of (by decide +kernel)
def cs_X11_image : List gt_I := [(0, .aload_n 0, 1), (1, .iconst 0, 1), (2, .putfield 153, 3), (5, .iload_n 1, 1), (6, .i2l, 1), (7, .lconst 0, 1), (8, .lconst 1, 1), (9, .invokestatic 163, 3), (12, .ifCond .ne 9, 3), (15, .aload_n 0, 1), (16, .iconst (-1), 1), (17, .invokevirtual 167, 3), (20, .ireturn, 1), (21, .iconst 0, 1), (22, .istore_n 2, 1), (23, .iload_n 2, 1), (24, .sipush 5550, 3), (27, .if_icmp .ge 27, 3), (30, .aload_n 0, 1), (31, .getfield 16, 3), (34, .sipush 5550, 3), (37, .iload_n 1, 1), (38, .imul, 1), (39, .iload_n 2, 1), (40, .iadd, 1), (41, .aload_n 0, 1), (42, .getfield 13, 3), (45, .iload_n 2, 1), (46, .iaload, 1), (47, .iastore, 1), (48, .iinc 2 1, 3), (51, .goto (-28), 3), (54, .aload_n 0, 1), (55, .getfield 19, 3), (58, .iload_n 1, 1), (59, .iconst 1, 1), (60, .bastore, 1), (61, .aload_n 0, 1), (62, .iconst 0, 1), (63, .invokevirtual 167, 3), (66, .ireturn, 1)]
theorem d_X11_image : gt_dok cX11_image cs_X11_image := gt_dok_of (by decide +kernel)
def cs_X11_back : List gt_I := [(0, .aload_n 0, 1), (1, .iconst 0, 1), (2, .putfield 153, 3), (5, .iload_n 1, 1), (6, .i2l, 1), (7, .lconst 0, 1), (8, .lconst 1, 1), (9, .invokestatic 163, 3), (12, .ifCond .ne 9, 3), (15, .aload_n 0, 1), (16, .iconst (-1), 1), (17, .invokevirtual 167, 3), (20, .ireturn, 1), (21, .aload_n 0, 1), (22, .getfield 19, 3), (25, .iload_n 1, 1), (26, .baload, 1), (27, .ifCond .ne 10, 3), (30, .aload_n 0, 1), (31, .bipush (-2), 2), (33, .invokevirtual 167, 3), (36, .ireturn, 1), (37, .iconst 0, 1), (38, .istore_n 2, 1), (39, .iload_n 2, 1), (40, .sipush 5550, 3), (43, .if_icmp .ge 27, 3), (46, .aload_n 0, 1), (47, .getfield 13, 3), (50, .iload_n 2, 1), (51, .aload_n 0, 1), (52, .getfield 16, 3), (55, .sipush 5550, 3), (58, .iload_n 1, 1), (59, .imul, 1), (60, .iload_n 2, 1), (61, .iadd, 1), (62, .iaload, 1), (63, .iastore, 1), (64, .iinc 2 1, 3), (67, .goto (-28), 3), (70, .aload_n 0, 1), (71, .iconst 0, 1), (72, .invokevirtual 167, 3), (75, .ireturn, 1)]
theorem d_X11_back : gt_dok cX11_back cs_X11_back := gt_dok_of (by decide +kernel)
def cs_X11_isThing : List gt_I := [(0, .iload_n 1, 1), (1, .i2l, 1), (2, .lconst 0, 1), (3, .aload_n 0, 1), (4, .getfield 13, 3), (7, .iconst 0, 1), (8, .iaload, 1), (9, .i2l, 1), (10, .lconst 1, 1), (11, .lsub, 1), (12, .invokestatic 163, 3), (15, .ireturn, 1)]
theorem d_X11_isThing : gt_dok cX11_isThing cs_X11_isThing := gt_dok_of (by decide +kernel)
def cs_X11_isGuest : List gt_I := [(0, .iload_n 1, 1), (1, .i2l, 1), (2, .lconst 0, 1), (3, .aload_n 0, 1), (4, .getfield 13, 3), (7, .iconst 1, 1), (8, .iaload, 1), (9, .i2l, 1), (10, .lconst 1, 1), (11, .lsub, 1), (12, .invokestatic 163, 3), (15, .ireturn, 1)]
theorem d_X11_isGuest : gt_dok cX11_isGuest cs_X11_isGuest := gt_dok_of (by decide +kernel)
def cs_X11_isText : List gt_I := [(0, .iload_n 1, 1), (1, .i2l, 1), (2, .lconst 0, 1), (3, .aload_n 0, 1), (4, .getfield 13, 3), (7, .iconst 2, 1), (8, .iaload, 1), (9, .i2l, 1), (10, .lconst 1, 1), (11, .lsub, 1), (12, .invokestatic 163, 3), (15, .ireturn, 1)]
theorem d_X11_isText : gt_dok cX11_isText cs_X11_isText := gt_dok_of (by decide +kernel)
def cs_X11_fits : List gt_I := [(0, .iload_n 0, 1), (1, .tableswitch 71 0 3 #[31, 41, 51, 61], 31), (32, .iload_n 1, 1), (33, .i2l, 1), (34, .lconst 0, 1), (35, .ldc2_w 170, 3), (38, .invokestatic 163, 3), (41, .ireturn, 1), (42, .iload_n 1, 1), (43, .i2l, 1), (44, .lconst 0, 1), (45, .ldc2_w 172, 3), (48, .invokestatic 163, 3), (51, .ireturn, 1), (52, .iload_n 1, 1), (53, .i2l, 1), (54, .lconst 0, 1), (55, .ldc2_w 172, 3), (58, .invokestatic 163, 3), (61, .ireturn, 1), (62, .iload_n 1, 1), (63, .i2l, 1), (64, .lconst 1, 1), (65, .ldc2_w 174, 3), (68, .invokestatic 163, 3), (71, .ireturn, 1), (72, .iconst 0, 1), (73, .ireturn, 1)]
theorem d_X11_fits : gt_dok cX11_fits cs_X11_fits := gt_dok_of (by decide +kernel)
def cs_X11_ofThing : List gt_I := [(0, .aload_n 0, 1), (1, .getfield 13, 3), (4, .bipush 10, 2), (6, .bipush 6, 2), (8, .iload_n 1, 1), (9, .imul, 1), (10, .iadd, 1), (11, .iload_n 2, 1), (12, .iadd, 1), (13, .iaload, 1), (14, .ireturn, 1)]
theorem d_X11_ofThing : gt_dok cX11_ofThing cs_X11_ofThing := gt_dok_of (by decide +kernel)
def cs_X11_ofGuest : List gt_I := [(0, .aload_n 0, 1), (1, .getfield 13, 3), (4, .bipush 60, 2), (6, .bipush 7, 2), (8, .iload_n 1, 1), (9, .imul, 1), (10, .iadd, 1), (11, .iload_n 2, 1), (12, .iadd, 1), (13, .iaload, 1), (14, .ireturn, 1)]
theorem d_X11_ofGuest : gt_dok cX11_ofGuest cs_X11_ofGuest := gt_dok_of (by decide +kernel)
def cs_X11_thing : List gt_I := [(0, .aload_n 0, 1), (1, .iconst 0, 1), (2, .putfield 153, 3), (5, .iconst 0, 1), (6, .iload_n 1, 1), (7, .invokestatic 176, 3), (10, .ifCond .eq 28, 3), (13, .iconst 1, 1), (14, .iload_n 2, 1), (15, .invokestatic 176, 3), (18, .ifCond .eq 20, 3), (21, .iconst 2, 1), (22, .iload_n 3, 1), (23, .invokestatic 176, 3), (26, .ifCond .eq 12, 3), (29, .iconst 3, 1), (30, .iload 4, 2), (32, .invokestatic 176, 3), (35, .ifCond .ne 9, 3), (38, .aload_n 0, 1), (39, .iconst (-1), 1), (40, .invokevirtual 167, 3), (43, .ireturn, 1), (44, .aload_n 0, 1), (45, .getfield 13, 3), (48, .iconst 0, 1), (49, .iaload, 1), (50, .iconst 4, 1), (51, .if_icmp .ne 10, 3), (54, .aload_n 0, 1), (55, .bipush (-5), 2), (57, .invokevirtual 167, 3), (60, .ireturn, 1), (61, .bipush 10, 2), (63, .bipush 6, 2), (65, .aload_n 0, 1), (66, .getfield 13, 3), (69, .iconst 0, 1), (70, .iaload, 1), (71, .imul, 1), (72, .iadd, 1), (73, .istore 5, 2), (75, .aload_n 0, 1), (76, .getfield 13, 3), (79, .iload 5, 2), (81, .iload_n 1, 1), (82, .iastore, 1), (83, .aload_n 0, 1), (84, .getfield 13, 3), (87, .iload 5, 2), (89, .iconst 1, 1), (90, .iadd, 1), (91, .iload_n 2, 1), (92, .iastore, 1), (93, .aload_n 0, 1), (94, .getfield 13, 3), (97, .iload 5, 2), (99, .iconst 2, 1), (100, .iadd, 1), (101, .iload_n 3, 1), (102, .iastore, 1), (103, .aload_n 0, 1), (104, .getfield 13, 3), (107, .iload 5, 2), (109, .iconst 3, 1), (110, .iadd, 1), (111, .iload 4, 2), (113, .iastore, 1), (114, .aload_n 0, 1), (115, .getfield 13, 3), (118, .iconst 0, 1), (119, .dup2, 1), (120, .iaload, 1), (121, .iconst 1, 1), (122, .iadd, 1), (123, .iastore, 1), (124, .aload_n 0, 1), (125, .aload_n 0, 1), (126, .getfield 13, 3), (129, .iconst 0, 1), (130, .iaload, 1), (131, .iconst 1, 1), (132, .isub, 1), (133, .invokevirtual 167, 3), (136, .ireturn, 1)]
theorem d_X11_thing : gt_dok cX11_thing cs_X11_thing := gt_dok_of (by decide +kernel)
def cs_X11_put : List gt_I := [(0, .aload_n 0, 1), (1, .iconst 0, 1), (2, .putfield 153, 3), (5, .iload_n 2, 1), (6, .iload_n 3, 1), (7, .invokestatic 176, 3), (10, .ifCond .ne 9, 3), (13, .aload_n 0, 1), (14, .iconst (-1), 1), (15, .invokevirtual 167, 3), (18, .ireturn, 1), (19, .aload_n 0, 1), (20, .iload_n 1, 1), (21, .invokevirtual 180, 3), (24, .ifCond .eq 20, 3), (27, .aload_n 0, 1), (28, .bipush 10, 2), (30, .bipush 6, 2), (32, .iload_n 1, 1), (33, .imul, 1), (34, .iadd, 1), (35, .iload_n 2, 1), (36, .iadd, 1), (37, .iload_n 3, 1), (38, .invokevirtual 184, 3), (41, .goto 9, 3), (44, .aload_n 0, 1), (45, .bipush (-2), 2), (47, .invokevirtual 167, 3), (50, .ireturn, 1)]
theorem d_X11_put : gt_dok cX11_put cs_X11_put := gt_dok_of (by decide +kernel)
def cs_X11_instead : List gt_I := [(0, .aload_n 0, 1), (1, .iconst 0, 1), (2, .putfield 153, 3), (5, .iload_n 3, 1), (6, .i2l, 1), (7, .lconst 0, 1), (8, .iload_n 2, 1), (9, .iconst (-1), 1), (10, .if_icmp .ne 7, 3), (13, .lconst 0, 1), (14, .goto 6, 3), (17, .ldc2_w 188, 3), (20, .invokestatic 163, 3), (23, .ifCond .ne 9, 3), (26, .aload_n 0, 1), (27, .iconst (-1), 1), (28, .invokevirtual 167, 3), (31, .ireturn, 1), (32, .aload_n 0, 1), (33, .iload_n 1, 1), (34, .invokevirtual 180, 3), (37, .ifCond .eq 21, 3), (40, .iload_n 2, 1), (41, .iconst (-1), 1), (42, .if_icmp .eq 11, 3), (45, .aload_n 0, 1), (46, .iload_n 2, 1), (47, .invokevirtual 180, 3), (50, .ifCond .eq 8, 3), (53, .iload_n 1, 1), (54, .iload_n 2, 1), (55, .if_icmp .ne 10, 3), (58, .aload_n 0, 1), (59, .bipush (-2), 2), (61, .invokevirtual 167, 3), (64, .ireturn, 1), (65, .aload_n 0, 1), (66, .getfield 13, 3), (69, .bipush 10, 2), (71, .bipush 6, 2), (73, .iload_n 1, 1), (74, .imul, 1), (75, .iadd, 1), (76, .iconst 4, 1), (77, .iadd, 1), (78, .iload_n 2, 1), (79, .iastore, 1), (80, .aload_n 0, 1), (81, .getfield 13, 3), (84, .bipush 10, 2), (86, .bipush 6, 2), (88, .iload_n 1, 1), (89, .imul, 1), (90, .iadd, 1), (91, .iconst 5, 1), (92, .iadd, 1), (93, .iload_n 3, 1), (94, .iastore, 1), (95, .aload_n 0, 1), (96, .iconst 0, 1), (97, .invokevirtual 167, 3), (100, .ireturn, 1)]
theorem d_X11_instead : gt_dok cX11_instead cs_X11_instead := gt_dok_of (by decide +kernel)
def cs_X11_bonus : List gt_I := [(0, .aload_n 0, 1), (1, .iconst 0, 1), (2, .putfield 153, 3), (5, .iload_n 3, 1), (6, .i2l, 1), (7, .lconst 0, 1), (8, .ldc2_w 174, 3), (11, .invokestatic 163, 3), (14, .ifCond .ne 9, 3), (17, .aload_n 0, 1), (18, .iconst (-1), 1), (19, .invokevirtual 167, 3), (22, .ireturn, 1), (23, .aload_n 0, 1), (24, .iload_n 1, 1), (25, .invokevirtual 180, 3), (28, .ifCond .eq 16, 3), (31, .aload_n 0, 1), (32, .iload_n 2, 1), (33, .invokevirtual 180, 3), (36, .ifCond .eq 8, 3), (39, .iload_n 1, 1), (40, .iload_n 2, 1), (41, .if_icmp .ne 10, 3), (44, .aload_n 0, 1), (45, .bipush (-2), 2), (47, .invokevirtual 167, 3), (50, .ireturn, 1), (51, .aload_n 0, 1), (52, .getfield 13, 3), (55, .bipush 40, 2), (57, .iconst 4, 1), (58, .iload_n 2, 1), (59, .imul, 1), (60, .iadd, 1), (61, .iload_n 1, 1), (62, .iadd, 1), (63, .iload_n 3, 1), (64, .iastore, 1), (65, .aload_n 0, 1), (66, .bipush 40, 2), (68, .iconst 4, 1), (69, .iload_n 1, 1), (70, .imul, 1), (71, .iadd, 1), (72, .iload_n 2, 1), (73, .iadd, 1), (74, .iload_n 3, 1), (75, .invokevirtual 184, 3), (78, .ireturn, 1)]
theorem d_X11_bonus : gt_dok cX11_bonus cs_X11_bonus := gt_dok_of (by decide +kernel)
def cs_X11_isNew : List gt_I := [(0, .iload_n 0, 1), (1, .i2l, 1), (2, .lconst 0, 1), (3, .ldc2_w 190, 3), (6, .invokestatic 163, 3), (9, .ifCond .eq 43, 3), (12, .iload_n 1, 1), (13, .i2l, 1), (14, .lconst 0, 1), (15, .ldc2_w 172, 3), (18, .invokestatic 163, 3), (21, .ifCond .eq 31, 3), (24, .iload_n 2, 1), (25, .i2l, 1), (26, .lconst 0, 1), (27, .ldc2_w 174, 3), (30, .invokestatic 163, 3), (33, .ifCond .eq 19, 3), (36, .iload_n 3, 1), (37, .i2l, 1), (38, .lconst 0, 1), (39, .ldc2_w 192, 3), (42, .invokestatic 163, 3), (45, .ifCond .eq 7, 3), (48, .iconst 1, 1), (49, .goto 4, 3), (52, .iconst 0, 1), (53, .ireturn, 1)]
theorem d_X11_isNew : gt_dok cX11_isNew cs_X11_isNew := gt_dok_of (by decide +kernel)
def cs_X11_add : List gt_I := [(0, .bipush 60, 2), (2, .bipush 7, 2), (4, .aload_n 0, 1), (5, .getfield 13, 3), (8, .iconst 1, 1), (9, .iaload, 1), (10, .imul, 1), (11, .iadd, 1), (12, .istore 5, 2), (14, .aload_n 0, 1), (15, .getfield 13, 3), (18, .iload 5, 2), (20, .iload_n 1, 1), (21, .iastore, 1), (22, .aload_n 0, 1), (23, .getfield 13, 3), (26, .iload 5, 2), (28, .iconst 1, 1), (29, .iadd, 1), (30, .iload_n 2, 1), (31, .iastore, 1), (32, .aload_n 0, 1), (33, .getfield 13, 3), (36, .iload 5, 2), (38, .iconst 2, 1), (39, .iadd, 1), (40, .iload_n 3, 1), (41, .iastore, 1), (42, .aload_n 0, 1), (43, .getfield 13, 3), (46, .iload 5, 2), (48, .iconst 3, 1), (49, .iadd, 1), (50, .iload 4, 2), (52, .iastore, 1), (53, .aload_n 0, 1), (54, .getfield 13, 3), (57, .iload 5, 2), (59, .iconst 4, 1), (60, .iadd, 1), (61, .iconst (-1), 1), (62, .iastore, 1), (63, .aload_n 0, 1), (64, .getfield 13, 3), (67, .iload 5, 2), (69, .iconst 5, 1), (70, .iadd, 1), (71, .iconst 0, 1), (72, .iastore, 1), (73, .aload_n 0, 1), (74, .getfield 13, 3), (77, .iload 5, 2), (79, .bipush 6, 2), (81, .iadd, 1), (82, .iconst (-1), 1), (83, .iastore, 1), (84, .aload_n 0, 1), (85, .getfield 13, 3), (88, .iconst 1, 1), (89, .dup2, 1), (90, .iaload, 1), (91, .iconst 1, 1), (92, .iadd, 1), (93, .iastore, 1), (94, .return_, 1)]
theorem d_X11_add : gt_dok cX11_add cs_X11_add := gt_dok_of (by decide +kernel)
def cs_X11_guest : List gt_I := [(0, .aload_n 0, 1), (1, .iconst 0, 1), (2, .putfield 153, 3), (5, .iload_n 1, 1), (6, .iload_n 2, 1), (7, .iload_n 3, 1), (8, .iload 4, 2), (10, .invokestatic 194, 3), (13, .ifCond .ne 9, 3), (16, .aload_n 0, 1), (17, .iconst (-1), 1), (18, .invokevirtual 167, 3), (21, .ireturn, 1), (22, .aload_n 0, 1), (23, .getfield 13, 3), (26, .iconst 1, 1), (27, .iaload, 1), (28, .bipush 12, 2), (30, .if_icmp .ne 10, 3), (33, .aload_n 0, 1), (34, .bipush (-5), 2), (36, .invokevirtual 167, 3), (39, .ireturn, 1), (40, .aload_n 0, 1), (41, .iload_n 1, 1), (42, .iload_n 2, 1), (43, .iload_n 3, 1), (44, .iload 4, 2), (46, .invokevirtual 198, 3), (49, .aload_n 0, 1), (50, .aload_n 0, 1), (51, .getfield 13, 3), (54, .iconst 1, 1), (55, .iaload, 1), (56, .iconst 1, 1), (57, .isub, 1), (58, .invokevirtual 167, 3), (61, .ireturn, 1)]
theorem d_X11_guest : gt_dok cX11_guest cs_X11_guest := gt_dok_of (by decide +kernel)
def cs_X11_always : List gt_I := [(0, .aload_n 0, 1), (1, .iconst 0, 1), (2, .putfield 153, 3), (5, .aload_n 0, 1), (6, .iload_n 1, 1), (7, .invokevirtual 202, 3), (10, .ifCond .eq 16, 3), (13, .iload_n 2, 1), (14, .iconst (-1), 1), (15, .if_icmp .eq 18, 3), (18, .aload_n 0, 1), (19, .iload_n 2, 1), (20, .invokevirtual 180, 3), (23, .ifCond .ne 10, 3), (26, .aload_n 0, 1), (27, .bipush (-2), 2), (29, .invokevirtual 167, 3), (32, .ireturn, 1), (33, .aload_n 0, 1), (34, .bipush 60, 2), (36, .bipush 7, 2), (38, .iload_n 1, 1), (39, .imul, 1), (40, .iadd, 1), (41, .iconst 4, 1), (42, .iadd, 1), (43, .iload_n 2, 1), (44, .invokevirtual 184, 3), (47, .ireturn, 1)]
theorem d_X11_always : gt_dok cX11_always cs_X11_always := gt_dok_of (by decide +kernel)
def cs_X11_sees : List gt_I := [(0, .aload_n 0, 1), (1, .iconst 0, 1), (2, .putfield 153, 3), (5, .iload_n 2, 1), (6, .i2l, 1), (7, .lconst 0, 1), (8, .lconst 1, 1), (9, .invokestatic 163, 3), (12, .ifCond .ne 9, 3), (15, .aload_n 0, 1), (16, .iconst (-1), 1), (17, .invokevirtual 167, 3), (20, .ireturn, 1), (21, .aload_n 0, 1), (22, .iload_n 1, 1), (23, .invokevirtual 202, 3), (26, .ifCond .eq 20, 3), (29, .aload_n 0, 1), (30, .bipush 60, 2), (32, .bipush 7, 2), (34, .iload_n 1, 1), (35, .imul, 1), (36, .iadd, 1), (37, .iconst 5, 1), (38, .iadd, 1), (39, .iload_n 2, 1), (40, .invokevirtual 184, 3), (43, .goto 9, 3), (46, .aload_n 0, 1), (47, .bipush (-2), 2), (49, .invokevirtual 167, 3), (52, .ireturn, 1)]
theorem d_X11_sees : gt_dok cX11_sees cs_X11_sees := gt_dok_of (by decide +kernel)
def cs_X11_pair : List gt_I := [(0, .aload_n 0, 1), (1, .iconst 0, 1), (2, .putfield 153, 3), (5, .aload_n 0, 1), (6, .iload_n 1, 1), (7, .invokevirtual 202, 3), (10, .ifCond .eq 16, 3), (13, .iload_n 2, 1), (14, .iconst (-1), 1), (15, .if_icmp .eq 18, 3), (18, .aload_n 0, 1), (19, .iload_n 2, 1), (20, .invokevirtual 202, 3), (23, .ifCond .ne 10, 3), (26, .aload_n 0, 1), (27, .bipush (-2), 2), (29, .invokevirtual 167, 3), (32, .ireturn, 1), (33, .aload_n 0, 1), (34, .iload_n 1, 1), (35, .bipush 6, 2), (37, .invokevirtual 205, 3), (40, .istore_n 3, 1), (41, .iload_n 2, 1), (42, .iconst (-1), 1), (43, .if_icmp .ne 46, 3), (46, .iload_n 3, 1), (47, .iconst (-1), 1), (48, .if_icmp .eq 19, 3), (51, .aload_n 0, 1), (52, .getfield 13, 3), (55, .bipush 60, 2), (57, .bipush 7, 2), (59, .iload_n 3, 1), (60, .imul, 1), (61, .iadd, 1), (62, .bipush 6, 2), (64, .iadd, 1), (65, .iconst (-1), 1), (66, .iastore, 1), (67, .aload_n 0, 1), (68, .getfield 13, 3), (71, .bipush 60, 2), (73, .bipush 7, 2), (75, .iload_n 1, 1), (76, .imul, 1), (77, .iadd, 1), (78, .bipush 6, 2), (80, .iadd, 1), (81, .iconst (-1), 1), (82, .iastore, 1), (83, .aload_n 0, 1), (84, .iconst 0, 1), (85, .invokevirtual 167, 3), (88, .ireturn, 1), (89, .aload_n 0, 1), (90, .iload_n 2, 1), (91, .bipush 6, 2), (93, .invokevirtual 205, 3), (96, .istore 4, 2), (98, .iload_n 1, 1), (99, .iload_n 2, 1), (100, .if_icmp .eq 25, 3), (103, .iload_n 3, 1), (104, .iconst (-1), 1), (105, .if_icmp .eq 8, 3), (108, .iload_n 3, 1), (109, .iload_n 2, 1), (110, .if_icmp .ne 15, 3), (113, .iload 4, 2), (115, .iconst (-1), 1), (116, .if_icmp .eq 16, 3), (119, .iload 4, 2), (121, .iload_n 1, 1), (122, .if_icmp .eq 10, 3), (125, .aload_n 0, 1), (126, .bipush (-3), 2), (128, .invokevirtual 167, 3), (131, .ireturn, 1), (132, .aload_n 0, 1), (133, .getfield 13, 3), (136, .bipush 60, 2), (138, .bipush 7, 2), (140, .iload_n 1, 1), (141, .imul, 1), (142, .iadd, 1), (143, .bipush 6, 2), (145, .iadd, 1), (146, .iload_n 2, 1), (147, .iastore, 1), (148, .aload_n 0, 1), (149, .getfield 13, 3), (152, .bipush 60, 2), (154, .bipush 7, 2), (156, .iload_n 2, 1), (157, .imul, 1), (158, .iadd, 1), (159, .bipush 6, 2), (161, .iadd, 1), (162, .iload_n 1, 1), (163, .iastore, 1), (164, .aload_n 0, 1), (165, .iconst 0, 1), (166, .invokevirtual 167, 3), (169, .ireturn, 1)]
theorem d_X11_pair : gt_dok cX11_pair cs_X11_pair := gt_dok_of (by decide +kernel)
def cs_X11_coin : List gt_I := [(0, .aload_n 0, 1), (1, .iconst 0, 1), (2, .putfield 153, 3), (5, .iload_n 1, 1), (6, .i2l, 1), (7, .lconst 0, 1), (8, .ldc2_w 188, 3), (11, .invokestatic 163, 3), (14, .ifCond .eq 12, 3), (17, .aload_n 0, 1), (18, .iconst 3, 1), (19, .iload_n 1, 1), (20, .invokevirtual 184, 3), (23, .goto 8, 3), (26, .aload_n 0, 1), (27, .iconst (-1), 1), (28, .invokevirtual 167, 3), (31, .ireturn, 1)]
theorem d_X11_coin : gt_dok cX11_coin cs_X11_coin := gt_dok_of (by decide +kernel)
def cs_X11_isGiver : List gt_I := [(0, .aload_n 0, 1), (1, .iload_n 1, 1), (2, .bipush 6, 2), (4, .invokevirtual 205, 3), (7, .iconst (-1), 1), (8, .if_icmp .eq 14, 3), (11, .aload_n 0, 1), (12, .iload_n 1, 1), (13, .bipush 6, 2), (15, .invokevirtual 205, 3), (18, .iload_n 1, 1), (19, .if_icmp .le 7, 3), (22, .iconst 1, 1), (23, .goto 4, 3), (26, .iconst 0, 1), (27, .ireturn, 1)]
theorem d_X11_isGiver : gt_dok cX11_isGiver cs_X11_isGiver := gt_dok_of (by decide +kernel)
def cs_X11_pays : List gt_I := [(0, .aload_n 0, 1), (1, .iload_n 1, 1), (2, .bipush 6, 2), (4, .invokevirtual 205, 3), (7, .istore_n 2, 1), (8, .aload_n 0, 1), (9, .iload_n 1, 1), (10, .iconst 2, 1), (11, .invokevirtual 205, 3), (14, .iload_n 2, 1), (15, .iconst (-1), 1), (16, .if_icmp .ne 7, 3), (19, .iconst 0, 1), (20, .goto 17, 3), (23, .aload_n 0, 1), (24, .iload_n 2, 1), (25, .ifCond .ge 7, 3), (28, .iconst 0, 1), (29, .goto 4, 3), (32, .iload_n 2, 1), (33, .iconst 2, 1), (34, .invokevirtual 205, 3), (37, .iadd, 1), (38, .ireturn, 1)]
theorem d_X11_pays : gt_dok cX11_pays cs_X11_pays := gt_dok_of (by decide +kernel)
def cs_X11_givers : List gt_I := [(0, .iconst 0, 1), (1, .istore_n 1, 1), (2, .iconst 0, 1), (3, .istore_n 2, 1), (4, .iload_n 2, 1), (5, .aload_n 0, 1), (6, .getfield 13, 3), (9, .iconst 1, 1), (10, .iaload, 1), (11, .if_icmp .ge 25, 3), (14, .iload_n 1, 1), (15, .aload_n 0, 1), (16, .iload_n 2, 1), (17, .invokevirtual 208, 3), (20, .ifCond .eq 7, 3), (23, .iconst 1, 1), (24, .goto 4, 3), (27, .iconst 0, 1), (28, .iadd, 1), (29, .istore_n 1, 1), (30, .iinc 2 1, 3), (33, .goto (-29), 3), (36, .iload_n 1, 1), (37, .ireturn, 1)]
theorem d_X11_givers : gt_dok cX11_givers cs_X11_givers := gt_dok_of (by decide +kernel)
def cs_X11_of : List gt_I := [(0, .aload_n 0, 1), (1, .iconst 0, 1), (2, .putfield 153, 3), (5, .aload_n 0, 1), (6, .iload_n 1, 1), (7, .invokevirtual 202, 3), (10, .ifCond .eq 15, 3), (13, .iload_n 2, 1), (14, .i2l, 1), (15, .lconst 0, 1), (16, .ldc2_w 211, 3), (19, .invokestatic 163, 3), (22, .ifCond .ne 7, 3), (25, .sipush (-1000), 3), (28, .ireturn, 1), (29, .iload_n 2, 1), (30, .bipush 7, 2), (32, .if_icmp .ge 12, 3), (35, .aload_n 0, 1), (36, .iload_n 1, 1), (37, .iload_n 2, 1), (38, .invokevirtual 205, 3), (41, .goto 42, 3), (44, .iload_n 2, 1), (45, .bipush 7, 2), (47, .if_icmp .ne 19, 3), (50, .aload_n 0, 1), (51, .iload_n 1, 1), (52, .invokevirtual 208, 3), (55, .ifCond .eq 7, 3), (58, .iconst 1, 1), (59, .goto 24, 3), (62, .iconst 0, 1), (63, .goto 20, 3), (66, .aload_n 0, 1), (67, .iload_n 1, 1), (68, .invokevirtual 208, 3), (71, .ifCond .eq 11, 3), (74, .aload_n 0, 1), (75, .iload_n 1, 1), (76, .invokevirtual 213, 3), (79, .goto 4, 3), (82, .iconst 0, 1), (83, .ireturn, 1)]
theorem d_X11_of : gt_dok cX11_of cs_X11_of := gt_dok_of (by decide +kernel)
def cs_X11_row : List gt_I := [(0, .aload_n 0, 1), (1, .iconst 0, 1), (2, .putfield 153, 3), (5, .aload_n 0, 1), (6, .getfield 216, 3), (9, .istore_n 1, 1), (10, .aload_n 0, 1), (11, .iconst 0, 1), (12, .putfield 216, 3), (15, .iload_n 1, 1), (16, .ifCond .ne 10, 3), (19, .aload_n 0, 1), (20, .bipush (-6), 2), (22, .invokevirtual 167, 3), (25, .ireturn, 1), (26, .aload_n 0, 1), (27, .iconst 0, 1), (28, .putfield 219, 3), (31, .iconst 0, 1), (32, .istore_n 2, 1), (33, .iconst 0, 1), (34, .istore_n 3, 1), (35, .iload_n 3, 1), (36, .iload_n 1, 1), (37, .if_icmp .ge 113, 3), (40, .iload_n 3, 1), (41, .iconst 3, 1), (42, .iadd, 1), (43, .iload_n 1, 1), (44, .if_icmp .ge 90, 3), (47, .aload_n 0, 1), (48, .getfield 13, 3), (51, .iconst 1, 1), (52, .iaload, 1), (53, .bipush 12, 2), (55, .if_icmp .ge 79, 3), (58, .aload_n 0, 1), (59, .getfield 23, 3), (62, .iload_n 3, 1), (63, .iaload, 1), (64, .aload_n 0, 1), (65, .getfield 23, 3), (68, .iload_n 3, 1), (69, .iconst 1, 1), (70, .iadd, 1), (71, .iaload, 1), (72, .aload_n 0, 1), (73, .getfield 23, 3), (76, .iload_n 3, 1), (77, .iconst 2, 1), (78, .iadd, 1), (79, .iaload, 1), (80, .aload_n 0, 1), (81, .getfield 23, 3), (84, .iload_n 3, 1), (85, .iconst 3, 1), (86, .iadd, 1), (87, .iaload, 1), (88, .invokestatic 194, 3), (91, .ifCond .eq 43, 3), (94, .aload_n 0, 1), (95, .aload_n 0, 1), (96, .getfield 23, 3), (99, .iload_n 3, 1), (100, .iaload, 1), (101, .aload_n 0, 1), (102, .getfield 23, 3), (105, .iload_n 3, 1), (106, .iconst 1, 1), (107, .iadd, 1), (108, .iaload, 1), (109, .aload_n 0, 1), (110, .getfield 23, 3), (113, .iload_n 3, 1), (114, .iconst 2, 1), (115, .iadd, 1), (116, .iaload, 1), (117, .aload_n 0, 1), (118, .getfield 23, 3), (121, .iload_n 3, 1), (122, .iconst 3, 1), (123, .iadd, 1), (124, .iaload, 1), (125, .invokevirtual 198, 3), (128, .iinc 2 1, 3), (131, .goto 13, 3), (134, .aload_n 0, 1), (135, .dup, 1), (136, .getfield 219, 3), (139, .iconst 1, 1), (140, .iadd, 1), (141, .putfield 219, 3), (144, .iinc 3 4, 3), (147, .goto (-112), 3), (150, .aload_n 0, 1), (151, .iload_n 2, 1), (152, .invokevirtual 167, 3), (155, .ireturn, 1)]
theorem d_X11_row : gt_dok cX11_row cs_X11_row := gt_dok_of (by decide +kernel)
def cs_X11_late : List gt_I := [(0, .aload_n 0, 1), (1, .iconst 0, 1), (2, .putfield 153, 3), (5, .aload_n 0, 1), (6, .getfield 219, 3), (9, .ireturn, 1)]
theorem d_X11_late : gt_dok cX11_late cs_X11_late := gt_dok_of (by decide +kernel)
def cs_X11_four : List gt_I := [(0, .bipush 24, 2), (2, .istore_n 2, 1), (3, .iload_n 2, 1), (4, .ifCond .lt 35, 3), (7, .aload_n 0, 1), (8, .getfield 23, 3), (11, .aload_n 0, 1), (12, .getfield 216, 3), (15, .iload_n 1, 1), (16, .iload_n 2, 1), (17, .ishr, 1), (18, .sipush 255, 3), (21, .iand, 1), (22, .iastore, 1), (23, .aload_n 0, 1), (24, .dup, 1), (25, .getfield 216, 3), (28, .iconst 1, 1), (29, .iadd, 1), (30, .putfield 216, 3), (33, .iinc 2 (-8), 3), (36, .goto (-33), 3), (39, .return_, 1)]
theorem d_X11_four : gt_dok cX11_four cs_X11_four := gt_dok_of (by decide +kernel)
def cs_X11_feed : List gt_I := [(0, .aload_n 0, 1), (1, .iconst 0, 1), (2, .putfield 153, 3), (5, .aload_n 0, 1), (6, .getfield 216, 3), (9, .bipush 20, 2), (11, .iadd, 1), (12, .sipush 400, 3), (15, .if_icmp .le 5, 3), (18, .iconst (-1), 1), (19, .ireturn, 1), (20, .aload_n 0, 1), (21, .iload_n 1, 1), (22, .invokevirtual 222, 3), (25, .aload_n 0, 1), (26, .iload_n 2, 1), (27, .invokevirtual 222, 3), (30, .aload_n 0, 1), (31, .iload_n 3, 1), (32, .invokevirtual 222, 3), (35, .aload_n 0, 1), (36, .iload 4, 2), (38, .invokevirtual 222, 3), (41, .aload_n 0, 1), (42, .iload 5, 2), (44, .invokevirtual 222, 3), (47, .aload_n 0, 1), (48, .getfield 216, 3), (51, .ireturn, 1)]
theorem d_X11_feed : gt_dok cX11_feed cs_X11_feed := gt_dok_of (by decide +kernel)
def cs_X11_end : List gt_I := [(0, .aload_n 0, 1), (1, .iconst 0, 1), (2, .putfield 153, 3), (5, .iload_n 1, 1), (6, .ifCond .lt 11, 3), (9, .iload_n 1, 1), (10, .aload_n 0, 1), (11, .getfield 216, 3), (14, .if_icmp .le 5, 3), (17, .iconst (-1), 1), (18, .ireturn, 1), (19, .aload_n 0, 1), (20, .iload_n 1, 1), (21, .putfield 216, 3), (24, .iload_n 1, 1), (25, .ireturn, 1)]
theorem d_X11_end : gt_dok cX11_end cs_X11_end := gt_dok_of (by decide +kernel)
def cs_X11_isSmall : List gt_I := [(0, .iload_n 0, 1), (1, .bipush 97, 2), (3, .if_icmp .lt 13, 3), (6, .iload_n 0, 1), (7, .bipush 122, 2), (9, .if_icmp .gt 7, 3), (12, .iconst 1, 1), (13, .goto 4, 3), (16, .iconst 0, 1), (17, .ireturn, 1)]
theorem d_X11_isSmall : gt_dok cX11_isSmall cs_X11_isSmall := gt_dok_of (by decide +kernel)
def cs_X11_isDigit : List gt_I := [(0, .iload_n 0, 1), (1, .bipush 48, 2), (3, .if_icmp .lt 13, 3), (6, .iload_n 0, 1), (7, .bipush 57, 2), (9, .if_icmp .gt 7, 3), (12, .iconst 1, 1), (13, .goto 4, 3), (16, .iconst 0, 1), (17, .ireturn, 1)]
theorem d_X11_isDigit : gt_dok cX11_isDigit cs_X11_isDigit := gt_dok_of (by decide +kernel)
def cs_X11_begin : List gt_I := [(0, .aload_n 0, 1), (1, .iconst 0, 1), (2, .putfield 226, 3), (5, .aload_n 0, 1), (6, .iconst 0, 1), (7, .putfield 229, 3), (10, .aload_n 0, 1), (11, .iconst (-1), 1), (12, .putfield 26, 3), (15, .aload_n 0, 1), (16, .invokevirtual 233, 3), (19, .return_, 1)]
theorem d_X11_begin : gt_dok cX11_begin cs_X11_begin := gt_dok_of (by decide +kernel)
def cs_X11_next : List gt_I := [(0, .aload_n 0, 1), (1, .aload_n 0, 1), (2, .getfield 226, 3), (5, .putfield 236, 3), (8, .aload_n 0, 1), (9, .getfield 236, 3), (12, .aload_n 0, 1), (13, .getfield 216, 3), (16, .if_icmp .ge 30, 3), (19, .aload_n 0, 1), (20, .getfield 23, 3), (23, .aload_n 0, 1), (24, .getfield 236, 3), (27, .iaload, 1), (28, .bipush 32, 2), (30, .if_icmp .ne 16, 3), (33, .aload_n 0, 1), (34, .dup, 1), (35, .getfield 236, 3), (38, .iconst 1, 1), (39, .iadd, 1), (40, .putfield 236, 3), (43, .goto (-35), 3), (46, .aload_n 0, 1), (47, .aload_n 0, 1), (48, .getfield 236, 3), (51, .putfield 226, 3), (54, .aload_n 0, 1), (55, .lconst 0, 1), (56, .putfield 239, 3), (59, .aload_n 0, 1), (60, .aload_n 0, 1), (61, .getfield 236, 3), (64, .aload_n 0, 1), (65, .getfield 216, 3), (68, .if_icmp .ne 7, 3), (71, .iconst 0, 1), (72, .goto 42, 3), (75, .aload_n 0, 1), (76, .getfield 23, 3), (79, .aload_n 0, 1), (80, .getfield 236, 3), (83, .iaload, 1), (84, .invokestatic 243, 3), (87, .ifCond .eq 7, 3), (90, .iconst 1, 1), (91, .goto 23, 3), (94, .aload_n 0, 1), (95, .getfield 23, 3), (98, .aload_n 0, 1), (99, .getfield 236, 3), (102, .iaload, 1), (103, .invokestatic 246, 3), (106, .ifCond .eq 7, 3), (109, .iconst 2, 1), (110, .goto 4, 3), (113, .iconst 3, 1), (114, .putfield 249, 3), (117, .aload_n 0, 1), (118, .getfield 249, 3), (121, .iconst 3, 1), (122, .if_icmp .ne 27, 3), (125, .aload_n 0, 1), (126, .aload_n 0, 1), (127, .getfield 23, 3), (130, .aload_n 0, 1), (131, .getfield 236, 3), (134, .iaload, 1), (135, .i2l, 1), (136, .putfield 239, 3), (139, .aload_n 0, 1), (140, .dup, 1), (141, .getfield 226, 3), (144, .iconst 1, 1), (145, .iadd, 1), (146, .putfield 226, 3), (149, .aload_n 0, 1), (150, .getfield 249, 3), (153, .iconst 1, 1), (154, .if_icmp .ne 89, 3), (157, .aload_n 0, 1), (158, .getfield 226, 3), (161, .aload_n 0, 1), (162, .getfield 216, 3), (165, .if_icmp .ge 78, 3), (168, .aload_n 0, 1), (169, .getfield 23, 3), (172, .aload_n 0, 1), (173, .getfield 226, 3), (176, .iaload, 1), (177, .invokestatic 243, 3), (180, .ifCond .eq 63, 3), (183, .aload_n 0, 1), (184, .aload_n 0, 1), (185, .getfield 226, 3), (188, .aload_n 0, 1), (189, .getfield 236, 3), (192, .isub, 1), (193, .bipush 10, 2), (195, .if_icmp .ge 29, 3), (198, .aload_n 0, 1), (199, .getfield 239, 3), (202, .ldc2_w 252, 3), (205, .lmul, 1), (206, .aload_n 0, 1), (207, .getfield 23, 3), (210, .aload_n 0, 1), (211, .getfield 226, 3), (214, .iaload, 1), (215, .i2l, 1), (216, .ladd, 1), (217, .ldc2_w 254, 3), (220, .lsub, 1), (221, .goto 6, 3), (224, .ldc2_w 256, 3), (227, .putfield 239, 3), (230, .aload_n 0, 1), (231, .dup, 1), (232, .getfield 226, 3), (235, .iconst 1, 1), (236, .iadd, 1), (237, .putfield 226, 3), (240, .goto (-91), 3), (243, .aload_n 0, 1), (244, .getfield 249, 3), (247, .iconst 2, 1), (248, .if_icmp .ne 87, 3), (251, .aload_n 0, 1), (252, .getfield 226, 3), (255, .aload_n 0, 1), (256, .getfield 216, 3), (259, .if_icmp .ge 76, 3), (262, .aload_n 0, 1), (263, .getfield 23, 3), (266, .aload_n 0, 1), (267, .getfield 226, 3), (270, .iaload, 1), (271, .invokestatic 246, 3), (274, .ifCond .eq 61, 3), (277, .aload_n 0, 1), (278, .aload_n 0, 1), (279, .getfield 239, 3), (282, .ldc2_w 258, 3), (285, .lcmp, 1), (286, .ifCond .le 10, 3), (289, .aload_n 0, 1), (290, .getfield 239, 3), (293, .goto 26, 3), (296, .aload_n 0, 1), (297, .getfield 239, 3), (300, .ldc2_w 260, 3), (303, .lmul, 1), (304, .aload_n 0, 1), (305, .getfield 23, 3), (308, .aload_n 0, 1), (309, .getfield 226, 3), (312, .iaload, 1), (313, .i2l, 1), (314, .ladd, 1), (315, .ldc2_w 262, 3), (318, .lsub, 1), (319, .putfield 239, 3), (322, .aload_n 0, 1), (323, .dup, 1), (324, .getfield 226, 3), (327, .iconst 1, 1), (328, .iadd, 1), (329, .putfield 226, 3), (332, .goto (-89), 3), (335, .return_, 1)]
theorem d_X11_next : gt_dok cX11_next cs_X11_next := gt_dok_of (by decide +kernel)
def cs_X11_isWord : List gt_I := [(0, .aload_n 0, 1), (1, .getfield 249, 3), (4, .iconst 1, 1), (5, .if_icmp .ne 16, 3), (8, .aload_n 0, 1), (9, .getfield 239, 3), (12, .lload_n 1, 1), (13, .lcmp, 1), (14, .ifCond .ne 7, 3), (17, .iconst 1, 1), (18, .goto 4, 3), (21, .iconst 0, 1), (22, .ireturn, 1)]
theorem d_X11_isWord : gt_dok cX11_isWord cs_X11_isWord := gt_dok_of (by decide +kernel)
def cs_X11_isSign : List gt_I := [(0, .aload_n 0, 1), (1, .getfield 249, 3), (4, .iconst 3, 1), (5, .if_icmp .ne 17, 3), (8, .aload_n 0, 1), (9, .getfield 239, 3), (12, .iload_n 1, 1), (13, .i2l, 1), (14, .lcmp, 1), (15, .ifCond .ne 7, 3), (18, .iconst 1, 1), (19, .goto 4, 3), (22, .iconst 0, 1), (23, .ireturn, 1)]
theorem d_X11_isSign : gt_dok cX11_isSign cs_X11_isSign := gt_dok_of (by decide +kernel)
def cs_X11_must : List gt_I := [(0, .aload_n 0, 1), (1, .getfield 229, 3), (4, .ifCond .ne 20, 3), (7, .iload_n 1, 1), (8, .ifCond .ne 16, 3), (11, .aload_n 0, 1), (12, .iconst 1, 1), (13, .putfield 229, 3), (16, .aload_n 0, 1), (17, .aload_n 0, 1), (18, .getfield 236, 3), (21, .putfield 26, 3), (24, .aload_n 0, 1), (25, .getfield 229, 3), (28, .ifCond .ne 7, 3), (31, .aload_n 0, 1), (32, .invokevirtual 233, 3), (35, .return_, 1)]
theorem d_X11_must : gt_dok cX11_must cs_X11_must := gt_dok_of (by decide +kernel)
def cs_X11_fault : List gt_I := [(0, .aload_n 0, 1), (1, .iconst 0, 1), (2, .putfield 153, 3), (5, .aload_n 0, 1), (6, .getfield 26, 3), (9, .ireturn, 1)]
theorem d_X11_fault : gt_dok cX11_fault cs_X11_fault := gt_dok_of (by decide +kernel)
def cs_X11_emit : List gt_I := [(0, .aload_n 0, 1), (1, .getfield 33, 3), (4, .aload_n 0, 1), (5, .getfield 268, 3), (8, .iload_n 1, 1), (9, .iastore, 1), (10, .aload_n 0, 1), (11, .getfield 36, 3), (14, .aload_n 0, 1), (15, .getfield 268, 3), (18, .iload_n 2, 1), (19, .iastore, 1), (20, .aload_n 0, 1), (21, .dup, 1), (22, .getfield 268, 3), (25, .iconst 1, 1), (26, .iadd, 1), (27, .putfield 268, 3), (30, .return_, 1)]
theorem d_X11_emit : gt_dok cX11_emit cs_X11_emit := gt_dok_of (by decide +kernel)
def cs_X11_push : List gt_I := [(0, .aload_n 0, 1), (1, .getfield 39, 3), (4, .aload_n 0, 1), (5, .getfield 271, 3), (8, .iload_n 1, 1), (9, .iastore, 1), (10, .aload_n 0, 1), (11, .getfield 42, 3), (14, .aload_n 0, 1), (15, .getfield 271, 3), (18, .iload_n 2, 1), (19, .iastore, 1), (20, .aload_n 0, 1), (21, .dup, 1), (22, .getfield 271, 3), (25, .iconst 1, 1), (26, .iadd, 1), (27, .putfield 271, 3), (30, .return_, 1)]
theorem d_X11_push : gt_dok cX11_push cs_X11_push := gt_dok_of (by decide +kernel)
def cs_X11_binds : List gt_I := [(0, .iload_n 0, 1), (1, .bipush 30, 2), (3, .if_icmp .lt 7, 3), (6, .iconst 0, 1), (7, .goto 55, 3), (10, .iload_n 0, 1), (11, .bipush 29, 2), (13, .if_icmp .ne 7, 3), (16, .iconst 1, 1), (17, .goto 45, 3), (20, .iload_n 0, 1), (21, .bipush 28, 2), (23, .if_icmp .ne 7, 3), (26, .iconst 2, 1), (27, .goto 35, 3), (30, .iload_n 0, 1), (31, .bipush 27, 2), (33, .if_icmp .ne 7, 3), (36, .iconst 3, 1), (37, .goto 25, 3), (40, .iload_n 0, 1), (41, .bipush 24, 2), (43, .if_icmp .lt 7, 3), (46, .iconst 4, 1), (47, .goto 15, 3), (50, .iload_n 0, 1), (51, .bipush 22, 2), (53, .if_icmp .lt 8, 3), (56, .bipush 6, 2), (58, .goto 4, 3), (61, .iconst 5, 1), (62, .ireturn, 1)]
theorem d_X11_binds : gt_dok cX11_binds cs_X11_binds := gt_dok_of (by decide +kernel)
def cs_X11_settle : List gt_I := [(0, .aload_n 0, 1), (1, .getfield 271, 3), (4, .ifCond .le 97, 3), (7, .aload_n 0, 1), (8, .getfield 39, 3), (11, .aload_n 0, 1), (12, .getfield 271, 3), (15, .iconst 1, 1), (16, .isub, 1), (17, .iaload, 1), (18, .invokestatic 274, 3), (21, .iload_n 1, 1), (22, .if_icmp .lt 79, 3), (25, .aload_n 0, 1), (26, .dup, 1), (27, .getfield 271, 3), (30, .iconst 1, 1), (31, .isub, 1), (32, .putfield 271, 3), (35, .aload_n 0, 1), (36, .getfield 39, 3), (39, .aload_n 0, 1), (40, .getfield 271, 3), (43, .iaload, 1), (44, .bipush 28, 2), (46, .if_icmp .eq 17, 3), (49, .aload_n 0, 1), (50, .getfield 39, 3), (53, .aload_n 0, 1), (54, .getfield 271, 3), (57, .iaload, 1), (58, .bipush 29, 2), (60, .if_icmp .ne 24, 3), (63, .aload_n 0, 1), (64, .getfield 36, 3), (67, .aload_n 0, 1), (68, .getfield 42, 3), (71, .aload_n 0, 1), (72, .getfield 271, 3), (75, .iaload, 1), (76, .aload_n 0, 1), (77, .getfield 268, 3), (80, .iastore, 1), (81, .goto (-81), 3), (84, .aload_n 0, 1), (85, .aload_n 0, 1), (86, .getfield 39, 3), (89, .aload_n 0, 1), (90, .getfield 271, 3), (93, .iaload, 1), (94, .iconst 0, 1), (95, .invokevirtual 277, 3), (98, .goto (-98), 3), (101, .return_, 1)]
theorem d_X11_settle : gt_dok cX11_settle cs_X11_settle := gt_dok_of (by decide +kernel)
def cs_X11_inner : List gt_I := [(0, .iconst (-1), 1), (1, .istore_n 1, 1), (2, .iconst 0, 1), (3, .istore_n 2, 1), (4, .iload_n 2, 1), (5, .aload_n 0, 1), (6, .getfield 271, 3), (9, .if_icmp .ge 31, 3), (12, .aload_n 0, 1), (13, .getfield 39, 3), (16, .iload_n 2, 1), (17, .iaload, 1), (18, .bipush 30, 2), (20, .if_icmp .lt 12, 3), (23, .aload_n 0, 1), (24, .getfield 39, 3), (27, .iload_n 2, 1), (28, .iaload, 1), (29, .goto 4, 3), (32, .iload_n 1, 1), (33, .istore_n 1, 1), (34, .iinc 2 1, 3), (37, .goto (-33), 3), (40, .iload_n 1, 1), (41, .ireturn, 1)]
theorem d_X11_inner : gt_dok cX11_inner cs_X11_inner := gt_dok_of (by decide +kernel)
def cs_X11_isCompared : List gt_I := [(0, .aload_n 0, 1), (1, .getfield 271, 3), (4, .iconst 1, 1), (5, .isub, 1), (6, .istore_n 1, 1), (7, .iload_n 1, 1), (8, .ifCond .lt 28, 3), (11, .aload_n 0, 1), (12, .getfield 39, 3), (15, .iload_n 1, 1), (16, .iaload, 1), (17, .i2l, 1), (18, .ldc2_w 281, 3), (21, .ldc2_w 283, 3), (24, .invokestatic 163, 3), (27, .ifCond .eq 9, 3), (30, .iinc 1 (-1), 3), (33, .goto (-26), 3), (36, .iload_n 1, 1), (37, .ifCond .lt 26, 3), (40, .aload_n 0, 1), (41, .getfield 39, 3), (44, .iload_n 1, 1), (45, .iaload, 1), (46, .i2l, 1), (47, .ldc2_w 285, 3), (50, .ldc2_w 287, 3), (53, .invokestatic 163, 3), (56, .ifCond .eq 7, 3), (59, .iconst 1, 1), (60, .goto 4, 3), (63, .iconst 0, 1), (64, .ireturn, 1)]
theorem d_X11_isCompared : gt_dok cX11_isCompared cs_X11_isCompared := gt_dok_of (by decide +kernel)
def cs_X11_partAt : List gt_I := [(0, .iconst (-1), 1), (1, .istore_n 1, 1), (2, .iconst 0, 1), (3, .istore_n 2, 1), (4, .iload_n 2, 1), (5, .bipush 10, 2), (7, .if_icmp .ge 30, 3), (10, .aload_n 0, 1), (11, .aload_n 0, 1), (12, .getfield 65, 3), (15, .iload_n 2, 1), (16, .laload, 1), (17, .invokevirtual 289, 3), (20, .ifCond .eq 9, 3), (23, .iload_n 2, 1), (24, .iconst 1, 1), (25, .iadd, 1), (26, .goto 4, 3), (29, .iload_n 1, 1), (30, .istore_n 1, 1), (31, .iinc 2 1, 3), (34, .goto (-30), 3), (37, .iload_n 1, 1), (38, .ireturn, 1)]
theorem d_X11_partAt : gt_dok cX11_partAt cs_X11_partAt := gt_dok_of (by decide +kernel)
def cs_X11_openBracket : List gt_I := [(0, .aload_n 0, 1), (1, .aload_n 0, 1), (2, .getfield 293, 3), (5, .bipush 8, 2), (7, .if_icmp .ge 7, 3), (10, .iconst 1, 1), (11, .goto 4, 3), (14, .iconst 0, 1), (15, .invokevirtual 264, 3), (18, .aload_n 0, 1), (19, .getfield 229, 3), (22, .ifCond .ne 19, 3), (25, .aload_n 0, 1), (26, .dup, 1), (27, .getfield 293, 3), (30, .iconst 1, 1), (31, .iadd, 1), (32, .putfield 293, 3), (35, .aload_n 0, 1), (36, .iload_n 1, 1), (37, .iconst 0, 1), (38, .invokevirtual 296, 3), (41, .return_, 1)]
theorem d_X11_openBracket : gt_dok cX11_openBracket cs_X11_openBracket := gt_dok_of (by decide +kernel)
def cs_X11_leaf : List gt_I := [(0, .aload_n 0, 1), (1, .iload_n 1, 1), (2, .ifCond .eq 16, 3), (5, .aload_n 0, 1), (6, .getfield 299, 3), (9, .bipush 50, 2), (11, .if_icmp .ge 7, 3), (14, .iconst 1, 1), (15, .goto 4, 3), (18, .iconst 0, 1), (19, .invokevirtual 264, 3), (22, .aload_n 0, 1), (23, .getfield 229, 3), (26, .ifCond .ne 19, 3), (29, .aload_n 0, 1), (30, .iload_n 2, 1), (31, .iload_n 3, 1), (32, .invokevirtual 277, 3), (35, .aload_n 0, 1), (36, .dup, 1), (37, .getfield 299, 3), (40, .iconst 1, 1), (41, .iadd, 1), (42, .putfield 299, 3), (45, .return_, 1)]
theorem d_X11_leaf : gt_dok cX11_leaf cs_X11_leaf := gt_dok_of (by decide +kernel)
def cs_X11_readPart : List gt_I := [(0, .aload_n 0, 1), (1, .bipush 91, 2), (3, .invokevirtual 302, 3), (6, .ifCond .eq 11, 3), (9, .aload_n 0, 1), (10, .bipush 31, 2), (12, .invokevirtual 305, 3), (15, .iconst 1, 1), (16, .ireturn, 1), (17, .aload_n 0, 1), (18, .invokevirtual 308, 3), (21, .istore_n 1, 1), (22, .aload_n 0, 1), (23, .getfield 249, 3), (26, .iconst 2, 1), (27, .if_icmp .ne 18, 3), (30, .aload_n 0, 1), (31, .getfield 239, 3), (34, .ldc2_w 312, 3), (37, .lcmp, 1), (38, .ifCond .gt 7, 3), (41, .iconst 1, 1), (42, .goto 4, 3), (45, .iconst 0, 1), (46, .istore_n 2, 1), (47, .aload_n 0, 1), (48, .iload_n 1, 1), (49, .iconst (-1), 1), (50, .if_icmp .ne 7, 3), (53, .iload_n 2, 1), (54, .ifCond .eq 7, 3), (57, .iconst 1, 1), (58, .goto 4, 3), (61, .iconst 0, 1), (62, .iload_n 1, 1), (63, .iconst (-1), 1), (64, .if_icmp .ne 7, 3), (67, .iconst 0, 1), (68, .goto 4, 3), (71, .iload_n 1, 1), (72, .iload_n 2, 1), (73, .ifCond .eq 11, 3), (76, .aload_n 0, 1), (77, .getfield 239, 3), (80, .l2i, 1), (81, .goto 4, 3), (84, .iconst 0, 1), (85, .invokevirtual 314, 3), (88, .iconst 3, 1), (89, .ireturn, 1)]
theorem d_X11_readPart : gt_dok cX11_readPart cs_X11_readPart := gt_dok_of (by decide +kernel)
def cs_X11_readPlain : List gt_I := [(0, .aload_n 0, 1), (1, .ldc2_w 318, 3), (4, .invokevirtual 289, 3), (7, .ifCond .eq 16, 3), (10, .aload_n 0, 1), (11, .bipush 27, 2), (13, .iconst 0, 1), (14, .invokevirtual 296, 3), (17, .aload_n 0, 1), (18, .invokevirtual 233, 3), (21, .iconst 0, 1), (22, .ireturn, 1), (23, .aload_n 0, 1), (24, .bipush 40, 2), (26, .invokevirtual 302, 3), (29, .ifCond .eq 11, 3), (32, .aload_n 0, 1), (33, .bipush 30, 2), (35, .invokevirtual 305, 3), (38, .iconst 0, 1), (39, .ireturn, 1), (40, .aload_n 0, 1), (41, .invokevirtual 320, 3), (44, .ireturn, 1)]
theorem d_X11_readPlain : gt_dok cX11_readPlain cs_X11_readPlain := gt_dok_of (by decide +kernel)
def cs_X11_behindSum : List gt_I := [(0, .aload_n 0, 1), (1, .bipush 43, 2), (3, .invokevirtual 302, 3), (6, .ifCond .eq 8, 3), (9, .bipush 20, 2), (11, .goto 46, 3), (14, .aload_n 0, 1), (15, .bipush 45, 2), (17, .invokevirtual 302, 3), (20, .ifCond .eq 8, 3), (23, .bipush 21, 2), (25, .goto 32, 3), (28, .aload_n 0, 1), (29, .bipush 42, 2), (31, .invokevirtual 302, 3), (34, .ifCond .eq 8, 3), (37, .bipush 22, 2), (39, .goto 18, 3), (42, .aload_n 0, 1), (43, .bipush 47, 2), (45, .invokevirtual 302, 3), (48, .ifCond .eq 8, 3), (51, .bipush 23, 2), (53, .goto 4, 3), (56, .iconst (-1), 1), (57, .istore_n 2, 1), (58, .iload_n 2, 1), (59, .iconst (-1), 1), (60, .if_icmp .eq 23, 3), (63, .aload_n 0, 1), (64, .iload_n 2, 1), (65, .invokestatic 274, 3), (68, .invokevirtual 323, 3), (71, .aload_n 0, 1), (72, .iload_n 2, 1), (73, .iconst 0, 1), (74, .invokevirtual 296, 3), (77, .aload_n 0, 1), (78, .invokevirtual 233, 3), (81, .iconst 1, 1), (82, .ireturn, 1), (83, .aload_n 0, 1), (84, .invokevirtual 326, 3), (87, .istore_n 3, 1), (88, .iload_n 3, 1), (89, .bipush 31, 2), (91, .if_icmp .ne 47, 3), (94, .aload_n 0, 1), (95, .aload_n 0, 1), (96, .bipush 93, 2), (98, .invokevirtual 302, 3), (101, .invokevirtual 264, 3), (104, .aload_n 0, 1), (105, .getfield 229, 3), (108, .ifCond .ne 28, 3), (111, .aload_n 0, 1), (112, .iconst 5, 1), (113, .invokevirtual 323, 3), (116, .aload_n 0, 1), (117, .dup, 1), (118, .getfield 271, 3), (121, .iconst 1, 1), (122, .isub, 1), (123, .putfield 271, 3), (126, .aload_n 0, 1), (127, .dup, 1), (128, .getfield 293, 3), (131, .iconst 1, 1), (132, .isub, 1), (133, .putfield 293, 3), (136, .iconst 3, 1), (137, .ireturn, 1), (138, .iload_n 3, 1), (139, .iconst (-1), 1), (140, .if_icmp .ne 9, 3), (143, .iload_n 1, 1), (144, .ifCond .ne 5, 3), (147, .iconst 4, 1), (148, .ireturn, 1), (149, .aload_n 0, 1), (150, .invokevirtual 329, 3), (153, .ifCond .eq 5, 3), (156, .iconst 2, 1), (157, .ireturn, 1), (158, .aload_n 0, 1), (159, .bipush 60, 2), (161, .invokevirtual 302, 3), (164, .ifCond .eq 8, 3), (167, .bipush 24, 2), (169, .goto 19, 3), (172, .aload_n 0, 1), (173, .bipush 62, 2), (175, .invokevirtual 302, 3), (178, .ifCond .eq 8, 3), (181, .bipush 25, 2), (183, .goto 5, 3), (186, .bipush 26, 2), (188, .istore_n 2, 1), (189, .aload_n 0, 1), (190, .iload_n 2, 1), (191, .bipush 26, 2), (193, .if_icmp .ne 12, 3), (196, .aload_n 0, 1), (197, .bipush 61, 2), (199, .invokevirtual 302, 3), (202, .ifCond .eq 7, 3), (205, .iconst 1, 1), (206, .goto 4, 3), (209, .iconst 0, 1), (210, .invokevirtual 264, 3), (213, .aload_n 0, 1), (214, .getfield 229, 3), (217, .ifCond .ne 14, 3), (220, .aload_n 0, 1), (221, .iconst 5, 1), (222, .invokevirtual 323, 3), (225, .aload_n 0, 1), (226, .iload_n 2, 1), (227, .iconst 0, 1), (228, .invokevirtual 296, 3), (231, .iconst 1, 1), (232, .ireturn, 1)]
theorem d_X11_behindSum : gt_dok cX11_behindSum cs_X11_behindSum := gt_dok_of (by decide +kernel)
def cs_X11_behindTest : List gt_I := [(0, .aload_n 0, 1), (1, .ldc2_w 333, 3), (4, .invokevirtual 289, 3), (7, .istore_n 1, 1), (8, .iload_n 1, 1), (9, .ifCond .ne 13, 3), (12, .aload_n 0, 1), (13, .ldc2_w 335, 3), (16, .invokevirtual 289, 3), (19, .ifCond .eq 57, 3), (22, .aload_n 0, 1), (23, .iload_n 1, 1), (24, .ifCond .eq 7, 3), (27, .iconst 2, 1), (28, .goto 4, 3), (31, .iconst 1, 1), (32, .invokevirtual 323, 3), (35, .aload_n 0, 1), (36, .iload_n 1, 1), (37, .ifCond .eq 8, 3), (40, .bipush 28, 2), (42, .goto 5, 3), (45, .bipush 29, 2), (47, .aload_n 0, 1), (48, .getfield 268, 3), (51, .invokevirtual 296, 3), (54, .aload_n 0, 1), (55, .iload_n 1, 1), (56, .ifCond .eq 8, 3), (59, .bipush 28, 2), (61, .goto 5, 3), (64, .bipush 29, 2), (66, .iconst 0, 1), (67, .invokevirtual 277, 3), (70, .aload_n 0, 1), (71, .invokevirtual 233, 3), (74, .iconst 0, 1), (75, .ireturn, 1), (76, .aload_n 0, 1), (77, .invokevirtual 326, 3), (80, .iconst (-1), 1), (81, .if_icmp .ne 5, 3), (84, .iconst 4, 1), (85, .ireturn, 1), (86, .aload_n 0, 1), (87, .aload_n 0, 1), (88, .bipush 41, 2), (90, .invokevirtual 302, 3), (93, .invokevirtual 264, 3), (96, .aload_n 0, 1), (97, .getfield 229, 3), (100, .ifCond .ne 28, 3), (103, .aload_n 0, 1), (104, .iconst 1, 1), (105, .invokevirtual 323, 3), (108, .aload_n 0, 1), (109, .dup, 1), (110, .getfield 271, 3), (113, .iconst 1, 1), (114, .isub, 1), (115, .putfield 271, 3), (118, .aload_n 0, 1), (119, .dup, 1), (120, .getfield 293, 3), (123, .iconst 1, 1), (124, .isub, 1), (125, .putfield 293, 3), (128, .iconst 2, 1), (129, .ireturn, 1)]
theorem d_X11_behindTest : gt_dok cX11_behindTest cs_X11_behindTest := gt_dok_of (by decide +kernel)
def cs_X11_readExpression : List gt_I := [(0, .aload_n 0, 1), (1, .iconst 0, 1), (2, .putfield 271, 3), (5, .aload_n 0, 1), (6, .iconst 0, 1), (7, .putfield 293, 3), (10, .iload_n 1, 1), (11, .ifCond .eq 7, 3), (14, .iconst 0, 1), (15, .goto 4, 3), (18, .iconst 1, 1), (19, .istore_n 2, 1), (20, .aload_n 0, 1), (21, .getfield 229, 3), (24, .ifCond .ne 52, 3), (27, .iload_n 2, 1), (28, .iconst 4, 1), (29, .if_icmp .eq 47, 3), (32, .iload_n 2, 1), (33, .ifCond .ne 10, 3), (36, .aload_n 0, 1), (37, .invokevirtual 337, 3), (40, .goto 32, 3), (43, .iload_n 2, 1), (44, .iconst 1, 1), (45, .if_icmp .ne 10, 3), (48, .aload_n 0, 1), (49, .invokevirtual 320, 3), (52, .goto 20, 3), (55, .iload_n 2, 1), (56, .iconst 3, 1), (57, .if_icmp .ne 11, 3), (60, .aload_n 0, 1), (61, .iload_n 1, 1), (62, .invokevirtual 340, 3), (65, .goto 7, 3), (68, .aload_n 0, 1), (69, .invokevirtual 344, 3), (72, .istore_n 2, 1), (73, .goto (-53), 3), (76, .aload_n 0, 1), (77, .iconst 1, 1), (78, .invokevirtual 323, 3), (81, .return_, 1)]
theorem d_X11_readExpression : gt_dok cX11_readExpression cs_X11_readExpression := gt_dok_of (by decide +kernel)
def cs_X11_readClause : List gt_I := [(0, .aload_n 0, 1), (1, .ldc2_w 347, 3), (4, .invokevirtual 289, 3), (7, .istore_n 1, 1), (8, .aload_n 0, 1), (9, .iload_n 1, 1), (10, .ifCond .ne 13, 3), (13, .aload_n 0, 1), (14, .ldc2_w 349, 3), (17, .invokevirtual 289, 3), (20, .ifCond .eq 16, 3), (23, .aload_n 0, 1), (24, .getfield 351, 3), (27, .bipush 12, 2), (29, .if_icmp .ge 7, 3), (32, .iconst 1, 1), (33, .goto 4, 3), (36, .iconst 0, 1), (37, .invokevirtual 264, 3), (40, .aload_n 0, 1), (41, .getfield 229, 3), (44, .ifCond .eq 4, 3), (47, .return_, 1), (48, .bipush 8, 2), (50, .aload_n 0, 1), (51, .getfield 351, 3), (54, .imul, 1), (55, .istore_n 2, 1), (56, .iconst 0, 1), (57, .istore_n 3, 1), (58, .iload_n 3, 1), (59, .bipush 8, 2), (61, .if_icmp .ge 18, 3), (64, .aload_n 0, 1), (65, .getfield 30, 3), (68, .iload_n 2, 1), (69, .iload_n 3, 1), (70, .iadd, 1), (71, .iconst 0, 1), (72, .iastore, 1), (73, .iinc 3 1, 3), (76, .goto (-18), 3), (79, .aload_n 0, 1), (80, .getfield 30, 3), (83, .iload_n 2, 1), (84, .iload_n 1, 1), (85, .ifCond .eq 7, 3), (88, .iconst 0, 1), (89, .goto 4, 3), (92, .iconst 1, 1), (93, .iastore, 1), (94, .aload_n 0, 1), (95, .dup, 1), (96, .getfield 351, 3), (99, .iconst 1, 1), (100, .iadd, 1), (101, .putfield 351, 3), (104, .aload_n 0, 1), (105, .getfield 30, 3), (108, .iload_n 2, 1), (109, .iconst 3, 1), (110, .iadd, 1), (111, .aload_n 0, 1), (112, .getfield 268, 3), (115, .iastore, 1), (116, .aload_n 0, 1), (117, .iconst 0, 1), (118, .invokevirtual 354, 3), (121, .aload_n 0, 1), (122, .getfield 30, 3), (125, .iload_n 2, 1), (126, .iconst 4, 1), (127, .iadd, 1), (128, .aload_n 0, 1), (129, .getfield 268, 3), (132, .iastore, 1), (133, .aload_n 0, 1), (134, .getfield 30, 3), (137, .iload_n 2, 1), (138, .iconst 5, 1), (139, .iadd, 1), (140, .aload_n 0, 1), (141, .getfield 268, 3), (144, .iastore, 1), (145, .aload_n 0, 1), (146, .getfield 229, 3), (149, .ifCond .ne 22, 3), (152, .aload_n 0, 1), (153, .ldc2_w 357, 3), (156, .invokevirtual 289, 3), (159, .ifCond .eq 12, 3), (162, .aload_n 0, 1), (163, .invokevirtual 233, 3), (166, .aload_n 0, 1), (167, .iconst 1, 1), (168, .invokevirtual 354, 3), (171, .aload_n 0, 1), (172, .getfield 30, 3), (175, .iload_n 2, 1), (176, .bipush 6, 2), (178, .iadd, 1), (179, .aload_n 0, 1), (180, .getfield 268, 3), (183, .iastore, 1), (184, .return_, 1)]
theorem d_X11_readClause : gt_dok cX11_readClause cs_X11_readClause := gt_dok_of (by decide +kernel)
def cs_X11_text : List gt_I := [(0, .aload_n 0, 1), (1, .iconst 0, 1), (2, .putfield 153, 3), (5, .aload_n 0, 1), (6, .getfield 13, 3), (9, .iconst 2, 1), (10, .iaload, 1), (11, .bipush 6, 2), (13, .if_icmp .ne 15, 3), (16, .aload_n 0, 1), (17, .iconst 0, 1), (18, .putfield 216, 3), (21, .aload_n 0, 1), (22, .bipush (-5), 2), (24, .invokevirtual 167, 3), (27, .ireturn, 1), (28, .aload_n 0, 1), (29, .invokevirtual 359, 3), (32, .aload_n 0, 1), (33, .iconst 0, 1), (34, .putfield 351, 3), (37, .aload_n 0, 1), (38, .iconst 0, 1), (39, .putfield 268, 3), (42, .aload_n 0, 1), (43, .iconst 0, 1), (44, .putfield 299, 3), (47, .aload_n 0, 1), (48, .invokevirtual 362, 3), (51, .aload_n 0, 1), (52, .getfield 229, 3), (55, .ifCond .ne 23, 3), (58, .aload_n 0, 1), (59, .bipush 59, 2), (61, .invokevirtual 302, 3), (64, .ifCond .eq 14, 3), (67, .aload_n 0, 1), (68, .invokevirtual 233, 3), (71, .aload_n 0, 1), (72, .invokevirtual 362, 3), (75, .goto (-24), 3), (78, .aload_n 0, 1), (79, .getfield 229, 3), (82, .ifCond .ne 15, 3), (85, .aload_n 0, 1), (86, .getfield 249, 3), (89, .ifCond .eq 8, 3), (92, .aload_n 0, 1), (93, .iconst 0, 1), (94, .invokevirtual 264, 3), (97, .aload_n 0, 1), (98, .iconst 0, 1), (99, .putfield 216, 3), (102, .aload_n 0, 1), (103, .getfield 229, 3), (106, .ifCond .eq 10, 3), (109, .aload_n 0, 1), (110, .bipush (-6), 2), (112, .invokevirtual 167, 3), (115, .ireturn, 1), (116, .sipush 150, 3), (119, .sipush 900, 3), (122, .aload_n 0, 1), (123, .getfield 13, 3), (126, .iconst 2, 1), (127, .iaload, 1), (128, .imul, 1), (129, .iadd, 1), (130, .istore_n 1, 1), (131, .aload_n 0, 1), (132, .getfield 13, 3), (135, .iload_n 1, 1), (136, .iconst 1, 1), (137, .iadd, 1), (138, .aload_n 0, 1), (139, .getfield 351, 3), (142, .iastore, 1), (143, .iconst 0, 1), (144, .istore_n 2, 1), (145, .iload_n 2, 1), (146, .bipush 8, 2), (148, .aload_n 0, 1), (149, .getfield 351, 3), (152, .imul, 1), (153, .if_icmp .ge 25, 3), (156, .aload_n 0, 1), (157, .getfield 13, 3), (160, .iload_n 1, 1), (161, .iconst 2, 1), (162, .iadd, 1), (163, .iload_n 2, 1), (164, .iadd, 1), (165, .aload_n 0, 1), (166, .getfield 30, 3), (169, .iload_n 2, 1), (170, .iaload, 1), (171, .iastore, 1), (172, .iinc 2 1, 3), (175, .goto (-30), 3), (178, .iconst 0, 1), (179, .istore_n 2, 1), (180, .iload_n 2, 1), (181, .aload_n 0, 1), (182, .getfield 268, 3), (185, .if_icmp .ge 49, 3), (188, .aload_n 0, 1), (189, .getfield 13, 3), (192, .iload_n 1, 1), (193, .bipush 98, 2), (195, .iadd, 1), (196, .iconst 2, 1), (197, .iload_n 2, 1), (198, .imul, 1), (199, .iadd, 1), (200, .aload_n 0, 1), (201, .getfield 33, 3), (204, .iload_n 2, 1), (205, .iaload, 1), (206, .iastore, 1), (207, .aload_n 0, 1), (208, .getfield 13, 3), (211, .iload_n 1, 1), (212, .bipush 98, 2), (214, .iadd, 1), (215, .iconst 2, 1), (216, .iload_n 2, 1), (217, .imul, 1), (218, .iadd, 1), (219, .iconst 1, 1), (220, .iadd, 1), (221, .aload_n 0, 1), (222, .getfield 36, 3), (225, .iload_n 2, 1), (226, .iaload, 1), (227, .iastore, 1), (228, .iinc 2 1, 3), (231, .goto (-51), 3), (234, .aload_n 0, 1), (235, .getfield 13, 3), (238, .iconst 2, 1), (239, .dup2, 1), (240, .iaload, 1), (241, .iconst 1, 1), (242, .iadd, 1), (243, .iastore, 1), (244, .aload_n 0, 1), (245, .aload_n 0, 1), (246, .getfield 13, 3), (249, .iconst 2, 1), (250, .iaload, 1), (251, .iconst 1, 1), (252, .isub, 1), (253, .invokevirtual 167, 3), (256, .ireturn, 1)]
theorem d_X11_text : gt_dok cX11_text cs_X11_text := gt_dok_of (by decide +kernel)
def cs_X11_way : List gt_I := [(0, .aload_n 0, 1), (1, .iconst 0, 1), (2, .putfield 153, 3), (5, .iload_n 1, 1), (6, .i2l, 1), (7, .lconst 0, 1), (8, .ldc2_w 192, 3), (11, .invokestatic 163, 3), (14, .ifCond .ne 9, 3), (17, .aload_n 0, 1), (18, .iconst (-1), 1), (19, .invokevirtual 167, 3), (22, .ireturn, 1), (23, .iload_n 2, 1), (24, .iconst (-1), 1), (25, .if_icmp .eq 11, 3), (28, .aload_n 0, 1), (29, .iload_n 2, 1), (30, .invokevirtual 365, 3), (33, .ifCond .eq 14, 3), (36, .aload_n 0, 1), (37, .iconst 4, 1), (38, .iload_n 1, 1), (39, .iadd, 1), (40, .iload_n 2, 1), (41, .invokevirtual 184, 3), (44, .goto 9, 3), (47, .aload_n 0, 1), (48, .bipush (-2), 2), (50, .invokevirtual 167, 3), (53, .ireturn, 1)]
theorem d_X11_way : gt_dok cX11_way cs_X11_way := gt_dok_of (by decide +kernel)
def cs_X11_reckon : List gt_I := [(0, .iload_n 1, 1), (1, .tableswitch 112 20 25 #[39, 44, 49, 54, 86, 99], 39), (40, .lload_n 2, 1), (41, .lload 4, 2), (43, .ladd, 1), (44, .lreturn, 1), (45, .lload_n 2, 1), (46, .lload 4, 2), (48, .lsub, 1), (49, .lreturn, 1), (50, .lload_n 2, 1), (51, .lload 4, 2), (53, .lmul, 1), (54, .lreturn, 1), (55, .aload_n 0, 1), (56, .lload 4, 2), (58, .lconst 0, 1), (59, .lcmp, 1), (60, .ifCond .ne 7, 3), (63, .iconst 1, 1), (64, .goto 4, 3), (67, .iconst 0, 1), (68, .putfield 368, 3), (71, .aload_n 0, 1), (72, .getfield 368, 3), (75, .ifCond .eq 7, 3), (78, .lconst 0, 1), (79, .goto 7, 3), (82, .lload_n 2, 1), (83, .lload 4, 2), (85, .ldiv, 1), (86, .lreturn, 1), (87, .lload_n 2, 1), (88, .lload 4, 2), (90, .lcmp, 1), (91, .ifCond .ge 7, 3), (94, .lconst 1, 1), (95, .goto 4, 3), (98, .lconst 0, 1), (99, .lreturn, 1), (100, .lload_n 2, 1), (101, .lload 4, 2), (103, .lcmp, 1), (104, .ifCond .le 7, 3), (107, .lconst 1, 1), (108, .goto 4, 3), (111, .lconst 0, 1), (112, .lreturn, 1), (113, .lload_n 2, 1), (114, .lload 4, 2), (116, .lcmp, 1), (117, .ifCond .ne 7, 3), (120, .lconst 1, 1), (121, .goto 4, 3), (124, .lconst 0, 1), (125, .lreturn, 1)]
theorem d_X11_reckon : gt_dok cX11_reckon cs_X11_reckon := gt_dok_of (by decide +kernel)
def cs_X11_reckonAll : List gt_I := [(0, .aload_n 0, 1), (1, .iconst 0, 1), (2, .putfield 368, 3), (5, .iconst 0, 1), (6, .istore_n 3, 1), (7, .iload_n 1, 1), (8, .istore 4, 2), (10, .iload 4, 2), (12, .iload_n 2, 1), (13, .if_icmp .ge 232, 3), (16, .aload_n 0, 1), (17, .getfield 368, 3), (20, .ifCond .ne 225, 3), (23, .aload_n 0, 1), (24, .getfield 13, 3), (27, .aload_n 0, 1), (28, .getfield 371, 3), (31, .bipush 98, 2), (33, .iadd, 1), (34, .iconst 2, 1), (35, .iload 4, 2), (37, .imul, 1), (38, .iadd, 1), (39, .iaload, 1), (40, .istore 5, 2), (42, .aload_n 0, 1), (43, .getfield 13, 3), (46, .aload_n 0, 1), (47, .getfield 371, 3), (50, .bipush 98, 2), (52, .iadd, 1), (53, .iconst 2, 1), (54, .iload 4, 2), (56, .imul, 1), (57, .iadd, 1), (58, .iconst 1, 1), (59, .iadd, 1), (60, .iaload, 1), (61, .istore 6, 2), (63, .iinc 4 1, 3), (66, .iload 5, 2), (68, .bipush 20, 2), (70, .if_icmp .ge 33, 3), (73, .aload_n 0, 1), (74, .getfield 72, 3), (77, .iload_n 3, 1), (78, .iload 5, 2), (80, .ifCond .ne 9, 3), (83, .iload 6, 2), (85, .i2l, 1), (86, .goto 10, 3), (89, .aload_n 0, 1), (90, .getfield 69, 3), (93, .iload 5, 2), (95, .laload, 1), (96, .lastore, 1), (97, .iinc 3 1, 3), (100, .goto 142, 3), (103, .iload 5, 2), (105, .bipush 27, 2), (107, .if_icmp .ge 73, 3), (110, .iinc 3 (-1), 3), (113, .aload_n 0, 1), (114, .getfield 72, 3), (117, .iload_n 3, 1), (118, .iconst 1, 1), (119, .isub, 1), (120, .aload_n 0, 1), (121, .iload 5, 2), (123, .aload_n 0, 1), (124, .getfield 72, 3), (127, .iload_n 3, 1), (128, .iconst 1, 1), (129, .isub, 1), (130, .laload, 1), (131, .aload_n 0, 1), (132, .getfield 72, 3), (135, .iload_n 3, 1), (136, .laload, 1), (137, .invokevirtual 374, 3), (140, .lastore, 1), (141, .aload_n 0, 1), (142, .aload_n 0, 1), (143, .getfield 368, 3), (146, .ifCond .ne 23, 3), (149, .aload_n 0, 1), (150, .getfield 72, 3), (153, .iload_n 3, 1), (154, .iconst 1, 1), (155, .isub, 1), (156, .laload, 1), (157, .ldc2_w 378, 3), (160, .ldc2_w 380, 3), (163, .invokestatic 163, 3), (166, .ifCond .ne 7, 3), (169, .iconst 1, 1), (170, .goto 4, 3), (173, .iconst 0, 1), (174, .putfield 368, 3), (177, .goto 65, 3), (180, .iload 5, 2), (182, .bipush 27, 2), (184, .if_icmp .ne 24, 3), (187, .aload_n 0, 1), (188, .getfield 72, 3), (191, .iload_n 3, 1), (192, .iconst 1, 1), (193, .isub, 1), (194, .lconst 1, 1), (195, .aload_n 0, 1), (196, .getfield 72, 3), (199, .iload_n 3, 1), (200, .iconst 1, 1), (201, .isub, 1), (202, .laload, 1), (203, .lsub, 1), (204, .lastore, 1), (205, .goto 37, 3), (208, .aload_n 0, 1), (209, .getfield 72, 3), (212, .iload_n 3, 1), (213, .iconst 1, 1), (214, .isub, 1), (215, .laload, 1), (216, .iload 5, 2), (218, .bipush 28, 2), (220, .if_icmp .ne 7, 3), (223, .lconst 0, 1), (224, .goto 4, 3), (227, .lconst 1, 1), (228, .lcmp, 1), (229, .ifCond .ne 10, 3), (232, .iload 6, 2), (234, .istore 4, 2), (236, .goto 6, 3), (239, .iinc 3 (-1), 3), (242, .goto (-232), 3), (245, .aload_n 0, 1), (246, .iload_n 3, 1), (247, .ifCond .le 12, 3), (250, .aload_n 0, 1), (251, .getfield 72, 3), (254, .iconst 0, 1), (255, .laload, 1), (256, .goto 4, 3), (259, .lconst 0, 1), (260, .putfield 382, 3), (263, .return_, 1)]
theorem d_X11_reckonAll : gt_dok cX11_reckonAll cs_X11_reckonAll := gt_dok_of (by decide +kernel)
def cs_X11_isSo : List gt_I := [(0, .aload_n 0, 1), (1, .getfield 13, 3), (4, .iload_n 1, 1), (5, .iconst 5, 1), (6, .iadd, 1), (7, .iaload, 1), (8, .aload_n 0, 1), (9, .getfield 13, 3), (12, .iload_n 1, 1), (13, .bipush 6, 2), (15, .iadd, 1), (16, .iaload, 1), (17, .if_icmp .ge 42, 3), (20, .aload_n 0, 1), (21, .aload_n 0, 1), (22, .getfield 13, 3), (25, .iload_n 1, 1), (26, .iconst 5, 1), (27, .iadd, 1), (28, .iaload, 1), (29, .aload_n 0, 1), (30, .getfield 13, 3), (33, .iload_n 1, 1), (34, .bipush 6, 2), (36, .iadd, 1), (37, .iaload, 1), (38, .invokevirtual 385, 3), (41, .aload_n 0, 1), (42, .getfield 368, 3), (45, .ifCond .ne 12, 3), (48, .aload_n 0, 1), (49, .getfield 382, 3), (52, .lconst 0, 1), (53, .lcmp, 1), (54, .ifCond .ne 5, 3), (57, .iconst 0, 1), (58, .ireturn, 1), (59, .aload_n 0, 1), (60, .aload_n 0, 1), (61, .getfield 13, 3), (64, .iload_n 1, 1), (65, .iconst 3, 1), (66, .iadd, 1), (67, .iaload, 1), (68, .aload_n 0, 1), (69, .getfield 13, 3), (72, .iload_n 1, 1), (73, .iconst 4, 1), (74, .iadd, 1), (75, .iaload, 1), (76, .invokevirtual 385, 3), (79, .aload_n 0, 1), (80, .aload_n 0, 1), (81, .getfield 382, 3), (84, .putfield 388, 3), (87, .aload_n 0, 1), (88, .getfield 368, 3), (91, .ifCond .ne 7, 3), (94, .iconst 1, 1), (95, .goto 4, 3), (98, .iconst 0, 1), (99, .ireturn, 1)]
theorem d_X11_isSo : gt_dok cX11_isSo cs_X11_isSo := gt_dok_of (by decide +kernel)
def cs_X11_asks : List gt_I := [(0, .aload_n 0, 1), (1, .getfield 13, 3), (4, .iconst 4, 1), (5, .aload_n 0, 1), (6, .iload_n 1, 1), (7, .iconst 3, 1), (8, .invokevirtual 205, 3), (11, .iadd, 1), (12, .iaload, 1), (13, .istore 4, 2), (15, .iload 4, 2), (17, .iconst (-1), 1), (18, .if_icmp .ne 5, 3), (21, .iconst 0, 1), (22, .ireturn, 1), (23, .iload_n 2, 1), (24, .iconst 4, 1), (25, .if_icmp .ne 7, 3), (28, .iconst 1, 1), (29, .goto 4, 3), (32, .iconst 0, 1), (33, .istore 5, 2), (35, .aload_n 0, 1), (36, .getfield 69, 3), (39, .iconst 1, 1), (40, .iload_n 2, 1), (41, .i2l, 1), (42, .lastore, 1), (43, .aload_n 0, 1), (44, .getfield 69, 3), (47, .iconst 2, 1), (48, .iload 5, 2), (50, .ifCond .eq 7, 3), (53, .lconst 0, 1), (54, .goto 10, 3), (57, .aload_n 0, 1), (58, .iload_n 2, 1), (59, .iconst 0, 1), (60, .invokevirtual 391, 3), (63, .i2l, 1), (64, .lastore, 1), (65, .aload_n 0, 1), (66, .getfield 69, 3), (69, .iconst 3, 1), (70, .iload 5, 2), (72, .ifCond .eq 7, 3), (75, .lconst 0, 1), (76, .goto 10, 3), (79, .aload_n 0, 1), (80, .iload_n 2, 1), (81, .iconst 1, 1), (82, .invokevirtual 391, 3), (85, .i2l, 1), (86, .lastore, 1), (87, .aload_n 0, 1), (88, .getfield 69, 3), (91, .iconst 4, 1), (92, .iload 5, 2), (94, .ifCond .eq 7, 3), (97, .lconst 0, 1), (98, .goto 10, 3), (101, .aload_n 0, 1), (102, .iload_n 2, 1), (103, .iconst 3, 1), (104, .invokevirtual 391, 3), (107, .i2l, 1), (108, .lastore, 1), (109, .aload_n 0, 1), (110, .getfield 69, 3), (113, .iconst 5, 1), (114, .aload_n 0, 1), (115, .iload_n 1, 1), (116, .iconst 0, 1), (117, .invokevirtual 205, 3), (120, .i2l, 1), (121, .lastore, 1), (122, .aload_n 0, 1), (123, .getfield 69, 3), (126, .bipush 6, 2), (128, .aload_n 0, 1), (129, .iload_n 1, 1), (130, .iconst 1, 1), (131, .invokevirtual 205, 3), (134, .i2l, 1), (135, .lastore, 1), (136, .aload_n 0, 1), (137, .getfield 69, 3), (140, .bipush 7, 2), (142, .aload_n 0, 1), (143, .iload_n 1, 1), (144, .invokevirtual 213, 3), (147, .i2l, 1), (148, .lastore, 1), (149, .aload_n 0, 1), (150, .getfield 69, 3), (153, .bipush 8, 2), (155, .aload_n 0, 1), (156, .iload_n 1, 1), (157, .iconst 3, 1), (158, .invokevirtual 205, 3), (161, .i2l, 1), (162, .lastore, 1), (163, .aload_n 0, 1), (164, .getfield 69, 3), (167, .bipush 9, 2), (169, .aload_n 0, 1), (170, .invokevirtual 394, 3), (173, .i2l, 1), (174, .lastore, 1), (175, .aload_n 0, 1), (176, .getfield 69, 3), (179, .bipush 10, 2), (181, .iload 5, 2), (183, .ifCond .ne 12, 3), (186, .aload_n 0, 1), (187, .iload_n 1, 1), (188, .iconst 5, 1), (189, .invokevirtual 205, 3), (192, .ifCond .ne 7, 3), (195, .lconst 0, 1), (196, .goto 5, 3), (199, .iload_n 3, 1), (200, .i2l, 1), (201, .lastore, 1), (202, .aload_n 0, 1), (203, .sipush 150, 3), (206, .sipush 900, 3), (209, .iload 4, 2), (211, .imul, 1), (212, .iadd, 1), (213, .putfield 371, 3), (216, .lconst 0, 1), (217, .lstore 6, 2), (219, .iconst 0, 1), (220, .istore 8, 2), (222, .iload 8, 2), (224, .aload_n 0, 1), (225, .getfield 13, 3), (228, .aload_n 0, 1), (229, .getfield 371, 3), (232, .iconst 1, 1), (233, .iadd, 1), (234, .iaload, 1), (235, .if_icmp .ge 58, 3), (238, .aload_n 0, 1), (239, .getfield 371, 3), (242, .iconst 2, 1), (243, .iadd, 1), (244, .bipush 8, 2), (246, .iload 8, 2), (248, .imul, 1), (249, .iadd, 1), (250, .istore 9, 2), (252, .aload_n 0, 1), (253, .getfield 13, 3), (256, .iload 9, 2), (258, .iaload, 1), (259, .iload 5, 2), (261, .ifCond .eq 7, 3), (264, .iconst 1, 1), (265, .goto 4, 3), (268, .iconst 0, 1), (269, .if_icmp .ne 18, 3), (272, .aload_n 0, 1), (273, .iload 9, 2), (275, .invokevirtual 397, 3), (278, .ifCond .eq 9, 3), (281, .aload_n 0, 1), (282, .getfield 388, 3), (285, .lstore 6, 2), (287, .iinc 8 1, 3), (290, .goto (-68), 3), (293, .lload 6, 2), (295, .lconst 0, 1), (296, .lcmp, 1), (297, .ifCond .ge 7, 3), (300, .iconst 0, 1), (301, .goto 21, 3), (304, .lload 6, 2), (306, .ldc2_w 312, 3), (309, .lcmp, 1), (310, .ifCond .le 9, 3), (313, .sipush 1000, 3), (316, .goto 6, 3), (319, .lload 6, 2), (321, .l2i, 1), (322, .ireturn, 1)]
theorem d_X11_asks : gt_dok cX11_asks cs_X11_asks := gt_dok_of (by decide +kernel)
def cs_X11_canPay : List gt_I := [(0, .aload_n 0, 1), (1, .iload_n 2, 1), (2, .iconst 3, 1), (3, .invokevirtual 391, 3), (6, .aload_n 0, 1), (7, .iload_n 1, 1), (8, .invokevirtual 213, 3), (11, .if_icmp .gt 7, 3), (14, .iconst 1, 1), (15, .goto 4, 3), (18, .iconst 0, 1), (19, .ireturn, 1)]
theorem d_X11_canPay : gt_dok cX11_canPay cs_X11_canPay := gt_dok_of (by decide +kernel)
def cs_X11_weigh : List gt_I := [(0, .iconst 0, 1), (1, .istore 4, 2), (3, .iconst 0, 1), (4, .istore 5, 2), (6, .iload 5, 2), (8, .iconst 5, 1), (9, .if_icmp .ge 89, 3), (12, .iload 5, 2), (14, .iconst 4, 1), (15, .if_icmp .eq 24, 3), (18, .iload 5, 2), (20, .aload_n 0, 1), (21, .getfield 13, 3), (24, .iconst 0, 1), (25, .iaload, 1), (26, .if_icmp .ge 17, 3), (29, .aload_n 0, 1), (30, .iload_n 1, 1), (31, .iload 5, 2), (33, .invokevirtual 400, 3), (36, .ifCond .eq 7, 3), (39, .iconst 1, 1), (40, .goto 4, 3), (43, .iconst 0, 1), (44, .istore 6, 2), (46, .aload_n 0, 1), (47, .getfield 75, 3), (50, .iload 5, 2), (52, .iload 6, 2), (54, .ifCond .eq 24, 3), (57, .aload_n 0, 1), (58, .iload_n 1, 1), (59, .iload 5, 2), (61, .iload 5, 2), (63, .iload_n 2, 1), (64, .if_icmp .ne 7, 3), (67, .iload_n 3, 1), (68, .goto 4, 3), (71, .iconst 0, 1), (72, .invokevirtual 403, 3), (75, .goto 4, 3), (78, .iconst 0, 1), (79, .iastore, 1), (80, .iload 4, 2), (82, .aload_n 0, 1), (83, .getfield 75, 3), (86, .iload 5, 2), (88, .iaload, 1), (89, .iadd, 1), (90, .istore 4, 2), (92, .iinc 5 1, 3), (95, .goto (-89), 3), (98, .iload 4, 2), (100, .ifCond .ne 10, 3), (103, .aload_n 0, 1), (104, .getfield 75, 3), (107, .iconst 4, 1), (108, .iconst 1, 1), (109, .iastore, 1), (110, .iload 4, 2), (112, .ifCond .ne 7, 3), (115, .iconst 1, 1), (116, .goto 5, 3), (119, .iload 4, 2), (121, .ireturn, 1)]
theorem d_X11_weigh : gt_dok cX11_weigh cs_X11_weigh := gt_dok_of (by decide +kernel)
def cs_X11_weight : List gt_I := [(0, .aload_n 0, 1), (1, .iconst 0, 1), (2, .putfield 153, 3), (5, .aload_n 0, 1), (6, .iload_n 1, 1), (7, .invokevirtual 202, 3), (10, .ifCond .eq 28, 3), (13, .aload_n 0, 1), (14, .iload_n 2, 1), (15, .invokevirtual 180, 3), (18, .ifCond .ne 8, 3), (21, .iload_n 2, 1), (22, .iconst 4, 1), (23, .if_icmp .ne 15, 3), (26, .iload_n 3, 1), (27, .i2l, 1), (28, .lconst 0, 1), (29, .ldc2_w 407, 3), (32, .invokestatic 163, 3), (35, .ifCond .ne 5, 3), (38, .iconst (-1), 1), (39, .ireturn, 1), (40, .aload_n 0, 1), (41, .iload_n 1, 1), (42, .invokevirtual 208, 3), (45, .ifCond .ne 5, 3), (48, .iconst (-1), 1), (49, .ireturn, 1), (50, .aload_n 0, 1), (51, .iload_n 1, 1), (52, .iload_n 2, 1), (53, .iload_n 3, 1), (54, .invokevirtual 409, 3), (57, .istore 4, 2), (59, .aload_n 0, 1), (60, .getfield 75, 3), (63, .iload_n 2, 1), (64, .iaload, 1), (65, .ireturn, 1)]
theorem d_X11_weight : gt_dok cX11_weight cs_X11_weight := gt_dok_of (by decide +kernel)
def cs_X11_coinOf : List gt_I := [(0, .aload_n 0, 1), (1, .iload_n 1, 1), (2, .invokevirtual 213, 3), (5, .aload_n 0, 1), (6, .getfield 13, 3), (9, .iconst 3, 1), (10, .iaload, 1), (11, .imul, 1), (12, .bipush 100, 2), (14, .idiv, 1), (15, .ireturn, 1)]
theorem d_X11_coinOf : gt_dok cX11_coinOf cs_X11_coinOf := gt_dok_of (by decide +kernel)
def cs_X11_scale : List gt_I := [(0, .iload_n 0, 1), (1, .ifCond .ne 9, 3), (4, .sipush 2197, 3), (7, .goto 25, 3), (10, .iload_n 0, 1), (11, .iconst 1, 1), (12, .if_icmp .ne 9, 3), (15, .sipush 169, 3), (18, .goto 14, 3), (21, .iload_n 0, 1), (22, .iconst 2, 1), (23, .if_icmp .ne 8, 3), (26, .bipush 13, 2), (28, .goto 4, 3), (31, .iconst 1, 1), (32, .ireturn, 1)]
theorem d_X11_scale : gt_dok cX11_scale cs_X11_scale := gt_dok_of (by decide +kernel)
def cs_X11_many : List gt_I := [(0, .iload_n 0, 1), (1, .iload_n 1, 1), (2, .invokestatic 412, 3), (5, .idiv, 1), (6, .bipush 13, 2), (8, .irem, 1), (9, .ireturn, 1)]
theorem d_X11_many : gt_dok cX11_many cs_X11_many := gt_dok_of (by decide +kernel)
def cs_X11_worthOf : List gt_I := [(0, .iconst 0, 1), (1, .istore_n 2, 1), (2, .iconst 0, 1), (3, .istore_n 3, 1), (4, .iload_n 3, 1), (5, .iconst 4, 1), (6, .if_icmp .ge 129, 3), (9, .iload_n 3, 1), (10, .aload_n 0, 1), (11, .getfield 13, 3), (14, .iconst 0, 1), (15, .iaload, 1), (16, .if_icmp .ge 11, 3), (19, .iload_n 1, 1), (20, .iload_n 3, 1), (21, .invokestatic 415, 3), (24, .goto 4, 3), (27, .iconst 0, 1), (28, .istore 4, 2), (30, .iload_n 3, 1), (31, .aload_n 0, 1), (32, .getfield 13, 3), (35, .iconst 0, 1), (36, .iaload, 1), (37, .if_icmp .ge 12, 3), (40, .aload_n 0, 1), (41, .iload_n 3, 1), (42, .iconst 0, 1), (43, .invokevirtual 391, 3), (46, .goto 4, 3), (49, .iconst 0, 1), (50, .istore 5, 2), (52, .aload_n 0, 1), (53, .getfield 93, 3), (56, .iload_n 3, 1), (57, .iload 4, 2), (59, .iload 5, 2), (61, .if_icmp .le 11, 3), (64, .iload 4, 2), (66, .iload 5, 2), (68, .isub, 1), (69, .goto 4, 3), (72, .iconst 0, 1), (73, .iastore, 1), (74, .aload_n 0, 1), (75, .getfield 96, 3), (78, .iload_n 3, 1), (79, .iload 4, 2), (81, .iload 5, 2), (83, .if_icmp .ge 11, 3), (86, .iload 5, 2), (88, .iload 4, 2), (90, .isub, 1), (91, .goto 4, 3), (94, .iconst 0, 1), (95, .iastore, 1), (96, .iload_n 2, 1), (97, .iload_n 3, 1), (98, .aload_n 0, 1), (99, .getfield 13, 3), (102, .iconst 0, 1), (103, .iaload, 1), (104, .if_icmp .ge 22, 3), (107, .aload_n 0, 1), (108, .iload_n 3, 1), (109, .iconst 1, 1), (110, .invokevirtual 391, 3), (113, .iload 4, 2), (115, .aload_n 0, 1), (116, .getfield 93, 3), (119, .iload_n 3, 1), (120, .iaload, 1), (121, .isub, 1), (122, .imul, 1), (123, .goto 4, 3), (126, .iconst 0, 1), (127, .iadd, 1), (128, .istore_n 2, 1), (129, .iinc 3 1, 3), (132, .goto (-128), 3), (135, .iconst 0, 1), (136, .istore_n 3, 1), (137, .iload_n 3, 1), (138, .aload_n 0, 1), (139, .getfield 13, 3), (142, .iconst 0, 1), (143, .iaload, 1), (144, .if_icmp .ge 102, 3), (147, .aload_n 0, 1), (148, .iload_n 3, 1), (149, .iconst 4, 1), (150, .invokevirtual 391, 3), (153, .istore 4, 2), (155, .iload 4, 2), (157, .iconst (-1), 1), (158, .if_icmp .eq 82, 3), (161, .aload_n 0, 1), (162, .getfield 96, 3), (165, .iload_n 3, 1), (166, .iaload, 1), (167, .aload_n 0, 1), (168, .getfield 93, 3), (171, .iload 4, 2), (173, .iaload, 1), (174, .if_icmp .ge 12, 3), (177, .aload_n 0, 1), (178, .getfield 96, 3), (181, .iload_n 3, 1), (182, .iaload, 1), (183, .goto 10, 3), (186, .aload_n 0, 1), (187, .getfield 93, 3), (190, .iload 4, 2), (192, .iaload, 1), (193, .istore 5, 2), (195, .aload_n 0, 1), (196, .getfield 93, 3), (199, .iload 4, 2), (201, .dup2, 1), (202, .iaload, 1), (203, .iload 5, 2), (205, .isub, 1), (206, .iastore, 1), (207, .aload_n 0, 1), (208, .getfield 96, 3), (211, .iload_n 3, 1), (212, .dup2, 1), (213, .iaload, 1), (214, .iload 5, 2), (216, .isub, 1), (217, .iastore, 1), (218, .iload_n 2, 1), (219, .iload 5, 2), (221, .aload_n 0, 1), (222, .iload_n 3, 1), (223, .iconst 1, 1), (224, .invokevirtual 391, 3), (227, .aload_n 0, 1), (228, .iload_n 3, 1), (229, .iconst 5, 1), (230, .invokevirtual 391, 3), (233, .imul, 1), (234, .bipush 100, 2), (236, .idiv, 1), (237, .imul, 1), (238, .iadd, 1), (239, .istore_n 2, 1), (240, .iinc 3 1, 3), (243, .goto (-106), 3), (246, .iconst 0, 1), (247, .istore_n 3, 1), (248, .iload_n 3, 1), (249, .aload_n 0, 1), (250, .getfield 13, 3), (253, .iconst 0, 1), (254, .iaload, 1), (255, .if_icmp .ge 78, 3), (258, .iload_n 2, 1), (259, .aload_n 0, 1), (260, .iload_n 3, 1), (261, .iconst 2, 1), (262, .invokevirtual 391, 3), (265, .aload_n 0, 1), (266, .getfield 93, 3), (269, .iload_n 3, 1), (270, .iaload, 1), (271, .imul, 1), (272, .iadd, 1), (273, .istore_n 2, 1), (274, .iconst 0, 1), (275, .istore 4, 2), (277, .iload 4, 2), (279, .iload_n 3, 1), (280, .if_icmp .ge 47, 3), (283, .iload_n 2, 1), (284, .iload_n 1, 1), (285, .iload_n 3, 1), (286, .invokestatic 415, 3), (289, .ifCond .le 29, 3), (292, .iload_n 1, 1), (293, .iload 4, 2), (295, .invokestatic 415, 3), (298, .ifCond .le 20, 3), (301, .aload_n 0, 1), (302, .getfield 13, 3), (305, .bipush 40, 2), (307, .iconst 4, 1), (308, .iload_n 3, 1), (309, .imul, 1), (310, .iadd, 1), (311, .iload 4, 2), (313, .iadd, 1), (314, .iaload, 1), (315, .goto 4, 3), (318, .iconst 0, 1), (319, .iadd, 1), (320, .istore_n 2, 1), (321, .iinc 4 1, 3), (324, .goto (-47), 3), (327, .iinc 3 1, 3), (330, .goto (-82), 3), (333, .iload_n 2, 1), (334, .ireturn, 1)]
theorem d_X11_worthOf : gt_dok cX11_worthOf cs_X11_worthOf := gt_dok_of (by decide +kernel)
def cs_X11_all : List gt_I := [(0, .aload_n 0, 1), (1, .iconst 0, 1), (2, .iaload, 1), (3, .aload_n 0, 1), (4, .iconst 1, 1), (5, .iaload, 1), (6, .iadd, 1), (7, .aload_n 0, 1), (8, .iconst 2, 1), (9, .iaload, 1), (10, .iadd, 1), (11, .aload_n 0, 1), (12, .iconst 3, 1), (13, .iaload, 1), (14, .iadd, 1), (15, .ireturn, 1)]
theorem d_X11_all : gt_dok cX11_all cs_X11_all := gt_dok_of (by decide +kernel)
def cs_X11_findWorths : List gt_I := [(0, .iconst 0, 1), (1, .istore_n 1, 1), (2, .iload_n 1, 1), (3, .sipush 1820, 3), (6, .if_icmp .ge 51, 3), (9, .aload_n 0, 1), (10, .getfield 84, 3), (13, .iload_n 1, 1), (14, .aload_n 0, 1), (15, .aload_n 0, 1), (16, .getfield 78, 3), (19, .iload_n 1, 1), (20, .iaload, 1), (21, .invokevirtual 418, 3), (24, .iastore, 1), (25, .aload_n 0, 1), (26, .getfield 87, 3), (29, .iload_n 1, 1), (30, .aload_n 0, 1), (31, .getfield 93, 3), (34, .invokestatic 421, 3), (37, .iastore, 1), (38, .aload_n 0, 1), (39, .getfield 90, 3), (42, .iload_n 1, 1), (43, .aload_n 0, 1), (44, .getfield 96, 3), (47, .invokestatic 421, 3), (50, .iastore, 1), (51, .iinc 1 1, 3), (54, .goto (-52), 3), (57, .return_, 1)]
theorem d_X11_findWorths : gt_dok cX11_findWorths cs_X11_findWorths := gt_dok_of (by decide +kernel)
def cs_X11_isHeap : List gt_I := [(0, .iload_n 1, 1), (1, .i2l, 1), (2, .lconst 0, 1), (3, .aload_n 0, 1), (4, .getfield 13, 3), (7, .iconst 0, 1), (8, .iaload, 1), (9, .ifCond .le 9, 3), (12, .ldc2_w 407, 3), (15, .goto 4, 3), (18, .lconst 0, 1), (19, .invokestatic 163, 3), (22, .ifCond .eq 86, 3), (25, .iload_n 2, 1), (26, .i2l, 1), (27, .lconst 0, 1), (28, .aload_n 0, 1), (29, .getfield 13, 3), (32, .iconst 0, 1), (33, .iaload, 1), (34, .iconst 1, 1), (35, .if_icmp .le 9, 3), (38, .ldc2_w 407, 3), (41, .goto 4, 3), (44, .lconst 0, 1), (45, .invokestatic 163, 3), (48, .ifCond .eq 60, 3), (51, .iload_n 3, 1), (52, .i2l, 1), (53, .lconst 0, 1), (54, .aload_n 0, 1), (55, .getfield 13, 3), (58, .iconst 0, 1), (59, .iaload, 1), (60, .iconst 2, 1), (61, .if_icmp .le 9, 3), (64, .ldc2_w 407, 3), (67, .goto 4, 3), (70, .lconst 0, 1), (71, .invokestatic 163, 3), (74, .ifCond .eq 34, 3), (77, .iload 4, 2), (79, .i2l, 1), (80, .lconst 0, 1), (81, .aload_n 0, 1), (82, .getfield 13, 3), (85, .iconst 0, 1), (86, .iaload, 1), (87, .iconst 3, 1), (88, .if_icmp .le 9, 3), (91, .ldc2_w 407, 3), (94, .goto 4, 3), (97, .lconst 0, 1), (98, .invokestatic 163, 3), (101, .ifCond .eq 7, 3), (104, .iconst 1, 1), (105, .goto 4, 3), (108, .iconst 0, 1), (109, .ireturn, 1)]
theorem d_X11_isHeap : gt_dok cX11_isHeap cs_X11_isHeap := gt_dok_of (by decide +kernel)
def cs_X11_heap : List gt_I := [(0, .aload_n 0, 1), (1, .iconst 0, 1), (2, .putfield 153, 3), (5, .aload_n 0, 1), (6, .iload_n 1, 1), (7, .iload_n 2, 1), (8, .iload_n 3, 1), (9, .iload 4, 2), (11, .invokevirtual 425, 3), (14, .ifCond .eq 16, 3), (17, .iload 5, 2), (19, .i2l, 1), (20, .lconst 0, 1), (21, .ldc2_w 428, 3), (24, .invokestatic 163, 3), (27, .ifCond .ne 5, 3), (30, .iconst (-1), 1), (31, .ireturn, 1), (32, .aload_n 0, 1), (33, .sipush 2197, 3), (36, .iload_n 1, 1), (37, .imul, 1), (38, .sipush 169, 3), (41, .iload_n 2, 1), (42, .imul, 1), (43, .iadd, 1), (44, .bipush 13, 2), (46, .iload_n 3, 1), (47, .imul, 1), (48, .iadd, 1), (49, .iload 4, 2), (51, .iadd, 1), (52, .invokevirtual 418, 3), (55, .istore 6, 2), (57, .iload 5, 2), (59, .ifCond .ne 8, 3), (62, .iload 6, 2), (64, .goto 26, 3), (67, .iload 5, 2), (69, .iconst 1, 1), (70, .if_icmp .ne 13, 3), (73, .aload_n 0, 1), (74, .getfield 93, 3), (77, .invokestatic 421, 3), (80, .goto 10, 3), (83, .aload_n 0, 1), (84, .getfield 96, 3), (87, .invokestatic 421, 3), (90, .ireturn, 1)]
theorem d_X11_heap : gt_dok cX11_heap cs_X11_heap := gt_dok_of (by decide +kernel)
def cs_X11_may : List gt_I := [(0, .aload_n 0, 1), (1, .iload_n 1, 1), (2, .iconst 4, 1), (3, .invokevirtual 205, 3), (6, .istore_n 3, 1), (7, .iload_n 3, 1), (8, .iconst (-1), 1), (9, .if_icmp .eq 14, 3), (12, .iload_n 2, 1), (13, .iload_n 3, 1), (14, .if_icmp .ne 7, 3), (17, .iconst 1, 1), (18, .goto 4, 3), (21, .iconst 0, 1), (22, .ireturn, 1), (23, .iload_n 2, 1), (24, .iconst 4, 1), (25, .if_icmp .eq 22, 3), (28, .iload_n 2, 1), (29, .aload_n 0, 1), (30, .getfield 13, 3), (33, .iconst 0, 1), (34, .iaload, 1), (35, .if_icmp .ge 16, 3), (38, .aload_n 0, 1), (39, .iload_n 1, 1), (40, .iload_n 2, 1), (41, .invokevirtual 400, 3), (44, .ifCond .eq 7, 3), (47, .iconst 1, 1), (48, .goto 4, 3), (51, .iconst 0, 1), (52, .ireturn, 1)]
theorem d_X11_may : gt_dok cX11_may cs_X11_may := gt_dok_of (by decide +kernel)
def cs_X11_moneyOf : List gt_I := [(0, .iload_n 2, 1), (1, .iconst 4, 1), (2, .if_icmp .ne 11, 3), (5, .aload_n 0, 1), (6, .iload_n 1, 1), (7, .invokevirtual 430, 3), (10, .goto 4, 3), (13, .iconst 0, 1), (14, .ireturn, 1)]
theorem d_X11_moneyOf : gt_dok cX11_moneyOf cs_X11_moneyOf := gt_dok_of (by decide +kernel)
def cs_X11_step : List gt_I := [(0, .iload_n 0, 1), (1, .iconst 4, 1), (2, .if_icmp .ne 7, 3), (5, .iconst 0, 1), (6, .goto 7, 3), (9, .iload_n 0, 1), (10, .invokestatic 412, 3), (13, .ireturn, 1)]
theorem d_X11_step : gt_dok cX11_step cs_X11_step := gt_dok_of (by decide +kernel)
def cs_X11_setTo : List gt_I := [(0, .iconst 0, 1), (1, .istore_n 3, 1), (2, .iload_n 3, 1), (3, .bipush 8, 2), (5, .if_icmp .ge 13, 3), (8, .aload_n 0, 1), (9, .iload_n 3, 1), (10, .lconst 0, 1), (11, .lastore, 1), (12, .iinc 3 1, 3), (15, .goto (-13), 3), (18, .aload_n 0, 1), (19, .iconst 0, 1), (20, .lload_n 1, 1), (21, .lastore, 1), (22, .return_, 1)]
theorem d_X11_setTo : gt_dok cX11_setTo cs_X11_setTo := gt_dok_of (by decide +kernel)
def cs_X11_times : List gt_I := [(0, .lconst 0, 1), (1, .lstore_n 3, 1), (2, .iconst 0, 1), (3, .istore 5, 2), (5, .iload 5, 2), (7, .bipush 8, 2), (9, .if_icmp .ge 36, 3), (12, .aload_n 0, 1), (13, .iload 5, 2), (15, .laload, 1), (16, .lload_n 1, 1), (17, .lmul, 1), (18, .lload_n 3, 1), (19, .ladd, 1), (20, .lstore 6, 2), (22, .aload_n 0, 1), (23, .iload 5, 2), (25, .lload 6, 2), (27, .ldc2_w 380, 3), (30, .lrem, 1), (31, .lastore, 1), (32, .lload 6, 2), (34, .ldc2_w 380, 3), (37, .ldiv, 1), (38, .lstore_n 3, 1), (39, .iinc 5 1, 3), (42, .goto (-37), 3), (45, .return_, 1)]
theorem d_X11_times : gt_dok cX11_times cs_X11_times := gt_dok_of (by decide +kernel)
def cs_X11_add_ : List gt_I := [(0, .lconst 0, 1), (1, .lstore 6, 2), (3, .iconst 0, 1), (4, .istore 8, 2), (6, .iload 8, 2), (8, .bipush 8, 2), (10, .if_icmp .ge 50, 3), (13, .aload_n 0, 1), (14, .iload_n 1, 1), (15, .iload 8, 2), (17, .iadd, 1), (18, .laload, 1), (19, .aload_n 2, 1), (20, .iload_n 3, 1), (21, .iload 8, 2), (23, .iadd, 1), (24, .laload, 1), (25, .lload 4, 2), (27, .lmul, 1), (28, .ladd, 1), (29, .lload 6, 2), (31, .ladd, 1), (32, .lstore 9, 2), (34, .aload_n 0, 1), (35, .iload_n 1, 1), (36, .iload 8, 2), (38, .iadd, 1), (39, .lload 9, 2), (41, .ldc2_w 380, 3), (44, .lrem, 1), (45, .lastore, 1), (46, .lload 9, 2), (48, .ldc2_w 380, 3), (51, .ldiv, 1), (52, .lstore 6, 2), (54, .iinc 8 1, 3), (57, .goto (-51), 3), (60, .return_, 1)]
theorem d_X11_add_ : gt_dok cX11_add_ cs_X11_add_ := gt_dok_of (by decide +kernel)
def cs_X11_compare : List gt_I := [(0, .bipush 7, 2), (2, .istore_n 2, 1), (3, .iload_n 2, 1), (4, .ifCond .lt 35, 3), (7, .aload_n 0, 1), (8, .iload_n 2, 1), (9, .laload, 1), (10, .aload_n 1, 1), (11, .iload_n 2, 1), (12, .laload, 1), (13, .lcmp, 1), (14, .ifCond .eq 19, 3), (17, .aload_n 0, 1), (18, .iload_n 2, 1), (19, .laload, 1), (20, .aload_n 1, 1), (21, .iload_n 2, 1), (22, .laload, 1), (23, .lcmp, 1), (24, .ifCond .ge 7, 3), (27, .iconst (-1), 1), (28, .goto 4, 3), (31, .iconst 1, 1), (32, .ireturn, 1), (33, .iinc 2 (-1), 3), (36, .goto (-33), 3), (39, .iconst 0, 1), (40, .ireturn, 1)]
theorem d_X11_compare : gt_dok cX11_compare cs_X11_compare := gt_dok_of (by decide +kernel)
def cs_X11_ratio : List gt_I := [(0, .iconst 0, 1), (1, .istore_n 1, 1), (2, .ldc_w 433, 3), (5, .istore_n 2, 1), (6, .iload_n 1, 1), (7, .iload_n 2, 1), (8, .if_icmp .ge 76, 3), (11, .iload_n 1, 1), (12, .iload_n 2, 1), (13, .iadd, 1), (14, .iconst 1, 1), (15, .iadd, 1), (16, .iconst 2, 1), (17, .idiv, 1), (18, .istore_n 3, 1), (19, .iconst 0, 1), (20, .istore 4, 2), (22, .iload 4, 2), (24, .bipush 8, 2), (26, .if_icmp .ge 23, 3), (29, .aload_n 0, 1), (30, .getfield 111, 3), (33, .iload 4, 2), (35, .aload_n 0, 1), (36, .getfield 105, 3), (39, .iload 4, 2), (41, .laload, 1), (42, .lastore, 1), (43, .iinc 4 1, 3), (46, .goto (-24), 3), (49, .aload_n 0, 1), (50, .getfield 111, 3), (53, .iload_n 3, 1), (54, .i2l, 1), (55, .invokestatic 434, 3), (58, .aload_n 0, 1), (59, .getfield 111, 3), (62, .aload_n 0, 1), (63, .getfield 108, 3), (66, .invokestatic 438, 3), (69, .ifCond .gt 8, 3), (72, .iload_n 3, 1), (73, .istore_n 1, 1), (74, .goto 7, 3), (77, .iload_n 3, 1), (78, .iconst 1, 1), (79, .isub, 1), (80, .istore_n 2, 1), (81, .goto (-75), 3), (84, .iload_n 1, 1), (85, .ireturn, 1)]
theorem d_X11_ratio : gt_dok cX11_ratio cs_X11_ratio := gt_dok_of (by decide +kernel)
def cs_X11_weighAll : List gt_I := [(0, .aload_n 0, 1), (1, .iload_n 1, 1), (2, .iconst 4, 1), (3, .invokevirtual 205, 3), (6, .istore_n 2, 1), (7, .iload_n 2, 1), (8, .iconst (-1), 1), (9, .if_icmp .ne 11, 3), (12, .aload_n 0, 1), (13, .iload_n 1, 1), (14, .iconst (-1), 1), (15, .iconst 0, 1), (16, .invokevirtual 409, 3), (19, .ireturn, 1), (20, .iconst 0, 1), (21, .istore_n 3, 1), (22, .iload_n 3, 1), (23, .iconst 5, 1), (24, .if_icmp .ge 25, 3), (27, .aload_n 0, 1), (28, .getfield 75, 3), (31, .iload_n 3, 1), (32, .iload_n 3, 1), (33, .iload_n 2, 1), (34, .if_icmp .ne 7, 3), (37, .iconst 1, 1), (38, .goto 4, 3), (41, .iconst 0, 1), (42, .iastore, 1), (43, .iinc 3 1, 3), (46, .goto (-24), 3), (49, .iconst 1, 1), (50, .ireturn, 1)]
theorem d_X11_weighAll : gt_dok cX11_weighAll cs_X11_weighAll := gt_dok_of (by decide +kernel)
def cs_X11_spread : List gt_I := [(0, .aload_n 0, 1), (1, .invokevirtual 442, 3), (4, .aload_n 0, 1), (5, .getfield 105, 3), (8, .lconst 1, 1), (9, .invokestatic 445, 3), (12, .iconst 0, 1), (13, .istore_n 1, 1), (14, .iload_n 1, 1), (15, .sipush 14560, 3), (18, .if_icmp .ge 16, 3), (21, .aload_n 0, 1), (22, .getfield 99, 3), (25, .iload_n 1, 1), (26, .lconst 0, 1), (27, .lastore, 1), (28, .iinc 1 1, 3), (31, .goto (-17), 3), (34, .aload_n 0, 1), (35, .getfield 99, 3), (38, .iconst 0, 1), (39, .lconst 1, 1), (40, .lastore, 1), (41, .iconst 0, 1), (42, .istore_n 1, 1), (43, .iload_n 1, 1), (44, .aload_n 0, 1), (45, .getfield 13, 3), (48, .iconst 1, 1), (49, .iaload, 1), (50, .if_icmp .ge 99, 3), (53, .aload_n 0, 1), (54, .iload_n 1, 1), (55, .invokevirtual 208, 3), (58, .ifCond .eq 85, 3), (61, .aload_n 0, 1), (62, .getfield 105, 3), (65, .aload_n 0, 1), (66, .iload_n 1, 1), (67, .invokevirtual 448, 3), (70, .i2l, 1), (71, .invokestatic 434, 3), (74, .iconst 0, 1), (75, .istore_n 2, 1), (76, .iload_n 2, 1), (77, .sipush 14560, 3), (80, .if_icmp .ge 16, 3), (83, .aload_n 0, 1), (84, .getfield 102, 3), (87, .iload_n 2, 1), (88, .lconst 0, 1), (89, .lastore, 1), (90, .iinc 2 1, 3), (93, .goto (-17), 3), (96, .iconst 0, 1), (97, .istore_n 2, 1), (98, .iload_n 2, 1), (99, .sipush 1820, 3), (102, .if_icmp .ge 14, 3), (105, .aload_n 0, 1), (106, .iload_n 2, 1), (107, .invokevirtual 451, 3), (110, .iinc 2 1, 3), (113, .goto (-15), 3), (116, .iconst 0, 1), (117, .istore_n 2, 1), (118, .iload_n 2, 1), (119, .sipush 14560, 3), (122, .if_icmp .ge 21, 3), (125, .aload_n 0, 1), (126, .getfield 99, 3), (129, .iload_n 2, 1), (130, .aload_n 0, 1), (131, .getfield 102, 3), (134, .iload_n 2, 1), (135, .laload, 1), (136, .lastore, 1), (137, .iinc 2 1, 3), (140, .goto (-22), 3), (143, .iinc 1 1, 3), (146, .goto (-103), 3), (149, .return_, 1)]
theorem d_X11_spread : gt_dok cX11_spread cs_X11_spread := gt_dok_of (by decide +kernel)
def cs_X11_spreadOne : List gt_I := [(0, .iconst 0, 1), (1, .istore_n 2, 1), (2, .iconst 0, 1), (3, .istore_n 3, 1), (4, .iload_n 3, 1), (5, .bipush 8, 2), (7, .if_icmp .ge 35, 3), (10, .iload_n 2, 1), (11, .ifCond .ne 19, 3), (14, .aload_n 0, 1), (15, .getfield 99, 3), (18, .bipush 8, 2), (20, .iload_n 1, 1), (21, .imul, 1), (22, .iload_n 3, 1), (23, .iadd, 1), (24, .laload, 1), (25, .lconst 0, 1), (26, .lcmp, 1), (27, .ifCond .eq 7, 3), (30, .iconst 1, 1), (31, .goto 4, 3), (34, .iconst 0, 1), (35, .istore_n 2, 1), (36, .iinc 3 1, 3), (39, .goto (-35), 3), (42, .iconst 0, 1), (43, .istore_n 3, 1), (44, .iload_n 3, 1), (45, .iconst 5, 1), (46, .if_icmp .ge 63, 3), (49, .iload_n 2, 1), (50, .ifCond .eq 59, 3), (53, .aload_n 0, 1), (54, .getfield 75, 3), (57, .iload_n 3, 1), (58, .iaload, 1), (59, .ifCond .le 44, 3), (62, .aload_n 0, 1), (63, .getfield 102, 3), (66, .bipush 8, 2), (68, .aload_n 0, 1), (69, .getfield 81, 3), (72, .aload_n 0, 1), (73, .getfield 78, 3), (76, .iload_n 1, 1), (77, .iaload, 1), (78, .iload_n 3, 1), (79, .invokestatic 454, 3), (82, .iadd, 1), (83, .iaload, 1), (84, .imul, 1), (85, .aload_n 0, 1), (86, .getfield 99, 3), (89, .bipush 8, 2), (91, .iload_n 1, 1), (92, .imul, 1), (93, .aload_n 0, 1), (94, .getfield 75, 3), (97, .iload_n 3, 1), (98, .iaload, 1), (99, .i2l, 1), (100, .invokestatic 457, 3), (103, .iinc 3 1, 3), (106, .goto (-62), 3), (109, .return_, 1)]
theorem d_X11_spreadOne : gt_dok cX11_spreadOne cs_X11_spreadOne := gt_dok_of (by decide +kernel)
def cs_X11_addMoney : List gt_I := [(0, .iconst 0, 1), (1, .istore_n 1, 1), (2, .iload_n 1, 1), (3, .aload_n 0, 1), (4, .getfield 13, 3), (7, .iconst 1, 1), (8, .iaload, 1), (9, .if_icmp .ge 102, 3), (12, .aload_n 0, 1), (13, .iload_n 1, 1), (14, .invokevirtual 208, 3), (17, .ifCond .eq 88, 3), (20, .aload_n 0, 1), (21, .iload_n 1, 1), (22, .invokevirtual 448, 3), (25, .istore_n 2, 1), (26, .aload_n 0, 1), (27, .getfield 111, 3), (30, .aload_n 0, 1), (31, .getfield 75, 3), (34, .iconst 4, 1), (35, .iaload, 1), (36, .i2l, 1), (37, .aload_n 0, 1), (38, .iload_n 1, 1), (39, .invokevirtual 430, 3), (42, .i2l, 1), (43, .lmul, 1), (44, .invokestatic 445, 3), (47, .iconst 0, 1), (48, .istore_n 3, 1), (49, .iload_n 3, 1), (50, .aload_n 0, 1), (51, .getfield 13, 3), (54, .iconst 1, 1), (55, .iaload, 1), (56, .if_icmp .ge 35, 3), (59, .iload_n 3, 1), (60, .iload_n 1, 1), (61, .if_icmp .eq 24, 3), (64, .aload_n 0, 1), (65, .iload_n 3, 1), (66, .invokevirtual 208, 3), (69, .ifCond .eq 16, 3), (72, .aload_n 0, 1), (73, .getfield 111, 3), (76, .aload_n 0, 1), (77, .iload_n 3, 1), (78, .invokevirtual 448, 3), (81, .i2l, 1), (82, .invokestatic 434, 3), (85, .iinc 3 1, 3), (88, .goto (-39), 3), (91, .aload_n 0, 1), (92, .getfield 108, 3), (95, .iconst 0, 1), (96, .aload_n 0, 1), (97, .getfield 111, 3), (100, .iconst 0, 1), (101, .lconst 1, 1), (102, .invokestatic 457, 3), (105, .iinc 1 1, 3), (108, .goto (-106), 3), (111, .return_, 1)]
theorem d_X11_addMoney : gt_dok cX11_addMoney cs_X11_addMoney := gt_dok_of (by decide +kernel)
def cs_X11_meanOf : List gt_I := [(0, .aload_n 0, 1), (1, .invokevirtual 460, 3), (4, .aload_n 0, 1), (5, .getfield 108, 3), (8, .lconst 0, 1), (9, .invokestatic 445, 3), (12, .iconst 0, 1), (13, .istore_n 2, 1), (14, .iload_n 2, 1), (15, .sipush 1820, 3), (18, .if_icmp .ge 61, 3), (21, .aload_n 0, 1), (22, .getfield 108, 3), (25, .iconst 0, 1), (26, .aload_n 0, 1), (27, .getfield 99, 3), (30, .bipush 8, 2), (32, .iload_n 2, 1), (33, .imul, 1), (34, .iload_n 1, 1), (35, .ifCond .ne 13, 3), (38, .aload_n 0, 1), (39, .getfield 84, 3), (42, .iload_n 2, 1), (43, .iaload, 1), (44, .i2l, 1), (45, .goto 25, 3), (48, .iload_n 1, 1), (49, .iconst 1, 1), (50, .if_icmp .ne 13, 3), (53, .aload_n 0, 1), (54, .getfield 87, 3), (57, .iload_n 2, 1), (58, .iaload, 1), (59, .i2l, 1), (60, .goto 10, 3), (63, .aload_n 0, 1), (64, .getfield 90, 3), (67, .iload_n 2, 1), (68, .iaload, 1), (69, .i2l, 1), (70, .invokestatic 457, 3), (73, .iinc 2 1, 3), (76, .goto (-62), 3), (79, .iload_n 1, 1), (80, .ifCond .ne 7, 3), (83, .aload_n 0, 1), (84, .invokevirtual 463, 3), (87, .aload_n 0, 1), (88, .getfield 108, 3), (91, .ldc2_w 188, 3), (94, .invokestatic 434, 3), (97, .aload_n 0, 1), (98, .invokevirtual 466, 3), (101, .ireturn, 1)]
theorem d_X11_meanOf : gt_dok cX11_meanOf cs_X11_meanOf := gt_dok_of (by decide +kernel)
def cs_X11_mean : List gt_I := [(0, .aload_n 0, 1), (1, .iconst 0, 1), (2, .putfield 153, 3), (5, .iload_n 1, 1), (6, .i2l, 1), (7, .lconst 0, 1), (8, .ldc2_w 428, 3), (11, .invokestatic 163, 3), (14, .ifCond .eq 11, 3), (17, .aload_n 0, 1), (18, .iload_n 1, 1), (19, .invokevirtual 469, 3), (22, .goto 4, 3), (25, .iconst (-1), 1), (26, .ireturn, 1)]
theorem d_X11_mean : gt_dok cX11_mean cs_X11_mean := gt_dok_of (by decide +kernel)
def cs_X11_none : List gt_I := [(0, .aload_n 0, 1), (1, .iconst 0, 1), (2, .putfield 153, 3), (5, .aload_n 0, 1), (6, .iload_n 1, 1), (7, .invokevirtual 180, 3), (10, .ifCond .ne 5, 3), (13, .iconst (-1), 1), (14, .ireturn, 1), (15, .aload_n 0, 1), (16, .invokevirtual 460, 3), (19, .aload_n 0, 1), (20, .getfield 108, 3), (23, .lconst 0, 1), (24, .invokestatic 445, 3), (27, .iconst 0, 1), (28, .istore_n 2, 1), (29, .iload_n 2, 1), (30, .sipush 1820, 3), (33, .if_icmp .ge 43, 3), (36, .aload_n 0, 1), (37, .getfield 108, 3), (40, .iconst 0, 1), (41, .aload_n 0, 1), (42, .getfield 99, 3), (45, .bipush 8, 2), (47, .iload_n 2, 1), (48, .imul, 1), (49, .aload_n 0, 1), (50, .getfield 78, 3), (53, .iload_n 2, 1), (54, .iaload, 1), (55, .iload_n 1, 1), (56, .invokestatic 415, 3), (59, .ifCond .ne 7, 3), (62, .lconst 1, 1), (63, .goto 4, 3), (66, .lconst 0, 1), (67, .invokestatic 457, 3), (70, .iinc 2 1, 3), (73, .goto (-44), 3), (76, .aload_n 0, 1), (77, .getfield 108, 3), (80, .ldc2_w 258, 3), (83, .invokestatic 434, 3), (86, .aload_n 0, 1), (87, .invokevirtual 466, 3), (90, .ireturn, 1)]
theorem d_X11_none : gt_dok cX11_none cs_X11_none := gt_dok_of (by decide +kernel)
def cs_X11_gather : List gt_I := [(0, .aload_n 0, 1), (1, .invokevirtual 442, 3), (4, .aload_n 0, 1), (5, .getfield 13, 3), (8, .iconst 1, 1), (9, .iaload, 1), (10, .istore_n 3, 1), (11, .iconst 0, 1), (12, .istore 4, 2), (14, .iload 4, 2), (16, .sipush 1820, 3), (19, .if_icmp .ge 57, 3), (22, .aload_n 0, 1), (23, .getfield 114, 3), (26, .sipush 1820, 3), (29, .iload_n 3, 1), (30, .imul, 1), (31, .iload 4, 2), (33, .iadd, 1), (34, .iload 4, 2), (36, .ifCond .ne 7, 3), (39, .iconst 0, 1), (40, .goto 6, 3), (43, .ldc_w 472, 3), (46, .iastore, 1), (47, .aload_n 0, 1), (48, .getfield 117, 3), (51, .sipush 1820, 3), (54, .iload_n 3, 1), (55, .imul, 1), (56, .iload 4, 2), (58, .iadd, 1), (59, .iload 4, 2), (61, .ifCond .ne 7, 3), (64, .iconst 1, 1), (65, .goto 4, 3), (68, .iconst 0, 1), (69, .iastore, 1), (70, .iinc 4 1, 3), (73, .goto (-59), 3), (76, .iload_n 3, 1), (77, .iconst 1, 1), (78, .isub, 1), (79, .istore 4, 2), (81, .iload 4, 2), (83, .ifCond .lt 45, 3), (86, .iconst 0, 1), (87, .istore 5, 2), (89, .iload 5, 2), (91, .sipush 1820, 3), (94, .if_icmp .ge 28, 3), (97, .aload_n 0, 1), (98, .iload 4, 2), (100, .iload 5, 2), (102, .iload 4, 2), (104, .iload_n 1, 1), (105, .if_icmp .ne 7, 3), (108, .iload_n 2, 1), (109, .goto 4, 3), (112, .iconst (-1), 1), (113, .invokevirtual 473, 3), (116, .iinc 5 1, 3), (119, .goto (-30), 3), (122, .iinc 4 (-1), 3), (125, .goto (-44), 3), (128, .return_, 1)]
theorem d_X11_gather : gt_dok cX11_gather cs_X11_gather := gt_dok_of (by decide +kernel)
def cs_X11_gatherOne : List gt_I := [(0, .sipush 1820, 3), (3, .iload_n 1, 1), (4, .imul, 1), (5, .iload_n 2, 1), (6, .iadd, 1), (7, .istore 4, 2), (9, .aload_n 0, 1), (10, .iload_n 1, 1), (11, .invokevirtual 208, 3), (14, .ifCond .ne 40, 3), (17, .aload_n 0, 1), (18, .getfield 114, 3), (21, .iload 4, 2), (23, .aload_n 0, 1), (24, .getfield 114, 3), (27, .iload 4, 2), (29, .sipush 1820, 3), (32, .iadd, 1), (33, .iaload, 1), (34, .iastore, 1), (35, .aload_n 0, 1), (36, .getfield 117, 3), (39, .iload 4, 2), (41, .aload_n 0, 1), (42, .getfield 117, 3), (45, .iload 4, 2), (47, .sipush 1820, 3), (50, .iadd, 1), (51, .iaload, 1), (52, .iastore, 1), (53, .return_, 1), (54, .ldc_w 472, 3), (57, .istore 5, 2), (59, .lconst 0, 1), (60, .lstore 6, 2), (62, .iconst 0, 1), (63, .istore 8, 2), (65, .iload 8, 2), (67, .iconst 5, 1), (68, .if_icmp .ge 161, 3), (71, .aload_n 0, 1), (72, .iload_n 1, 1), (73, .iload 8, 2), (75, .invokevirtual 477, 3), (78, .ifCond .eq 38, 3), (81, .iload_n 3, 1), (82, .iconst (-1), 1), (83, .if_icmp .eq 9, 3), (86, .iload_n 3, 1), (87, .iload 8, 2), (89, .if_icmp .ne 27, 3), (92, .iload 8, 2), (94, .iconst 4, 1), (95, .if_icmp .eq 17, 3), (98, .aload_n 0, 1), (99, .getfield 78, 3), (102, .iload_n 2, 1), (103, .iaload, 1), (104, .iload 8, 2), (106, .invokestatic 415, 3), (109, .ifCond .le 7, 3), (112, .iconst 1, 1), (113, .goto 4, 3), (116, .iconst 0, 1), (117, .istore 9, 2), (119, .iload 9, 2), (121, .ifCond .eq 102, 3), (124, .sipush 1820, 3), (127, .iload_n 1, 1), (128, .iconst 1, 1), (129, .iadd, 1), (130, .imul, 1), (131, .aload_n 0, 1), (132, .getfield 81, 3), (135, .aload_n 0, 1), (136, .getfield 78, 3), (139, .iload_n 2, 1), (140, .iaload, 1), (141, .iload 8, 2), (143, .invokestatic 454, 3), (146, .isub, 1), (147, .iaload, 1), (148, .iadd, 1), (149, .istore 10, 2), (151, .aload_n 0, 1), (152, .getfield 114, 3), (155, .iload 10, 2), (157, .iaload, 1), (158, .aload_n 0, 1), (159, .iload_n 1, 1), (160, .iload 8, 2), (162, .invokevirtual 480, 3), (165, .iadd, 1), (166, .istore 11, 2), (168, .aload_n 0, 1), (169, .getfield 114, 3), (172, .iload 10, 2), (174, .iaload, 1), (175, .ldc_w 472, 3), (178, .if_icmp .le 45, 3), (181, .iload 11, 2), (183, .iload 5, 2), (185, .if_icmp .lt 38, 3), (188, .iload 11, 2), (190, .iload 5, 2), (192, .if_icmp .le 14, 3), (195, .aload_n 0, 1), (196, .getfield 117, 3), (199, .iload 10, 2), (201, .iaload, 1), (202, .i2l, 1), (203, .goto 14, 3), (206, .lload 6, 2), (208, .aload_n 0, 1), (209, .getfield 117, 3), (212, .iload 10, 2), (214, .iaload, 1), (215, .i2l, 1), (216, .ladd, 1), (217, .lstore 6, 2), (219, .iload 11, 2), (221, .istore 5, 2), (223, .iinc 8 1, 3), (226, .goto (-161), 3), (229, .aload_n 0, 1), (230, .getfield 114, 3), (233, .iload 4, 2), (235, .iload 5, 2), (237, .iastore, 1), (238, .aload_n 0, 1), (239, .getfield 117, 3), (242, .iload 4, 2), (244, .lload 6, 2), (246, .ldc2_w 380, 3), (249, .lcmp, 1), (250, .ifCond .ge 9, 3), (253, .lload 6, 2), (255, .l2i, 1), (256, .goto 6, 3), (259, .ldc_w 483, 3), (262, .iastore, 1), (263, .return_, 1)]
theorem d_X11_gatherOne : gt_dok cX11_gatherOne cs_X11_gatherOne := gt_dok_of (by decide +kernel)
def cs_X11_greatest : List gt_I := [(0, .ldc_w 472, 3), (3, .istore_n 1, 1), (4, .lconst 0, 1), (5, .lstore_n 2, 1), (6, .iconst 0, 1), (7, .istore 4, 2), (9, .iload 4, 2), (11, .sipush 1820, 3), (14, .if_icmp .ge 76, 3), (17, .aload_n 0, 1), (18, .getfield 114, 3), (21, .iload 4, 2), (23, .iaload, 1), (24, .ldc_w 472, 3), (27, .if_icmp .le 57, 3), (30, .aload_n 0, 1), (31, .getfield 84, 3), (34, .iload 4, 2), (36, .iaload, 1), (37, .aload_n 0, 1), (38, .getfield 114, 3), (41, .iload 4, 2), (43, .iaload, 1), (44, .iadd, 1), (45, .istore 5, 2), (47, .iload 5, 2), (49, .iload_n 1, 1), (50, .if_icmp .lt 34, 3), (53, .iload 5, 2), (55, .iload_n 1, 1), (56, .if_icmp .le 14, 3), (59, .aload_n 0, 1), (60, .getfield 117, 3), (63, .iload 4, 2), (65, .iaload, 1), (66, .i2l, 1), (67, .goto 13, 3), (70, .lload_n 2, 1), (71, .aload_n 0, 1), (72, .getfield 117, 3), (75, .iload 4, 2), (77, .iaload, 1), (78, .i2l, 1), (79, .ladd, 1), (80, .lstore_n 2, 1), (81, .iload 5, 2), (83, .istore_n 1, 1), (84, .iinc 4 1, 3), (87, .goto (-78), 3), (90, .aload_n 0, 1), (91, .lload_n 2, 1), (92, .ldc2_w 380, 3), (95, .lcmp, 1), (96, .ifCond .ge 8, 3), (99, .lload_n 2, 1), (100, .l2i, 1), (101, .goto 6, 3), (104, .ldc_w 483, 3), (107, .putfield 484, 3), (110, .iload_n 1, 1), (111, .ireturn, 1)]
theorem d_X11_greatest : gt_dok cX11_greatest cs_X11_greatest := gt_dok_of (by decide +kernel)
def cs_X11_findFirst : List gt_I := [(0, .iconst 0, 1), (1, .istore_n 2, 1), (2, .iconst 0, 1), (3, .istore_n 3, 1), (4, .iconst 0, 1), (5, .istore 4, 2), (7, .iload 4, 2), (9, .aload_n 0, 1), (10, .getfield 13, 3), (13, .iconst 1, 1), (14, .iaload, 1), (15, .if_icmp .ge 141, 3), (18, .aload_n 0, 1), (19, .getfield 120, 3), (22, .iload 4, 2), (24, .iconst (-1), 1), (25, .iastore, 1), (26, .iconst 0, 1), (27, .istore 5, 2), (29, .iload 5, 2), (31, .iconst 5, 1), (32, .if_icmp .ge 78, 3), (35, .aload_n 0, 1), (36, .iload 4, 2), (38, .invokevirtual 208, 3), (41, .ifCond .eq 69, 3), (44, .aload_n 0, 1), (45, .getfield 120, 3), (48, .iload 4, 2), (50, .iaload, 1), (51, .iconst (-1), 1), (52, .if_icmp .ne 58, 3), (55, .aload_n 0, 1), (56, .iload 4, 2), (58, .iload 5, 2), (60, .invokevirtual 477, 3), (63, .ifCond .eq 41, 3), (66, .aload_n 0, 1), (67, .iload 4, 2), (69, .iconst 1, 1), (70, .iadd, 1), (71, .iload_n 2, 1), (72, .iload 5, 2), (74, .invokestatic 454, 3), (77, .iadd, 1), (78, .iload_n 3, 1), (79, .aload_n 0, 1), (80, .iload 4, 2), (82, .iload 5, 2), (84, .invokevirtual 480, 3), (87, .iadd, 1), (88, .iload_n 1, 1), (89, .invokevirtual 487, 3), (92, .ifCond .eq 12, 3), (95, .aload_n 0, 1), (96, .getfield 120, 3), (99, .iload 4, 2), (101, .iload 5, 2), (103, .iastore, 1), (104, .iinc 5 1, 3), (107, .goto (-78), 3), (110, .aload_n 0, 1), (111, .getfield 120, 3), (114, .iload 4, 2), (116, .iaload, 1), (117, .iconst (-1), 1), (118, .if_icmp .eq 32, 3), (121, .iload_n 2, 1), (122, .aload_n 0, 1), (123, .getfield 120, 3), (126, .iload 4, 2), (128, .iaload, 1), (129, .invokestatic 454, 3), (132, .iadd, 1), (133, .istore_n 2, 1), (134, .iload_n 3, 1), (135, .aload_n 0, 1), (136, .iload 4, 2), (138, .aload_n 0, 1), (139, .getfield 120, 3), (142, .iload 4, 2), (144, .iaload, 1), (145, .invokevirtual 480, 3), (148, .iadd, 1), (149, .istore_n 3, 1), (150, .iinc 4 1, 3), (153, .goto (-146), 3), (156, .aload_n 0, 1), (157, .iload_n 2, 1), (158, .putfield 490, 3), (161, .return_, 1)]
theorem d_X11_findFirst : gt_dok cX11_findFirst cs_X11_findFirst := gt_dok_of (by decide +kernel)
def cs_X11_isOnWay : List gt_I := [(0, .iconst 0, 1), (1, .istore 5, 2), (3, .iload 5, 2), (5, .sipush 1820, 3), (8, .if_icmp .ge 63, 3), (11, .aload_n 0, 1), (12, .getfield 114, 3), (15, .sipush 1820, 3), (18, .iload_n 1, 1), (19, .imul, 1), (20, .iload 5, 2), (22, .iadd, 1), (23, .iaload, 1), (24, .istore 6, 2), (26, .iload 6, 2), (28, .ldc_w 472, 3), (31, .if_icmp .le 34, 3), (34, .aload_n 0, 1), (35, .getfield 84, 3), (38, .aload_n 0, 1), (39, .getfield 81, 3), (42, .iload_n 2, 1), (43, .aload_n 0, 1), (44, .getfield 78, 3), (47, .iload 5, 2), (49, .iaload, 1), (50, .iadd, 1), (51, .iaload, 1), (52, .iaload, 1), (53, .iload_n 3, 1), (54, .iadd, 1), (55, .iload 6, 2), (57, .iadd, 1), (58, .iload 4, 2), (60, .if_icmp .ne 5, 3), (63, .iconst 1, 1), (64, .ireturn, 1), (65, .iinc 5 1, 3), (68, .goto (-65), 3), (71, .iconst 0, 1), (72, .ireturn, 1)]
theorem d_X11_isOnWay : gt_dok cX11_isOnWay cs_X11_isOnWay := gt_dok_of (by decide +kernel)
def cs_X11_together : List gt_I := [(0, .aload_n 0, 1), (1, .iconst 0, 1), (2, .putfield 153, 3), (5, .iload_n 1, 1), (6, .i2l, 1), (7, .lconst 0, 1), (8, .ldc2_w 493, 3), (11, .invokestatic 163, 3), (14, .ifCond .ne 5, 3), (17, .iconst (-1), 1), (18, .ireturn, 1), (19, .aload_n 0, 1), (20, .iconst (-1), 1), (21, .iconst (-1), 1), (22, .invokevirtual 495, 3), (25, .aload_n 0, 1), (26, .invokevirtual 498, 3), (29, .istore_n 2, 1), (30, .aload_n 0, 1), (31, .iload_n 2, 1), (32, .invokevirtual 501, 3), (35, .aload_n 0, 1), (36, .getfield 81, 3), (39, .aload_n 0, 1), (40, .getfield 490, 3), (43, .iaload, 1), (44, .istore_n 3, 1), (45, .iload_n 1, 1), (46, .ifCond .ne 7, 3), (49, .iload_n 2, 1), (50, .goto 35, 3), (53, .iload_n 1, 1), (54, .iconst 1, 1), (55, .if_icmp .ne 10, 3), (58, .aload_n 0, 1), (59, .getfield 484, 3), (62, .goto 23, 3), (65, .iload_n 1, 1), (66, .iconst 2, 1), (67, .if_icmp .ne 12, 3), (70, .aload_n 0, 1), (71, .getfield 87, 3), (74, .iload_n 3, 1), (75, .iaload, 1), (76, .goto 9, 3), (79, .aload_n 0, 1), (80, .getfield 90, 3), (83, .iload_n 3, 1), (84, .iaload, 1), (85, .ireturn, 1)]
theorem d_X11_together : gt_dok cX11_together cs_X11_together := gt_dok_of (by decide +kernel)
def cs_X11_brings : List gt_I := [(0, .aload_n 0, 1), (1, .iconst 0, 1), (2, .putfield 153, 3), (5, .aload_n 0, 1), (6, .iload_n 1, 1), (7, .invokevirtual 202, 3), (10, .ifCond .ne 5, 3), (13, .iconst (-1), 1), (14, .ireturn, 1), (15, .aload_n 0, 1), (16, .iconst (-1), 1), (17, .iconst (-1), 1), (18, .invokevirtual 495, 3), (21, .aload_n 0, 1), (22, .aload_n 0, 1), (23, .invokevirtual 498, 3), (26, .invokevirtual 501, 3), (29, .aload_n 0, 1), (30, .getfield 120, 3), (33, .iload_n 1, 1), (34, .iaload, 1), (35, .ireturn, 1)]
theorem d_X11_brings : gt_dok cX11_brings cs_X11_brings := gt_dok_of (by decide +kernel)
def cs_X11_dear : List gt_I := [(0, .aload_n 0, 1), (1, .iconst 0, 1), (2, .putfield 153, 3), (5, .aload_n 0, 1), (6, .iload_n 1, 1), (7, .invokevirtual 202, 3), (10, .ifCond .eq 15, 3), (13, .iload_n 2, 1), (14, .i2l, 1), (15, .lconst 0, 1), (16, .ldc2_w 504, 3), (19, .invokestatic 163, 3), (22, .ifCond .ne 5, 3), (25, .iconst (-1), 1), (26, .ireturn, 1), (27, .aload_n 0, 1), (28, .iload_n 1, 1), (29, .invokevirtual 208, 3), (32, .ifCond .eq 12, 3), (35, .aload_n 0, 1), (36, .iload_n 1, 1), (37, .iload_n 2, 1), (38, .invokevirtual 477, 3), (41, .ifCond .ne 5, 3), (44, .iconst (-1), 1), (45, .ireturn, 1), (46, .aload_n 0, 1), (47, .iconst (-1), 1), (48, .iconst (-1), 1), (49, .invokevirtual 495, 3), (52, .aload_n 0, 1), (53, .invokevirtual 498, 3), (56, .istore_n 3, 1), (57, .aload_n 0, 1), (58, .iload_n 1, 1), (59, .iload_n 2, 1), (60, .invokevirtual 495, 3), (63, .iload_n 3, 1), (64, .aload_n 0, 1), (65, .invokevirtual 498, 3), (68, .isub, 1), (69, .ireturn, 1)]
theorem d_X11_dear : gt_dok cX11_dear cs_X11_dear := gt_dok_of (by decide +kernel)
def cs_X11_loss : List gt_I := [(0, .aload_n 0, 1), (1, .iconst 0, 1), (2, .putfield 153, 3), (5, .aload_n 0, 1), (6, .iconst (-1), 1), (7, .iconst (-1), 1), (8, .invokevirtual 495, 3), (11, .aload_n 0, 1), (12, .invokevirtual 498, 3), (15, .istore_n 1, 1), (16, .bipush 100, 2), (18, .iload_n 1, 1), (19, .imul, 1), (20, .aload_n 0, 1), (21, .iconst 0, 1), (22, .invokevirtual 469, 3), (25, .isub, 1), (26, .ireturn, 1)]
theorem d_X11_loss : gt_dok cX11_loss cs_X11_loss := gt_dok_of (by decide +kernel)
def cs_X11_over : List gt_I := [(0, .lconst 1, 1), (1, .lstore_n 2, 1), (2, .iconst 1, 1), (3, .istore 4, 2), (5, .iload 4, 2), (7, .iload_n 1, 1), (8, .if_icmp .gt 23, 3), (11, .lload_n 2, 1), (12, .iload_n 0, 1), (13, .iload_n 1, 1), (14, .isub, 1), (15, .iload 4, 2), (17, .iadd, 1), (18, .i2l, 1), (19, .lmul, 1), (20, .iload 4, 2), (22, .i2l, 1), (23, .ldiv, 1), (24, .lstore_n 2, 1), (25, .iinc 4 1, 3), (28, .goto (-23), 3), (31, .lload_n 2, 1), (32, .lreturn, 1)]
theorem d_X11_over : gt_dok cX11_over cs_X11_over := gt_dok_of (by decide +kernel)
def cs_X11_findShares : List gt_I := [(0, .iconst 0, 1), (1, .istore_n 2, 1), (2, .iload_n 2, 1), (3, .sipush 1820, 3), (6, .if_icmp .ge 113, 3), (9, .iload_n 1, 1), (10, .istore_n 3, 1), (11, .lconst 1, 1), (12, .lstore 4, 2), (14, .iconst 0, 1), (15, .istore 6, 2), (17, .iload 6, 2), (19, .iconst 4, 1), (20, .if_icmp .ge 85, 3), (23, .aload_n 0, 1), (24, .getfield 78, 3), (27, .iload_n 2, 1), (28, .iaload, 1), (29, .iload 6, 2), (31, .invokestatic 415, 3), (34, .istore 7, 2), (36, .iload 7, 2), (38, .iload_n 3, 1), (39, .if_icmp .gt 23, 3), (42, .iload 7, 2), (44, .ifCond .eq 14, 3), (47, .iload 6, 2), (49, .aload_n 0, 1), (50, .getfield 13, 3), (53, .iconst 0, 1), (54, .iaload, 1), (55, .if_icmp .ge 7, 3), (58, .iconst 1, 1), (59, .goto 4, 3), (62, .iconst 0, 1), (63, .istore 8, 2), (65, .iload 8, 2), (67, .ifCond .eq 15, 3), (70, .lload 4, 2), (72, .iload_n 3, 1), (73, .iload 7, 2), (75, .invokestatic 506, 3), (78, .lmul, 1), (79, .goto 4, 3), (82, .lconst 0, 1), (83, .lstore 4, 2), (85, .iload_n 3, 1), (86, .iload 8, 2), (88, .ifCond .eq 8, 3), (91, .iload 7, 2), (93, .goto 4, 3), (96, .iconst 0, 1), (97, .isub, 1), (98, .istore_n 3, 1), (99, .iinc 6 1, 3), (102, .goto (-85), 3), (105, .aload_n 0, 1), (106, .getfield 132, 3), (109, .iload_n 2, 1), (110, .lload 4, 2), (112, .lastore, 1), (113, .iinc 2 1, 3), (116, .goto (-114), 3), (119, .return_, 1)]
theorem d_X11_findShares : gt_dok cX11_findShares cs_X11_findShares := gt_dok_of (by decide +kernel)
def cs_X11_blindMean : List gt_I := [(0, .iconst 0, 1), (1, .istore_n 2, 1), (2, .iload_n 2, 1), (3, .iconst 5, 1), (4, .if_icmp .ge 64, 3), (7, .aload_n 0, 1), (8, .getfield 129, 3), (11, .bipush 11, 2), (13, .iload_n 2, 1), (14, .imul, 1), (15, .lconst 1, 1), (16, .lastore, 1), (17, .iconst 1, 1), (18, .istore_n 3, 1), (19, .iload_n 3, 1), (20, .iload_n 1, 1), (21, .if_icmp .gt 41, 3), (24, .aload_n 0, 1), (25, .getfield 129, 3), (28, .bipush 11, 2), (30, .iload_n 2, 1), (31, .imul, 1), (32, .iload_n 3, 1), (33, .iadd, 1), (34, .aload_n 0, 1), (35, .getfield 129, 3), (38, .bipush 11, 2), (40, .iload_n 2, 1), (41, .imul, 1), (42, .iload_n 3, 1), (43, .iadd, 1), (44, .iconst 1, 1), (45, .isub, 1), (46, .laload, 1), (47, .aload_n 0, 1), (48, .getfield 123, 3), (51, .iload_n 2, 1), (52, .iaload, 1), (53, .i2l, 1), (54, .lmul, 1), (55, .lastore, 1), (56, .iinc 3 1, 3), (59, .goto (-40), 3), (62, .iinc 2 1, 3), (65, .goto (-63), 3), (68, .lconst 0, 1), (69, .lstore_n 2, 1), (70, .iconst 0, 1), (71, .istore 4, 2), (73, .iload 4, 2), (75, .sipush 1820, 3), (78, .if_icmp .ge 112, 3), (81, .aload_n 0, 1), (82, .getfield 132, 3), (85, .iload 4, 2), (87, .laload, 1), (88, .lconst 0, 1), (89, .lcmp, 1), (90, .ifCond .le 94, 3), (93, .iload_n 1, 1), (94, .istore 5, 2), (96, .aload_n 0, 1), (97, .getfield 132, 3), (100, .iload 4, 2), (102, .laload, 1), (103, .aload_n 0, 1), (104, .getfield 84, 3), (107, .iload 4, 2), (109, .iaload, 1), (110, .i2l, 1), (111, .lmul, 1), (112, .lstore 6, 2), (114, .iconst 0, 1), (115, .istore 8, 2), (117, .iload 8, 2), (119, .iconst 4, 1), (120, .if_icmp .ge 48, 3), (123, .aload_n 0, 1), (124, .getfield 78, 3), (127, .iload 4, 2), (129, .iaload, 1), (130, .iload 8, 2), (132, .invokestatic 415, 3), (135, .istore 9, 2), (137, .lload 6, 2), (139, .aload_n 0, 1), (140, .getfield 129, 3), (143, .bipush 11, 2), (145, .iload 8, 2), (147, .imul, 1), (148, .iload 9, 2), (150, .iadd, 1), (151, .laload, 1), (152, .lmul, 1), (153, .lstore 6, 2), (155, .iload 5, 2), (157, .iload 9, 2), (159, .isub, 1), (160, .istore 5, 2), (162, .iinc 8 1, 3), (165, .goto (-48), 3), (168, .lload_n 2, 1), (169, .lload 6, 2), (171, .aload_n 0, 1), (172, .getfield 129, 3), (175, .bipush 44, 2), (177, .iload 5, 2), (179, .iadd, 1), (180, .laload, 1), (181, .lmul, 1), (182, .ladd, 1), (183, .lstore_n 2, 1), (184, .iinc 4 1, 3), (187, .goto (-114), 3), (190, .lload_n 2, 1), (191, .lreturn, 1)]
theorem d_X11_blindMean : gt_dok cX11_blindMean cs_X11_blindMean := gt_dok_of (by decide +kernel)
def cs_X11_findBlind : List gt_I := [(0, .aload_n 0, 1), (1, .invokevirtual 442, 3), (4, .aload_n 0, 1), (5, .iload_n 1, 1), (6, .invokevirtual 510, 3), (9, .aload_n 0, 1), (10, .ldc2_w 256, 3), (13, .putfield 513, 3), (16, .aload_n 0, 1), (17, .getfield 13, 3), (20, .iconst 0, 1), (21, .iaload, 1), (22, .istore_n 2, 1), (23, .bipush 10, 2), (25, .istore_n 3, 1), (26, .iload_n 3, 1), (27, .ifCond .lt 166, 3), (30, .bipush 10, 2), (32, .iload_n 3, 1), (33, .isub, 1), (34, .istore 4, 2), (36, .iload 4, 2), (38, .ifCond .lt 149, 3), (41, .bipush 10, 2), (43, .iload_n 3, 1), (44, .isub, 1), (45, .iload 4, 2), (47, .isub, 1), (48, .istore 5, 2), (50, .iload 5, 2), (52, .ifCond .lt 129, 3), (55, .bipush 10, 2), (57, .iload_n 3, 1), (58, .isub, 1), (59, .iload 4, 2), (61, .isub, 1), (62, .iload 5, 2), (64, .isub, 1), (65, .istore 6, 2), (67, .iload 6, 2), (69, .ifCond .lt 106, 3), (72, .iload_n 2, 1), (73, .iconst 1, 1), (74, .if_icmp .gt 8, 3), (77, .iload 4, 2), (79, .ifCond .ne 27, 3), (82, .iload_n 2, 1), (83, .iconst 2, 1), (84, .if_icmp .gt 8, 3), (87, .iload 5, 2), (89, .ifCond .ne 17, 3), (92, .iload_n 2, 1), (93, .iconst 3, 1), (94, .if_icmp .gt 8, 3), (97, .iload 6, 2), (99, .ifCond .ne 7, 3), (102, .iconst 1, 1), (103, .goto 4, 3), (106, .iconst 0, 1), (107, .istore 7, 2), (109, .iload 7, 2), (111, .ifCond .eq 58, 3), (114, .aload_n 0, 1), (115, .getfield 123, 3), (118, .iconst 0, 1), (119, .iload_n 3, 1), (120, .iastore, 1), (121, .aload_n 0, 1), (122, .getfield 123, 3), (125, .iconst 1, 1), (126, .iload 4, 2), (128, .iastore, 1), (129, .aload_n 0, 1), (130, .getfield 123, 3), (133, .iconst 2, 1), (134, .iload 5, 2), (136, .iastore, 1), (137, .aload_n 0, 1), (138, .getfield 123, 3), (141, .iconst 3, 1), (142, .iload 6, 2), (144, .iastore, 1), (145, .aload_n 0, 1), (146, .getfield 123, 3), (149, .iconst 4, 1), (150, .bipush 10, 2), (152, .iload_n 3, 1), (153, .isub, 1), (154, .iload 4, 2), (156, .isub, 1), (157, .iload 5, 2), (159, .isub, 1), (160, .iload 6, 2), (162, .isub, 1), (163, .iastore, 1), (164, .aload_n 0, 1), (165, .iload_n 1, 1), (166, .invokevirtual 516, 3), (169, .iinc 6 (-1), 3), (172, .goto (-105), 3), (175, .iinc 5 (-1), 3), (178, .goto (-128), 3), (181, .iinc 4 (-1), 3), (184, .goto (-148), 3), (187, .iinc 3 (-1), 3), (190, .goto (-164), 3), (193, .return_, 1)]
theorem d_X11_findBlind : gt_dok cX11_findBlind cs_X11_findBlind := gt_dok_of (by decide +kernel)
def cs_X11_tryTenths : List gt_I := [(0, .aload_n 0, 1), (1, .iload_n 1, 1), (2, .invokevirtual 519, 3), (5, .lstore_n 2, 1), (6, .lload_n 2, 1), (7, .aload_n 0, 1), (8, .getfield 513, 3), (11, .lcmp, 1), (12, .ifCond .le 37, 3), (15, .aload_n 0, 1), (16, .lload_n 2, 1), (17, .putfield 513, 3), (20, .iconst 0, 1), (21, .istore 4, 2), (23, .iload 4, 2), (25, .iconst 5, 1), (26, .if_icmp .ge 23, 3), (29, .aload_n 0, 1), (30, .getfield 126, 3), (33, .iload 4, 2), (35, .aload_n 0, 1), (36, .getfield 123, 3), (39, .iload 4, 2), (41, .iaload, 1), (42, .iastore, 1), (43, .iinc 4 1, 3), (46, .goto (-23), 3), (49, .return_, 1)]
theorem d_X11_tryTenths : gt_dok cX11_tryTenths cs_X11_tryTenths := gt_dok_of (by decide +kernel)
def cs_X11_blind : List gt_I := [(0, .aload_n 0, 1), (1, .iconst 0, 1), (2, .putfield 153, 3), (5, .iload_n 1, 1), (6, .i2l, 1), (7, .lconst 1, 1), (8, .ldc2_w 211, 3), (11, .invokestatic 163, 3), (14, .ifCond .eq 30, 3), (17, .aload_n 0, 1), (18, .getfield 13, 3), (21, .iconst 0, 1), (22, .iaload, 1), (23, .ifCond .eq 21, 3), (26, .iload_n 2, 1), (27, .iconst (-1), 1), (28, .if_icmp .eq 18, 3), (31, .iload_n 2, 1), (32, .iconst 4, 1), (33, .if_icmp .eq 13, 3), (36, .aload_n 0, 1), (37, .iload_n 2, 1), (38, .invokevirtual 180, 3), (41, .ifCond .ne 5, 3), (44, .iconst (-1), 1), (45, .ireturn, 1), (46, .aload_n 0, 1), (47, .iload_n 1, 1), (48, .invokevirtual 523, 3), (51, .iload_n 2, 1), (52, .iconst (-1), 1), (53, .if_icmp .eq 10, 3), (56, .aload_n 0, 1), (57, .getfield 126, 3), (60, .iload_n 2, 1), (61, .iaload, 1), (62, .ireturn, 1), (63, .lconst 1, 1), (64, .lstore_n 3, 1), (65, .iconst 0, 1), (66, .istore 5, 2), (68, .iload 5, 2), (70, .iload_n 1, 1), (71, .if_icmp .ge 15, 3), (74, .lload_n 3, 1), (75, .ldc2_w 260, 3), (78, .lmul, 1), (79, .lstore_n 3, 1), (80, .iinc 5 1, 3), (83, .goto (-15), 3), (86, .ldc2_w 188, 3), (89, .aload_n 0, 1), (90, .getfield 513, 3), (93, .lmul, 1), (94, .lload_n 3, 1), (95, .ldiv, 1), (96, .l2i, 1), (97, .ireturn, 1)]
theorem d_X11_blind : gt_dok cX11_blind cs_X11_blind := gt_dok_of (by decide +kernel)
def cs_X11_byRule : List gt_I := [(0, .aload_n 0, 1), (1, .iload_n 1, 1), (2, .iconst 4, 1), (3, .invokevirtual 205, 3), (6, .istore_n 2, 1), (7, .iload_n 2, 1), (8, .iconst (-1), 1), (9, .if_icmp .eq 5, 3), (12, .iload_n 2, 1), (13, .ireturn, 1), (14, .iconst 0, 1), (15, .istore_n 3, 1), (16, .iload_n 3, 1), (17, .aload_n 0, 1), (18, .getfield 13, 3), (21, .iconst 0, 1), (22, .iaload, 1), (23, .if_icmp .ge 39, 3), (26, .aload_n 0, 1), (27, .iload_n 1, 1), (28, .iconst 0, 1), (29, .invokevirtual 205, 3), (32, .aload_n 0, 1), (33, .getfield 135, 3), (36, .iload_n 3, 1), (37, .iaload, 1), (38, .if_icmp .ge 18, 3), (41, .aload_n 0, 1), (42, .iload_n 1, 1), (43, .iload_n 3, 1), (44, .invokevirtual 400, 3), (47, .ifCond .eq 7, 3), (50, .iload_n 3, 1), (51, .goto 4, 3), (54, .iconst 4, 1), (55, .ireturn, 1), (56, .iinc 3 1, 3), (59, .goto (-43), 3), (62, .iconst 4, 1), (63, .ireturn, 1)]
theorem d_X11_byRule : gt_dok cX11_byRule cs_X11_byRule := gt_dok_of (by decide +kernel)
def cs_X11_ruleValue : List gt_I := [(0, .iconst 0, 1), (1, .istore_n 1, 1), (2, .iconst 0, 1), (3, .istore_n 2, 1), (4, .iconst 0, 1), (5, .istore_n 3, 1), (6, .iload_n 3, 1), (7, .aload_n 0, 1), (8, .getfield 13, 3), (11, .iconst 1, 1), (12, .iaload, 1), (13, .if_icmp .ge 42, 3), (16, .aload_n 0, 1), (17, .iload_n 3, 1), (18, .invokevirtual 208, 3), (21, .ifCond .eq 28, 3), (24, .aload_n 0, 1), (25, .iload_n 3, 1), (26, .invokevirtual 526, 3), (29, .istore 4, 2), (31, .iload_n 1, 1), (32, .iload 4, 2), (34, .invokestatic 454, 3), (37, .iadd, 1), (38, .istore_n 1, 1), (39, .iload_n 2, 1), (40, .aload_n 0, 1), (41, .iload_n 3, 1), (42, .iload 4, 2), (44, .invokevirtual 480, 3), (47, .iadd, 1), (48, .istore_n 2, 1), (49, .iinc 3 1, 3), (52, .goto (-46), 3), (55, .aload_n 0, 1), (56, .getfield 84, 3), (59, .aload_n 0, 1), (60, .getfield 81, 3), (63, .iload_n 1, 1), (64, .iaload, 1), (65, .iaload, 1), (66, .iload_n 2, 1), (67, .iadd, 1), (68, .ireturn, 1)]
theorem d_X11_ruleValue : gt_dok cX11_ruleValue cs_X11_ruleValue := gt_dok_of (by decide +kernel)
def cs_X11_nextBounds : List gt_I := [(0, .aload_n 0, 1), (1, .getfield 13, 3), (4, .iconst 0, 1), (5, .iaload, 1), (6, .iconst 1, 1), (7, .isub, 1), (8, .istore_n 1, 1), (9, .iload_n 1, 1), (10, .ifCond .lt 20, 3), (13, .aload_n 0, 1), (14, .getfield 135, 3), (17, .iload_n 1, 1), (18, .iaload, 1), (19, .bipush 26, 2), (21, .if_icmp .ne 9, 3), (24, .iinc 1 (-1), 3), (27, .goto (-18), 3), (30, .iload_n 1, 1), (31, .ifCond .ge 5, 3), (34, .iconst 0, 1), (35, .ireturn, 1), (36, .aload_n 0, 1), (37, .getfield 135, 3), (40, .iload_n 1, 1), (41, .dup2, 1), (42, .iaload, 1), (43, .iconst 1, 1), (44, .iadd, 1), (45, .iastore, 1), (46, .iload_n 1, 1), (47, .iconst 1, 1), (48, .iadd, 1), (49, .istore_n 2, 1), (50, .iload_n 2, 1), (51, .aload_n 0, 1), (52, .getfield 13, 3), (55, .iconst 0, 1), (56, .iaload, 1), (57, .if_icmp .ge 21, 3), (60, .aload_n 0, 1), (61, .getfield 135, 3), (64, .iload_n 2, 1), (65, .aload_n 0, 1), (66, .getfield 135, 3), (69, .iload_n 1, 1), (70, .iaload, 1), (71, .iastore, 1), (72, .iinc 2 1, 3), (75, .goto (-25), 3), (78, .iconst 1, 1), (79, .ireturn, 1)]
theorem d_X11_nextBounds : gt_dok cX11_nextBounds cs_X11_nextBounds := gt_dok_of (by decide +kernel)
def cs_X11_rule : List gt_I := [(0, .aload_n 0, 1), (1, .iconst 0, 1), (2, .putfield 153, 3), (5, .aload_n 0, 1), (6, .getfield 13, 3), (9, .iconst 0, 1), (10, .iaload, 1), (11, .ifCond .eq 16, 3), (14, .iload_n 1, 1), (15, .iconst (-1), 1), (16, .if_icmp .eq 13, 3), (19, .aload_n 0, 1), (20, .iload_n 1, 1), (21, .invokevirtual 180, 3), (24, .ifCond .ne 5, 3), (27, .iconst (-1), 1), (28, .ireturn, 1), (29, .aload_n 0, 1), (30, .invokevirtual 442, 3), (33, .iconst 0, 1), (34, .istore_n 2, 1), (35, .iload_n 2, 1), (36, .iconst 4, 1), (37, .if_icmp .ge 16, 3), (40, .aload_n 0, 1), (41, .getfield 135, 3), (44, .iload_n 2, 1), (45, .iconst 0, 1), (46, .iastore, 1), (47, .iinc 2 1, 3), (50, .goto (-15), 3), (53, .iconst (-1), 1), (54, .istore_n 2, 1), (55, .iconst 1, 1), (56, .istore_n 3, 1), (57, .iload_n 3, 1), (58, .ifCond .eq 55, 3), (61, .aload_n 0, 1), (62, .invokevirtual 529, 3), (65, .istore 4, 2), (67, .iload 4, 2), (69, .iload_n 2, 1), (70, .if_icmp .le 35, 3), (73, .iload 4, 2), (75, .istore_n 2, 1), (76, .iconst 0, 1), (77, .istore 5, 2), (79, .iload 5, 2), (81, .iconst 4, 1), (82, .if_icmp .ge 23, 3), (85, .aload_n 0, 1), (86, .getfield 138, 3), (89, .iload 5, 2), (91, .aload_n 0, 1), (92, .getfield 135, 3), (95, .iload 5, 2), (97, .iaload, 1), (98, .iastore, 1), (99, .iinc 5 1, 3), (102, .goto (-23), 3), (105, .aload_n 0, 1), (106, .invokevirtual 532, 3), (109, .istore_n 3, 1), (110, .goto (-53), 3), (113, .iload_n 1, 1), (114, .iconst (-1), 1), (115, .if_icmp .ne 7, 3), (118, .iload_n 2, 1), (119, .goto 9, 3), (122, .aload_n 0, 1), (123, .getfield 138, 3), (126, .iload_n 1, 1), (127, .iaload, 1), (128, .ireturn, 1)]
theorem d_X11_rule : gt_dok cX11_rule cs_X11_rule := gt_dok_of (by decide +kernel)
def cs_X11_letters : List gt_I := [(0, .aload_n 0, 1), (1, .iconst 0, 1), (2, .putfield 153, 3), (5, .aload_n 0, 1), (6, .getfield 135, 3), (9, .iconst 0, 1), (10, .iload_n 1, 1), (11, .iastore, 1), (12, .aload_n 0, 1), (13, .getfield 135, 3), (16, .iconst 1, 1), (17, .iload_n 2, 1), (18, .iastore, 1), (19, .aload_n 0, 1), (20, .getfield 135, 3), (23, .iconst 2, 1), (24, .iload_n 3, 1), (25, .iastore, 1), (26, .aload_n 0, 1), (27, .getfield 135, 3), (30, .iconst 3, 1), (31, .iload 4, 2), (33, .iastore, 1), (34, .iconst 1, 1), (35, .istore 5, 2), (37, .iconst 0, 1), (38, .istore 6, 2), (40, .iload 6, 2), (42, .iconst 4, 1), (43, .if_icmp .ge 89, 3), (46, .iload 6, 2), (48, .aload_n 0, 1), (49, .getfield 13, 3), (52, .iconst 0, 1), (53, .iaload, 1), (54, .if_icmp .ge 7, 3), (57, .iconst 1, 1), (58, .goto 4, 3), (61, .iconst 0, 1), (62, .istore 7, 2), (64, .iload 5, 2), (66, .ifCond .eq 57, 3), (69, .aload_n 0, 1), (70, .getfield 135, 3), (73, .iload 6, 2), (75, .iaload, 1), (76, .i2l, 1), (77, .iload 7, 2), (79, .ifCond .eq 21, 3), (82, .iload 6, 2), (84, .ifCond .le 16, 3), (87, .aload_n 0, 1), (88, .getfield 135, 3), (91, .iload 6, 2), (93, .iconst 1, 1), (94, .isub, 1), (95, .iaload, 1), (96, .i2l, 1), (97, .goto 4, 3), (100, .lconst 0, 1), (101, .iload 7, 2), (103, .ifCond .eq 9, 3), (106, .ldc2_w 287, 3), (109, .goto 4, 3), (112, .lconst 0, 1), (113, .invokestatic 163, 3), (116, .ifCond .eq 7, 3), (119, .iconst 1, 1), (120, .goto 4, 3), (123, .iconst 0, 1), (124, .istore 5, 2), (126, .iinc 6 1, 3), (129, .goto (-89), 3), (132, .iload 5, 2), (134, .ifCond .ne 5, 3), (137, .iconst (-1), 1), (138, .ireturn, 1), (139, .aload_n 0, 1), (140, .invokevirtual 442, 3), (143, .aload_n 0, 1), (144, .invokevirtual 529, 3), (147, .ireturn, 1)]
theorem d_X11_letters : gt_dok cX11_letters cs_X11_letters := gt_dok_of (by decide +kernel)
def cs_X11_goesOn : List gt_I := [(0, .aload_n 0, 1), (1, .getfield 141, 3), (4, .iload_n 1, 1), (5, .iaload, 1), (6, .istore_n 2, 1), (7, .aload_n 0, 1), (8, .getfield 535, 3), (11, .iload_n 2, 1), (12, .invokestatic 454, 3), (15, .isub, 1), (16, .istore_n 3, 1), (17, .aload_n 0, 1), (18, .getfield 538, 3), (21, .aload_n 0, 1), (22, .iload_n 1, 1), (23, .iload_n 2, 1), (24, .invokevirtual 480, 3), (27, .isub, 1), (28, .istore 4, 2), (30, .iload_n 2, 1), (31, .istore 5, 2), (33, .aload_n 0, 1), (34, .getfield 84, 3), (37, .aload_n 0, 1), (38, .getfield 81, 3), (41, .aload_n 0, 1), (42, .getfield 535, 3), (45, .iaload, 1), (46, .iaload, 1), (47, .aload_n 0, 1), (48, .getfield 538, 3), (51, .iadd, 1), (52, .istore 6, 2), (54, .iconst 0, 1), (55, .istore 7, 2), (57, .iload 7, 2), (59, .iconst 5, 1), (60, .if_icmp .ge 81, 3), (63, .aload_n 0, 1), (64, .iload_n 1, 1), (65, .iload 7, 2), (67, .invokevirtual 477, 3), (70, .ifCond .eq 65, 3), (73, .aload_n 0, 1), (74, .getfield 84, 3), (77, .aload_n 0, 1), (78, .getfield 81, 3), (81, .iload_n 3, 1), (82, .iload 7, 2), (84, .invokestatic 454, 3), (87, .iadd, 1), (88, .iaload, 1), (89, .iaload, 1), (90, .iload 4, 2), (92, .iadd, 1), (93, .aload_n 0, 1), (94, .iload_n 1, 1), (95, .iload 7, 2), (97, .invokevirtual 480, 3), (100, .iadd, 1), (101, .istore 8, 2), (103, .iload 8, 2), (105, .iload 6, 2), (107, .if_icmp .le 8, 3), (110, .iload 7, 2), (112, .goto 5, 3), (115, .iload 5, 2), (117, .istore 5, 2), (119, .iload 8, 2), (121, .iload 6, 2), (123, .if_icmp .le 8, 3), (126, .iload 8, 2), (128, .goto 5, 3), (131, .iload 6, 2), (133, .istore 6, 2), (135, .iinc 7 1, 3), (138, .goto (-81), 3), (141, .aload_n 0, 1), (142, .getfield 141, 3), (145, .iload_n 1, 1), (146, .iload 5, 2), (148, .iastore, 1), (149, .aload_n 0, 1), (150, .iload_n 3, 1), (151, .iload 5, 2), (153, .invokestatic 454, 3), (156, .iadd, 1), (157, .putfield 535, 3), (160, .aload_n 0, 1), (161, .iload 4, 2), (163, .aload_n 0, 1), (164, .iload_n 1, 1), (165, .iload 5, 2), (167, .invokevirtual 480, 3), (170, .iadd, 1), (171, .putfield 538, 3), (174, .iload 5, 2), (176, .iload_n 2, 1), (177, .if_icmp .eq 7, 3), (180, .iconst 1, 1), (181, .goto 4, 3), (184, .iconst 0, 1), (185, .ireturn, 1)]
theorem d_X11_goesOn : gt_dok cX11_goesOn cs_X11_goesOn := gt_dok_of (by decide +kernel)
def cs_X11_findRest : List gt_I := [(0, .aload_n 0, 1), (1, .invokevirtual 442, 3), (4, .aload_n 0, 1), (5, .iconst 0, 1), (6, .putfield 535, 3), (9, .aload_n 0, 1), (10, .iconst 0, 1), (11, .putfield 538, 3), (14, .iconst 0, 1), (15, .istore_n 1, 1), (16, .iload_n 1, 1), (17, .aload_n 0, 1), (18, .getfield 13, 3), (21, .iconst 1, 1), (22, .iaload, 1), (23, .if_icmp .ge 88, 3), (26, .aload_n 0, 1), (27, .getfield 141, 3), (30, .iload_n 1, 1), (31, .iconst (-1), 1), (32, .iastore, 1), (33, .aload_n 0, 1), (34, .iload_n 1, 1), (35, .invokevirtual 208, 3), (38, .ifCond .eq 67, 3), (41, .aload_n 0, 1), (42, .getfield 141, 3), (45, .iload_n 1, 1), (46, .aload_n 0, 1), (47, .iload_n 1, 1), (48, .iconst 4, 1), (49, .invokevirtual 205, 3), (52, .iconst (-1), 1), (53, .if_icmp .ne 7, 3), (56, .iconst 4, 1), (57, .goto 9, 3), (60, .aload_n 0, 1), (61, .iload_n 1, 1), (62, .iconst 4, 1), (63, .invokevirtual 205, 3), (66, .iastore, 1), (67, .aload_n 0, 1), (68, .dup, 1), (69, .getfield 535, 3), (72, .aload_n 0, 1), (73, .getfield 141, 3), (76, .iload_n 1, 1), (77, .iaload, 1), (78, .invokestatic 454, 3), (81, .iadd, 1), (82, .putfield 535, 3), (85, .aload_n 0, 1), (86, .dup, 1), (87, .getfield 538, 3), (90, .aload_n 0, 1), (91, .iload_n 1, 1), (92, .aload_n 0, 1), (93, .getfield 141, 3), (96, .iload_n 1, 1), (97, .iaload, 1), (98, .invokevirtual 480, 3), (101, .iadd, 1), (102, .putfield 538, 3), (105, .iinc 1 1, 3), (108, .goto (-92), 3), (111, .aload_n 0, 1), (112, .iconst 0, 1), (113, .putfield 541, 3), (116, .iconst 1, 1), (117, .istore_n 1, 1), (118, .iload_n 1, 1), (119, .ifCond .eq 72, 3), (122, .aload_n 0, 1), (123, .getfield 541, 3), (126, .ldc_w 544, 3), (129, .if_icmp .ge 62, 3), (132, .iconst 0, 1), (133, .istore_n 1, 1), (134, .aload_n 0, 1), (135, .dup, 1), (136, .getfield 541, 3), (139, .iconst 1, 1), (140, .iadd, 1), (141, .putfield 541, 3), (144, .iconst 0, 1), (145, .istore_n 2, 1), (146, .iload_n 2, 1), (147, .aload_n 0, 1), (148, .getfield 13, 3), (151, .iconst 1, 1), (152, .iaload, 1), (153, .if_icmp .ge 35, 3), (156, .aload_n 0, 1), (157, .iload_n 2, 1), (158, .invokevirtual 208, 3), (161, .ifCond .eq 21, 3), (164, .aload_n 0, 1), (165, .iload_n 2, 1), (166, .invokevirtual 545, 3), (169, .ifCond .ne 7, 3), (172, .iload_n 1, 1), (173, .ifCond .eq 7, 3), (176, .iconst 1, 1), (177, .goto 4, 3), (180, .iconst 0, 1), (181, .istore_n 1, 1), (182, .iinc 2 1, 3), (185, .goto (-39), 3), (188, .goto (-70), 3), (191, .return_, 1)]
theorem d_X11_findRest : gt_dok cX11_findRest cs_X11_findRest := gt_dok_of (by decide +kernel)
def cs_X11_rest : List gt_I := [(0, .aload_n 0, 1), (1, .iconst 0, 1), (2, .putfield 153, 3), (5, .iload_n 1, 1), (6, .i2l, 1), (7, .lconst 0, 1), (8, .ldc2_w 493, 3), (11, .invokestatic 163, 3), (14, .ifCond .ne 5, 3), (17, .iconst (-1), 1), (18, .ireturn, 1), (19, .aload_n 0, 1), (20, .invokevirtual 548, 3), (23, .aload_n 0, 1), (24, .getfield 81, 3), (27, .aload_n 0, 1), (28, .getfield 535, 3), (31, .iaload, 1), (32, .istore_n 2, 1), (33, .iload_n 1, 1), (34, .ifCond .ne 17, 3), (37, .aload_n 0, 1), (38, .getfield 84, 3), (41, .iload_n 2, 1), (42, .iaload, 1), (43, .aload_n 0, 1), (44, .getfield 538, 3), (47, .iadd, 1), (48, .goto 35, 3), (51, .iload_n 1, 1), (52, .iconst 1, 1), (53, .if_icmp .ne 10, 3), (56, .aload_n 0, 1), (57, .getfield 541, 3), (60, .goto 23, 3), (63, .iload_n 1, 1), (64, .iconst 2, 1), (65, .if_icmp .ne 12, 3), (68, .aload_n 0, 1), (69, .getfield 87, 3), (72, .iload_n 2, 1), (73, .iaload, 1), (74, .goto 9, 3), (77, .aload_n 0, 1), (78, .getfield 90, 3), (81, .iload_n 2, 1), (82, .iaload, 1), (83, .ireturn, 1)]
theorem d_X11_rest : gt_dok cX11_rest cs_X11_rest := gt_dok_of (by decide +kernel)
def cs_X11_find : List gt_I := [(0, .aload_n 0, 1), (1, .iconst 0, 1), (2, .putfield 153, 3), (5, .aload_n 0, 1), (6, .iload_n 1, 1), (7, .invokevirtual 202, 3), (10, .ifCond .ne 5, 3), (13, .iconst (-1), 1), (14, .ireturn, 1), (15, .aload_n 0, 1), (16, .invokevirtual 548, 3), (19, .aload_n 0, 1), (20, .getfield 141, 3), (23, .iload_n 1, 1), (24, .iaload, 1), (25, .ireturn, 1)]
theorem d_X11_find : gt_dok cX11_find cs_X11_find := gt_dok_of (by decide +kernel)
def cs_X11_draw : List gt_I := [(0, .aload_n 0, 1), (1, .aload_n 0, 1), (2, .getfield 551, 3), (5, .ldc2_w 554, 3), (8, .lmul, 1), (9, .ldc2_w 556, 3), (12, .ladd, 1), (13, .ldc2_w 558, 3), (16, .lrem, 1), (17, .putfield 551, 3), (20, .aload_n 0, 1), (21, .getfield 551, 3), (24, .iload_n 1, 1), (25, .i2l, 1), (26, .lrem, 1), (27, .l2i, 1), (28, .ireturn, 1)]
theorem d_X11_draw : gt_dok cX11_draw cs_X11_draw := gt_dok_of (by decide +kernel)
def cs_X11_best : List gt_I := [(0, .iconst (-1), 1), (1, .istore_n 3, 1), (2, .iconst 0, 1), (3, .istore 4, 2), (5, .iconst 0, 1), (6, .istore 5, 2), (8, .iload 5, 2), (10, .iconst 5, 1), (11, .if_icmp .ge 82, 3), (14, .iload 5, 2), (16, .iconst 4, 1), (17, .if_icmp .eq 24, 3), (20, .iload 5, 2), (22, .aload_n 0, 1), (23, .getfield 13, 3), (26, .iconst 0, 1), (27, .iaload, 1), (28, .if_icmp .ge 59, 3), (31, .aload_n 0, 1), (32, .iload_n 1, 1), (33, .iload 5, 2), (35, .invokevirtual 400, 3), (38, .ifCond .eq 49, 3), (41, .aload_n 0, 1), (42, .getfield 84, 3), (45, .aload_n 0, 1), (46, .getfield 81, 3), (49, .iload_n 2, 1), (50, .iload 5, 2), (52, .invokestatic 454, 3), (55, .iadd, 1), (56, .iaload, 1), (57, .iaload, 1), (58, .aload_n 0, 1), (59, .iload_n 1, 1), (60, .iload 5, 2), (62, .invokevirtual 480, 3), (65, .iadd, 1), (66, .istore 6, 2), (68, .iload_n 3, 1), (69, .iconst (-1), 1), (70, .if_icmp .eq 10, 3), (73, .iload 6, 2), (75, .iload 4, 2), (77, .if_icmp .le 10, 3), (80, .iload 5, 2), (82, .istore_n 3, 1), (83, .iload 6, 2), (85, .istore 4, 2), (87, .iinc 5 1, 3), (90, .goto (-82), 3), (93, .iload_n 3, 1), (94, .ireturn, 1)]
theorem d_X11_best : gt_dok cX11_best cs_X11_best := gt_dok_of (by decide +kernel)
def cs_X11_drawnBy : List gt_I := [(0, .aload_n 0, 1), (1, .aload_n 0, 1), (2, .iload_n 1, 1), (3, .iconst (-1), 1), (4, .iconst 0, 1), (5, .invokevirtual 409, 3), (8, .invokevirtual 560, 3), (11, .istore_n 2, 1), (12, .iconst 0, 1), (13, .istore_n 3, 1), (14, .iload_n 2, 1), (15, .aload_n 0, 1), (16, .getfield 75, 3), (19, .iload_n 3, 1), (20, .iaload, 1), (21, .if_icmp .lt 18, 3), (24, .iload_n 2, 1), (25, .aload_n 0, 1), (26, .getfield 75, 3), (29, .iload_n 3, 1), (30, .iaload, 1), (31, .isub, 1), (32, .istore_n 2, 1), (33, .iinc 3 1, 3), (36, .goto (-22), 3), (39, .iload_n 3, 1), (40, .ireturn, 1)]
theorem d_X11_drawnBy : gt_dok cX11_drawnBy cs_X11_drawnBy := gt_dok_of (by decide +kernel)
def cs_X11_drawAll : List gt_I := [(0, .aload_n 0, 1), (1, .invokevirtual 442, 3), (4, .iconst 0, 1), (5, .istore_n 1, 1), (6, .aload_n 0, 1), (7, .iconst 0, 1), (8, .putfield 563, 3), (11, .aload_n 0, 1), (12, .iconst 0, 1), (13, .putfield 566, 3), (16, .iconst 0, 1), (17, .istore_n 2, 1), (18, .iload_n 2, 1), (19, .aload_n 0, 1), (20, .getfield 13, 3), (23, .iconst 1, 1), (24, .iaload, 1), (25, .if_icmp .ge 133, 3), (28, .aload_n 0, 1), (29, .getfield 150, 3), (32, .iload_n 2, 1), (33, .iconst (-1), 1), (34, .iastore, 1), (35, .aload_n 0, 1), (36, .iload_n 2, 1), (37, .invokevirtual 208, 3), (40, .ifCond .eq 112, 3), (43, .aload_n 0, 1), (44, .iload_n 2, 1), (45, .iconst 4, 1), (46, .invokevirtual 205, 3), (49, .istore_n 3, 1), (50, .aload_n 0, 1), (51, .iload_n 2, 1), (52, .iconst 5, 1), (53, .invokevirtual 205, 3), (56, .iconst 1, 1), (57, .if_icmp .ne 7, 3), (60, .iconst 1, 1), (61, .goto 4, 3), (64, .iconst 0, 1), (65, .istore 4, 2), (67, .iload_n 3, 1), (68, .iconst (-1), 1), (69, .if_icmp .eq 7, 3), (72, .iload_n 3, 1), (73, .goto 22, 3), (76, .iload 4, 2), (78, .ifCond .eq 12, 3), (81, .aload_n 0, 1), (82, .iload_n 2, 1), (83, .iload_n 1, 1), (84, .invokevirtual 569, 3), (87, .goto 8, 3), (90, .aload_n 0, 1), (91, .iload_n 2, 1), (92, .invokevirtual 572, 3), (95, .istore 5, 2), (97, .aload_n 0, 1), (98, .getfield 150, 3), (101, .iload_n 2, 1), (102, .iload 5, 2), (104, .iastore, 1), (105, .aload_n 0, 1), (106, .dup, 1), (107, .getfield 563, 3), (110, .iload 5, 2), (112, .invokestatic 454, 3), (115, .iadd, 1), (116, .putfield 563, 3), (119, .aload_n 0, 1), (120, .dup, 1), (121, .getfield 566, 3), (124, .aload_n 0, 1), (125, .iload_n 2, 1), (126, .iload 5, 2), (128, .invokevirtual 480, 3), (131, .iadd, 1), (132, .putfield 566, 3), (135, .iload_n 1, 1), (136, .iload 4, 2), (138, .ifCond .eq 11, 3), (141, .iload 5, 2), (143, .invokestatic 454, 3), (146, .goto 4, 3), (149, .iconst 0, 1), (150, .iadd, 1), (151, .istore_n 1, 1), (152, .iinc 2 1, 3), (155, .goto (-137), 3), (158, .aload_n 0, 1), (159, .getfield 84, 3), (162, .aload_n 0, 1), (163, .getfield 81, 3), (166, .aload_n 0, 1), (167, .getfield 563, 3), (170, .iaload, 1), (171, .iaload, 1), (172, .aload_n 0, 1), (173, .getfield 566, 3), (176, .iadd, 1), (177, .ireturn, 1)]
theorem d_X11_drawAll : gt_dok cX11_drawAll cs_X11_drawAll := gt_dok_of (by decide +kernel)
def cs_X11_wed : List gt_I := [(0, .aload_n 0, 1), (1, .iconst 0, 1), (2, .putfield 153, 3), (5, .iload_n 1, 1), (6, .i2l, 1), (7, .lconst 0, 1), (8, .ldc2_w 258, 3), (11, .invokestatic 163, 3), (14, .ifCond .ne 9, 3), (17, .aload_n 0, 1), (18, .iconst (-1), 1), (19, .invokevirtual 167, 3), (22, .ireturn, 1), (23, .aload_n 0, 1), (24, .iload_n 1, 1), (25, .i2l, 1), (26, .putfield 551, 3), (29, .aload_n 0, 1), (30, .invokevirtual 575, 3), (33, .istore_n 2, 1), (34, .aload_n 0, 1), (35, .aload_n 0, 1), (36, .getfield 13, 3), (39, .iconst 1, 1), (40, .iaload, 1), (41, .putfield 147, 3), (44, .aload_n 0, 1), (45, .aload_n 0, 1), (46, .getfield 563, 3), (49, .putfield 578, 3), (52, .aload_n 0, 1), (53, .aload_n 0, 1), (54, .getfield 566, 3), (57, .putfield 581, 3), (60, .iconst 0, 1), (61, .istore_n 3, 1), (62, .iload_n 3, 1), (63, .bipush 12, 2), (65, .if_icmp .ge 33, 3), (68, .aload_n 0, 1), (69, .getfield 144, 3), (72, .iload_n 3, 1), (73, .iload_n 3, 1), (74, .aload_n 0, 1), (75, .getfield 147, 3), (78, .if_icmp .ge 12, 3), (81, .aload_n 0, 1), (82, .getfield 150, 3), (85, .iload_n 3, 1), (86, .iaload, 1), (87, .goto 4, 3), (90, .iconst (-1), 1), (91, .iastore, 1), (92, .iinc 3 1, 3), (95, .goto (-33), 3), (98, .aload_n 0, 1), (99, .iload_n 2, 1), (100, .invokevirtual 167, 3), (103, .ireturn, 1)]
theorem d_X11_wed : gt_dok cX11_wed cs_X11_wed := gt_dok_of (by decide +kernel)
def cs_X11_had : List gt_I := [(0, .aload_n 0, 1), (1, .iconst 0, 1), (2, .putfield 153, 3), (5, .aload_n 0, 1), (6, .getfield 147, 3), (9, .iconst (-1), 1), (10, .if_icmp .eq 15, 3), (13, .iload_n 1, 1), (14, .i2l, 1), (15, .lconst 0, 1), (16, .ldc2_w 504, 3), (19, .invokestatic 163, 3), (22, .ifCond .ne 5, 3), (25, .iconst (-1), 1), (26, .ireturn, 1), (27, .iload_n 1, 1), (28, .iconst 4, 1), (29, .if_icmp .ne 10, 3), (32, .aload_n 0, 1), (33, .getfield 581, 3), (36, .goto 11, 3), (39, .aload_n 0, 1), (40, .getfield 578, 3), (43, .iload_n 1, 1), (44, .invokestatic 415, 3), (47, .ireturn, 1)]
theorem d_X11_had : gt_dok cX11_had cs_X11_had := gt_dok_of (by decide +kernel)
def cs_X11_brought : List gt_I := [(0, .aload_n 0, 1), (1, .iconst 0, 1), (2, .putfield 153, 3), (5, .iload_n 1, 1), (6, .i2l, 1), (7, .lconst 0, 1), (8, .aload_n 0, 1), (9, .getfield 147, 3), (12, .i2l, 1), (13, .lconst 1, 1), (14, .lsub, 1), (15, .invokestatic 163, 3), (18, .ifCond .eq 12, 3), (21, .aload_n 0, 1), (22, .getfield 144, 3), (25, .iload_n 1, 1), (26, .iaload, 1), (27, .goto 4, 3), (30, .iconst (-1), 1), (31, .ireturn, 1)]
theorem d_X11_brought : gt_dok cX11_brought cs_X11_brought := gt_dok_of (by decide +kernel)
def cs_X11_round : List gt_I := [(0, .aload_n 0, 1), (1, .iconst 0, 1), (2, .putfield 153, 3), (5, .iload_n 1, 1), (6, .i2l, 1), (7, .lconst 1, 1), (8, .ldc2_w 188, 3), (11, .invokestatic 163, 3), (14, .ifCond .eq 15, 3), (17, .iload_n 2, 1), (18, .i2l, 1), (19, .lconst 0, 1), (20, .ldc2_w 258, 3), (23, .invokestatic 163, 3), (26, .ifCond .ne 5, 3), (29, .iconst (-1), 1), (30, .ireturn, 1), (31, .aload_n 0, 1), (32, .iload_n 2, 1), (33, .i2l, 1), (34, .putfield 551, 3), (37, .iconst 0, 1), (38, .istore_n 3, 1), (39, .iconst 0, 1), (40, .istore 4, 2), (42, .iload 4, 2), (44, .iload_n 1, 1), (45, .if_icmp .ge 16, 3), (48, .iload_n 3, 1), (49, .aload_n 0, 1), (50, .invokevirtual 575, 3), (53, .iadd, 1), (54, .istore_n 3, 1), (55, .iinc 4 1, 3), (58, .goto (-16), 3), (61, .iload_n 3, 1), (62, .ireturn, 1)]
theorem d_X11_round : gt_dok cX11_round cs_X11_round := gt_dok_of (by decide +kernel)
def cs_X11_change_ : List gt_I := [(0, .aload_n 0, 1), (1, .iconst 0, 1), (2, .putfield 153, 3), (5, .aload_n 0, 1), (6, .iload_n 1, 1), (7, .iload_n 2, 1), (8, .iload_n 3, 1), (9, .iload 4, 2), (11, .invokevirtual 425, 3), (14, .ifCond .eq 29, 3), (17, .iload 5, 2), (19, .i2l, 1), (20, .lconst 0, 1), (21, .ldc2_w 188, 3), (24, .invokestatic 163, 3), (27, .ifCond .eq 16, 3), (30, .iload 6, 2), (32, .i2l, 1), (33, .lconst 0, 1), (34, .ldc2_w 428, 3), (37, .invokestatic 163, 3), (40, .ifCond .ne 5, 3), (43, .iconst (-1), 1), (44, .ireturn, 1), (45, .sipush 2197, 3), (48, .iload_n 1, 1), (49, .imul, 1), (50, .sipush 169, 3), (53, .iload_n 2, 1), (54, .imul, 1), (55, .iadd, 1), (56, .bipush 13, 2), (58, .iload_n 3, 1), (59, .imul, 1), (60, .iadd, 1), (61, .iload 4, 2), (63, .iadd, 1), (64, .istore 7, 2), (66, .aload_n 0, 1), (67, .iload 7, 2), (69, .invokevirtual 418, 3), (72, .istore 8, 2), (74, .iconst 0, 1), (75, .istore 9, 2), (77, .iconst (-1), 1), (78, .istore 10, 2), (80, .iconst (-1), 1), (81, .istore 11, 2), (83, .iconst 0, 1), (84, .istore 12, 2), (86, .iload 12, 2), (88, .aload_n 0, 1), (89, .getfield 13, 3), (92, .iconst 0, 1), (93, .iaload, 1), (94, .if_icmp .ge 167, 3), (97, .iconst 0, 1), (98, .istore 13, 2), (100, .iload 13, 2), (102, .aload_n 0, 1), (103, .getfield 13, 3), (106, .iconst 0, 1), (107, .iaload, 1), (108, .if_icmp .ge 147, 3), (111, .iload 12, 2), (113, .iload 13, 2), (115, .if_icmp .eq 41, 3), (118, .iload 7, 2), (120, .iload 12, 2), (122, .invokestatic 415, 3), (125, .aload_n 0, 1), (126, .iload 12, 2), (128, .iconst 0, 1), (129, .invokevirtual 391, 3), (132, .if_icmp .le 24, 3), (135, .iload 7, 2), (137, .iload 13, 2), (139, .invokestatic 415, 3), (142, .aload_n 0, 1), (143, .iload 13, 2), (145, .iconst 0, 1), (146, .invokevirtual 391, 3), (149, .if_icmp .ge 7, 3), (152, .iconst 1, 1), (153, .goto 4, 3), (156, .iconst 0, 1), (157, .istore 14, 2), (159, .iload 14, 2), (161, .ifCond .eq 88, 3), (164, .aload_n 0, 1), (165, .iload 7, 2), (167, .iload 12, 2), (169, .invokestatic 412, 3), (172, .isub, 1), (173, .iload 13, 2), (175, .invokestatic 412, 3), (178, .iadd, 1), (179, .invokevirtual 418, 3), (182, .aload_n 0, 1), (183, .iload 12, 2), (185, .iconst 1, 1), (186, .invokevirtual 391, 3), (189, .iload 5, 2), (191, .imul, 1), (192, .bipush 100, 2), (194, .idiv, 1), (195, .isub, 1), (196, .iload 8, 2), (198, .isub, 1), (199, .istore 15, 2), (201, .iload 15, 2), (203, .iload 9, 2), (205, .if_icmp .le 8, 3), (208, .iload 12, 2), (210, .goto 5, 3), (213, .iload 10, 2), (215, .istore 10, 2), (217, .iload 15, 2), (219, .iload 9, 2), (221, .if_icmp .le 8, 3), (224, .iload 13, 2), (226, .goto 5, 3), (229, .iload 11, 2), (231, .istore 11, 2), (233, .iload 15, 2), (235, .iload 9, 2), (237, .if_icmp .le 8, 3), (240, .iload 15, 2), (242, .goto 5, 3), (245, .iload 9, 2), (247, .istore 9, 2), (249, .iinc 13 1, 3), (252, .goto (-152), 3), (255, .iinc 12 1, 3), (258, .goto (-172), 3), (261, .iload 6, 2), (263, .ifCond .ne 8, 3), (266, .iload 9, 2), (268, .goto 16, 3), (271, .iload 6, 2), (273, .iconst 1, 1), (274, .if_icmp .ne 8, 3), (277, .iload 10, 2), (279, .goto 5, 3), (282, .iload 11, 2), (284, .ireturn, 1)]
theorem d_X11_change_ : gt_dok cX11_change_ cs_X11_change_ := gt_dok_of (by decide +kernel)
def cs_X11_likedBy : List gt_I := [(0, .aload_n 0, 1), (1, .iload_n 1, 1), (2, .iconst (-1), 1), (3, .iconst 0, 1), (4, .invokevirtual 409, 3), (7, .istore_n 2, 1), (8, .iconst (-1), 1), (9, .istore_n 3, 1), (10, .iconst 0, 1), (11, .istore 4, 2), (13, .iconst 0, 1), (14, .istore 5, 2), (16, .iload 5, 2), (18, .aload_n 0, 1), (19, .getfield 13, 3), (22, .iconst 0, 1), (23, .iaload, 1), (24, .if_icmp .ge 54, 3), (27, .aload_n 0, 1), (28, .getfield 75, 3), (31, .iload 5, 2), (33, .iaload, 1), (34, .iload 4, 2), (36, .if_icmp .le 8, 3), (39, .iload 5, 2), (41, .goto 4, 3), (44, .iload_n 3, 1), (45, .istore_n 3, 1), (46, .aload_n 0, 1), (47, .getfield 75, 3), (50, .iload 5, 2), (52, .iaload, 1), (53, .iload 4, 2), (55, .if_icmp .le 13, 3), (58, .aload_n 0, 1), (59, .getfield 75, 3), (62, .iload 5, 2), (64, .iaload, 1), (65, .goto 5, 3), (68, .iload 4, 2), (70, .istore 4, 2), (72, .iinc 5 1, 3), (75, .goto (-59), 3), (78, .iload_n 3, 1), (79, .ireturn, 1)]
theorem d_X11_likedBy : gt_dok cX11_likedBy cs_X11_likedBy := gt_dok_of (by decide +kernel)
def cs_X11_sure : List gt_I := [(0, .aload_n 0, 1), (1, .iconst 0, 1), (2, .putfield 153, 3), (5, .iload_n 1, 1), (6, .i2l, 1), (7, .lconst 0, 1), (8, .lconst 1, 1), (9, .invokestatic 163, 3), (12, .ifCond .ne 5, 3), (15, .iconst (-1), 1), (16, .ireturn, 1), (17, .iconst (-1), 1), (18, .istore_n 2, 1), (19, .iconst 0, 1), (20, .istore_n 3, 1), (21, .iconst 0, 1), (22, .istore 4, 2), (24, .iload 4, 2), (26, .aload_n 0, 1), (27, .getfield 13, 3), (30, .iconst 0, 1), (31, .iaload, 1), (32, .if_icmp .ge 99, 3), (35, .iconst 0, 1), (36, .istore 5, 2), (38, .iconst 0, 1), (39, .istore 6, 2), (41, .iload 6, 2), (43, .aload_n 0, 1), (44, .getfield 13, 3), (47, .iconst 1, 1), (48, .iaload, 1), (49, .if_icmp .ge 50, 3), (52, .iload 5, 2), (54, .aload_n 0, 1), (55, .iload 6, 2), (57, .invokevirtual 208, 3), (60, .ifCond .eq 29, 3), (63, .aload_n 0, 1), (64, .iload 6, 2), (66, .iconst 4, 1), (67, .invokevirtual 205, 3), (70, .iconst (-1), 1), (71, .if_icmp .ne 18, 3), (74, .aload_n 0, 1), (75, .iload 6, 2), (77, .invokevirtual 584, 3), (80, .iload 4, 2), (82, .if_icmp .ne 7, 3), (85, .iconst 1, 1), (86, .goto 4, 3), (89, .iconst 0, 1), (90, .iadd, 1), (91, .istore 5, 2), (93, .iinc 6 1, 3), (96, .goto (-55), 3), (99, .iload 5, 2), (101, .iload_n 3, 1), (102, .if_icmp .le 8, 3), (105, .iload 4, 2), (107, .goto 4, 3), (110, .iload_n 2, 1), (111, .istore_n 2, 1), (112, .iload 5, 2), (114, .iload_n 3, 1), (115, .if_icmp .le 8, 3), (118, .iload 5, 2), (120, .goto 4, 3), (123, .iload_n 3, 1), (124, .istore_n 3, 1), (125, .iinc 4 1, 3), (128, .goto (-104), 3), (131, .iload_n 2, 1), (132, .iconst (-1), 1), (133, .if_icmp .ne 7, 3), (136, .iconst (-1), 1), (137, .goto 12, 3), (140, .iload_n 1, 1), (141, .ifCond .ne 7, 3), (144, .iload_n 2, 1), (145, .goto 4, 3), (148, .iload_n 3, 1), (149, .ireturn, 1)]
theorem d_X11_sure : gt_dok cX11_sure cs_X11_sure := gt_dok_of (by decide +kernel)
def cs_X11_count : List gt_I := [(0, .aload_n 0, 1), (1, .iconst 0, 1), (2, .putfield 153, 3), (5, .iload_n 1, 1), (6, .tableswitch 121 0 9 #[54, 61, 68, 75, 80, 85, 92, 99, 106, 113], 54), (60, .aload_n 0, 1), (61, .getfield 13, 3), (64, .iconst 0, 1), (65, .iaload, 1), (66, .ireturn, 1), (67, .aload_n 0, 1), (68, .getfield 13, 3), (71, .iconst 1, 1), (72, .iaload, 1), (73, .ireturn, 1), (74, .aload_n 0, 1), (75, .getfield 13, 3), (78, .iconst 2, 1), (79, .iaload, 1), (80, .ireturn, 1), (81, .aload_n 0, 1), (82, .invokevirtual 394, 3), (85, .ireturn, 1), (86, .aload_n 0, 1), (87, .getfield 216, 3), (90, .ireturn, 1), (91, .aload_n 0, 1), (92, .getfield 7, 3), (95, .iconst 1, 1), (96, .iaload, 1), (97, .ireturn, 1), (98, .aload_n 0, 1), (99, .getfield 7, 3), (102, .iconst 2, 1), (103, .iaload, 1), (104, .ireturn, 1), (105, .aload_n 0, 1), (106, .getfield 7, 3), (109, .iconst 3, 1), (110, .iaload, 1), (111, .ireturn, 1), (112, .aload_n 0, 1), (113, .getfield 7, 3), (116, .iconst 5, 1), (117, .iaload, 1), (118, .ireturn, 1), (119, .aload_n 0, 1), (120, .getfield 7, 3), (123, .bipush 6, 2), (125, .iaload, 1), (126, .ireturn, 1), (127, .iconst (-1), 1), (128, .ireturn, 1)]
theorem d_X11_count : gt_dok cX11_count cs_X11_count := gt_dok_of (by decide +kernel)
def cs_X11_status : List gt_I := [(0, .aload_n 0, 1), (1, .iconst 0, 1), (2, .putfield 153, 3), (5, .aload_n 0, 1), (6, .getfield 156, 3), (9, .ireturn, 1)]
theorem d_X11_status : gt_dok cX11_status cs_X11_status := gt_dok_of (by decide +kernel)
end
section
theorem wi_GiftTable : Cond.initialized "GiftTable" ∈ gt_T := gt_t1 1 rfl rfl
theorem wi_GiftTable_Blind : Cond.initialized "GiftTable$Blind" ∈ gt_T := gt_t1 9 rfl rfl
theorem wi_GiftTable_Heaps : Cond.initialized "GiftTable$Heaps" ∈ gt_T := gt_t1 5 rfl rfl
theorem wi_GiftTable_Mean : Cond.initialized "GiftTable$Mean" ∈ gt_T := gt_t1 7 rfl rfl
theorem wi_GiftTable_Party : Cond.initialized "GiftTable$Party" ∈ gt_T := gt_t1 6 rfl rfl
theorem wi_GiftTable_Quiet : Cond.initialized "GiftTable$Quiet" ∈ gt_T := gt_t1 10 rfl rfl
theorem wi_GiftTable_Reader : Cond.initialized "GiftTable$Reader" ∈ gt_T := gt_t1 4 rfl rfl
theorem wi_GiftTable_State : Cond.initialized "GiftTable$State" ∈ gt_T := gt_t1 2 rfl rfl
theorem wi_GiftTable_Text : Cond.initialized "GiftTable$Text" ∈ gt_T := gt_t1 18 rfl rfl
theorem wi_GiftTable_Together : Cond.initialized "GiftTable$Together" ∈ gt_T := gt_t1 8 rfl rfl
theorem wi_GiftTable_Wedding : Cond.initialized "GiftTable$Wedding" ∈ gt_T := gt_t1 11 rfl rfl
theorem wi_GiftTableModel : Cond.initialized "GiftTableModel" ∈ gt_T := gt_t1 12 rfl rfl
theorem wi_java_lang_Math : Cond.initialized "java/lang/Math" ∈ gt_T := gt_t1 17 rfl rfl
theorem wi_java_lang_System : Cond.initialized "java/lang/System" ∈ gt_T := gt_t1 19 rfl rfl
theorem wi_java_util_Arrays : Cond.initialized "java/util/Arrays" ∈ gt_T := gt_t1 3 rfl rfl
theorem cw_X0_work : Cond.code yX0_work cX0_work 8 none ∈ gt_T := gt_t5 137 rfl rfl
theorem im_X0_work : Cond.instanceMethod yX0_work ∈ gt_T := gt_t5 135 rfl rfl
theorem sl_X0_work : Cond.selects yX0_work.cls yX0_work yX0_work ∈ gt_T := gt_t5 136 rfl rfl
theorem pd_X0_work : yX0_work.cls ≠ "java/lang/invoke/MethodHandle" ∧ yX0_work.cls ≠ "java/lang/invoke/VarHandle" ∧ (parseMethodDescriptor yX0_work.desc).map (fun d => d.parameters.length) = some 4 := by decide +kernel
theorem cw_X0_tenthsOf : Cond.code yX0_tenthsOf cX0_tenthsOf 3 (some .int) ∈ gt_T := gt_t5 182 rfl rfl
theorem im_X0_tenthsOf : Cond.instanceMethod yX0_tenthsOf ∈ gt_T := gt_t5 180 rfl rfl
theorem sl_X0_tenthsOf : Cond.selects yX0_tenthsOf.cls yX0_tenthsOf yX0_tenthsOf ∈ gt_T := gt_t5 181 rfl rfl
theorem pd_X0_tenthsOf : yX0_tenthsOf.cls ≠ "java/lang/invoke/MethodHandle" ∧ yX0_tenthsOf.cls ≠ "java/lang/invoke/VarHandle" ∧ (parseMethodDescriptor yX0_tenthsOf.desc).map (fun d => d.parameters.length) = some 2 := by decide +kernel
theorem cw_X0_shapeLevels : Cond.code yX0_shapeLevels cX0_shapeLevels 6 none ∈ gt_T := gt_t5 141 rfl rfl
theorem im_X0_shapeLevels : Cond.instanceMethod yX0_shapeLevels ∈ gt_T := gt_t5 140 rfl rfl
theorem sl_X0_shapeLevels : Cond.selects yX0_shapeLevels.cls yX0_shapeLevels yX0_shapeLevels ∈ gt_T := gt_p3 9 rfl
theorem pd_X0_shapeLevels : yX0_shapeLevels.cls ≠ "java/lang/invoke/MethodHandle" ∧ yX0_shapeLevels.cls ≠ "java/lang/invoke/VarHandle" ∧ (parseMethodDescriptor yX0_shapeLevels.desc).map (fun d => d.parameters.length) = some 0 := by decide +kernel
theorem cw_X0_monomial : Cond.code yX0_monomial cX0_monomial 3 (some .int) ∈ gt_T := gt_t5 144 rfl rfl
theorem st_X0_monomial : Cond.static yX0_monomial ∈ gt_T := gt_t5 143 rfl rfl
theorem pd_X0_monomial : yX0_monomial.cls ≠ "java/lang/invoke/MethodHandle" ∧ yX0_monomial.cls ≠ "java/lang/invoke/VarHandle" ∧ (parseMethodDescriptor yX0_monomial.desc).map (fun d => d.parameters.length) = some 3 := by decide +kernel
theorem cw_X0_degree : Cond.code yX0_degree cX0_degree 1 (some .int) ∈ gt_T := gt_t5 147 rfl rfl
theorem st_X0_degree : Cond.static yX0_degree ∈ gt_T := gt_t5 146 rfl rfl
theorem pd_X0_degree : yX0_degree.cls ≠ "java/lang/invoke/MethodHandle" ∧ yX0_degree.cls ≠ "java/lang/invoke/VarHandle" ∧ (parseMethodDescriptor yX0_degree.desc).map (fun d => d.parameters.length) = some 1 := by decide +kernel
theorem cw_X0_powerOf : Cond.code yX0_powerOf cX0_powerOf 2 (some .int) ∈ gt_T := gt_t5 157 rfl rfl
theorem st_X0_powerOf : Cond.static yX0_powerOf ∈ gt_T := gt_t5 156 rfl rfl
theorem pd_X0_powerOf : yX0_powerOf.cls ≠ "java/lang/invoke/MethodHandle" ∧ yX0_powerOf.cls ≠ "java/lang/invoke/VarHandle" ∧ (parseMethodDescriptor yX0_powerOf.desc).map (fun d => d.parameters.length) = some 2 := by decide +kernel
theorem cw_X0_countHeaps : Cond.code yX0_countHeaps cX0_countHeaps 8 none ∈ gt_T := gt_t5 151 rfl rfl
theorem im_X0_countHeaps : Cond.instanceMethod yX0_countHeaps ∈ gt_T := gt_t5 150 rfl rfl
theorem sl_X0_countHeaps : Cond.selects yX0_countHeaps.cls yX0_countHeaps yX0_countHeaps ∈ gt_T := gt_p3 10 rfl
theorem pd_X0_countHeaps : yX0_countHeaps.cls ≠ "java/lang/invoke/MethodHandle" ∧ yX0_countHeaps.cls ≠ "java/lang/invoke/VarHandle" ∧ (parseMethodDescriptor yX0_countHeaps.desc).map (fun d => d.parameters.length) = some 2 := by decide +kernel
theorem cw_X0_factorial : Cond.code yX0_factorial cX0_factorial 4 (some .long) ∈ gt_T := gt_t5 154 rfl rfl
theorem st_X0_factorial : Cond.static yX0_factorial ∈ gt_T := gt_t5 153 rfl rfl
theorem pd_X0_factorial : yX0_factorial.cls ≠ "java/lang/invoke/MethodHandle" ∧ yX0_factorial.cls ≠ "java/lang/invoke/VarHandle" ∧ (parseMethodDescriptor yX0_factorial.desc).map (fun d => d.parameters.length) = some 1 := by decide +kernel
theorem cw_X0_spread : Cond.code yX0_spread cX0_spread 4 none ∈ gt_T := gt_t5 163 rfl rfl
theorem im_X0_spread : Cond.instanceMethod yX0_spread ∈ gt_T := gt_t5 162 rfl rfl
theorem sl_X0_spread : Cond.selects yX0_spread.cls yX0_spread yX0_spread ∈ gt_T := gt_p3 11 rfl
theorem pd_X0_spread : yX0_spread.cls ≠ "java/lang/invoke/MethodHandle" ∧ yX0_spread.cls ≠ "java/lang/invoke/VarHandle" ∧ (parseMethodDescriptor yX0_spread.desc).map (fun d => d.parameters.length) = some 2 := by decide +kernel
theorem cw_X0_putFirst : Cond.code yX0_putFirst cX0_putFirst 6 none ∈ gt_T := gt_t5 167 rfl rfl
theorem im_X0_putFirst : Cond.instanceMethod yX0_putFirst ∈ gt_T := gt_t5 166 rfl rfl
theorem sl_X0_putFirst : Cond.selects yX0_putFirst.cls yX0_putFirst yX0_putFirst ∈ gt_T := gt_p3 12 rfl
theorem pd_X0_putFirst : yX0_putFirst.cls ≠ "java/lang/invoke/MethodHandle" ∧ yX0_putFirst.cls ≠ "java/lang/invoke/VarHandle" ∧ (parseMethodDescriptor yX0_putFirst.desc).map (fun d => d.parameters.length) = some 1 := by decide +kernel
theorem cw_X0_putIn : Cond.code yX0_putIn cX0_putIn 9 none ∈ gt_T := gt_t5 171 rfl rfl
theorem im_X0_putIn : Cond.instanceMethod yX0_putIn ∈ gt_T := gt_t5 170 rfl rfl
theorem sl_X0_putIn : Cond.selects yX0_putIn.cls yX0_putIn yX0_putIn ∈ gt_T := gt_p3 13 rfl
theorem pd_X0_putIn : yX0_putIn.cls ≠ "java/lang/invoke/MethodHandle" ∧ yX0_putIn.cls ≠ "java/lang/invoke/VarHandle" ∧ (parseMethodDescriptor yX0_putIn.desc).map (fun d => d.parameters.length) = some 2 := by decide +kernel
theorem cw_X0_compare : Cond.code yX0_compare cX0_compare 5 none ∈ gt_T := gt_t5 175 rfl rfl
theorem im_X0_compare : Cond.instanceMethod yX0_compare ∈ gt_T := gt_t5 174 rfl rfl
theorem sl_X0_compare : Cond.selects yX0_compare.cls yX0_compare yX0_compare ∈ gt_T := gt_p3 14 rfl
theorem pd_X0_compare : yX0_compare.cls ≠ "java/lang/invoke/MethodHandle" ∧ yX0_compare.cls ≠ "java/lang/invoke/VarHandle" ∧ (parseMethodDescriptor yX0_compare.desc).map (fun d => d.parameters.length) = some 1 := by decide +kernel
theorem cw_X1_weigh : Cond.code yX1_weigh cX1_weigh 6 none ∈ gt_T := gt_t4 195 rfl rfl
theorem im_X1_weigh : Cond.instanceMethod yX1_weigh ∈ gt_T := gt_t4 193 rfl rfl
theorem sl_X1_weigh : Cond.selects yX1_weigh.cls yX1_weigh yX1_weigh ∈ gt_T := gt_t4 194 rfl rfl
theorem pd_X1_weigh : yX1_weigh.cls ≠ "java/lang/invoke/MethodHandle" ∧ yX1_weigh.cls ≠ "java/lang/invoke/VarHandle" ∧ (parseMethodDescriptor yX1_weigh.desc).map (fun d => d.parameters.length) = some 2 := by decide +kernel
theorem cw_X1_makeUp : Cond.code yX1_makeUp cX1_makeUp 5 none ∈ gt_T := gt_t4 201 rfl rfl
theorem im_X1_makeUp : Cond.instanceMethod yX1_makeUp ∈ gt_T := gt_t4 200 rfl rfl
theorem sl_X1_makeUp : Cond.selects yX1_makeUp.cls yX1_makeUp yX1_makeUp ∈ gt_T := gt_p2 11 rfl
theorem pd_X1_makeUp : yX1_makeUp.cls ≠ "java/lang/invoke/MethodHandle" ∧ yX1_makeUp.cls ≠ "java/lang/invoke/VarHandle" ∧ (parseMethodDescriptor yX1_makeUp.desc).map (fun d => d.parameters.length) = some 2 := by decide +kernel
theorem cw_X1_findChange : Cond.code yX1_findChange cX1_findChange 8 none ∈ gt_T := gt_t6 55 rfl rfl
theorem im_X1_findChange : Cond.instanceMethod yX1_findChange ∈ gt_T := gt_t6 53 rfl rfl
theorem sl_X1_findChange : Cond.selects yX1_findChange.cls yX1_findChange yX1_findChange ∈ gt_T := gt_t6 54 rfl rfl
theorem pd_X1_findChange : yX1_findChange.cls ≠ "java/lang/invoke/MethodHandle" ∧ yX1_findChange.cls ≠ "java/lang/invoke/VarHandle" ∧ (parseMethodDescriptor yX1_findChange.desc).map (fun d => d.parameters.length) = some 3 := by decide +kernel
theorem cw_X1_tryChange : Cond.code yX1_tryChange cX1_tryChange 6 none ∈ gt_T := gt_t6 59 rfl rfl
theorem im_X1_tryChange : Cond.instanceMethod yX1_tryChange ∈ gt_T := gt_t6 58 rfl rfl
theorem sl_X1_tryChange : Cond.selects yX1_tryChange.cls yX1_tryChange yX1_tryChange ∈ gt_T := gt_p4 9 rfl
theorem pd_X1_tryChange : yX1_tryChange.cls ≠ "java/lang/invoke/MethodHandle" ∧ yX1_tryChange.cls ≠ "java/lang/invoke/VarHandle" ∧ (parseMethodDescriptor yX1_tryChange.desc).map (fun d => d.parameters.length) = some 5 := by decide +kernel
theorem cw_X1_after : Cond.code yX1_after cX1_after 4 (some .int) ∈ gt_T := gt_t5 32 rfl rfl
theorem im_X1_after : Cond.instanceMethod yX1_after ∈ gt_T := gt_t5 30 rfl rfl
theorem sl_X1_after : Cond.selects yX1_after.cls yX1_after yX1_after ∈ gt_T := gt_t5 31 rfl rfl
theorem pd_X1_after : yX1_after.cls ≠ "java/lang/invoke/MethodHandle" ∧ yX1_after.cls ≠ "java/lang/invoke/VarHandle" ∧ (parseMethodDescriptor yX1_after.desc).map (fun d => d.parameters.length) = some 2 := by decide +kernel
theorem cw_X1_price : Cond.code yX1_price cX1_price 5 none ∈ gt_T := gt_t4 222 rfl rfl
theorem im_X1_price : Cond.instanceMethod yX1_price ∈ gt_T := gt_t4 220 rfl rfl
theorem sl_X1_price : Cond.selects yX1_price.cls yX1_price yX1_price ∈ gt_T := gt_t4 221 rfl rfl
theorem pd_X1_price : yX1_price.cls ≠ "java/lang/invoke/MethodHandle" ∧ yX1_price.cls ≠ "java/lang/invoke/VarHandle" ∧ (parseMethodDescriptor yX1_price.desc).map (fun d => d.parameters.length) = some 3 := by decide +kernel
theorem cw_X1_shape : Cond.code yX1_shape cX1_shape 6 none ∈ gt_T := gt_t4 226 rfl rfl
theorem im_X1_shape : Cond.instanceMethod yX1_shape ∈ gt_T := gt_t4 225 rfl rfl
theorem sl_X1_shape : Cond.selects yX1_shape.cls yX1_shape yX1_shape ∈ gt_T := gt_p2 13 rfl
theorem pd_X1_shape : yX1_shape.cls ≠ "java/lang/invoke/MethodHandle" ∧ yX1_shape.cls ≠ "java/lang/invoke/VarHandle" ∧ (parseMethodDescriptor yX1_shape.desc).map (fun d => d.parameters.length) = some 1 := by decide +kernel
theorem cw_X1_grow : Cond.code yX1_grow cX1_grow 6 (some .int) ∈ gt_T := gt_t4 230 rfl rfl
theorem im_X1_grow : Cond.instanceMethod yX1_grow ∈ gt_T := gt_t4 229 rfl rfl
theorem sl_X1_grow : Cond.selects yX1_grow.cls yX1_grow yX1_grow ∈ gt_T := gt_p2 14 rfl
theorem pd_X1_grow : yX1_grow.cls ≠ "java/lang/invoke/MethodHandle" ∧ yX1_grow.cls ≠ "java/lang/invoke/VarHandle" ∧ (parseMethodDescriptor yX1_grow.desc).map (fun d => d.parameters.length) = some 3 := by decide +kernel
theorem cw_X2_work : Cond.code yX2_work cX2_work 6 none ∈ gt_T := gt_t4 236 rfl rfl
theorem im_X2_work : Cond.instanceMethod yX2_work ∈ gt_T := gt_t4 234 rfl rfl
theorem sl_X2_work : Cond.selects yX2_work.cls yX2_work yX2_work ∈ gt_T := gt_t4 235 rfl rfl
theorem pd_X2_work : yX2_work.cls ≠ "java/lang/invoke/MethodHandle" ∧ yX2_work.cls ≠ "java/lang/invoke/VarHandle" ∧ (parseMethodDescriptor yX2_work.desc).map (fun d => d.parameters.length) = some 3 := by decide +kernel
theorem cw_X2_addMoney : Cond.code yX2_addMoney cX2_addMoney 4 none ∈ gt_T := gt_t5 12 rfl rfl
theorem im_X2_addMoney : Cond.instanceMethod yX2_addMoney ∈ gt_T := gt_t5 11 rfl rfl
theorem sl_X2_addMoney : Cond.selects yX2_addMoney.cls yX2_addMoney yX2_addMoney ∈ gt_T := gt_p2 15 rfl
theorem pd_X2_addMoney : yX2_addMoney.cls ≠ "java/lang/invoke/MethodHandle" ∧ yX2_addMoney.cls ≠ "java/lang/invoke/VarHandle" ∧ (parseMethodDescriptor yX2_addMoney.desc).map (fun d => d.parameters.length) = some 2 := by decide +kernel
theorem cw_X2_addGifts : Cond.code yX2_addGifts cX2_addGifts 16 none ∈ gt_T := gt_t5 28 rfl rfl
theorem im_X2_addGifts : Cond.instanceMethod yX2_addGifts ∈ gt_T := gt_t5 27 rfl rfl
theorem sl_X2_addGifts : Cond.selects yX2_addGifts.cls yX2_addGifts yX2_addGifts ∈ gt_T := gt_p3 0 rfl
theorem pd_X2_addGifts : yX2_addGifts.cls ≠ "java/lang/invoke/MethodHandle" ∧ yX2_addGifts.cls ≠ "java/lang/invoke/VarHandle" ∧ (parseMethodDescriptor yX2_addGifts.desc).map (fun d => d.parameters.length) = some 3 := by decide +kernel
theorem cw_X2_carryAll : Cond.code yX2_carryAll cX2_carryAll 3 none ∈ gt_T := gt_t5 36 rfl rfl
theorem im_X2_carryAll : Cond.instanceMethod yX2_carryAll ∈ gt_T := gt_t5 35 rfl rfl
theorem sl_X2_carryAll : Cond.selects yX2_carryAll.cls yX2_carryAll yX2_carryAll ∈ gt_T := gt_p3 1 rfl
theorem pd_X2_carryAll : yX2_carryAll.cls ≠ "java/lang/invoke/MethodHandle" ∧ yX2_carryAll.cls ≠ "java/lang/invoke/VarHandle" ∧ (parseMethodDescriptor yX2_carryAll.desc).map (fun d => d.parameters.length) = some 1 := by decide +kernel
theorem cw_X2_meanOf : Cond.code yX2_meanOf cX2_meanOf 7 (some .int) ∈ gt_T := gt_t5 40 rfl rfl
theorem im_X2_meanOf : Cond.instanceMethod yX2_meanOf ∈ gt_T := gt_t5 39 rfl rfl
theorem sl_X2_meanOf : Cond.selects yX2_meanOf.cls yX2_meanOf yX2_meanOf ∈ gt_T := gt_p3 2 rfl
theorem pd_X2_meanOf : yX2_meanOf.cls ≠ "java/lang/invoke/MethodHandle" ∧ yX2_meanOf.cls ≠ "java/lang/invoke/VarHandle" ∧ (parseMethodDescriptor yX2_meanOf.desc).map (fun d => d.parameters.length) = some 3 := by decide +kernel
theorem cw_X2_lacking : Cond.code yX2_lacking cX2_lacking 5 (some .int) ∈ gt_T := gt_t5 61 rfl rfl
theorem im_X2_lacking : Cond.instanceMethod yX2_lacking ∈ gt_T := gt_t5 59 rfl rfl
theorem sl_X2_lacking : Cond.selects yX2_lacking.cls yX2_lacking yX2_lacking ∈ gt_T := gt_t5 60 rfl rfl
theorem pd_X2_lacking : yX2_lacking.cls ≠ "java/lang/invoke/MethodHandle" ∧ yX2_lacking.cls ≠ "java/lang/invoke/VarHandle" ∧ (parseMethodDescriptor yX2_lacking.desc).map (fun d => d.parameters.length) = some 2 := by decide +kernel
theorem cw_X2_quotient : Cond.code yX2_quotient cX2_quotient 3 (some .int) ∈ gt_T := gt_t5 44 rfl rfl
theorem im_X2_quotient : Cond.instanceMethod yX2_quotient ∈ gt_T := gt_t5 43 rfl rfl
theorem sl_X2_quotient : Cond.selects yX2_quotient.cls yX2_quotient yX2_quotient ∈ gt_T := gt_p3 3 rfl
theorem pd_X2_quotient : yX2_quotient.cls ≠ "java/lang/invoke/MethodHandle" ∧ yX2_quotient.cls ≠ "java/lang/invoke/VarHandle" ∧ (parseMethodDescriptor yX2_quotient.desc).map (fun d => d.parameters.length) = some 0 := by decide +kernel
theorem cw_X2_set : Cond.code yX2_set cX2_set 3 none ∈ gt_T := gt_t5 5 rfl rfl
theorem st_X2_set : Cond.static yX2_set ∈ gt_T := gt_t5 4 rfl rfl
theorem pd_X2_set : yX2_set.cls ≠ "java/lang/invoke/MethodHandle" ∧ yX2_set.cls ≠ "java/lang/invoke/VarHandle" ∧ (parseMethodDescriptor yX2_set.desc).map (fun d => d.parameters.length) = some 2 := by decide +kernel
theorem cw_X2_carry : Cond.code yX2_carry cX2_carry 2 none ∈ gt_T := gt_t5 20 rfl rfl
theorem st_X2_carry : Cond.static yX2_carry ∈ gt_T := gt_t5 19 rfl rfl
theorem pd_X2_carry : yX2_carry.cls ≠ "java/lang/invoke/MethodHandle" ∧ yX2_carry.cls ≠ "java/lang/invoke/VarHandle" ∧ (parseMethodDescriptor yX2_carry.desc).map (fun d => d.parameters.length) = some 1 := by decide +kernel
theorem cw_X2_multiply : Cond.code yX2_multiply cX2_multiply 3 none ∈ gt_T := gt_t5 17 rfl rfl
theorem st_X2_multiply : Cond.static yX2_multiply ∈ gt_T := gt_t5 16 rfl rfl
theorem pd_X2_multiply : yX2_multiply.cls ≠ "java/lang/invoke/MethodHandle" ∧ yX2_multiply.cls ≠ "java/lang/invoke/VarHandle" ∧ (parseMethodDescriptor yX2_multiply.desc).map (fun d => d.parameters.length) = some 2 := by decide +kernel
theorem cw_X2_add : Cond.code yX2_add cX2_add 3 none ∈ gt_T := gt_t5 24 rfl rfl
theorem st_X2_add : Cond.static yX2_add ∈ gt_T := gt_t5 23 rfl rfl
theorem pd_X2_add : yX2_add.cls ≠ "java/lang/invoke/MethodHandle" ∧ yX2_add.cls ≠ "java/lang/invoke/VarHandle" ∧ (parseMethodDescriptor yX2_add.desc).map (fun d => d.parameters.length) = some 2 := by decide +kernel
theorem cw_X2_subtract : Cond.code yX2_subtract cX2_subtract 3 none ∈ gt_T := gt_t5 50 rfl rfl
theorem st_X2_subtract : Cond.static yX2_subtract ∈ gt_T := gt_t5 49 rfl rfl
theorem pd_X2_subtract : yX2_subtract.cls ≠ "java/lang/invoke/MethodHandle" ∧ yX2_subtract.cls ≠ "java/lang/invoke/VarHandle" ∧ (parseMethodDescriptor yX2_subtract.desc).map (fun d => d.parameters.length) = some 2 := by decide +kernel
theorem cw_X2_halve : Cond.code yX2_halve cX2_halve 4 none ∈ gt_T := gt_t5 53 rfl rfl
theorem st_X2_halve : Cond.static yX2_halve ∈ gt_T := gt_t5 52 rfl rfl
theorem pd_X2_halve : yX2_halve.cls ≠ "java/lang/invoke/MethodHandle" ∧ yX2_halve.cls ≠ "java/lang/invoke/VarHandle" ∧ (parseMethodDescriptor yX2_halve.desc).map (fun d => d.parameters.length) = some 1 := by decide +kernel
theorem cw_X2_below : Cond.code yX2_below cX2_below 3 (some .boolean) ∈ gt_T := gt_t5 47 rfl rfl
theorem st_X2_below : Cond.static yX2_below ∈ gt_T := gt_t5 46 rfl rfl
theorem pd_X2_below : yX2_below.cls ≠ "java/lang/invoke/MethodHandle" ∧ yX2_below.cls ≠ "java/lang/invoke/VarHandle" ∧ (parseMethodDescriptor yX2_below.desc).map (fun d => d.parameters.length) = some 2 := by decide +kernel
theorem cw_X3_seat : Cond.code yX3_seat cX3_seat 4 none ∈ gt_T := gt_t4 129 rfl rfl
theorem im_X3_seat : Cond.instanceMethod yX3_seat ∈ gt_T := gt_t4 127 rfl rfl
theorem sl_X3_seat : Cond.selects yX3_seat.cls yX3_seat yX3_seat ∈ gt_T := gt_t4 128 rfl rfl
theorem pd_X3_seat : yX3_seat.cls ≠ "java/lang/invoke/MethodHandle" ∧ yX3_seat.cls ≠ "java/lang/invoke/VarHandle" ∧ (parseMethodDescriptor yX3_seat.desc).map (fun d => d.parameters.length) = some 2 := by decide +kernel
theorem cw_X3_seatGiver : Cond.code yX3_seatGiver cX3_seatGiver 5 none ∈ gt_T := gt_t4 134 rfl rfl
theorem im_X3_seatGiver : Cond.instanceMethod yX3_seatGiver ∈ gt_T := gt_t4 133 rfl rfl
theorem sl_X3_seatGiver : Cond.selects yX3_seatGiver.cls yX3_seatGiver yX3_seatGiver ∈ gt_T := gt_p2 5 rfl
theorem pd_X3_seatGiver : yX3_seatGiver.cls ≠ "java/lang/invoke/MethodHandle" ∧ yX3_seatGiver.cls ≠ "java/lang/invoke/VarHandle" ∧ (parseMethodDescriptor yX3_seatGiver.desc).map (fun d => d.parameters.length) = some 2 := by decide +kernel
theorem cw_X3_moneyBy : Cond.code yX3_moneyBy cX3_moneyBy 3 (some .int) ∈ gt_T := gt_t5 86 rfl rfl
theorem im_X3_moneyBy : Cond.instanceMethod yX3_moneyBy ∈ gt_T := gt_t5 84 rfl rfl
theorem sl_X3_moneyBy : Cond.selects yX3_moneyBy.cls yX3_moneyBy yX3_moneyBy ∈ gt_T := gt_t5 85 rfl rfl
theorem pd_X3_moneyBy : yX3_moneyBy.cls ≠ "java/lang/invoke/MethodHandle" ∧ yX3_moneyBy.cls ≠ "java/lang/invoke/VarHandle" ∧ (parseMethodDescriptor yX3_moneyBy.desc).map (fun d => d.parameters.length) = some 2 := by decide +kernel
theorem cw_X3_canBring : Cond.code yX3_canBring cX3_canBring 3 (some .boolean) ∈ gt_T := gt_t5 94 rfl rfl
theorem im_X3_canBring : Cond.instanceMethod yX3_canBring ∈ gt_T := gt_t5 92 rfl rfl
theorem sl_X3_canBring : Cond.selects yX3_canBring.cls yX3_canBring yX3_canBring ∈ gt_T := gt_t5 93 rfl rfl
theorem pd_X3_canBring : yX3_canBring.cls ≠ "java/lang/invoke/MethodHandle" ∧ yX3_canBring.cls ≠ "java/lang/invoke/VarHandle" ∧ (parseMethodDescriptor yX3_canBring.desc).map (fun d => d.parameters.length) = some 2 := by decide +kernel
theorem cw_X3_weightOf : Cond.code yX3_weightOf cX3_weightOf 7 (some .int) ∈ gt_T := gt_t4 147 rfl rfl
theorem im_X3_weightOf : Cond.instanceMethod yX3_weightOf ∈ gt_T := gt_t4 145 rfl rfl
theorem sl_X3_weightOf : Cond.selects yX3_weightOf.cls yX3_weightOf yX3_weightOf ∈ gt_T := gt_t4 146 rfl rfl
theorem pd_X3_weightOf : yX3_weightOf.cls ≠ "java/lang/invoke/MethodHandle" ∧ yX3_weightOf.cls ≠ "java/lang/invoke/VarHandle" ∧ (parseMethodDescriptor yX3_weightOf.desc).map (fun d => d.parameters.length) = some 4 := by decide +kernel
theorem cw_X3_clauseWeight : Cond.code yX3_clauseWeight cX3_clauseWeight 8 (some .int) ∈ gt_T := gt_t4 151 rfl rfl
theorem im_X3_clauseWeight : Cond.instanceMethod yX3_clauseWeight ∈ gt_T := gt_t4 150 rfl rfl
theorem sl_X3_clauseWeight : Cond.selects yX3_clauseWeight.cls yX3_clauseWeight yX3_clauseWeight ∈ gt_T := gt_p2 7 rfl
theorem pd_X3_clauseWeight : yX3_clauseWeight.cls ≠ "java/lang/invoke/MethodHandle" ∧ yX3_clauseWeight.cls ≠ "java/lang/invoke/VarHandle" ∧ (parseMethodDescriptor yX3_clauseWeight.desc).map (fun d => d.parameters.length) = some 4 := by decide +kernel
theorem cw_X3_fillChances : Cond.code yX3_fillChances cX3_fillChances 6 none ∈ gt_T := gt_t4 213 rfl rfl
theorem im_X3_fillChances : Cond.instanceMethod yX3_fillChances ∈ gt_T := gt_t4 211 rfl rfl
theorem sl_X3_fillChances : Cond.selects yX3_fillChances.cls yX3_fillChances yX3_fillChances ∈ gt_T := gt_t4 212 rfl rfl
theorem pd_X3_fillChances : yX3_fillChances.cls ≠ "java/lang/invoke/MethodHandle" ∧ yX3_fillChances.cls ≠ "java/lang/invoke/VarHandle" ∧ (parseMethodDescriptor yX3_fillChances.desc).map (fun d => d.parameters.length) = some 2 := by decide +kernel
theorem cw_X3_chanceSum : Cond.code yX3_chanceSum cX3_chanceSum 4 (some .int) ∈ gt_T := gt_t4 218 rfl rfl
theorem im_X3_chanceSum : Cond.instanceMethod yX3_chanceSum ∈ gt_T := gt_t4 216 rfl rfl
theorem sl_X3_chanceSum : Cond.selects yX3_chanceSum.cls yX3_chanceSum yX3_chanceSum ∈ gt_T := gt_t4 217 rfl rfl
theorem pd_X3_chanceSum : yX3_chanceSum.cls ≠ "java/lang/invoke/MethodHandle" ∧ yX3_chanceSum.cls ≠ "java/lang/invoke/VarHandle" ∧ (parseMethodDescriptor yX3_chanceSum.desc).map (fun d => d.parameters.length) = some 1 := by decide +kernel
theorem cw_X3_mostLiked : Cond.code yX3_mostLiked cX3_mostLiked 5 (some .int) ∈ gt_T := gt_t6 67 rfl rfl
theorem im_X3_mostLiked : Cond.instanceMethod yX3_mostLiked ∈ gt_T := gt_t6 65 rfl rfl
theorem sl_X3_mostLiked : Cond.selects yX3_mostLiked.cls yX3_mostLiked yX3_mostLiked ∈ gt_T := gt_t6 66 rfl rfl
theorem pd_X3_mostLiked : yX3_mostLiked.cls ≠ "java/lang/invoke/MethodHandle" ∧ yX3_mostLiked.cls ≠ "java/lang/invoke/VarHandle" ∧ (parseMethodDescriptor yX3_mostLiked.desc).map (fun d => d.parameters.length) = some 2 := by decide +kernel
theorem cw_X3_likedBest : Cond.code yX3_likedBest cX3_likedBest 7 (some .int) ∈ gt_T := gt_t6 71 rfl rfl
theorem im_X3_likedBest : Cond.instanceMethod yX3_likedBest ∈ gt_T := gt_t6 70 rfl rfl
theorem sl_X3_likedBest : Cond.selects yX3_likedBest.cls yX3_likedBest yX3_likedBest ∈ gt_T := gt_p4 10 rfl
theorem pd_X3_likedBest : yX3_likedBest.cls ≠ "java/lang/invoke/MethodHandle" ∧ yX3_likedBest.cls ≠ "java/lang/invoke/VarHandle" ∧ (parseMethodDescriptor yX3_likedBest.desc).map (fun d => d.parameters.length) = some 2 := by decide +kernel
theorem cw_X4_choiceBy : Cond.code yX4_choiceBy cX4_choiceBy 5 (some .int) ∈ gt_T := gt_t5 205 rfl rfl
theorem st_X4_choiceBy : Cond.static yX4_choiceBy ∈ gt_T := gt_t5 204 rfl rfl
theorem pd_X4_choiceBy : yX4_choiceBy.cls ≠ "java/lang/invoke/MethodHandle" ∧ yX4_choiceBy.cls ≠ "java/lang/invoke/VarHandle" ∧ (parseMethodDescriptor yX4_choiceBy.desc).map (fun d => d.parameters.length) = some 4 := by decide +kernel
theorem cw_X4_valueBy : Cond.code yX4_valueBy cX4_valueBy 8 (some .int) ∈ gt_T := gt_t5 217 rfl rfl
theorem im_X4_valueBy : Cond.instanceMethod yX4_valueBy ∈ gt_T := gt_t5 215 rfl rfl
theorem sl_X4_valueBy : Cond.selects yX4_valueBy.cls yX4_valueBy yX4_valueBy ∈ gt_T := gt_t5 216 rfl rfl
theorem pd_X4_valueBy : yX4_valueBy.cls ≠ "java/lang/invoke/MethodHandle" ∧ yX4_valueBy.cls ≠ "java/lang/invoke/VarHandle" ∧ (parseMethodDescriptor yX4_valueBy.desc).map (fun d => d.parameters.length) = some 4 := by decide +kernel
theorem cw_X4_findRule : Cond.code yX4_findRule cX4_findRule 4 none ∈ gt_T := gt_t5 190 rfl rfl
theorem im_X4_findRule : Cond.instanceMethod yX4_findRule ∈ gt_T := gt_t5 188 rfl rfl
theorem sl_X4_findRule : Cond.selects yX4_findRule.cls yX4_findRule yX4_findRule ∈ gt_T := gt_t5 189 rfl rfl
theorem pd_X4_findRule : yX4_findRule.cls ≠ "java/lang/invoke/MethodHandle" ∧ yX4_findRule.cls ≠ "java/lang/invoke/VarHandle" ∧ (parseMethodDescriptor yX4_findRule.desc).map (fun d => d.parameters.length) = some 3 := by decide +kernel
theorem cw_X4_gatherCandidates : Cond.code yX4_gatherCandidates cX4_gatherCandidates 5 none ∈ gt_T := gt_t5 194 rfl rfl
theorem im_X4_gatherCandidates : Cond.instanceMethod yX4_gatherCandidates ∈ gt_T := gt_t5 193 rfl rfl
theorem sl_X4_gatherCandidates : Cond.selects yX4_gatherCandidates.cls yX4_gatherCandidates yX4_gatherCandidates ∈ gt_T := gt_p3 15 rfl
theorem pd_X4_gatherCandidates : yX4_gatherCandidates.cls ≠ "java/lang/invoke/MethodHandle" ∧ yX4_gatherCandidates.cls ≠ "java/lang/invoke/VarHandle" ∧ (parseMethodDescriptor yX4_gatherCandidates.desc).map (fun d => d.parameters.length) = some 1 := by decide +kernel
theorem cw_X4_tryBounds : Cond.code yX4_tryBounds cX4_tryBounds 6 none ∈ gt_T := gt_t5 198 rfl rfl
theorem im_X4_tryBounds : Cond.instanceMethod yX4_tryBounds ∈ gt_T := gt_t5 197 rfl rfl
theorem sl_X4_tryBounds : Cond.selects yX4_tryBounds.cls yX4_tryBounds yX4_tryBounds ∈ gt_T := gt_p4 0 rfl
theorem pd_X4_tryBounds : yX4_tryBounds.cls ≠ "java/lang/invoke/MethodHandle" ∧ yX4_tryBounds.cls ≠ "java/lang/invoke/VarHandle" ∧ (parseMethodDescriptor yX4_tryBounds.desc).map (fun d => d.parameters.length) = some 4 := by decide +kernel
theorem cw_X4_tryRule : Cond.code yX4_tryRule cX4_tryRule 7 none ∈ gt_T := gt_t5 202 rfl rfl
theorem im_X4_tryRule : Cond.instanceMethod yX4_tryRule ∈ gt_T := gt_t5 201 rfl rfl
theorem sl_X4_tryRule : Cond.selects yX4_tryRule.cls yX4_tryRule yX4_tryRule ∈ gt_T := gt_p4 1 rfl
theorem pd_X4_tryRule : yX4_tryRule.cls ≠ "java/lang/invoke/MethodHandle" ∧ yX4_tryRule.cls ≠ "java/lang/invoke/VarHandle" ∧ (parseMethodDescriptor yX4_tryRule.desc).map (fun d => d.parameters.length) = some 2 := by decide +kernel
theorem cw_X4_settle : Cond.code yX4_settle cX4_settle 6 none ∈ gt_T := gt_t5 231 rfl rfl
theorem im_X4_settle : Cond.instanceMethod yX4_settle ∈ gt_T := gt_t5 229 rfl rfl
theorem sl_X4_settle : Cond.selects yX4_settle.cls yX4_settle yX4_settle ∈ gt_T := gt_t5 230 rfl rfl
theorem pd_X4_settle : yX4_settle.cls ≠ "java/lang/invoke/MethodHandle" ∧ yX4_settle.cls ≠ "java/lang/invoke/VarHandle" ∧ (parseMethodDescriptor yX4_settle.desc).map (fun d => d.parameters.length) = some 4 := by decide +kernel
theorem cw_X4_lay : Cond.code yX4_lay cX4_lay 5 none ∈ gt_T := gt_t5 235 rfl rfl
theorem im_X4_lay : Cond.instanceMethod yX4_lay ∈ gt_T := gt_t5 234 rfl rfl
theorem sl_X4_lay : Cond.selects yX4_lay.cls yX4_lay yX4_lay ∈ gt_T := gt_p4 3 rfl
theorem pd_X4_lay : yX4_lay.cls ≠ "java/lang/invoke/MethodHandle" ∧ yX4_lay.cls ≠ "java/lang/invoke/VarHandle" ∧ (parseMethodDescriptor yX4_lay.desc).map (fun d => d.parameters.length) = some 4 := by decide +kernel
theorem cw_X4_valueNow : Cond.code yX4_valueNow cX4_valueNow 3 (some .int) ∈ gt_T := gt_t6 3 rfl rfl
theorem im_X4_valueNow : Cond.instanceMethod yX4_valueNow ∈ gt_T := gt_t6 2 rfl rfl
theorem sl_X4_valueNow : Cond.selects yX4_valueNow.cls yX4_valueNow yX4_valueNow ∈ gt_T := gt_p4 5 rfl
theorem pd_X4_valueNow : yX4_valueNow.cls ≠ "java/lang/invoke/MethodHandle" ∧ yX4_valueNow.cls ≠ "java/lang/invoke/VarHandle" ∧ (parseMethodDescriptor yX4_valueNow.desc).map (fun d => d.parameters.length) = some 2 := by decide +kernel
theorem cw_X4_goRound : Cond.code yX4_goRound cX4_goRound 11 (some .boolean) ∈ gt_T := gt_t5 239 rfl rfl
theorem im_X4_goRound : Cond.instanceMethod yX4_goRound ∈ gt_T := gt_t5 238 rfl rfl
theorem sl_X4_goRound : Cond.selects yX4_goRound.cls yX4_goRound yX4_goRound ∈ gt_T := gt_p4 4 rfl
theorem pd_X4_goRound : yX4_goRound.cls ≠ "java/lang/invoke/MethodHandle" ∧ yX4_goRound.cls ≠ "java/lang/invoke/VarHandle" ∧ (parseMethodDescriptor yX4_goRound.desc).map (fun d => d.parameters.length) = some 3 := by decide +kernel
theorem cw_X5_split : Cond.code yX5_split cX5_split 5 none ∈ gt_T := gt_t3 204 rfl rfl
theorem im_X5_split : Cond.instanceMethod yX5_split ∈ gt_T := gt_t3 203 rfl rfl
theorem sl_X5_split : Cond.selects yX5_split.cls yX5_split yX5_split ∈ gt_T := gt_p1 4 rfl
theorem pd_X5_split : yX5_split.cls ≠ "java/lang/invoke/MethodHandle" ∧ yX5_split.cls ≠ "java/lang/invoke/VarHandle" ∧ (parseMethodDescriptor yX5_split.desc).map (fun d => d.parameters.length) = some 2 := by decide +kernel
theorem cw_X5_addToken : Cond.code yX5_addToken cX5_addToken 3 none ∈ gt_T := gt_t4 25 rfl rfl
theorem im_X5_addToken : Cond.instanceMethod yX5_addToken ∈ gt_T := gt_t4 24 rfl rfl
theorem sl_X5_addToken : Cond.selects yX5_addToken.cls yX5_addToken yX5_addToken ∈ gt_T := gt_p1 5 rfl
theorem pd_X5_addToken : yX5_addToken.cls ≠ "java/lang/invoke/MethodHandle" ∧ yX5_addToken.cls ≠ "java/lang/invoke/VarHandle" ∧ (parseMethodDescriptor yX5_addToken.desc).map (fun d => d.parameters.length) = some 2 := by decide +kernel
theorem cw_X5_rowKind : Cond.code yX5_rowKind cX5_rowKind 1 (some .int) ∈ gt_T := gt_t3 207 rfl rfl
theorem st_X5_rowKind : Cond.static yX5_rowKind ∈ gt_T := gt_t3 206 rfl rfl
theorem pd_X5_rowKind : yX5_rowKind.cls ≠ "java/lang/invoke/MethodHandle" ∧ yX5_rowKind.cls ≠ "java/lang/invoke/VarHandle" ∧ (parseMethodDescriptor yX5_rowKind.desc).map (fun d => d.parameters.length) = some 1 := by decide +kernel
theorem cw_X5_tokenOf : Cond.code yX5_tokenOf cX5_tokenOf 3 (some .int) ∈ gt_T := gt_t3 211 rfl rfl
theorem st_X5_tokenOf : Cond.static yX5_tokenOf ∈ gt_T := gt_t3 210 rfl rfl
theorem pd_X5_tokenOf : yX5_tokenOf.cls ≠ "java/lang/invoke/MethodHandle" ∧ yX5_tokenOf.cls ≠ "java/lang/invoke/VarHandle" ∧ (parseMethodDescriptor yX5_tokenOf.desc).map (fun d => d.parameters.length) = some 3 := by decide +kernel
theorem cw_X5_numberOf : Cond.code yX5_numberOf cX5_numberOf 5 (some .int) ∈ gt_T := gt_t4 18 rfl rfl
theorem st_X5_numberOf : Cond.static yX5_numberOf ∈ gt_T := gt_t4 17 rfl rfl
theorem pd_X5_numberOf : yX5_numberOf.cls ≠ "java/lang/invoke/MethodHandle" ∧ yX5_numberOf.cls ≠ "java/lang/invoke/VarHandle" ∧ (parseMethodDescriptor yX5_numberOf.desc).map (fun d => d.parameters.length) = some 3 := by decide +kernel
theorem cw_X5_takes : Cond.code yX5_takes cX5_takes 2 (some .boolean) ∈ gt_T := gt_t4 33 rfl rfl
theorem im_X5_takes : Cond.instanceMethod yX5_takes ∈ gt_T := gt_t4 32 rfl rfl
theorem sl_X5_takes : Cond.selects yX5_takes.cls yX5_takes yX5_takes ∈ gt_T := gt_p1 7 rfl
theorem pd_X5_takes : yX5_takes.cls ≠ "java/lang/invoke/MethodHandle" ∧ yX5_takes.cls ≠ "java/lang/invoke/VarHandle" ∧ (parseMethodDescriptor yX5_takes.desc).map (fun d => d.parameters.length) = some 1 := by decide +kernel
theorem cw_X5_fail : Cond.code yX5_fail cX5_fail 1 none ∈ gt_T := gt_t4 37 rfl rfl
theorem im_X5_fail : Cond.instanceMethod yX5_fail ∈ gt_T := gt_t4 36 rfl rfl
theorem sl_X5_fail : Cond.selects yX5_fail.cls yX5_fail yX5_fail ∈ gt_T := gt_p1 8 rfl
theorem pd_X5_fail : yX5_fail.cls ≠ "java/lang/invoke/MethodHandle" ∧ yX5_fail.cls ≠ "java/lang/invoke/VarHandle" ∧ (parseMethodDescriptor yX5_fail.desc).map (fun d => d.parameters.length) = some 0 := by decide +kernel
theorem cw_X5_write : Cond.code yX5_write cX5_write 3 none ∈ gt_T := gt_t4 61 rfl rfl
theorem im_X5_write : Cond.instanceMethod yX5_write ∈ gt_T := gt_t4 60 rfl rfl
theorem sl_X5_write : Cond.selects yX5_write.cls yX5_write yX5_write ∈ gt_T := gt_p1 14 rfl
theorem pd_X5_write : yX5_write.cls ≠ "java/lang/invoke/MethodHandle" ∧ yX5_write.cls ≠ "java/lang/invoke/VarHandle" ∧ (parseMethodDescriptor yX5_write.desc).map (fun d => d.parameters.length) = some 2 := by decide +kernel
theorem cw_X5_readClause : Cond.code yX5_readClause cX5_readClause 3 none ∈ gt_T := gt_t4 29 rfl rfl
theorem im_X5_readClause : Cond.instanceMethod yX5_readClause ∈ gt_T := gt_t4 28 rfl rfl
theorem sl_X5_readClause : Cond.selects yX5_readClause.cls yX5_readClause yX5_readClause ∈ gt_T := gt_p1 6 rfl
theorem pd_X5_readClause : yX5_readClause.cls ≠ "java/lang/invoke/MethodHandle" ∧ yX5_readClause.cls ≠ "java/lang/invoke/VarHandle" ∧ (parseMethodDescriptor yX5_readClause.desc).map (fun d => d.parameters.length) = some 0 := by decide +kernel
theorem cw_X5_readTest : Cond.code yX5_readTest cX5_readTest 4 none ∈ gt_T := gt_t4 65 rfl rfl
theorem im_X5_readTest : Cond.instanceMethod yX5_readTest ∈ gt_T := gt_t4 64 rfl rfl
theorem sl_X5_readTest : Cond.selects yX5_readTest.cls yX5_readTest yX5_readTest ∈ gt_T := gt_p1 15 rfl
theorem pd_X5_readTest : yX5_readTest.cls ≠ "java/lang/invoke/MethodHandle" ∧ yX5_readTest.cls ≠ "java/lang/invoke/VarHandle" ∧ (parseMethodDescriptor yX5_readTest.desc).map (fun d => d.parameters.length) = some 1 := by decide +kernel
theorem cw_X5_readBoth : Cond.code yX5_readBoth cX5_readBoth 4 none ∈ gt_T := gt_t4 69 rfl rfl
theorem im_X5_readBoth : Cond.instanceMethod yX5_readBoth ∈ gt_T := gt_t4 68 rfl rfl
theorem sl_X5_readBoth : Cond.selects yX5_readBoth.cls yX5_readBoth yX5_readBoth ∈ gt_T := gt_p2 0 rfl
theorem pd_X5_readBoth : yX5_readBoth.cls ≠ "java/lang/invoke/MethodHandle" ∧ yX5_readBoth.cls ≠ "java/lang/invoke/VarHandle" ∧ (parseMethodDescriptor yX5_readBoth.desc).map (fun d => d.parameters.length) = some 1 := by decide +kernel
theorem cw_X5_fill : Cond.code yX5_fill cX5_fill 3 none ∈ gt_T := gt_t4 81 rfl rfl
theorem im_X5_fill : Cond.instanceMethod yX5_fill ∈ gt_T := gt_t4 80 rfl rfl
theorem sl_X5_fill : Cond.selects yX5_fill.cls yX5_fill yX5_fill ∈ gt_T := gt_p2 3 rfl
theorem pd_X5_fill : yX5_fill.cls ≠ "java/lang/invoke/MethodHandle" ∧ yX5_fill.cls ≠ "java/lang/invoke/VarHandle" ∧ (parseMethodDescriptor yX5_fill.desc).map (fun d => d.parameters.length) = some 2 := by decide +kernel
theorem cw_X5_readPlain : Cond.code yX5_readPlain cX5_readPlain 4 none ∈ gt_T := gt_t4 73 rfl rfl
theorem im_X5_readPlain : Cond.instanceMethod yX5_readPlain ∈ gt_T := gt_t4 72 rfl rfl
theorem sl_X5_readPlain : Cond.selects yX5_readPlain.cls yX5_readPlain yX5_readPlain ∈ gt_T := gt_p2 1 rfl
theorem pd_X5_readPlain : yX5_readPlain.cls ≠ "java/lang/invoke/MethodHandle" ∧ yX5_readPlain.cls ≠ "java/lang/invoke/VarHandle" ∧ (parseMethodDescriptor yX5_readPlain.desc).map (fun d => d.parameters.length) = some 1 := by decide +kernel
theorem cw_X5_readComparison : Cond.code yX5_readComparison cX5_readComparison 3 none ∈ gt_T := gt_t4 77 rfl rfl
theorem im_X5_readComparison : Cond.instanceMethod yX5_readComparison ∈ gt_T := gt_t4 76 rfl rfl
theorem sl_X5_readComparison : Cond.selects yX5_readComparison.cls yX5_readComparison yX5_readComparison ∈ gt_T := gt_p2 2 rfl
theorem pd_X5_readComparison : yX5_readComparison.cls ≠ "java/lang/invoke/MethodHandle" ∧ yX5_readComparison.cls ≠ "java/lang/invoke/VarHandle" ∧ (parseMethodDescriptor yX5_readComparison.desc).map (fun d => d.parameters.length) = some 1 := by decide +kernel
theorem cw_X5_opens : Cond.code yX5_opens cX5_opens 3 (some .boolean) ∈ gt_T := gt_t4 53 rfl rfl
theorem im_X5_opens : Cond.instanceMethod yX5_opens ∈ gt_T := gt_t4 52 rfl rfl
theorem sl_X5_opens : Cond.selects yX5_opens.cls yX5_opens yX5_opens ∈ gt_T := gt_p1 12 rfl
theorem pd_X5_opens : yX5_opens.cls ≠ "java/lang/invoke/MethodHandle" ∧ yX5_opens.cls ≠ "java/lang/invoke/VarHandle" ∧ (parseMethodDescriptor yX5_opens.desc).map (fun d => d.parameters.length) = some 2 := by decide +kernel
theorem cw_X5_closes : Cond.code yX5_closes cX5_closes 2 none ∈ gt_T := gt_t4 57 rfl rfl
theorem im_X5_closes : Cond.instanceMethod yX5_closes ∈ gt_T := gt_t4 56 rfl rfl
theorem sl_X5_closes : Cond.selects yX5_closes.cls yX5_closes yX5_closes ∈ gt_T := gt_p1 13 rfl
theorem pd_X5_closes : yX5_closes.cls ≠ "java/lang/invoke/MethodHandle" ∧ yX5_closes.cls ≠ "java/lang/invoke/VarHandle" ∧ (parseMethodDescriptor yX5_closes.desc).map (fun d => d.parameters.length) = some 1 := by decide +kernel
theorem cw_X5_readSum : Cond.code yX5_readSum cX5_readSum 4 none ∈ gt_T := gt_t4 41 rfl rfl
theorem im_X5_readSum : Cond.instanceMethod yX5_readSum ∈ gt_T := gt_t4 40 rfl rfl
theorem sl_X5_readSum : Cond.selects yX5_readSum.cls yX5_readSum yX5_readSum ∈ gt_T := gt_p1 9 rfl
theorem pd_X5_readSum : yX5_readSum.cls ≠ "java/lang/invoke/MethodHandle" ∧ yX5_readSum.cls ≠ "java/lang/invoke/VarHandle" ∧ (parseMethodDescriptor yX5_readSum.desc).map (fun d => d.parameters.length) = some 1 := by decide +kernel
theorem cw_X5_readTerm : Cond.code yX5_readTerm cX5_readTerm 4 none ∈ gt_T := gt_t4 45 rfl rfl
theorem im_X5_readTerm : Cond.instanceMethod yX5_readTerm ∈ gt_T := gt_t4 44 rfl rfl
theorem sl_X5_readTerm : Cond.selects yX5_readTerm.cls yX5_readTerm yX5_readTerm ∈ gt_T := gt_p1 10 rfl
theorem pd_X5_readTerm : yX5_readTerm.cls ≠ "java/lang/invoke/MethodHandle" ∧ yX5_readTerm.cls ≠ "java/lang/invoke/VarHandle" ∧ (parseMethodDescriptor yX5_readTerm.desc).map (fun d => d.parameters.length) = some 1 := by decide +kernel
theorem cw_X5_readPart : Cond.code yX5_readPart cX5_readPart 4 none ∈ gt_T := gt_t4 49 rfl rfl
theorem im_X5_readPart : Cond.instanceMethod yX5_readPart ∈ gt_T := gt_t4 48 rfl rfl
theorem sl_X5_readPart : Cond.selects yX5_readPart.cls yX5_readPart yX5_readPart ∈ gt_T := gt_p1 11 rfl
theorem pd_X5_readPart : yX5_readPart.cls ≠ "java/lang/invoke/MethodHandle" ∧ yX5_readPart.cls ≠ "java/lang/invoke/VarHandle" ∧ (parseMethodDescriptor yX5_readPart.desc).map (fun d => d.parameters.length) = some 1 := by decide +kernel
theorem cw_X6_copyFrom : Cond.code yX6_copyFrom cX6_copyFrom 3 none ∈ gt_T := gt_t6 79 rfl rfl
theorem im_X6_copyFrom : Cond.instanceMethod yX6_copyFrom ∈ gt_T := gt_t6 77 rfl rfl
theorem sl_X6_copyFrom : Cond.selects yX6_copyFrom.cls yX6_copyFrom yX6_copyFrom ∈ gt_T := gt_t6 78 rfl rfl
theorem pd_X6_copyFrom : yX6_copyFrom.cls ≠ "java/lang/invoke/MethodHandle" ∧ yX6_copyFrom.cls ≠ "java/lang/invoke/VarHandle" ∧ (parseMethodDescriptor yX6_copyFrom.desc).map (fun d => d.parameters.length) = some 1 := by decide +kernel
theorem cw_X6_hasThing : Cond.code yX6_hasThing cX6_hasThing 2 (some .boolean) ∈ gt_T := gt_t3 112 rfl rfl
theorem im_X6_hasThing : Cond.instanceMethod yX6_hasThing ∈ gt_T := gt_t3 110 rfl rfl
theorem sl_X6_hasThing : Cond.selects yX6_hasThing.cls yX6_hasThing yX6_hasThing ∈ gt_T := gt_t3 111 rfl rfl
theorem pd_X6_hasThing : yX6_hasThing.cls ≠ "java/lang/invoke/MethodHandle" ∧ yX6_hasThing.cls ≠ "java/lang/invoke/VarHandle" ∧ (parseMethodDescriptor yX6_hasThing.desc).map (fun d => d.parameters.length) = some 1 := by decide +kernel
theorem cw_X6_hasGuest : Cond.code yX6_hasGuest cX6_hasGuest 2 (some .boolean) ∈ gt_T := gt_t3 140 rfl rfl
theorem im_X6_hasGuest : Cond.instanceMethod yX6_hasGuest ∈ gt_T := gt_t3 138 rfl rfl
theorem sl_X6_hasGuest : Cond.selects yX6_hasGuest.cls yX6_hasGuest yX6_hasGuest ∈ gt_T := gt_t3 139 rfl rfl
theorem pd_X6_hasGuest : yX6_hasGuest.cls ≠ "java/lang/invoke/MethodHandle" ∧ yX6_hasGuest.cls ≠ "java/lang/invoke/VarHandle" ∧ (parseMethodDescriptor yX6_hasGuest.desc).map (fun d => d.parameters.length) = some 1 := by decide +kernel
theorem cw_X6_fact : Cond.code yX6_fact cX6_fact 3 (some .int) ∈ gt_T := gt_t4 139 rfl rfl
theorem im_X6_fact : Cond.instanceMethod yX6_fact ∈ gt_T := gt_t4 137 rfl rfl
theorem sl_X6_fact : Cond.selects yX6_fact.cls yX6_fact yX6_fact ∈ gt_T := gt_t4 138 rfl rfl
theorem pd_X6_fact : yX6_fact.cls ≠ "java/lang/invoke/MethodHandle" ∧ yX6_fact.cls ≠ "java/lang/invoke/VarHandle" ∧ (parseMethodDescriptor yX6_fact.desc).map (fun d => d.parameters.length) = some 2 := by decide +kernel
theorem cw_X6_addGuest : Cond.code yX6_addGuest cX6_addGuest 6 (some .int) ∈ gt_T := gt_t3 132 rfl rfl
theorem im_X6_addGuest : Cond.instanceMethod yX6_addGuest ∈ gt_T := gt_t3 130 rfl rfl
theorem sl_X6_addGuest : Cond.selects yX6_addGuest.cls yX6_addGuest yX6_addGuest ∈ gt_T := gt_t3 131 rfl rfl
theorem pd_X6_addGuest : yX6_addGuest.cls ≠ "java/lang/invoke/MethodHandle" ∧ yX6_addGuest.cls ≠ "java/lang/invoke/VarHandle" ∧ (parseMethodDescriptor yX6_addGuest.desc).map (fun d => d.parameters.length) = some 4 := by decide +kernel
theorem cw_X6_part : Cond.code yX6_part cX6_part 3 none ∈ gt_T := gt_t3 152 rfl rfl
theorem im_X6_part : Cond.instanceMethod yX6_part ∈ gt_T := gt_t3 150 rfl rfl
theorem sl_X6_part : Cond.selects yX6_part.cls yX6_part yX6_part ∈ gt_T := gt_t3 151 rfl rfl
theorem pd_X6_part : yX6_part.cls ≠ "java/lang/invoke/MethodHandle" ∧ yX6_part.cls ≠ "java/lang/invoke/VarHandle" ∧ (parseMethodDescriptor yX6_part.desc).map (fun d => d.parameters.length) = some 1 := by decide +kernel
theorem cw_X6_isWithThird : Cond.code yX6_isWithThird cX6_isWithThird 3 (some .boolean) ∈ gt_T := gt_t3 156 rfl rfl
theorem im_X6_isWithThird : Cond.instanceMethod yX6_isWithThird ∈ gt_T := gt_t3 154 rfl rfl
theorem sl_X6_isWithThird : Cond.selects yX6_isWithThird.cls yX6_isWithThird yX6_isWithThird ∈ gt_T := gt_t3 155 rfl rfl
theorem pd_X6_isWithThird : yX6_isWithThird.cls ≠ "java/lang/invoke/MethodHandle" ∧ yX6_isWithThird.cls ≠ "java/lang/invoke/VarHandle" ∧ (parseMethodDescriptor yX6_isWithThird.desc).map (fun d => d.parameters.length) = some 2 := by decide +kernel
theorem cw_X6_isGiver : Cond.code yX6_isGiver cX6_isGiver 2 (some .boolean) ∈ gt_T := gt_t3 168 rfl rfl
theorem im_X6_isGiver : Cond.instanceMethod yX6_isGiver ∈ gt_T := gt_t3 166 rfl rfl
theorem sl_X6_isGiver : Cond.selects yX6_isGiver.cls yX6_isGiver yX6_isGiver ∈ gt_T := gt_t3 167 rfl rfl
theorem pd_X6_isGiver : yX6_isGiver.cls ≠ "java/lang/invoke/MethodHandle" ∧ yX6_isGiver.cls ≠ "java/lang/invoke/VarHandle" ∧ (parseMethodDescriptor yX6_isGiver.desc).map (fun d => d.parameters.length) = some 1 := by decide +kernel
theorem cw_X6_countGivers : Cond.code yX6_countGivers cX6_countGivers 3 (some .int) ∈ gt_T := gt_t6 92 rfl rfl
theorem im_X6_countGivers : Cond.instanceMethod yX6_countGivers ∈ gt_T := gt_t6 90 rfl rfl
theorem sl_X6_countGivers : Cond.selects yX6_countGivers.cls yX6_countGivers yX6_countGivers ∈ gt_T := gt_t6 91 rfl rfl
theorem pd_X6_countGivers : yX6_countGivers.cls ≠ "java/lang/invoke/MethodHandle" ∧ yX6_countGivers.cls ≠ "java/lang/invoke/VarHandle" ∧ (parseMethodDescriptor yX6_countGivers.desc).map (fun d => d.parameters.length) = some 0 := by decide +kernel
theorem cw_X6_purseOf : Cond.code yX6_purseOf cX6_purseOf 3 (some .int) ∈ gt_T := gt_t3 172 rfl rfl
theorem im_X6_purseOf : Cond.instanceMethod yX6_purseOf ∈ gt_T := gt_t3 170 rfl rfl
theorem sl_X6_purseOf : Cond.selects yX6_purseOf.cls yX6_purseOf yX6_purseOf ∈ gt_T := gt_t3 171 rfl rfl
theorem pd_X6_purseOf : yX6_purseOf.cls ≠ "java/lang/invoke/MethodHandle" ∧ yX6_purseOf.cls ≠ "java/lang/invoke/VarHandle" ∧ (parseMethodDescriptor yX6_purseOf.desc).map (fun d => d.parameters.length) = some 1 := by decide +kernel
theorem cw_X6_wayOf : Cond.code yX6_wayOf cX6_wayOf 3 (some (.object "GiftTable$Text")) ∈ gt_T := gt_t4 155 rfl rfl
theorem im_X6_wayOf : Cond.instanceMethod yX6_wayOf ∈ gt_T := gt_t4 153 rfl rfl
theorem sl_X6_wayOf : Cond.selects yX6_wayOf.cls yX6_wayOf yX6_wayOf ∈ gt_T := gt_t4 154 rfl rfl
theorem pd_X6_wayOf : yX6_wayOf.cls ≠ "java/lang/invoke/MethodHandle" ∧ yX6_wayOf.cls ≠ "java/lang/invoke/VarHandle" ∧ (parseMethodDescriptor yX6_wayOf.desc).map (fun d => d.parameters.length) = some 1 := by decide +kernel
theorem cw_X7_tells : Cond.code yX7_tells cX7_tells 9 (some .int) ∈ gt_T := gt_t4 159 rfl rfl
theorem im_X7_tells : Cond.instanceMethod yX7_tells ∈ gt_T := gt_t4 157 rfl rfl
theorem sl_X7_tells : Cond.selects yX7_tells.cls yX7_tells yX7_tells ∈ gt_T := gt_t4 158 rfl rfl
theorem pd_X7_tells : yX7_tells.cls ≠ "java/lang/invoke/MethodHandle" ∧ yX7_tells.cls ≠ "java/lang/invoke/VarHandle" ∧ (parseMethodDescriptor yX7_tells.desc).map (fun d => d.parameters.length) = some 3 := by decide +kernel
theorem cw_X7_reckon : Cond.code yX7_reckon cX7_reckon 11 (some .long) ∈ gt_T := gt_t4 163 rfl rfl
theorem im_X7_reckon : Cond.instanceMethod yX7_reckon ∈ gt_T := gt_t4 162 rfl rfl
theorem sl_X7_reckon : Cond.selects yX7_reckon.cls yX7_reckon yX7_reckon ∈ gt_T := gt_p2 8 rfl
theorem pd_X7_reckon : yX7_reckon.cls ≠ "java/lang/invoke/MethodHandle" ∧ yX7_reckon.cls ≠ "java/lang/invoke/VarHandle" ∧ (parseMethodDescriptor yX7_reckon.desc).map (fun d => d.parameters.length) = some 4 := by decide +kernel
theorem cw_X7_join : Cond.code yX7_join cX7_join 5 (some .long) ∈ gt_T := gt_t4 170 rfl rfl
theorem st_X7_join : Cond.static yX7_join ∈ gt_T := gt_t4 169 rfl rfl
theorem pd_X7_join : yX7_join.cls ≠ "java/lang/invoke/MethodHandle" ∧ yX7_join.cls ≠ "java/lang/invoke/VarHandle" ∧ (parseMethodDescriptor yX7_join.desc).map (fun d => d.parameters.length) = some 3 := by decide +kernel
theorem cw_X8_work : Cond.code yX8_work cX8_work 6 none ∈ gt_T := gt_t5 73 rfl rfl
theorem im_X8_work : Cond.instanceMethod yX8_work ∈ gt_T := gt_t5 71 rfl rfl
theorem sl_X8_work : Cond.selects yX8_work.cls yX8_work yX8_work ∈ gt_T := gt_t5 72 rfl rfl
theorem pd_X8_work : yX8_work.cls ≠ "java/lang/invoke/MethodHandle" ∧ yX8_work.cls ≠ "java/lang/invoke/VarHandle" ∧ (parseMethodDescriptor yX8_work.desc).map (fun d => d.parameters.length) = some 3 := by decide +kernel
theorem cw_X8_greatest : Cond.code yX8_greatest cX8_greatest 1 (some .int) ∈ gt_T := gt_t5 103 rfl rfl
theorem im_X8_greatest : Cond.instanceMethod yX8_greatest ∈ gt_T := gt_t5 101 rfl rfl
theorem sl_X8_greatest : Cond.selects yX8_greatest.cls yX8_greatest yX8_greatest ∈ gt_T := gt_t5 102 rfl rfl
theorem pd_X8_greatest : yX8_greatest.cls ≠ "java/lang/invoke/MethodHandle" ∧ yX8_greatest.cls ≠ "java/lang/invoke/VarHandle" ∧ (parseMethodDescriptor yX8_greatest.desc).map (fun d => d.parameters.length) = some 0 := by decide +kernel
theorem cw_X8_countedWays : Cond.code yX8_countedWays cX8_countedWays 1 (some .int) ∈ gt_T := gt_t5 107 rfl rfl
theorem im_X8_countedWays : Cond.instanceMethod yX8_countedWays ∈ gt_T := gt_t5 105 rfl rfl
theorem sl_X8_countedWays : Cond.selects yX8_countedWays.cls yX8_countedWays yX8_countedWays ∈ gt_T := gt_t5 106 rfl rfl
theorem pd_X8_countedWays : yX8_countedWays.cls ≠ "java/lang/invoke/MethodHandle" ∧ yX8_countedWays.cls ≠ "java/lang/invoke/VarHandle" ∧ (parseMethodDescriptor yX8_countedWays.desc).map (fun d => d.parameters.length) = some 0 := by decide +kernel
theorem cw_X8_valueAfter : Cond.code yX8_valueAfter cX8_valueAfter 6 (some .int) ∈ gt_T := gt_t5 99 rfl rfl
theorem im_X8_valueAfter : Cond.instanceMethod yX8_valueAfter ∈ gt_T := gt_t5 98 rfl rfl
theorem sl_X8_valueAfter : Cond.selects yX8_valueAfter.cls yX8_valueAfter yX8_valueAfter ∈ gt_T := gt_p3 7 rfl
theorem pd_X8_valueAfter : yX8_valueAfter.cls ≠ "java/lang/invoke/MethodHandle" ∧ yX8_valueAfter.cls ≠ "java/lang/invoke/VarHandle" ∧ (parseMethodDescriptor yX8_valueAfter.desc).map (fun d => d.parameters.length) = some 5 := by decide +kernel
theorem cw_X8_workLayer : Cond.code yX8_workLayer cX8_workLayer 11 none ∈ gt_T := gt_t5 81 rfl rfl
theorem im_X8_workLayer : Cond.instanceMethod yX8_workLayer ∈ gt_T := gt_t5 80 rfl rfl
theorem sl_X8_workLayer : Cond.selects yX8_workLayer.cls yX8_workLayer yX8_workLayer ∈ gt_T := gt_p3 5 rfl
theorem pd_X8_workLayer : yX8_workLayer.cls ≠ "java/lang/invoke/MethodHandle" ∧ yX8_workLayer.cls ≠ "java/lang/invoke/VarHandle" ∧ (parseMethodDescriptor yX8_workLayer.desc).map (fun d => d.parameters.length) = some 3 := by decide +kernel
theorem cw_X8_walkFirst : Cond.code yX8_walkFirst cX8_walkFirst 6 none ∈ gt_T := gt_t5 90 rfl rfl
theorem im_X8_walkFirst : Cond.instanceMethod yX8_walkFirst ∈ gt_T := gt_t5 89 rfl rfl
theorem sl_X8_walkFirst : Cond.selects yX8_walkFirst.cls yX8_walkFirst yX8_walkFirst ∈ gt_T := gt_p3 6 rfl
theorem pd_X8_walkFirst : yX8_walkFirst.cls ≠ "java/lang/invoke/MethodHandle" ∧ yX8_walkFirst.cls ≠ "java/lang/invoke/VarHandle" ∧ (parseMethodDescriptor yX8_walkFirst.desc).map (fun d => d.parameters.length) = some 2 := by decide +kernel
theorem cw_X8_lessWith : Cond.code yX8_lessWith cX8_lessWith 6 (some .int) ∈ gt_T := gt_t5 120 rfl rfl
theorem im_X8_lessWith : Cond.instanceMethod yX8_lessWith ∈ gt_T := gt_t5 118 rfl rfl
theorem sl_X8_lessWith : Cond.selects yX8_lessWith.cls yX8_lessWith yX8_lessWith ∈ gt_T := gt_t5 119 rfl rfl
theorem pd_X8_lessWith : yX8_lessWith.cls ≠ "java/lang/invoke/MethodHandle" ∧ yX8_lessWith.cls ≠ "java/lang/invoke/VarHandle" ∧ (parseMethodDescriptor yX8_lessWith.desc).map (fun d => d.parameters.length) = some 4 := by decide +kernel
theorem cw_X8_tryLayer : Cond.code yX8_tryLayer cX8_tryLayer 7 none ∈ gt_T := gt_t5 124 rfl rfl
theorem im_X8_tryLayer : Cond.instanceMethod yX8_tryLayer ∈ gt_T := gt_t5 123 rfl rfl
theorem sl_X8_tryLayer : Cond.selects yX8_tryLayer.cls yX8_tryLayer yX8_tryLayer ∈ gt_T := gt_p3 8 rfl
theorem pd_X8_tryLayer : yX8_tryLayer.cls ≠ "java/lang/invoke/MethodHandle" ∧ yX8_tryLayer.cls ≠ "java/lang/invoke/VarHandle" ∧ (parseMethodDescriptor yX8_tryLayer.desc).map (fun d => d.parameters.length) = some 3 := by decide +kernel
theorem cw_X9_hold : Cond.code yX9_hold cX9_hold 9 none ∈ gt_T := gt_t6 16 rfl rfl
theorem im_X9_hold : Cond.instanceMethod yX9_hold ∈ gt_T := gt_t6 14 rfl rfl
theorem sl_X9_hold : Cond.selects yX9_hold.cls yX9_hold yX9_hold ∈ gt_T := gt_t6 15 rfl rfl
theorem pd_X9_hold : yX9_hold.cls ≠ "java/lang/invoke/MethodHandle" ∧ yX9_hold.cls ≠ "java/lang/invoke/VarHandle" ∧ (parseMethodDescriptor yX9_hold.desc).map (fun d => d.parameters.length) = some 4 := by decide +kernel
theorem cw_X9_choose : Cond.code yX9_choose cX9_choose 6 (some .int) ∈ gt_T := gt_t6 21 rfl rfl
theorem im_X9_choose : Cond.instanceMethod yX9_choose ∈ gt_T := gt_t6 20 rfl rfl
theorem sl_X9_choose : Cond.selects yX9_choose.cls yX9_choose yX9_choose ∈ gt_T := gt_p4 6 rfl
theorem pd_X9_choose : yX9_choose.cls ≠ "java/lang/invoke/MethodHandle" ∧ yX9_choose.cls ≠ "java/lang/invoke/VarHandle" ∧ (parseMethodDescriptor yX9_choose.desc).map (fun d => d.parameters.length) = some 5 := by decide +kernel
theorem cw_X9_bestByList : Cond.code yX9_bestByList cX9_bestByList 8 (some .int) ∈ gt_T := gt_t6 25 rfl rfl
theorem im_X9_bestByList : Cond.instanceMethod yX9_bestByList ∈ gt_T := gt_t6 24 rfl rfl
theorem sl_X9_bestByList : Cond.selects yX9_bestByList.cls yX9_bestByList yX9_bestByList ∈ gt_T := gt_p4 7 rfl
theorem pd_X9_bestByList : yX9_bestByList.cls ≠ "java/lang/invoke/MethodHandle" ∧ yX9_bestByList.cls ≠ "java/lang/invoke/VarHandle" ∧ (parseMethodDescriptor yX9_bestByList.desc).map (fun d => d.parameters.length) = some 4 := by decide +kernel
theorem cw_X9_drawnChoice : Cond.code yX9_drawnChoice cX9_drawnChoice 7 (some .int) ∈ gt_T := gt_t6 31 rfl rfl
theorem im_X9_drawnChoice : Cond.instanceMethod yX9_drawnChoice ∈ gt_T := gt_t6 30 rfl rfl
theorem sl_X9_drawnChoice : Cond.selects yX9_drawnChoice.cls yX9_drawnChoice yX9_drawnChoice ∈ gt_T := gt_p4 8 rfl
theorem pd_X9_drawnChoice : yX9_drawnChoice.cls ≠ "java/lang/invoke/MethodHandle" ∧ yX9_drawnChoice.cls ≠ "java/lang/invoke/VarHandle" ∧ (parseMethodDescriptor yX9_drawnChoice.desc).map (fun d => d.parameters.length) = some 2 := by decide +kernel
theorem cw_X10_thing : Cond.code yX10_thing cX10_thing 6 (some .int) ∈ gt_T := gt_t3 86 rfl rfl
theorem im_X10_thing : Cond.instanceMethod yX10_thing ∈ gt_T := gt_t3 84 rfl rfl
theorem sl_X10_thing : Cond.selects yX10_thing.cls yX10_thing yX10_thing ∈ gt_T := gt_t3 85 rfl rfl
theorem pd_X10_thing : yX10_thing.cls ≠ "java/lang/invoke/MethodHandle" ∧ yX10_thing.cls ≠ "java/lang/invoke/VarHandle" ∧ (parseMethodDescriptor yX10_thing.desc).map (fun d => d.parameters.length) = some 4 := by decide +kernel
theorem cw_X10_put : Cond.code yX10_put cX10_put 5 (some .int) ∈ gt_T := gt_t3 108 rfl rfl
theorem im_X10_put : Cond.instanceMethod yX10_put ∈ gt_T := gt_t3 106 rfl rfl
theorem sl_X10_put : Cond.selects yX10_put.cls yX10_put yX10_put ∈ gt_T := gt_t3 107 rfl rfl
theorem pd_X10_put : yX10_put.cls ≠ "java/lang/invoke/MethodHandle" ∧ yX10_put.cls ≠ "java/lang/invoke/VarHandle" ∧ (parseMethodDescriptor yX10_put.desc).map (fun d => d.parameters.length) = some 3 := by decide +kernel
theorem cw_X10_instead : Cond.code yX10_instead cX10_instead 4 (some .int) ∈ gt_T := gt_t3 117 rfl rfl
theorem im_X10_instead : Cond.instanceMethod yX10_instead ∈ gt_T := gt_t3 115 rfl rfl
theorem sl_X10_instead : Cond.selects yX10_instead.cls yX10_instead yX10_instead ∈ gt_T := gt_t3 116 rfl rfl
theorem pd_X10_instead : yX10_instead.cls ≠ "java/lang/invoke/MethodHandle" ∧ yX10_instead.cls ≠ "java/lang/invoke/VarHandle" ∧ (parseMethodDescriptor yX10_instead.desc).map (fun d => d.parameters.length) = some 3 := by decide +kernel
theorem cw_X10_bonus : Cond.code yX10_bonus cX10_bonus 5 (some .int) ∈ gt_T := gt_t3 121 rfl rfl
theorem im_X10_bonus : Cond.instanceMethod yX10_bonus ∈ gt_T := gt_t3 119 rfl rfl
theorem sl_X10_bonus : Cond.selects yX10_bonus.cls yX10_bonus yX10_bonus ∈ gt_T := gt_t3 120 rfl rfl
theorem pd_X10_bonus : yX10_bonus.cls ≠ "java/lang/invoke/MethodHandle" ∧ yX10_bonus.cls ≠ "java/lang/invoke/VarHandle" ∧ (parseMethodDescriptor yX10_bonus.desc).map (fun d => d.parameters.length) = some 3 := by decide +kernel
theorem cw_X10_guest : Cond.code yX10_guest cX10_guest 5 (some .int) ∈ gt_T := gt_t3 125 rfl rfl
theorem im_X10_guest : Cond.instanceMethod yX10_guest ∈ gt_T := gt_t3 123 rfl rfl
theorem sl_X10_guest : Cond.selects yX10_guest.cls yX10_guest yX10_guest ∈ gt_T := gt_t3 124 rfl rfl
theorem pd_X10_guest : yX10_guest.cls ≠ "java/lang/invoke/MethodHandle" ∧ yX10_guest.cls ≠ "java/lang/invoke/VarHandle" ∧ (parseMethodDescriptor yX10_guest.desc).map (fun d => d.parameters.length) = some 4 := by decide +kernel
theorem cw_X10_always : Cond.code yX10_always cX10_always 4 (some .int) ∈ gt_T := gt_t3 136 rfl rfl
theorem im_X10_always : Cond.instanceMethod yX10_always ∈ gt_T := gt_t3 134 rfl rfl
theorem sl_X10_always : Cond.selects yX10_always.cls yX10_always yX10_always ∈ gt_T := gt_t3 135 rfl rfl
theorem pd_X10_always : yX10_always.cls ≠ "java/lang/invoke/MethodHandle" ∧ yX10_always.cls ≠ "java/lang/invoke/VarHandle" ∧ (parseMethodDescriptor yX10_always.desc).map (fun d => d.parameters.length) = some 2 := by decide +kernel
theorem cw_X10_sees : Cond.code yX10_sees cX10_sees 4 (some .int) ∈ gt_T := gt_t3 144 rfl rfl
theorem im_X10_sees : Cond.instanceMethod yX10_sees ∈ gt_T := gt_t3 142 rfl rfl
theorem sl_X10_sees : Cond.selects yX10_sees.cls yX10_sees yX10_sees ∈ gt_T := gt_t3 143 rfl rfl
theorem pd_X10_sees : yX10_sees.cls ≠ "java/lang/invoke/MethodHandle" ∧ yX10_sees.cls ≠ "java/lang/invoke/VarHandle" ∧ (parseMethodDescriptor yX10_sees.desc).map (fun d => d.parameters.length) = some 2 := by decide +kernel
theorem cw_X10_pair : Cond.code yX10_pair cX10_pair 3 (some .int) ∈ gt_T := gt_t3 148 rfl rfl
theorem im_X10_pair : Cond.instanceMethod yX10_pair ∈ gt_T := gt_t3 146 rfl rfl
theorem sl_X10_pair : Cond.selects yX10_pair.cls yX10_pair yX10_pair ∈ gt_T := gt_t3 147 rfl rfl
theorem pd_X10_pair : yX10_pair.cls ≠ "java/lang/invoke/MethodHandle" ∧ yX10_pair.cls ≠ "java/lang/invoke/VarHandle" ∧ (parseMethodDescriptor yX10_pair.desc).map (fun d => d.parameters.length) = some 2 := by decide +kernel
theorem cw_X10_coin : Cond.code yX10_coin cX10_coin 3 (some .int) ∈ gt_T := gt_t3 160 rfl rfl
theorem im_X10_coin : Cond.instanceMethod yX10_coin ∈ gt_T := gt_t3 158 rfl rfl
theorem sl_X10_coin : Cond.selects yX10_coin.cls yX10_coin yX10_coin ∈ gt_T := gt_t3 159 rfl rfl
theorem pd_X10_coin : yX10_coin.cls ≠ "java/lang/invoke/MethodHandle" ∧ yX10_coin.cls ≠ "java/lang/invoke/VarHandle" ∧ (parseMethodDescriptor yX10_coin.desc).map (fun d => d.parameters.length) = some 1 := by decide +kernel
theorem cw_X10_of : Cond.code yX10_of cX10_of 3 (some .int) ∈ gt_T := gt_t3 164 rfl rfl
theorem im_X10_of : Cond.instanceMethod yX10_of ∈ gt_T := gt_t3 162 rfl rfl
theorem sl_X10_of : Cond.selects yX10_of.cls yX10_of yX10_of ∈ gt_T := gt_t3 163 rfl rfl
theorem pd_X10_of : yX10_of.cls ≠ "java/lang/invoke/MethodHandle" ∧ yX10_of.cls ≠ "java/lang/invoke/VarHandle" ∧ (parseMethodDescriptor yX10_of.desc).map (fun d => d.parameters.length) = some 2 := by decide +kernel
theorem cw_X10_feed : Cond.code yX10_feed cX10_feed 6 (some .int) ∈ gt_T := gt_t3 176 rfl rfl
theorem im_X10_feed : Cond.instanceMethod yX10_feed ∈ gt_T := gt_t3 174 rfl rfl
theorem sl_X10_feed : Cond.selects yX10_feed.cls yX10_feed yX10_feed ∈ gt_T := gt_t3 175 rfl rfl
theorem pd_X10_feed : yX10_feed.cls ≠ "java/lang/invoke/MethodHandle" ∧ yX10_feed.cls ≠ "java/lang/invoke/VarHandle" ∧ (parseMethodDescriptor yX10_feed.desc).map (fun d => d.parameters.length) = some 5 := by decide +kernel
theorem cw_X10_end : Cond.code yX10_end cX10_end 2 (some .int) ∈ gt_T := gt_t3 184 rfl rfl
theorem im_X10_end : Cond.instanceMethod yX10_end ∈ gt_T := gt_t3 182 rfl rfl
theorem sl_X10_end : Cond.selects yX10_end.cls yX10_end yX10_end ∈ gt_T := gt_t3 183 rfl rfl
theorem pd_X10_end : yX10_end.cls ≠ "java/lang/invoke/MethodHandle" ∧ yX10_end.cls ≠ "java/lang/invoke/VarHandle" ∧ (parseMethodDescriptor yX10_end.desc).map (fun d => d.parameters.length) = some 1 := by decide +kernel
theorem cw_X10_row : Cond.code yX10_row cX10_row 4 (some .int) ∈ gt_T := gt_t3 188 rfl rfl
theorem im_X10_row : Cond.instanceMethod yX10_row ∈ gt_T := gt_t3 186 rfl rfl
theorem sl_X10_row : Cond.selects yX10_row.cls yX10_row yX10_row ∈ gt_T := gt_t3 187 rfl rfl
theorem pd_X10_row : yX10_row.cls ≠ "java/lang/invoke/MethodHandle" ∧ yX10_row.cls ≠ "java/lang/invoke/VarHandle" ∧ (parseMethodDescriptor yX10_row.desc).map (fun d => d.parameters.length) = some 0 := by decide +kernel
theorem cw_X10_late : Cond.code yX10_late cX10_late 1 (some .int) ∈ gt_T := gt_t3 192 rfl rfl
theorem im_X10_late : Cond.instanceMethod yX10_late ∈ gt_T := gt_t3 190 rfl rfl
theorem sl_X10_late : Cond.selects yX10_late.cls yX10_late yX10_late ∈ gt_T := gt_t3 191 rfl rfl
theorem pd_X10_late : yX10_late.cls ≠ "java/lang/invoke/MethodHandle" ∧ yX10_late.cls ≠ "java/lang/invoke/VarHandle" ∧ (parseMethodDescriptor yX10_late.desc).map (fun d => d.parameters.length) = some 0 := by decide +kernel
theorem cw_X10_fault : Cond.code yX10_fault cX10_fault 1 (some .int) ∈ gt_T := gt_t4 113 rfl rfl
theorem im_X10_fault : Cond.instanceMethod yX10_fault ∈ gt_T := gt_t4 111 rfl rfl
theorem sl_X10_fault : Cond.selects yX10_fault.cls yX10_fault yX10_fault ∈ gt_T := gt_t4 112 rfl rfl
theorem pd_X10_fault : yX10_fault.cls ≠ "java/lang/invoke/MethodHandle" ∧ yX10_fault.cls ≠ "java/lang/invoke/VarHandle" ∧ (parseMethodDescriptor yX10_fault.desc).map (fun d => d.parameters.length) = some 0 := by decide +kernel
theorem cw_X10_way : Cond.code yX10_way cX10_way 4 (some .int) ∈ gt_T := gt_t4 117 rfl rfl
theorem im_X10_way : Cond.instanceMethod yX10_way ∈ gt_T := gt_t4 115 rfl rfl
theorem sl_X10_way : Cond.selects yX10_way.cls yX10_way yX10_way ∈ gt_T := gt_t4 116 rfl rfl
theorem pd_X10_way : yX10_way.cls ≠ "java/lang/invoke/MethodHandle" ∧ yX10_way.cls ≠ "java/lang/invoke/VarHandle" ∧ (parseMethodDescriptor yX10_way.desc).map (fun d => d.parameters.length) = some 2 := by decide +kernel
theorem cw_X10_weight : Cond.code yX10_weight cX10_weight 5 (some .int) ∈ gt_T := gt_t4 121 rfl rfl
theorem im_X10_weight : Cond.instanceMethod yX10_weight ∈ gt_T := gt_t4 119 rfl rfl
theorem sl_X10_weight : Cond.selects yX10_weight.cls yX10_weight yX10_weight ∈ gt_T := gt_t4 120 rfl rfl
theorem pd_X10_weight : yX10_weight.cls ≠ "java/lang/invoke/MethodHandle" ∧ yX10_weight.cls ≠ "java/lang/invoke/VarHandle" ∧ (parseMethodDescriptor yX10_weight.desc).map (fun d => d.parameters.length) = some 3 := by decide +kernel
theorem cw_X10_heap : Cond.code yX10_heap cX10_heap 6 (some .int) ∈ gt_T := gt_t4 183 rfl rfl
theorem im_X10_heap : Cond.instanceMethod yX10_heap ∈ gt_T := gt_t4 181 rfl rfl
theorem sl_X10_heap : Cond.selects yX10_heap.cls yX10_heap yX10_heap ∈ gt_T := gt_t4 182 rfl rfl
theorem pd_X10_heap : yX10_heap.cls ≠ "java/lang/invoke/MethodHandle" ∧ yX10_heap.cls ≠ "java/lang/invoke/VarHandle" ∧ (parseMethodDescriptor yX10_heap.desc).map (fun d => d.parameters.length) = some 5 := by decide +kernel
theorem cw_X10_mean : Cond.code yX10_mean cX10_mean 2 (some .int) ∈ gt_T := gt_t4 205 rfl rfl
theorem im_X10_mean : Cond.instanceMethod yX10_mean ∈ gt_T := gt_t4 203 rfl rfl
theorem sl_X10_mean : Cond.selects yX10_mean.cls yX10_mean yX10_mean ∈ gt_T := gt_t4 204 rfl rfl
theorem pd_X10_mean : yX10_mean.cls ≠ "java/lang/invoke/MethodHandle" ∧ yX10_mean.cls ≠ "java/lang/invoke/VarHandle" ∧ (parseMethodDescriptor yX10_mean.desc).map (fun d => d.parameters.length) = some 1 := by decide +kernel
theorem cw_X10_none : Cond.code yX10_none cX10_none 2 (some .int) ∈ gt_T := gt_t5 57 rfl rfl
theorem im_X10_none : Cond.instanceMethod yX10_none ∈ gt_T := gt_t5 55 rfl rfl
theorem sl_X10_none : Cond.selects yX10_none.cls yX10_none yX10_none ∈ gt_T := gt_t5 56 rfl rfl
theorem pd_X10_none : yX10_none.cls ≠ "java/lang/invoke/MethodHandle" ∧ yX10_none.cls ≠ "java/lang/invoke/VarHandle" ∧ (parseMethodDescriptor yX10_none.desc).map (fun d => d.parameters.length) = some 1 := by decide +kernel
theorem cw_X10_together : Cond.code yX10_together cX10_together 2 (some .int) ∈ gt_T := gt_t5 65 rfl rfl
theorem im_X10_together : Cond.instanceMethod yX10_together ∈ gt_T := gt_t5 63 rfl rfl
theorem sl_X10_together : Cond.selects yX10_together.cls yX10_together yX10_together ∈ gt_T := gt_t5 64 rfl rfl
theorem pd_X10_together : yX10_together.cls ≠ "java/lang/invoke/MethodHandle" ∧ yX10_together.cls ≠ "java/lang/invoke/VarHandle" ∧ (parseMethodDescriptor yX10_together.desc).map (fun d => d.parameters.length) = some 1 := by decide +kernel
theorem cw_X10_brings : Cond.code yX10_brings cX10_brings 3 (some .int) ∈ gt_T := gt_t5 111 rfl rfl
theorem im_X10_brings : Cond.instanceMethod yX10_brings ∈ gt_T := gt_t5 109 rfl rfl
theorem sl_X10_brings : Cond.selects yX10_brings.cls yX10_brings yX10_brings ∈ gt_T := gt_t5 110 rfl rfl
theorem pd_X10_brings : yX10_brings.cls ≠ "java/lang/invoke/MethodHandle" ∧ yX10_brings.cls ≠ "java/lang/invoke/VarHandle" ∧ (parseMethodDescriptor yX10_brings.desc).map (fun d => d.parameters.length) = some 1 := by decide +kernel
theorem cw_X10_dear : Cond.code yX10_dear cX10_dear 4 (some .int) ∈ gt_T := gt_t5 115 rfl rfl
theorem im_X10_dear : Cond.instanceMethod yX10_dear ∈ gt_T := gt_t5 113 rfl rfl
theorem sl_X10_dear : Cond.selects yX10_dear.cls yX10_dear yX10_dear ∈ gt_T := gt_t5 114 rfl rfl
theorem pd_X10_dear : yX10_dear.cls ≠ "java/lang/invoke/MethodHandle" ∧ yX10_dear.cls ≠ "java/lang/invoke/VarHandle" ∧ (parseMethodDescriptor yX10_dear.desc).map (fun d => d.parameters.length) = some 2 := by decide +kernel
theorem cw_X10_loss : Cond.code yX10_loss cX10_loss 1 (some .int) ∈ gt_T := gt_t5 129 rfl rfl
theorem im_X10_loss : Cond.instanceMethod yX10_loss ∈ gt_T := gt_t5 127 rfl rfl
theorem sl_X10_loss : Cond.selects yX10_loss.cls yX10_loss yX10_loss ∈ gt_T := gt_t5 128 rfl rfl
theorem pd_X10_loss : yX10_loss.cls ≠ "java/lang/invoke/MethodHandle" ∧ yX10_loss.cls ≠ "java/lang/invoke/VarHandle" ∧ (parseMethodDescriptor yX10_loss.desc).map (fun d => d.parameters.length) = some 0 := by decide +kernel
theorem cw_X10_blind : Cond.code yX10_blind cX10_blind 3 (some .int) ∈ gt_T := gt_t5 133 rfl rfl
theorem im_X10_blind : Cond.instanceMethod yX10_blind ∈ gt_T := gt_t5 131 rfl rfl
theorem sl_X10_blind : Cond.selects yX10_blind.cls yX10_blind yX10_blind ∈ gt_T := gt_t5 132 rfl rfl
theorem pd_X10_blind : yX10_blind.cls ≠ "java/lang/invoke/MethodHandle" ∧ yX10_blind.cls ≠ "java/lang/invoke/VarHandle" ∧ (parseMethodDescriptor yX10_blind.desc).map (fun d => d.parameters.length) = some 2 := by decide +kernel
theorem cw_X10_rule : Cond.code yX10_rule cX10_rule 2 (some .int) ∈ gt_T := gt_t5 186 rfl rfl
theorem im_X10_rule : Cond.instanceMethod yX10_rule ∈ gt_T := gt_t5 184 rfl rfl
theorem sl_X10_rule : Cond.selects yX10_rule.cls yX10_rule yX10_rule ∈ gt_T := gt_t5 185 rfl rfl
theorem pd_X10_rule : yX10_rule.cls ≠ "java/lang/invoke/MethodHandle" ∧ yX10_rule.cls ≠ "java/lang/invoke/VarHandle" ∧ (parseMethodDescriptor yX10_rule.desc).map (fun d => d.parameters.length) = some 1 := by decide +kernel
theorem cw_X10_letters : Cond.code yX10_letters cX10_letters 7 (some .int) ∈ gt_T := gt_t5 213 rfl rfl
theorem im_X10_letters : Cond.instanceMethod yX10_letters ∈ gt_T := gt_t5 211 rfl rfl
theorem sl_X10_letters : Cond.selects yX10_letters.cls yX10_letters yX10_letters ∈ gt_T := gt_t5 212 rfl rfl
theorem pd_X10_letters : yX10_letters.cls ≠ "java/lang/invoke/MethodHandle" ∧ yX10_letters.cls ≠ "java/lang/invoke/VarHandle" ∧ (parseMethodDescriptor yX10_letters.desc).map (fun d => d.parameters.length) = some 4 := by decide +kernel
theorem cw_X10_rest : Cond.code yX10_rest cX10_rest 2 (some .int) ∈ gt_T := gt_t5 223 rfl rfl
theorem im_X10_rest : Cond.instanceMethod yX10_rest ∈ gt_T := gt_t5 221 rfl rfl
theorem sl_X10_rest : Cond.selects yX10_rest.cls yX10_rest yX10_rest ∈ gt_T := gt_t5 222 rfl rfl
theorem pd_X10_rest : yX10_rest.cls ≠ "java/lang/invoke/MethodHandle" ∧ yX10_rest.cls ≠ "java/lang/invoke/VarHandle" ∧ (parseMethodDescriptor yX10_rest.desc).map (fun d => d.parameters.length) = some 1 := by decide +kernel
theorem cw_X10_find : Cond.code yX10_find cX10_find 3 (some .int) ∈ gt_T := gt_t6 7 rfl rfl
theorem im_X10_find : Cond.instanceMethod yX10_find ∈ gt_T := gt_t6 5 rfl rfl
theorem sl_X10_find : Cond.selects yX10_find.cls yX10_find yX10_find ∈ gt_T := gt_t6 6 rfl rfl
theorem pd_X10_find : yX10_find.cls ≠ "java/lang/invoke/MethodHandle" ∧ yX10_find.cls ≠ "java/lang/invoke/VarHandle" ∧ (parseMethodDescriptor yX10_find.desc).map (fun d => d.parameters.length) = some 1 := by decide +kernel
theorem cw_X10_wed : Cond.code yX10_wed cX10_wed 2 (some .int) ∈ gt_T := gt_t6 11 rfl rfl
theorem im_X10_wed : Cond.instanceMethod yX10_wed ∈ gt_T := gt_t6 9 rfl rfl
theorem sl_X10_wed : Cond.selects yX10_wed.cls yX10_wed yX10_wed ∈ gt_T := gt_t6 10 rfl rfl
theorem pd_X10_wed : yX10_wed.cls ≠ "java/lang/invoke/MethodHandle" ∧ yX10_wed.cls ≠ "java/lang/invoke/VarHandle" ∧ (parseMethodDescriptor yX10_wed.desc).map (fun d => d.parameters.length) = some 1 := by decide +kernel
theorem cw_X10_had : Cond.code yX10_had cX10_had 2 (some .int) ∈ gt_T := gt_t6 39 rfl rfl
theorem im_X10_had : Cond.instanceMethod yX10_had ∈ gt_T := gt_t6 37 rfl rfl
theorem sl_X10_had : Cond.selects yX10_had.cls yX10_had yX10_had ∈ gt_T := gt_t6 38 rfl rfl
theorem pd_X10_had : yX10_had.cls ≠ "java/lang/invoke/MethodHandle" ∧ yX10_had.cls ≠ "java/lang/invoke/VarHandle" ∧ (parseMethodDescriptor yX10_had.desc).map (fun d => d.parameters.length) = some 1 := by decide +kernel
theorem cw_X10_brought : Cond.code yX10_brought cX10_brought 2 (some .int) ∈ gt_T := gt_t6 43 rfl rfl
theorem im_X10_brought : Cond.instanceMethod yX10_brought ∈ gt_T := gt_t6 41 rfl rfl
theorem sl_X10_brought : Cond.selects yX10_brought.cls yX10_brought yX10_brought ∈ gt_T := gt_t6 42 rfl rfl
theorem pd_X10_brought : yX10_brought.cls ≠ "java/lang/invoke/MethodHandle" ∧ yX10_brought.cls ≠ "java/lang/invoke/VarHandle" ∧ (parseMethodDescriptor yX10_brought.desc).map (fun d => d.parameters.length) = some 1 := by decide +kernel
theorem cw_X10_round : Cond.code yX10_round cX10_round 6 (some .int) ∈ gt_T := gt_t6 47 rfl rfl
theorem im_X10_round : Cond.instanceMethod yX10_round ∈ gt_T := gt_t6 45 rfl rfl
theorem sl_X10_round : Cond.selects yX10_round.cls yX10_round yX10_round ∈ gt_T := gt_t6 46 rfl rfl
theorem pd_X10_round : yX10_round.cls ≠ "java/lang/invoke/MethodHandle" ∧ yX10_round.cls ≠ "java/lang/invoke/VarHandle" ∧ (parseMethodDescriptor yX10_round.desc).map (fun d => d.parameters.length) = some 2 := by decide +kernel
theorem cw_X10_change : Cond.code yX10_change cX10_change 7 (some .int) ∈ gt_T := gt_t6 51 rfl rfl
theorem im_X10_change : Cond.instanceMethod yX10_change ∈ gt_T := gt_t6 49 rfl rfl
theorem sl_X10_change : Cond.selects yX10_change.cls yX10_change yX10_change ∈ gt_T := gt_t6 50 rfl rfl
theorem pd_X10_change : yX10_change.cls ≠ "java/lang/invoke/MethodHandle" ∧ yX10_change.cls ≠ "java/lang/invoke/VarHandle" ∧ (parseMethodDescriptor yX10_change.desc).map (fun d => d.parameters.length) = some 6 := by decide +kernel
theorem cw_X10_sure : Cond.code yX10_sure cX10_sure 3 (some .int) ∈ gt_T := gt_t6 63 rfl rfl
theorem im_X10_sure : Cond.instanceMethod yX10_sure ∈ gt_T := gt_t6 61 rfl rfl
theorem sl_X10_sure : Cond.selects yX10_sure.cls yX10_sure yX10_sure ∈ gt_T := gt_t6 62 rfl rfl
theorem pd_X10_sure : yX10_sure.cls ≠ "java/lang/invoke/MethodHandle" ∧ yX10_sure.cls ≠ "java/lang/invoke/VarHandle" ∧ (parseMethodDescriptor yX10_sure.desc).map (fun d => d.parameters.length) = some 1 := by decide +kernel
theorem cw_X10_image : Cond.code yX10_image cX10_image 2 (some .int) ∈ gt_T := gt_t6 75 rfl rfl
theorem im_X10_image : Cond.instanceMethod yX10_image ∈ gt_T := gt_t6 73 rfl rfl
theorem sl_X10_image : Cond.selects yX10_image.cls yX10_image yX10_image ∈ gt_T := gt_t6 74 rfl rfl
theorem pd_X10_image : yX10_image.cls ≠ "java/lang/invoke/MethodHandle" ∧ yX10_image.cls ≠ "java/lang/invoke/VarHandle" ∧ (parseMethodDescriptor yX10_image.desc).map (fun d => d.parameters.length) = some 1 := by decide +kernel
theorem cw_X10_back : Cond.code yX10_back cX10_back 2 (some .int) ∈ gt_T := gt_t6 84 rfl rfl
theorem im_X10_back : Cond.instanceMethod yX10_back ∈ gt_T := gt_t6 82 rfl rfl
theorem sl_X10_back : Cond.selects yX10_back.cls yX10_back yX10_back ∈ gt_T := gt_t6 83 rfl rfl
theorem pd_X10_back : yX10_back.cls ≠ "java/lang/invoke/MethodHandle" ∧ yX10_back.cls ≠ "java/lang/invoke/VarHandle" ∧ (parseMethodDescriptor yX10_back.desc).map (fun d => d.parameters.length) = some 1 := by decide +kernel
theorem cw_X10_count : Cond.code yX10_count cX10_count 2 (some .int) ∈ gt_T := gt_t6 88 rfl rfl
theorem im_X10_count : Cond.instanceMethod yX10_count ∈ gt_T := gt_t6 86 rfl rfl
theorem sl_X10_count : Cond.selects yX10_count.cls yX10_count yX10_count ∈ gt_T := gt_t6 87 rfl rfl
theorem pd_X10_count : yX10_count.cls ≠ "java/lang/invoke/MethodHandle" ∧ yX10_count.cls ≠ "java/lang/invoke/VarHandle" ∧ (parseMethodDescriptor yX10_count.desc).map (fun d => d.parameters.length) = some 1 := by decide +kernel
theorem cw_X10_status : Cond.code yX10_status cX10_status 1 (some .int) ∈ gt_T := gt_t6 97 rfl rfl
theorem im_X10_status : Cond.instanceMethod yX10_status ∈ gt_T := gt_t6 95 rfl rfl
theorem sl_X10_status : Cond.selects yX10_status.cls yX10_status yX10_status ∈ gt_T := gt_t6 96 rfl rfl
theorem pd_X10_status : yX10_status.cls ≠ "java/lang/invoke/MethodHandle" ∧ yX10_status.cls ≠ "java/lang/invoke/VarHandle" ∧ (parseMethodDescriptor yX10_status.desc).map (fun d => d.parameters.length) = some 0 := by decide +kernel
theorem cw_X10_within : Cond.code yX10_within cX10_within 3 (some .boolean) ∈ gt_T := gt_t3 92 rfl rfl
theorem st_X10_within : Cond.static yX10_within ∈ gt_T := gt_t3 91 rfl rfl
theorem pd_X10_within : yX10_within.cls ≠ "java/lang/invoke/MethodHandle" ∧ yX10_within.cls ≠ "java/lang/invoke/VarHandle" ∧ (parseMethodDescriptor yX10_within.desc).map (fun d => d.parameters.length) = some 3 := by decide +kernel
theorem cw_X10_thingFactCanBe : Cond.code yX10_thingFactCanBe cX10_thingFactCanBe 2 (some .boolean) ∈ gt_T := gt_t3 89 rfl rfl
theorem st_X10_thingFactCanBe : Cond.static yX10_thingFactCanBe ∈ gt_T := gt_t3 88 rfl rfl
theorem pd_X10_thingFactCanBe : yX10_thingFactCanBe.cls ≠ "java/lang/invoke/MethodHandle" ∧ yX10_thingFactCanBe.cls ≠ "java/lang/invoke/VarHandle" ∧ (parseMethodDescriptor yX10_thingFactCanBe.desc).map (fun d => d.parameters.length) = some 2 := by decide +kernel
theorem cw_X10_guestCanBe : Cond.code yX10_guestCanBe cX10_guestCanBe 4 (some .boolean) ∈ gt_T := gt_t3 128 rfl rfl
theorem st_X10_guestCanBe : Cond.static yX10_guestCanBe ∈ gt_T := gt_t3 127 rfl rfl
theorem pd_X10_guestCanBe : yX10_guestCanBe.cls ≠ "java/lang/invoke/MethodHandle" ∧ yX10_guestCanBe.cls ≠ "java/lang/invoke/VarHandle" ∧ (parseMethodDescriptor yX10_guestCanBe.desc).map (fun d => d.parameters.length) = some 4 := by decide +kernel
theorem cw_X10_refuse : Cond.code yX10_refuse cX10_refuse 2 (some .int) ∈ gt_T := gt_t3 96 rfl rfl
theorem im_X10_refuse : Cond.instanceMethod yX10_refuse ∈ gt_T := gt_t3 95 rfl rfl
theorem sl_X10_refuse : Cond.selects yX10_refuse.cls yX10_refuse yX10_refuse ∈ gt_T := gt_p1 0 rfl
theorem pd_X10_refuse : yX10_refuse.cls ≠ "java/lang/invoke/MethodHandle" ∧ yX10_refuse.cls ≠ "java/lang/invoke/VarHandle" ∧ (parseMethodDescriptor yX10_refuse.desc).map (fun d => d.parameters.length) = some 1 := by decide +kernel
theorem cw_X10_accept : Cond.code yX10_accept cX10_accept 2 (some .int) ∈ gt_T := gt_t3 104 rfl rfl
theorem im_X10_accept : Cond.instanceMethod yX10_accept ∈ gt_T := gt_t3 103 rfl rfl
theorem sl_X10_accept : Cond.selects yX10_accept.cls yX10_accept yX10_accept ∈ gt_T := gt_p1 2 rfl
theorem pd_X10_accept : yX10_accept.cls ≠ "java/lang/invoke/MethodHandle" ∧ yX10_accept.cls ≠ "java/lang/invoke/VarHandle" ∧ (parseMethodDescriptor yX10_accept.desc).map (fun d => d.parameters.length) = some 1 := by decide +kernel
theorem cw_X10_altered : Cond.code yX10_altered cX10_altered 2 (some .int) ∈ gt_T := gt_t3 100 rfl rfl
theorem im_X10_altered : Cond.instanceMethod yX10_altered ∈ gt_T := gt_t3 99 rfl rfl
theorem sl_X10_altered : Cond.selects yX10_altered.cls yX10_altered yX10_altered ∈ gt_T := gt_p1 1 rfl
theorem pd_X10_altered : yX10_altered.cls ≠ "java/lang/invoke/MethodHandle" ∧ yX10_altered.cls ≠ "java/lang/invoke/VarHandle" ∧ (parseMethodDescriptor yX10_altered.desc).map (fun d => d.parameters.length) = some 1 := by decide +kernel
theorem cw_X10_feedFour : Cond.code yX10_feedFour cX10_feedFour 3 none ∈ gt_T := gt_t3 180 rfl rfl
theorem im_X10_feedFour : Cond.instanceMethod yX10_feedFour ∈ gt_T := gt_t3 179 rfl rfl
theorem sl_X10_feedFour : Cond.selects yX10_feedFour.cls yX10_feedFour yX10_feedFour ∈ gt_T := gt_p1 3 rfl
theorem pd_X10_feedFour : yX10_feedFour.cls ≠ "java/lang/invoke/MethodHandle" ∧ yX10_feedFour.cls ≠ "java/lang/invoke/VarHandle" ∧ (parseMethodDescriptor yX10_feedFour.desc).map (fun d => d.parameters.length) = some 1 := by decide +kernel
theorem cw_X10_giverOf : Cond.code yX10_giverOf cX10_giverOf 2 (some .int) ∈ gt_T := gt_t4 125 rfl rfl
theorem im_X10_giverOf : Cond.instanceMethod yX10_giverOf ∈ gt_T := gt_t4 124 rfl rfl
theorem sl_X10_giverOf : Cond.selects yX10_giverOf.cls yX10_giverOf yX10_giverOf ∈ gt_T := gt_p2 4 rfl
theorem pd_X10_giverOf : yX10_giverOf.cls ≠ "java/lang/invoke/MethodHandle" ∧ yX10_giverOf.cls ≠ "java/lang/invoke/VarHandle" ∧ (parseMethodDescriptor yX10_giverOf.desc).map (fun d => d.parameters.length) = some 1 := by decide +kernel
theorem cw_X10_isChoice : Cond.code yX10_isChoice cX10_isChoice 2 (some .boolean) ∈ gt_T := gt_t4 143 rfl rfl
theorem im_X10_isChoice : Cond.instanceMethod yX10_isChoice ∈ gt_T := gt_t4 142 rfl rfl
theorem sl_X10_isChoice : Cond.selects yX10_isChoice.cls yX10_isChoice yX10_isChoice ∈ gt_T := gt_p2 6 rfl
theorem pd_X10_isChoice : yX10_isChoice.cls ≠ "java/lang/invoke/MethodHandle" ∧ yX10_isChoice.cls ≠ "java/lang/invoke/VarHandle" ∧ (parseMethodDescriptor yX10_isChoice.desc).map (fun d => d.parameters.length) = some 1 := by decide +kernel
theorem cw_X10_fillTold : Cond.code yX10_fillTold cX10_fillTold 5 none ∈ gt_T := gt_t4 191 rfl rfl
theorem im_X10_fillTold : Cond.instanceMethod yX10_fillTold ∈ gt_T := gt_t4 190 rfl rfl
theorem sl_X10_fillTold : Cond.selects yX10_fillTold.cls yX10_fillTold yX10_fillTold ∈ gt_T := gt_p2 10 rfl
theorem pd_X10_fillTold : yX10_fillTold.cls ≠ "java/lang/invoke/MethodHandle" ∧ yX10_fillTold.cls ≠ "java/lang/invoke/VarHandle" ∧ (parseMethodDescriptor yX10_fillTold.desc).map (fun d => d.parameters.length) = some 4 := by decide +kernel
theorem cw_X10_tellHeap : Cond.code yX10_tellHeap cX10_tellHeap 6 (some .boolean) ∈ gt_T := gt_t4 187 rfl rfl
theorem im_X10_tellHeap : Cond.instanceMethod yX10_tellHeap ∈ gt_T := gt_t4 186 rfl rfl
theorem sl_X10_tellHeap : Cond.selects yX10_tellHeap.cls yX10_tellHeap yX10_tellHeap ∈ gt_T := gt_p2 9 rfl
theorem pd_X10_tellHeap : yX10_tellHeap.cls ≠ "java/lang/invoke/MethodHandle" ∧ yX10_tellHeap.cls ≠ "java/lang/invoke/VarHandle" ∧ (parseMethodDescriptor yX10_tellHeap.desc).map (fun d => d.parameters.length) = some 4 := by decide +kernel
theorem cw_X10_workMean : Cond.code yX10_workMean cX10_workMean 1 none ∈ gt_T := gt_t4 209 rfl rfl
theorem im_X10_workMean : Cond.instanceMethod yX10_workMean ∈ gt_T := gt_t4 208 rfl rfl
theorem sl_X10_workMean : Cond.selects yX10_workMean.cls yX10_workMean yX10_workMean ∈ gt_T := gt_p2 12 rfl
theorem pd_X10_workMean : yX10_workMean.cls ≠ "java/lang/invoke/MethodHandle" ∧ yX10_workMean.cls ≠ "java/lang/invoke/VarHandle" ∧ (parseMethodDescriptor yX10_workMean.desc).map (fun d => d.parameters.length) = some 0 := by decide +kernel
theorem cw_X10_speakOut : Cond.code yX10_speakOut cX10_speakOut 1 none ∈ gt_T := gt_t5 69 rfl rfl
theorem im_X10_speakOut : Cond.instanceMethod yX10_speakOut ∈ gt_T := gt_t5 68 rfl rfl
theorem sl_X10_speakOut : Cond.selects yX10_speakOut.cls yX10_speakOut yX10_speakOut ∈ gt_T := gt_p3 4 rfl
theorem pd_X10_speakOut : yX10_speakOut.cls ≠ "java/lang/invoke/MethodHandle" ∧ yX10_speakOut.cls ≠ "java/lang/invoke/VarHandle" ∧ (parseMethodDescriptor yX10_speakOut.desc).map (fun d => d.parameters.length) = some 0 := by decide +kernel
theorem cw_X10_settle : Cond.code yX10_settle cX10_settle 1 none ∈ gt_T := gt_t5 227 rfl rfl
theorem im_X10_settle : Cond.instanceMethod yX10_settle ∈ gt_T := gt_t5 226 rfl rfl
theorem sl_X10_settle : Cond.selects yX10_settle.cls yX10_settle yX10_settle ∈ gt_T := gt_p4 2 rfl
theorem pd_X10_settle : yX10_settle.cls ≠ "java/lang/invoke/MethodHandle" ∧ yX10_settle.cls ≠ "java/lang/invoke/VarHandle" ∧ (parseMethodDescriptor yX10_settle.desc).map (fun d => d.parameters.length) = some 0 := by decide +kernel
theorem cw_X11_in : Cond.code yX11_in cX11_in 6 (some .boolean) ∈ gt_T := gt_t7 88 rfl rfl
theorem st_X11_in : Cond.static yX11_in ∈ gt_T := gt_t7 87 rfl rfl
theorem pd_X11_in : yX11_in.cls ≠ "java/lang/invoke/MethodHandle" ∧ yX11_in.cls ≠ "java/lang/invoke/VarHandle" ∧ (parseMethodDescriptor yX11_in.desc).map (fun d => d.parameters.length) = some 3 := by decide +kernel
theorem cw_X11_tell : Cond.code yX11_tell cX11_tell 2 (some .int) ∈ gt_T := gt_t7 92 rfl rfl
theorem im_X11_tell : Cond.instanceMethod yX11_tell ∈ gt_T := gt_t7 91 rfl rfl
theorem sl_X11_tell : Cond.selects yX11_tell.cls yX11_tell yX11_tell ∈ gt_T := gt_p4 11 rfl
theorem pd_X11_tell : yX11_tell.cls ≠ "java/lang/invoke/MethodHandle" ∧ yX11_tell.cls ≠ "java/lang/invoke/VarHandle" ∧ (parseMethodDescriptor yX11_tell.desc).map (fun d => d.parameters.length) = some 1 := by decide +kernel
theorem cw_X11_was : Cond.code yX11_was cX11_was 2 (some .int) ∈ gt_T := gt_t7 122 rfl rfl
theorem im_X11_was : Cond.instanceMethod yX11_was ∈ gt_T := gt_t7 121 rfl rfl
theorem sl_X11_was : Cond.selects yX11_was.cls yX11_was yX11_was ∈ gt_T := gt_p4 14 rfl
theorem pd_X11_was : yX11_was.cls ≠ "java/lang/invoke/MethodHandle" ∧ yX11_was.cls ≠ "java/lang/invoke/VarHandle" ∧ (parseMethodDescriptor yX11_was.desc).map (fun d => d.parameters.length) = some 1 := by decide +kernel
theorem cw_X11_change : Cond.code yX11_change cX11_change 4 (some .int) ∈ gt_T := gt_t7 118 rfl rfl
theorem im_X11_change : Cond.instanceMethod yX11_change ∈ gt_T := gt_t7 117 rfl rfl
theorem sl_X11_change : Cond.selects yX11_change.cls yX11_change yX11_change ∈ gt_T := gt_p4 13 rfl
theorem pd_X11_change : yX11_change.cls ≠ "java/lang/invoke/MethodHandle" ∧ yX11_change.cls ≠ "java/lang/invoke/VarHandle" ∧ (parseMethodDescriptor yX11_change.desc).map (fun d => d.parameters.length) = some 2 := by decide +kernel
theorem cw_X11_image : Cond.code yX11_image cX11_image 3 (some .int) ∈ gt_T := gt_t7 85 rfl rfl
theorem im_X11_image : Cond.instanceMethod yX11_image ∈ gt_T := gt_t7 83 rfl rfl
theorem sl_X11_image : Cond.selects yX11_image.cls yX11_image yX11_image ∈ gt_T := gt_t7 84 rfl rfl
theorem pd_X11_image : yX11_image.cls ≠ "java/lang/invoke/MethodHandle" ∧ yX11_image.cls ≠ "java/lang/invoke/VarHandle" ∧ (parseMethodDescriptor yX11_image.desc).map (fun d => d.parameters.length) = some 1 := by decide +kernel
theorem cw_X11_back : Cond.code yX11_back cX11_back 3 (some .int) ∈ gt_T := gt_t7 96 rfl rfl
theorem im_X11_back : Cond.instanceMethod yX11_back ∈ gt_T := gt_t7 94 rfl rfl
theorem sl_X11_back : Cond.selects yX11_back.cls yX11_back yX11_back ∈ gt_T := gt_t7 95 rfl rfl
theorem pd_X11_back : yX11_back.cls ≠ "java/lang/invoke/MethodHandle" ∧ yX11_back.cls ≠ "java/lang/invoke/VarHandle" ∧ (parseMethodDescriptor yX11_back.desc).map (fun d => d.parameters.length) = some 1 := by decide +kernel
theorem cw_X11_isThing : Cond.code yX11_isThing cX11_isThing 2 (some .boolean) ∈ gt_T := gt_t7 114 rfl rfl
theorem im_X11_isThing : Cond.instanceMethod yX11_isThing ∈ gt_T := gt_t7 113 rfl rfl
theorem sl_X11_isThing : Cond.selects yX11_isThing.cls yX11_isThing yX11_isThing ∈ gt_T := gt_p4 12 rfl
theorem pd_X11_isThing : yX11_isThing.cls ≠ "java/lang/invoke/MethodHandle" ∧ yX11_isThing.cls ≠ "java/lang/invoke/VarHandle" ∧ (parseMethodDescriptor yX11_isThing.desc).map (fun d => d.parameters.length) = some 1 := by decide +kernel
theorem cw_X11_isGuest : Cond.code yX11_isGuest cX11_isGuest 2 (some .boolean) ∈ gt_T := gt_t7 152 rfl rfl
theorem im_X11_isGuest : Cond.instanceMethod yX11_isGuest ∈ gt_T := gt_t7 151 rfl rfl
theorem sl_X11_isGuest : Cond.selects yX11_isGuest.cls yX11_isGuest yX11_isGuest ∈ gt_T := gt_p5 0 rfl
theorem pd_X11_isGuest : yX11_isGuest.cls ≠ "java/lang/invoke/MethodHandle" ∧ yX11_isGuest.cls ≠ "java/lang/invoke/VarHandle" ∧ (parseMethodDescriptor yX11_isGuest.desc).map (fun d => d.parameters.length) = some 1 := by decide +kernel
theorem cw_X11_isText : Cond.code yX11_isText cX11_isText 2 (some .boolean) ∈ gt_T := gt_t8 79 rfl rfl
theorem im_X11_isText : Cond.instanceMethod yX11_isText ∈ gt_T := gt_t8 78 rfl rfl
theorem sl_X11_isText : Cond.selects yX11_isText.cls yX11_isText yX11_isText ∈ gt_T := gt_p6 8 rfl
theorem pd_X11_isText : yX11_isText.cls ≠ "java/lang/invoke/MethodHandle" ∧ yX11_isText.cls ≠ "java/lang/invoke/VarHandle" ∧ (parseMethodDescriptor yX11_isText.desc).map (fun d => d.parameters.length) = some 1 := by decide +kernel
theorem cw_X11_fits : Cond.code yX11_fits cX11_fits 2 (some .boolean) ∈ gt_T := gt_t7 103 rfl rfl
theorem st_X11_fits : Cond.static yX11_fits ∈ gt_T := gt_t7 102 rfl rfl
theorem pd_X11_fits : yX11_fits.cls ≠ "java/lang/invoke/MethodHandle" ∧ yX11_fits.cls ≠ "java/lang/invoke/VarHandle" ∧ (parseMethodDescriptor yX11_fits.desc).map (fun d => d.parameters.length) = some 2 := by decide +kernel
theorem cw_X11_ofThing : Cond.code yX11_ofThing cX11_ofThing 3 (some .int) ∈ gt_T := gt_t8 96 rfl rfl
theorem im_X11_ofThing : Cond.instanceMethod yX11_ofThing ∈ gt_T := gt_t8 95 rfl rfl
theorem sl_X11_ofThing : Cond.selects yX11_ofThing.cls yX11_ofThing yX11_ofThing ∈ gt_T := gt_p6 11 rfl
theorem pd_X11_ofThing : yX11_ofThing.cls ≠ "java/lang/invoke/MethodHandle" ∧ yX11_ofThing.cls ≠ "java/lang/invoke/VarHandle" ∧ (parseMethodDescriptor yX11_ofThing.desc).map (fun d => d.parameters.length) = some 2 := by decide +kernel
theorem cw_X11_ofGuest : Cond.code yX11_ofGuest cX11_ofGuest 3 (some .int) ∈ gt_T := gt_t7 164 rfl rfl
theorem im_X11_ofGuest : Cond.instanceMethod yX11_ofGuest ∈ gt_T := gt_t7 163 rfl rfl
theorem sl_X11_ofGuest : Cond.selects yX11_ofGuest.cls yX11_ofGuest yX11_ofGuest ∈ gt_T := gt_p5 1 rfl
theorem pd_X11_ofGuest : yX11_ofGuest.cls ≠ "java/lang/invoke/MethodHandle" ∧ yX11_ofGuest.cls ≠ "java/lang/invoke/VarHandle" ∧ (parseMethodDescriptor yX11_ofGuest.desc).map (fun d => d.parameters.length) = some 2 := by decide +kernel
theorem cw_X11_thing : Cond.code yX11_thing cX11_thing 6 (some .int) ∈ gt_T := gt_t7 100 rfl rfl
theorem im_X11_thing : Cond.instanceMethod yX11_thing ∈ gt_T := gt_t7 98 rfl rfl
theorem sl_X11_thing : Cond.selects yX11_thing.cls yX11_thing yX11_thing ∈ gt_T := gt_t7 99 rfl rfl
theorem pd_X11_thing : yX11_thing.cls ≠ "java/lang/invoke/MethodHandle" ∧ yX11_thing.cls ≠ "java/lang/invoke/VarHandle" ∧ (parseMethodDescriptor yX11_thing.desc).map (fun d => d.parameters.length) = some 4 := by decide +kernel
theorem cw_X11_put : Cond.code yX11_put cX11_put 4 (some .int) ∈ gt_T := gt_t7 110 rfl rfl
theorem im_X11_put : Cond.instanceMethod yX11_put ∈ gt_T := gt_t7 108 rfl rfl
theorem sl_X11_put : Cond.selects yX11_put.cls yX11_put yX11_put ∈ gt_T := gt_t7 109 rfl rfl
theorem pd_X11_put : yX11_put.cls ≠ "java/lang/invoke/MethodHandle" ∧ yX11_put.cls ≠ "java/lang/invoke/VarHandle" ∧ (parseMethodDescriptor yX11_put.desc).map (fun d => d.parameters.length) = some 3 := by decide +kernel
theorem cw_X11_instead : Cond.code yX11_instead cX11_instead 4 (some .int) ∈ gt_T := gt_t7 126 rfl rfl
theorem im_X11_instead : Cond.instanceMethod yX11_instead ∈ gt_T := gt_t7 124 rfl rfl
theorem sl_X11_instead : Cond.selects yX11_instead.cls yX11_instead yX11_instead ∈ gt_T := gt_t7 125 rfl rfl
theorem pd_X11_instead : yX11_instead.cls ≠ "java/lang/invoke/MethodHandle" ∧ yX11_instead.cls ≠ "java/lang/invoke/VarHandle" ∧ (parseMethodDescriptor yX11_instead.desc).map (fun d => d.parameters.length) = some 3 := by decide +kernel
theorem cw_X11_bonus : Cond.code yX11_bonus cX11_bonus 4 (some .int) ∈ gt_T := gt_t7 131 rfl rfl
theorem im_X11_bonus : Cond.instanceMethod yX11_bonus ∈ gt_T := gt_t7 129 rfl rfl
theorem sl_X11_bonus : Cond.selects yX11_bonus.cls yX11_bonus yX11_bonus ∈ gt_T := gt_t7 130 rfl rfl
theorem pd_X11_bonus : yX11_bonus.cls ≠ "java/lang/invoke/MethodHandle" ∧ yX11_bonus.cls ≠ "java/lang/invoke/VarHandle" ∧ (parseMethodDescriptor yX11_bonus.desc).map (fun d => d.parameters.length) = some 3 := by decide +kernel
theorem cw_X11_isNew : Cond.code yX11_isNew cX11_isNew 4 (some .boolean) ∈ gt_T := gt_t7 138 rfl rfl
theorem st_X11_isNew : Cond.static yX11_isNew ∈ gt_T := gt_t7 137 rfl rfl
theorem pd_X11_isNew : yX11_isNew.cls ≠ "java/lang/invoke/MethodHandle" ∧ yX11_isNew.cls ≠ "java/lang/invoke/VarHandle" ∧ (parseMethodDescriptor yX11_isNew.desc).map (fun d => d.parameters.length) = some 4 := by decide +kernel
theorem cw_X11_add : Cond.code yX11_add cX11_add 6 none ∈ gt_T := gt_t7 144 rfl rfl
theorem im_X11_add : Cond.instanceMethod yX11_add ∈ gt_T := gt_t7 143 rfl rfl
theorem sl_X11_add : Cond.selects yX11_add.cls yX11_add yX11_add ∈ gt_T := gt_p4 15 rfl
theorem pd_X11_add : yX11_add.cls ≠ "java/lang/invoke/MethodHandle" ∧ yX11_add.cls ≠ "java/lang/invoke/VarHandle" ∧ (parseMethodDescriptor yX11_add.desc).map (fun d => d.parameters.length) = some 4 := by decide +kernel
theorem cw_X11_guest : Cond.code yX11_guest cX11_guest 5 (some .int) ∈ gt_T := gt_t7 135 rfl rfl
theorem im_X11_guest : Cond.instanceMethod yX11_guest ∈ gt_T := gt_t7 133 rfl rfl
theorem sl_X11_guest : Cond.selects yX11_guest.cls yX11_guest yX11_guest ∈ gt_T := gt_t7 134 rfl rfl
theorem pd_X11_guest : yX11_guest.cls ≠ "java/lang/invoke/MethodHandle" ∧ yX11_guest.cls ≠ "java/lang/invoke/VarHandle" ∧ (parseMethodDescriptor yX11_guest.desc).map (fun d => d.parameters.length) = some 4 := by decide +kernel
theorem cw_X11_always : Cond.code yX11_always cX11_always 3 (some .int) ∈ gt_T := gt_t7 148 rfl rfl
theorem im_X11_always : Cond.instanceMethod yX11_always ∈ gt_T := gt_t7 146 rfl rfl
theorem sl_X11_always : Cond.selects yX11_always.cls yX11_always yX11_always ∈ gt_T := gt_t7 147 rfl rfl
theorem pd_X11_always : yX11_always.cls ≠ "java/lang/invoke/MethodHandle" ∧ yX11_always.cls ≠ "java/lang/invoke/VarHandle" ∧ (parseMethodDescriptor yX11_always.desc).map (fun d => d.parameters.length) = some 2 := by decide +kernel
theorem cw_X11_sees : Cond.code yX11_sees cX11_sees 3 (some .int) ∈ gt_T := gt_t7 156 rfl rfl
theorem im_X11_sees : Cond.instanceMethod yX11_sees ∈ gt_T := gt_t7 154 rfl rfl
theorem sl_X11_sees : Cond.selects yX11_sees.cls yX11_sees yX11_sees ∈ gt_T := gt_t7 155 rfl rfl
theorem pd_X11_sees : yX11_sees.cls ≠ "java/lang/invoke/MethodHandle" ∧ yX11_sees.cls ≠ "java/lang/invoke/VarHandle" ∧ (parseMethodDescriptor yX11_sees.desc).map (fun d => d.parameters.length) = some 2 := by decide +kernel
theorem cw_X11_pair : Cond.code yX11_pair cX11_pair 5 (some .int) ∈ gt_T := gt_t7 160 rfl rfl
theorem im_X11_pair : Cond.instanceMethod yX11_pair ∈ gt_T := gt_t7 158 rfl rfl
theorem sl_X11_pair : Cond.selects yX11_pair.cls yX11_pair yX11_pair ∈ gt_T := gt_t7 159 rfl rfl
theorem pd_X11_pair : yX11_pair.cls ≠ "java/lang/invoke/MethodHandle" ∧ yX11_pair.cls ≠ "java/lang/invoke/VarHandle" ∧ (parseMethodDescriptor yX11_pair.desc).map (fun d => d.parameters.length) = some 2 := by decide +kernel
theorem cw_X11_coin : Cond.code yX11_coin cX11_coin 2 (some .int) ∈ gt_T := gt_t7 168 rfl rfl
theorem im_X11_coin : Cond.instanceMethod yX11_coin ∈ gt_T := gt_t7 166 rfl rfl
theorem sl_X11_coin : Cond.selects yX11_coin.cls yX11_coin yX11_coin ∈ gt_T := gt_t7 167 rfl rfl
theorem pd_X11_coin : yX11_coin.cls ≠ "java/lang/invoke/MethodHandle" ∧ yX11_coin.cls ≠ "java/lang/invoke/VarHandle" ∧ (parseMethodDescriptor yX11_coin.desc).map (fun d => d.parameters.length) = some 1 := by decide +kernel
theorem cw_X11_isGiver : Cond.code yX11_isGiver cX11_isGiver 2 (some .boolean) ∈ gt_T := gt_t7 177 rfl rfl
theorem im_X11_isGiver : Cond.instanceMethod yX11_isGiver ∈ gt_T := gt_t7 176 rfl rfl
theorem sl_X11_isGiver : Cond.selects yX11_isGiver.cls yX11_isGiver yX11_isGiver ∈ gt_T := gt_p5 2 rfl
theorem pd_X11_isGiver : yX11_isGiver.cls ≠ "java/lang/invoke/MethodHandle" ∧ yX11_isGiver.cls ≠ "java/lang/invoke/VarHandle" ∧ (parseMethodDescriptor yX11_isGiver.desc).map (fun d => d.parameters.length) = some 1 := by decide +kernel
theorem cw_X11_pays : Cond.code yX11_pays cX11_pays 3 (some .int) ∈ gt_T := gt_t7 181 rfl rfl
theorem im_X11_pays : Cond.instanceMethod yX11_pays ∈ gt_T := gt_t7 180 rfl rfl
theorem sl_X11_pays : Cond.selects yX11_pays.cls yX11_pays yX11_pays ∈ gt_T := gt_p5 3 rfl
theorem pd_X11_pays : yX11_pays.cls ≠ "java/lang/invoke/MethodHandle" ∧ yX11_pays.cls ≠ "java/lang/invoke/VarHandle" ∧ (parseMethodDescriptor yX11_pays.desc).map (fun d => d.parameters.length) = some 1 := by decide +kernel
theorem cw_X11_givers : Cond.code yX11_givers cX11_givers 3 (some .int) ∈ gt_T := gt_t8 104 rfl rfl
theorem im_X11_givers : Cond.instanceMethod yX11_givers ∈ gt_T := gt_t8 103 rfl rfl
theorem sl_X11_givers : Cond.selects yX11_givers.cls yX11_givers yX11_givers ∈ gt_T := gt_p6 13 rfl
theorem pd_X11_givers : yX11_givers.cls ≠ "java/lang/invoke/MethodHandle" ∧ yX11_givers.cls ≠ "java/lang/invoke/VarHandle" ∧ (parseMethodDescriptor yX11_givers.desc).map (fun d => d.parameters.length) = some 0 := by decide +kernel
theorem cw_X11_of : Cond.code yX11_of cX11_of 3 (some .int) ∈ gt_T := gt_t7 172 rfl rfl
theorem im_X11_of : Cond.instanceMethod yX11_of ∈ gt_T := gt_t7 170 rfl rfl
theorem sl_X11_of : Cond.selects yX11_of.cls yX11_of yX11_of ∈ gt_T := gt_t7 171 rfl rfl
theorem pd_X11_of : yX11_of.cls ≠ "java/lang/invoke/MethodHandle" ∧ yX11_of.cls ≠ "java/lang/invoke/VarHandle" ∧ (parseMethodDescriptor yX11_of.desc).map (fun d => d.parameters.length) = some 2 := by decide +kernel
theorem cw_X11_row : Cond.code yX11_row cX11_row 4 (some .int) ∈ gt_T := gt_t7 185 rfl rfl
theorem im_X11_row : Cond.instanceMethod yX11_row ∈ gt_T := gt_t7 183 rfl rfl
theorem sl_X11_row : Cond.selects yX11_row.cls yX11_row yX11_row ∈ gt_T := gt_t7 184 rfl rfl
theorem pd_X11_row : yX11_row.cls ≠ "java/lang/invoke/MethodHandle" ∧ yX11_row.cls ≠ "java/lang/invoke/VarHandle" ∧ (parseMethodDescriptor yX11_row.desc).map (fun d => d.parameters.length) = some 0 := by decide +kernel
theorem cw_X11_late : Cond.code yX11_late cX11_late 1 (some .int) ∈ gt_T := gt_t7 189 rfl rfl
theorem im_X11_late : Cond.instanceMethod yX11_late ∈ gt_T := gt_t7 187 rfl rfl
theorem sl_X11_late : Cond.selects yX11_late.cls yX11_late yX11_late ∈ gt_T := gt_t7 188 rfl rfl
theorem pd_X11_late : yX11_late.cls ≠ "java/lang/invoke/MethodHandle" ∧ yX11_late.cls ≠ "java/lang/invoke/VarHandle" ∧ (parseMethodDescriptor yX11_late.desc).map (fun d => d.parameters.length) = some 0 := by decide +kernel
theorem cw_X11_four : Cond.code yX11_four cX11_four 3 none ∈ gt_T := gt_t7 197 rfl rfl
theorem im_X11_four : Cond.instanceMethod yX11_four ∈ gt_T := gt_t7 196 rfl rfl
theorem sl_X11_four : Cond.selects yX11_four.cls yX11_four yX11_four ∈ gt_T := gt_p5 4 rfl
theorem pd_X11_four : yX11_four.cls ≠ "java/lang/invoke/MethodHandle" ∧ yX11_four.cls ≠ "java/lang/invoke/VarHandle" ∧ (parseMethodDescriptor yX11_four.desc).map (fun d => d.parameters.length) = some 1 := by decide +kernel
theorem cw_X11_feed : Cond.code yX11_feed cX11_feed 6 (some .int) ∈ gt_T := gt_t7 193 rfl rfl
theorem im_X11_feed : Cond.instanceMethod yX11_feed ∈ gt_T := gt_t7 191 rfl rfl
theorem sl_X11_feed : Cond.selects yX11_feed.cls yX11_feed yX11_feed ∈ gt_T := gt_t7 192 rfl rfl
theorem pd_X11_feed : yX11_feed.cls ≠ "java/lang/invoke/MethodHandle" ∧ yX11_feed.cls ≠ "java/lang/invoke/VarHandle" ∧ (parseMethodDescriptor yX11_feed.desc).map (fun d => d.parameters.length) = some 5 := by decide +kernel
theorem cw_X11_end : Cond.code yX11_end cX11_end 2 (some .int) ∈ gt_T := gt_t7 201 rfl rfl
theorem im_X11_end : Cond.instanceMethod yX11_end ∈ gt_T := gt_t7 199 rfl rfl
theorem sl_X11_end : Cond.selects yX11_end.cls yX11_end yX11_end ∈ gt_T := gt_t7 200 rfl rfl
theorem pd_X11_end : yX11_end.cls ≠ "java/lang/invoke/MethodHandle" ∧ yX11_end.cls ≠ "java/lang/invoke/VarHandle" ∧ (parseMethodDescriptor yX11_end.desc).map (fun d => d.parameters.length) = some 1 := by decide +kernel
theorem cw_X11_isSmall : Cond.code yX11_isSmall cX11_isSmall 1 (some .boolean) ∈ gt_T := gt_t7 220 rfl rfl
theorem st_X11_isSmall : Cond.static yX11_isSmall ∈ gt_T := gt_t7 219 rfl rfl
theorem pd_X11_isSmall : yX11_isSmall.cls ≠ "java/lang/invoke/MethodHandle" ∧ yX11_isSmall.cls ≠ "java/lang/invoke/VarHandle" ∧ (parseMethodDescriptor yX11_isSmall.desc).map (fun d => d.parameters.length) = some 1 := by decide +kernel
theorem cw_X11_isDigit : Cond.code yX11_isDigit cX11_isDigit 1 (some .boolean) ∈ gt_T := gt_t7 223 rfl rfl
theorem st_X11_isDigit : Cond.static yX11_isDigit ∈ gt_T := gt_t7 222 rfl rfl
theorem pd_X11_isDigit : yX11_isDigit.cls ≠ "java/lang/invoke/MethodHandle" ∧ yX11_isDigit.cls ≠ "java/lang/invoke/VarHandle" ∧ (parseMethodDescriptor yX11_isDigit.desc).map (fun d => d.parameters.length) = some 1 := by decide +kernel
theorem cw_X11_begin : Cond.code yX11_begin cX11_begin 1 none ∈ gt_T := gt_t7 213 rfl rfl
theorem im_X11_begin : Cond.instanceMethod yX11_begin ∈ gt_T := gt_t7 212 rfl rfl
theorem sl_X11_begin : Cond.selects yX11_begin.cls yX11_begin yX11_begin ∈ gt_T := gt_p5 5 rfl
theorem pd_X11_begin : yX11_begin.cls ≠ "java/lang/invoke/MethodHandle" ∧ yX11_begin.cls ≠ "java/lang/invoke/VarHandle" ∧ (parseMethodDescriptor yX11_begin.desc).map (fun d => d.parameters.length) = some 0 := by decide +kernel
theorem cw_X11_next : Cond.code yX11_next cX11_next 1 none ∈ gt_T := gt_t7 217 rfl rfl
theorem im_X11_next : Cond.instanceMethod yX11_next ∈ gt_T := gt_t7 216 rfl rfl
theorem sl_X11_next : Cond.selects yX11_next.cls yX11_next yX11_next ∈ gt_T := gt_p5 6 rfl
theorem pd_X11_next : yX11_next.cls ≠ "java/lang/invoke/MethodHandle" ∧ yX11_next.cls ≠ "java/lang/invoke/VarHandle" ∧ (parseMethodDescriptor yX11_next.desc).map (fun d => d.parameters.length) = some 0 := by decide +kernel
theorem cw_X11_isWord : Cond.code yX11_isWord cX11_isWord 3 (some .boolean) ∈ gt_T := gt_t7 238 rfl rfl
theorem im_X11_isWord : Cond.instanceMethod yX11_isWord ∈ gt_T := gt_t7 237 rfl rfl
theorem sl_X11_isWord : Cond.selects yX11_isWord.cls yX11_isWord yX11_isWord ∈ gt_T := gt_p5 8 rfl
theorem pd_X11_isWord : yX11_isWord.cls ≠ "java/lang/invoke/MethodHandle" ∧ yX11_isWord.cls ≠ "java/lang/invoke/VarHandle" ∧ (parseMethodDescriptor yX11_isWord.desc).map (fun d => d.parameters.length) = some 1 := by decide +kernel
theorem cw_X11_isSign : Cond.code yX11_isSign cX11_isSign 2 (some .boolean) ∈ gt_T := gt_t8 20 rfl rfl
theorem im_X11_isSign : Cond.instanceMethod yX11_isSign ∈ gt_T := gt_t8 19 rfl rfl
theorem sl_X11_isSign : Cond.selects yX11_isSign.cls yX11_isSign yX11_isSign ∈ gt_T := gt_p5 13 rfl
theorem pd_X11_isSign : yX11_isSign.cls ≠ "java/lang/invoke/MethodHandle" ∧ yX11_isSign.cls ≠ "java/lang/invoke/VarHandle" ∧ (parseMethodDescriptor yX11_isSign.desc).map (fun d => d.parameters.length) = some 1 := by decide +kernel
theorem cw_X11_must : Cond.code yX11_must cX11_must 2 none ∈ gt_T := gt_t8 3 rfl rfl
theorem im_X11_must : Cond.instanceMethod yX11_must ∈ gt_T := gt_t8 2 rfl rfl
theorem sl_X11_must : Cond.selects yX11_must.cls yX11_must yX11_must ∈ gt_T := gt_p5 9 rfl
theorem pd_X11_must : yX11_must.cls ≠ "java/lang/invoke/MethodHandle" ∧ yX11_must.cls ≠ "java/lang/invoke/VarHandle" ∧ (parseMethodDescriptor yX11_must.desc).map (fun d => d.parameters.length) = some 1 := by decide +kernel
theorem cw_X11_fault : Cond.code yX11_fault cX11_fault 1 (some .int) ∈ gt_T := gt_t7 205 rfl rfl
theorem im_X11_fault : Cond.instanceMethod yX11_fault ∈ gt_T := gt_t7 203 rfl rfl
theorem sl_X11_fault : Cond.selects yX11_fault.cls yX11_fault yX11_fault ∈ gt_T := gt_t7 204 rfl rfl
theorem pd_X11_fault : yX11_fault.cls ≠ "java/lang/invoke/MethodHandle" ∧ yX11_fault.cls ≠ "java/lang/invoke/VarHandle" ∧ (parseMethodDescriptor yX11_fault.desc).map (fun d => d.parameters.length) = some 0 := by decide +kernel
theorem cw_X11_emit : Cond.code yX11_emit cX11_emit 3 none ∈ gt_T := gt_t8 41 rfl rfl
theorem im_X11_emit : Cond.instanceMethod yX11_emit ∈ gt_T := gt_t8 40 rfl rfl
theorem sl_X11_emit : Cond.selects yX11_emit.cls yX11_emit yX11_emit ∈ gt_T := gt_p6 2 rfl
theorem pd_X11_emit : yX11_emit.cls ≠ "java/lang/invoke/MethodHandle" ∧ yX11_emit.cls ≠ "java/lang/invoke/VarHandle" ∧ (parseMethodDescriptor yX11_emit.desc).map (fun d => d.parameters.length) = some 2 := by decide +kernel
theorem cw_X11_push : Cond.code yX11_push cX11_push 3 none ∈ gt_T := gt_t8 16 rfl rfl
theorem im_X11_push : Cond.instanceMethod yX11_push ∈ gt_T := gt_t8 15 rfl rfl
theorem sl_X11_push : Cond.selects yX11_push.cls yX11_push yX11_push ∈ gt_T := gt_p5 12 rfl
theorem pd_X11_push : yX11_push.cls ≠ "java/lang/invoke/MethodHandle" ∧ yX11_push.cls ≠ "java/lang/invoke/VarHandle" ∧ (parseMethodDescriptor yX11_push.desc).map (fun d => d.parameters.length) = some 2 := by decide +kernel
theorem cw_X11_binds : Cond.code yX11_binds cX11_binds 1 (some .int) ∈ gt_T := gt_t8 48 rfl rfl
theorem st_X11_binds : Cond.static yX11_binds ∈ gt_T := gt_t8 47 rfl rfl
theorem pd_X11_binds : yX11_binds.cls ≠ "java/lang/invoke/MethodHandle" ∧ yX11_binds.cls ≠ "java/lang/invoke/VarHandle" ∧ (parseMethodDescriptor yX11_binds.desc).map (fun d => d.parameters.length) = some 1 := by decide +kernel
theorem cw_X11_settle : Cond.code yX11_settle cX11_settle 2 none ∈ gt_T := gt_t8 52 rfl rfl
theorem im_X11_settle : Cond.instanceMethod yX11_settle ∈ gt_T := gt_t8 51 rfl rfl
theorem sl_X11_settle : Cond.selects yX11_settle.cls yX11_settle yX11_settle ∈ gt_T := gt_p6 4 rfl
theorem pd_X11_settle : yX11_settle.cls ≠ "java/lang/invoke/MethodHandle" ∧ yX11_settle.cls ≠ "java/lang/invoke/VarHandle" ∧ (parseMethodDescriptor yX11_settle.desc).map (fun d => d.parameters.length) = some 1 := by decide +kernel
theorem cw_X11_inner : Cond.code yX11_inner cX11_inner 3 (some .int) ∈ gt_T := gt_t8 56 rfl rfl
theorem im_X11_inner : Cond.instanceMethod yX11_inner ∈ gt_T := gt_t8 55 rfl rfl
theorem sl_X11_inner : Cond.selects yX11_inner.cls yX11_inner yX11_inner ∈ gt_T := gt_p6 5 rfl
theorem pd_X11_inner : yX11_inner.cls ≠ "java/lang/invoke/MethodHandle" ∧ yX11_inner.cls ≠ "java/lang/invoke/VarHandle" ∧ (parseMethodDescriptor yX11_inner.desc).map (fun d => d.parameters.length) = some 0 := by decide +kernel
theorem cw_X11_isCompared : Cond.code yX11_isCompared cX11_isCompared 2 (some .boolean) ∈ gt_T := gt_t8 60 rfl rfl
theorem im_X11_isCompared : Cond.instanceMethod yX11_isCompared ∈ gt_T := gt_t8 59 rfl rfl
theorem sl_X11_isCompared : Cond.selects yX11_isCompared.cls yX11_isCompared yX11_isCompared ∈ gt_T := gt_p6 6 rfl
theorem pd_X11_isCompared : yX11_isCompared.cls ≠ "java/lang/invoke/MethodHandle" ∧ yX11_isCompared.cls ≠ "java/lang/invoke/VarHandle" ∧ (parseMethodDescriptor yX11_isCompared.desc).map (fun d => d.parameters.length) = some 0 := by decide +kernel
theorem cw_X11_partAt : Cond.code yX11_partAt cX11_partAt 3 (some .int) ∈ gt_T := gt_t8 32 rfl rfl
theorem im_X11_partAt : Cond.instanceMethod yX11_partAt ∈ gt_T := gt_t8 31 rfl rfl
theorem sl_X11_partAt : Cond.selects yX11_partAt.cls yX11_partAt yX11_partAt ∈ gt_T := gt_p6 0 rfl
theorem pd_X11_partAt : yX11_partAt.cls ≠ "java/lang/invoke/MethodHandle" ∧ yX11_partAt.cls ≠ "java/lang/invoke/VarHandle" ∧ (parseMethodDescriptor yX11_partAt.desc).map (fun d => d.parameters.length) = some 0 := by decide +kernel
theorem cw_X11_openBracket : Cond.code yX11_openBracket cX11_openBracket 2 none ∈ gt_T := gt_t8 24 rfl rfl
theorem im_X11_openBracket : Cond.instanceMethod yX11_openBracket ∈ gt_T := gt_t8 23 rfl rfl
theorem sl_X11_openBracket : Cond.selects yX11_openBracket.cls yX11_openBracket yX11_openBracket ∈ gt_T := gt_p5 14 rfl
theorem pd_X11_openBracket : yX11_openBracket.cls ≠ "java/lang/invoke/MethodHandle" ∧ yX11_openBracket.cls ≠ "java/lang/invoke/VarHandle" ∧ (parseMethodDescriptor yX11_openBracket.desc).map (fun d => d.parameters.length) = some 1 := by decide +kernel
theorem cw_X11_leaf : Cond.code yX11_leaf cX11_leaf 4 none ∈ gt_T := gt_t8 37 rfl rfl
theorem im_X11_leaf : Cond.instanceMethod yX11_leaf ∈ gt_T := gt_t8 36 rfl rfl
theorem sl_X11_leaf : Cond.selects yX11_leaf.cls yX11_leaf yX11_leaf ∈ gt_T := gt_p6 1 rfl
theorem pd_X11_leaf : yX11_leaf.cls ≠ "java/lang/invoke/MethodHandle" ∧ yX11_leaf.cls ≠ "java/lang/invoke/VarHandle" ∧ (parseMethodDescriptor yX11_leaf.desc).map (fun d => d.parameters.length) = some 3 := by decide +kernel
theorem cw_X11_readPart : Cond.code yX11_readPart cX11_readPart 3 (some .int) ∈ gt_T := gt_t8 28 rfl rfl
theorem im_X11_readPart : Cond.instanceMethod yX11_readPart ∈ gt_T := gt_t8 27 rfl rfl
theorem sl_X11_readPart : Cond.selects yX11_readPart.cls yX11_readPart yX11_readPart ∈ gt_T := gt_p5 15 rfl
theorem pd_X11_readPart : yX11_readPart.cls ≠ "java/lang/invoke/MethodHandle" ∧ yX11_readPart.cls ≠ "java/lang/invoke/VarHandle" ∧ (parseMethodDescriptor yX11_readPart.desc).map (fun d => d.parameters.length) = some 0 := by decide +kernel
theorem cw_X11_readPlain : Cond.code yX11_readPlain cX11_readPlain 1 (some .int) ∈ gt_T := gt_t8 11 rfl rfl
theorem im_X11_readPlain : Cond.instanceMethod yX11_readPlain ∈ gt_T := gt_t8 10 rfl rfl
theorem sl_X11_readPlain : Cond.selects yX11_readPlain.cls yX11_readPlain yX11_readPlain ∈ gt_T := gt_p5 11 rfl
theorem pd_X11_readPlain : yX11_readPlain.cls ≠ "java/lang/invoke/MethodHandle" ∧ yX11_readPlain.cls ≠ "java/lang/invoke/VarHandle" ∧ (parseMethodDescriptor yX11_readPlain.desc).map (fun d => d.parameters.length) = some 0 := by decide +kernel
theorem cw_X11_behindSum : Cond.code yX11_behindSum cX11_behindSum 4 (some .int) ∈ gt_T := gt_t8 45 rfl rfl
theorem im_X11_behindSum : Cond.instanceMethod yX11_behindSum ∈ gt_T := gt_t8 44 rfl rfl
theorem sl_X11_behindSum : Cond.selects yX11_behindSum.cls yX11_behindSum yX11_behindSum ∈ gt_T := gt_p6 3 rfl
theorem pd_X11_behindSum : yX11_behindSum.cls ≠ "java/lang/invoke/MethodHandle" ∧ yX11_behindSum.cls ≠ "java/lang/invoke/VarHandle" ∧ (parseMethodDescriptor yX11_behindSum.desc).map (fun d => d.parameters.length) = some 1 := by decide +kernel
theorem cw_X11_behindTest : Cond.code yX11_behindTest cX11_behindTest 2 (some .int) ∈ gt_T := gt_t8 68 rfl rfl
theorem im_X11_behindTest : Cond.instanceMethod yX11_behindTest ∈ gt_T := gt_t8 67 rfl rfl
theorem sl_X11_behindTest : Cond.selects yX11_behindTest.cls yX11_behindTest yX11_behindTest ∈ gt_T := gt_p6 7 rfl
theorem pd_X11_behindTest : yX11_behindTest.cls ≠ "java/lang/invoke/MethodHandle" ∧ yX11_behindTest.cls ≠ "java/lang/invoke/VarHandle" ∧ (parseMethodDescriptor yX11_behindTest.desc).map (fun d => d.parameters.length) = some 0 := by decide +kernel
theorem cw_X11_readExpression : Cond.code yX11_readExpression cX11_readExpression 3 none ∈ gt_T := gt_t8 7 rfl rfl
theorem im_X11_readExpression : Cond.instanceMethod yX11_readExpression ∈ gt_T := gt_t8 6 rfl rfl
theorem sl_X11_readExpression : Cond.selects yX11_readExpression.cls yX11_readExpression yX11_readExpression ∈ gt_T := gt_p5 10 rfl
theorem pd_X11_readExpression : yX11_readExpression.cls ≠ "java/lang/invoke/MethodHandle" ∧ yX11_readExpression.cls ≠ "java/lang/invoke/VarHandle" ∧ (parseMethodDescriptor yX11_readExpression.desc).map (fun d => d.parameters.length) = some 1 := by decide +kernel
theorem cw_X11_readClause : Cond.code yX11_readClause cX11_readClause 4 none ∈ gt_T := gt_t7 233 rfl rfl
theorem im_X11_readClause : Cond.instanceMethod yX11_readClause ∈ gt_T := gt_t7 232 rfl rfl
theorem sl_X11_readClause : Cond.selects yX11_readClause.cls yX11_readClause yX11_readClause ∈ gt_T := gt_p5 7 rfl
theorem pd_X11_readClause : yX11_readClause.cls ≠ "java/lang/invoke/MethodHandle" ∧ yX11_readClause.cls ≠ "java/lang/invoke/VarHandle" ∧ (parseMethodDescriptor yX11_readClause.desc).map (fun d => d.parameters.length) = some 0 := by decide +kernel
theorem cw_X11_text : Cond.code yX11_text cX11_text 3 (some .int) ∈ gt_T := gt_t7 209 rfl rfl
theorem im_X11_text : Cond.instanceMethod yX11_text ∈ gt_T := gt_t7 207 rfl rfl
theorem sl_X11_text : Cond.selects yX11_text.cls yX11_text yX11_text ∈ gt_T := gt_t7 208 rfl rfl
theorem pd_X11_text : yX11_text.cls ≠ "java/lang/invoke/MethodHandle" ∧ yX11_text.cls ≠ "java/lang/invoke/VarHandle" ∧ (parseMethodDescriptor yX11_text.desc).map (fun d => d.parameters.length) = some 0 := by decide +kernel
theorem cw_X11_way : Cond.code yX11_way cX11_way 3 (some .int) ∈ gt_T := gt_t8 75 rfl rfl
theorem im_X11_way : Cond.instanceMethod yX11_way ∈ gt_T := gt_t8 73 rfl rfl
theorem sl_X11_way : Cond.selects yX11_way.cls yX11_way yX11_way ∈ gt_T := gt_t8 74 rfl rfl
theorem pd_X11_way : yX11_way.cls ≠ "java/lang/invoke/MethodHandle" ∧ yX11_way.cls ≠ "java/lang/invoke/VarHandle" ∧ (parseMethodDescriptor yX11_way.desc).map (fun d => d.parameters.length) = some 2 := by decide +kernel
theorem cw_X11_reckon : Cond.code yX11_reckon cX11_reckon 6 (some .long) ∈ gt_T := gt_t8 116 rfl rfl
theorem im_X11_reckon : Cond.instanceMethod yX11_reckon ∈ gt_T := gt_t8 115 rfl rfl
theorem sl_X11_reckon : Cond.selects yX11_reckon.cls yX11_reckon yX11_reckon ∈ gt_T := gt_p7 0 rfl
theorem pd_X11_reckon : yX11_reckon.cls ≠ "java/lang/invoke/MethodHandle" ∧ yX11_reckon.cls ≠ "java/lang/invoke/VarHandle" ∧ (parseMethodDescriptor yX11_reckon.desc).map (fun d => d.parameters.length) = some 3 := by decide +kernel
theorem cw_X11_reckonAll : Cond.code yX11_reckonAll cX11_reckonAll 7 none ∈ gt_T := gt_t8 112 rfl rfl
theorem im_X11_reckonAll : Cond.instanceMethod yX11_reckonAll ∈ gt_T := gt_t8 111 rfl rfl
theorem sl_X11_reckonAll : Cond.selects yX11_reckonAll.cls yX11_reckonAll yX11_reckonAll ∈ gt_T := gt_p6 15 rfl
theorem pd_X11_reckonAll : yX11_reckonAll.cls ≠ "java/lang/invoke/MethodHandle" ∧ yX11_reckonAll.cls ≠ "java/lang/invoke/VarHandle" ∧ (parseMethodDescriptor yX11_reckonAll.desc).map (fun d => d.parameters.length) = some 2 := by decide +kernel
theorem cw_X11_isSo : Cond.code yX11_isSo cX11_isSo 2 (some .boolean) ∈ gt_T := gt_t8 108 rfl rfl
theorem im_X11_isSo : Cond.instanceMethod yX11_isSo ∈ gt_T := gt_t8 107 rfl rfl
theorem sl_X11_isSo : Cond.selects yX11_isSo.cls yX11_isSo yX11_isSo ∈ gt_T := gt_p6 14 rfl
theorem pd_X11_isSo : yX11_isSo.cls ≠ "java/lang/invoke/MethodHandle" ∧ yX11_isSo.cls ≠ "java/lang/invoke/VarHandle" ∧ (parseMethodDescriptor yX11_isSo.desc).map (fun d => d.parameters.length) = some 1 := by decide +kernel
theorem cw_X11_asks : Cond.code yX11_asks cX11_asks 10 (some .int) ∈ gt_T := gt_t8 100 rfl rfl
theorem im_X11_asks : Cond.instanceMethod yX11_asks ∈ gt_T := gt_t8 99 rfl rfl
theorem sl_X11_asks : Cond.selects yX11_asks.cls yX11_asks yX11_asks ∈ gt_T := gt_p6 12 rfl
theorem pd_X11_asks : yX11_asks.cls ≠ "java/lang/invoke/MethodHandle" ∧ yX11_asks.cls ≠ "java/lang/invoke/VarHandle" ∧ (parseMethodDescriptor yX11_asks.desc).map (fun d => d.parameters.length) = some 3 := by decide +kernel
theorem cw_X11_canPay : Cond.code yX11_canPay cX11_canPay 3 (some .boolean) ∈ gt_T := gt_t8 92 rfl rfl
theorem im_X11_canPay : Cond.instanceMethod yX11_canPay ∈ gt_T := gt_t8 91 rfl rfl
theorem sl_X11_canPay : Cond.selects yX11_canPay.cls yX11_canPay yX11_canPay ∈ gt_T := gt_p6 10 rfl
theorem pd_X11_canPay : yX11_canPay.cls ≠ "java/lang/invoke/MethodHandle" ∧ yX11_canPay.cls ≠ "java/lang/invoke/VarHandle" ∧ (parseMethodDescriptor yX11_canPay.desc).map (fun d => d.parameters.length) = some 2 := by decide +kernel
theorem cw_X11_weigh : Cond.code yX11_weigh cX11_weigh 7 (some .int) ∈ gt_T := gt_t8 88 rfl rfl
theorem im_X11_weigh : Cond.instanceMethod yX11_weigh ∈ gt_T := gt_t8 87 rfl rfl
theorem sl_X11_weigh : Cond.selects yX11_weigh.cls yX11_weigh yX11_weigh ∈ gt_T := gt_p6 9 rfl
theorem pd_X11_weigh : yX11_weigh.cls ≠ "java/lang/invoke/MethodHandle" ∧ yX11_weigh.cls ≠ "java/lang/invoke/VarHandle" ∧ (parseMethodDescriptor yX11_weigh.desc).map (fun d => d.parameters.length) = some 3 := by decide +kernel
theorem cw_X11_weight : Cond.code yX11_weight cX11_weight 5 (some .int) ∈ gt_T := gt_t8 83 rfl rfl
theorem im_X11_weight : Cond.instanceMethod yX11_weight ∈ gt_T := gt_t8 81 rfl rfl
theorem sl_X11_weight : Cond.selects yX11_weight.cls yX11_weight yX11_weight ∈ gt_T := gt_t8 82 rfl rfl
theorem pd_X11_weight : yX11_weight.cls ≠ "java/lang/invoke/MethodHandle" ∧ yX11_weight.cls ≠ "java/lang/invoke/VarHandle" ∧ (parseMethodDescriptor yX11_weight.desc).map (fun d => d.parameters.length) = some 3 := by decide +kernel
theorem cw_X11_coinOf : Cond.code yX11_coinOf cX11_coinOf 2 (some .int) ∈ gt_T := gt_t8 184 rfl rfl
theorem im_X11_coinOf : Cond.instanceMethod yX11_coinOf ∈ gt_T := gt_t8 183 rfl rfl
theorem sl_X11_coinOf : Cond.selects yX11_coinOf.cls yX11_coinOf yX11_coinOf ∈ gt_T := gt_p7 9 rfl
theorem pd_X11_coinOf : yX11_coinOf.cls ≠ "java/lang/invoke/MethodHandle" ∧ yX11_coinOf.cls ≠ "java/lang/invoke/VarHandle" ∧ (parseMethodDescriptor yX11_coinOf.desc).map (fun d => d.parameters.length) = some 1 := by decide +kernel
theorem cw_X11_scale : Cond.code yX11_scale cX11_scale 1 (some .int) ∈ gt_T := gt_t8 137 rfl rfl
theorem st_X11_scale : Cond.static yX11_scale ∈ gt_T := gt_t8 136 rfl rfl
theorem pd_X11_scale : yX11_scale.cls ≠ "java/lang/invoke/MethodHandle" ∧ yX11_scale.cls ≠ "java/lang/invoke/VarHandle" ∧ (parseMethodDescriptor yX11_scale.desc).map (fun d => d.parameters.length) = some 1 := by decide +kernel
theorem cw_X11_many : Cond.code yX11_many cX11_many 2 (some .int) ∈ gt_T := gt_t8 134 rfl rfl
theorem st_X11_many : Cond.static yX11_many ∈ gt_T := gt_t8 133 rfl rfl
theorem pd_X11_many : yX11_many.cls ≠ "java/lang/invoke/MethodHandle" ∧ yX11_many.cls ≠ "java/lang/invoke/VarHandle" ∧ (parseMethodDescriptor yX11_many.desc).map (fun d => d.parameters.length) = some 2 := by decide +kernel
theorem cw_X11_worthOf : Cond.code yX11_worthOf cX11_worthOf 6 (some .int) ∈ gt_T := gt_t8 131 rfl rfl
theorem im_X11_worthOf : Cond.instanceMethod yX11_worthOf ∈ gt_T := gt_t8 130 rfl rfl
theorem sl_X11_worthOf : Cond.selects yX11_worthOf.cls yX11_worthOf yX11_worthOf ∈ gt_T := gt_p7 2 rfl
theorem pd_X11_worthOf : yX11_worthOf.cls ≠ "java/lang/invoke/MethodHandle" ∧ yX11_worthOf.cls ≠ "java/lang/invoke/VarHandle" ∧ (parseMethodDescriptor yX11_worthOf.desc).map (fun d => d.parameters.length) = some 1 := by decide +kernel
theorem cw_X11_all : Cond.code yX11_all cX11_all 1 (some .int) ∈ gt_T := gt_t8 140 rfl rfl
theorem st_X11_all : Cond.static yX11_all ∈ gt_T := gt_t8 139 rfl rfl
theorem pd_X11_all : yX11_all.cls ≠ "java/lang/invoke/MethodHandle" ∧ yX11_all.cls ≠ "java/lang/invoke/VarHandle" ∧ (parseMethodDescriptor yX11_all.desc).map (fun d => d.parameters.length) = some 1 := by decide +kernel
theorem cw_X11_findWorths : Cond.code yX11_findWorths cX11_findWorths 2 none ∈ gt_T := gt_t8 156 rfl rfl
theorem im_X11_findWorths : Cond.instanceMethod yX11_findWorths ∈ gt_T := gt_t8 155 rfl rfl
theorem sl_X11_findWorths : Cond.selects yX11_findWorths.cls yX11_findWorths yX11_findWorths ∈ gt_T := gt_p7 5 rfl
theorem pd_X11_findWorths : yX11_findWorths.cls ≠ "java/lang/invoke/MethodHandle" ∧ yX11_findWorths.cls ≠ "java/lang/invoke/VarHandle" ∧ (parseMethodDescriptor yX11_findWorths.desc).map (fun d => d.parameters.length) = some 0 := by decide +kernel
theorem cw_X11_isHeap : Cond.code yX11_isHeap cX11_isHeap 5 (some .boolean) ∈ gt_T := gt_t8 126 rfl rfl
theorem im_X11_isHeap : Cond.instanceMethod yX11_isHeap ∈ gt_T := gt_t8 125 rfl rfl
theorem sl_X11_isHeap : Cond.selects yX11_isHeap.cls yX11_isHeap yX11_isHeap ∈ gt_T := gt_p7 1 rfl
theorem pd_X11_isHeap : yX11_isHeap.cls ≠ "java/lang/invoke/MethodHandle" ∧ yX11_isHeap.cls ≠ "java/lang/invoke/VarHandle" ∧ (parseMethodDescriptor yX11_isHeap.desc).map (fun d => d.parameters.length) = some 4 := by decide +kernel
theorem cw_X11_heap : Cond.code yX11_heap cX11_heap 7 (some .int) ∈ gt_T := gt_t8 122 rfl rfl
theorem im_X11_heap : Cond.instanceMethod yX11_heap ∈ gt_T := gt_t8 120 rfl rfl
theorem sl_X11_heap : Cond.selects yX11_heap.cls yX11_heap yX11_heap ∈ gt_T := gt_t8 121 rfl rfl
theorem pd_X11_heap : yX11_heap.cls ≠ "java/lang/invoke/MethodHandle" ∧ yX11_heap.cls ≠ "java/lang/invoke/VarHandle" ∧ (parseMethodDescriptor yX11_heap.desc).map (fun d => d.parameters.length) = some 5 := by decide +kernel
theorem cw_X11_may : Cond.code yX11_may cX11_may 4 (some .boolean) ∈ gt_T := gt_t8 214 rfl rfl
theorem im_X11_may : Cond.instanceMethod yX11_may ∈ gt_T := gt_t8 213 rfl rfl
theorem sl_X11_may : Cond.selects yX11_may.cls yX11_may yX11_may ∈ gt_T := gt_p7 13 rfl
theorem pd_X11_may : yX11_may.cls ≠ "java/lang/invoke/MethodHandle" ∧ yX11_may.cls ≠ "java/lang/invoke/VarHandle" ∧ (parseMethodDescriptor yX11_may.desc).map (fun d => d.parameters.length) = some 2 := by decide +kernel
theorem cw_X11_moneyOf : Cond.code yX11_moneyOf cX11_moneyOf 3 (some .int) ∈ gt_T := gt_t8 218 rfl rfl
theorem im_X11_moneyOf : Cond.instanceMethod yX11_moneyOf ∈ gt_T := gt_t8 217 rfl rfl
theorem sl_X11_moneyOf : Cond.selects yX11_moneyOf.cls yX11_moneyOf yX11_moneyOf ∈ gt_T := gt_p7 14 rfl
theorem pd_X11_moneyOf : yX11_moneyOf.cls ≠ "java/lang/invoke/MethodHandle" ∧ yX11_moneyOf.cls ≠ "java/lang/invoke/VarHandle" ∧ (parseMethodDescriptor yX11_moneyOf.desc).map (fun d => d.parameters.length) = some 2 := by decide +kernel
theorem cw_X11_step : Cond.code yX11_step cX11_step 1 (some .int) ∈ gt_T := gt_t8 173 rfl rfl
theorem st_X11_step : Cond.static yX11_step ∈ gt_T := gt_t8 172 rfl rfl
theorem pd_X11_step : yX11_step.cls ≠ "java/lang/invoke/MethodHandle" ∧ yX11_step.cls ≠ "java/lang/invoke/VarHandle" ∧ (parseMethodDescriptor yX11_step.desc).map (fun d => d.parameters.length) = some 1 := by decide +kernel
theorem cw_X11_setTo : Cond.code yX11_setTo cX11_setTo 4 none ∈ gt_T := gt_t8 159 rfl rfl
theorem st_X11_setTo : Cond.static yX11_setTo ∈ gt_T := gt_t8 158 rfl rfl
theorem pd_X11_setTo : yX11_setTo.cls ≠ "java/lang/invoke/MethodHandle" ∧ yX11_setTo.cls ≠ "java/lang/invoke/VarHandle" ∧ (parseMethodDescriptor yX11_setTo.desc).map (fun d => d.parameters.length) = some 2 := by decide +kernel
theorem cw_X11_times : Cond.code yX11_times cX11_times 8 none ∈ gt_T := gt_t8 166 rfl rfl
theorem st_X11_times : Cond.static yX11_times ∈ gt_T := gt_t8 165 rfl rfl
theorem pd_X11_times : yX11_times.cls ≠ "java/lang/invoke/MethodHandle" ∧ yX11_times.cls ≠ "java/lang/invoke/VarHandle" ∧ (parseMethodDescriptor yX11_times.desc).map (fun d => d.parameters.length) = some 2 := by decide +kernel
theorem cw_X11_add_ : Cond.code yX11_add_ cX11_add_ 11 none ∈ gt_T := gt_t8 176 rfl rfl
theorem st_X11_add_ : Cond.static yX11_add_ ∈ gt_T := gt_t8 175 rfl rfl
theorem pd_X11_add_ : yX11_add_.cls ≠ "java/lang/invoke/MethodHandle" ∧ yX11_add_.cls ≠ "java/lang/invoke/VarHandle" ∧ (parseMethodDescriptor yX11_add_.desc).map (fun d => d.parameters.length) = some 5 := by decide +kernel
theorem cw_X11_compare : Cond.code yX11_compare cX11_compare 3 (some .int) ∈ gt_T := gt_t8 192 rfl rfl
theorem st_X11_compare : Cond.static yX11_compare ∈ gt_T := gt_t8 191 rfl rfl
theorem pd_X11_compare : yX11_compare.cls ≠ "java/lang/invoke/MethodHandle" ∧ yX11_compare.cls ≠ "java/lang/invoke/VarHandle" ∧ (parseMethodDescriptor yX11_compare.desc).map (fun d => d.parameters.length) = some 2 := by decide +kernel
theorem cw_X11_ratio : Cond.code yX11_ratio cX11_ratio 5 (some .int) ∈ gt_T := gt_t8 188 rfl rfl
theorem im_X11_ratio : Cond.instanceMethod yX11_ratio ∈ gt_T := gt_t8 187 rfl rfl
theorem sl_X11_ratio : Cond.selects yX11_ratio.cls yX11_ratio yX11_ratio ∈ gt_T := gt_p7 10 rfl
theorem pd_X11_ratio : yX11_ratio.cls ≠ "java/lang/invoke/MethodHandle" ∧ yX11_ratio.cls ≠ "java/lang/invoke/VarHandle" ∧ (parseMethodDescriptor yX11_ratio.desc).map (fun d => d.parameters.length) = some 0 := by decide +kernel
theorem cw_X11_weighAll : Cond.code yX11_weighAll cX11_weighAll 4 (some .int) ∈ gt_T := gt_t8 163 rfl rfl
theorem im_X11_weighAll : Cond.instanceMethod yX11_weighAll ∈ gt_T := gt_t8 162 rfl rfl
theorem sl_X11_weighAll : Cond.selects yX11_weighAll.cls yX11_weighAll yX11_weighAll ∈ gt_T := gt_p7 6 rfl
theorem pd_X11_weighAll : yX11_weighAll.cls ≠ "java/lang/invoke/MethodHandle" ∧ yX11_weighAll.cls ≠ "java/lang/invoke/VarHandle" ∧ (parseMethodDescriptor yX11_weighAll.desc).map (fun d => d.parameters.length) = some 1 := by decide +kernel
theorem cw_X11_spread : Cond.code yX11_spread cX11_spread 3 none ∈ gt_T := gt_t8 152 rfl rfl
theorem im_X11_spread : Cond.instanceMethod yX11_spread ∈ gt_T := gt_t8 151 rfl rfl
theorem sl_X11_spread : Cond.selects yX11_spread.cls yX11_spread yX11_spread ∈ gt_T := gt_p7 4 rfl
theorem pd_X11_spread : yX11_spread.cls ≠ "java/lang/invoke/MethodHandle" ∧ yX11_spread.cls ≠ "java/lang/invoke/VarHandle" ∧ (parseMethodDescriptor yX11_spread.desc).map (fun d => d.parameters.length) = some 0 := by decide +kernel
theorem cw_X11_spreadOne : Cond.code yX11_spreadOne cX11_spreadOne 4 none ∈ gt_T := gt_t8 170 rfl rfl
theorem im_X11_spreadOne : Cond.instanceMethod yX11_spreadOne ∈ gt_T := gt_t8 169 rfl rfl
theorem sl_X11_spreadOne : Cond.selects yX11_spreadOne.cls yX11_spreadOne yX11_spreadOne ∈ gt_T := gt_p7 7 rfl
theorem pd_X11_spreadOne : yX11_spreadOne.cls ≠ "java/lang/invoke/MethodHandle" ∧ yX11_spreadOne.cls ≠ "java/lang/invoke/VarHandle" ∧ (parseMethodDescriptor yX11_spreadOne.desc).map (fun d => d.parameters.length) = some 1 := by decide +kernel
theorem cw_X11_addMoney : Cond.code yX11_addMoney cX11_addMoney 4 none ∈ gt_T := gt_t8 180 rfl rfl
theorem im_X11_addMoney : Cond.instanceMethod yX11_addMoney ∈ gt_T := gt_t8 179 rfl rfl
theorem sl_X11_addMoney : Cond.selects yX11_addMoney.cls yX11_addMoney yX11_addMoney ∈ gt_T := gt_p7 8 rfl
theorem pd_X11_addMoney : yX11_addMoney.cls ≠ "java/lang/invoke/MethodHandle" ∧ yX11_addMoney.cls ≠ "java/lang/invoke/VarHandle" ∧ (parseMethodDescriptor yX11_addMoney.desc).map (fun d => d.parameters.length) = some 0 := by decide +kernel
theorem cw_X11_meanOf : Cond.code yX11_meanOf cX11_meanOf 3 (some .int) ∈ gt_T := gt_t8 148 rfl rfl
theorem im_X11_meanOf : Cond.instanceMethod yX11_meanOf ∈ gt_T := gt_t8 147 rfl rfl
theorem sl_X11_meanOf : Cond.selects yX11_meanOf.cls yX11_meanOf yX11_meanOf ∈ gt_T := gt_p7 3 rfl
theorem pd_X11_meanOf : yX11_meanOf.cls ≠ "java/lang/invoke/MethodHandle" ∧ yX11_meanOf.cls ≠ "java/lang/invoke/VarHandle" ∧ (parseMethodDescriptor yX11_meanOf.desc).map (fun d => d.parameters.length) = some 1 := by decide +kernel
theorem cw_X11_mean : Cond.code yX11_mean cX11_mean 2 (some .int) ∈ gt_T := gt_t8 144 rfl rfl
theorem im_X11_mean : Cond.instanceMethod yX11_mean ∈ gt_T := gt_t8 142 rfl rfl
theorem sl_X11_mean : Cond.selects yX11_mean.cls yX11_mean yX11_mean ∈ gt_T := gt_t8 143 rfl rfl
theorem pd_X11_mean : yX11_mean.cls ≠ "java/lang/invoke/MethodHandle" ∧ yX11_mean.cls ≠ "java/lang/invoke/VarHandle" ∧ (parseMethodDescriptor yX11_mean.desc).map (fun d => d.parameters.length) = some 1 := by decide +kernel
theorem cw_X11_none : Cond.code yX11_none cX11_none 3 (some .int) ∈ gt_T := gt_t8 196 rfl rfl
theorem im_X11_none : Cond.instanceMethod yX11_none ∈ gt_T := gt_t8 194 rfl rfl
theorem sl_X11_none : Cond.selects yX11_none.cls yX11_none yX11_none ∈ gt_T := gt_t8 195 rfl rfl
theorem pd_X11_none : yX11_none.cls ≠ "java/lang/invoke/MethodHandle" ∧ yX11_none.cls ≠ "java/lang/invoke/VarHandle" ∧ (parseMethodDescriptor yX11_none.desc).map (fun d => d.parameters.length) = some 1 := by decide +kernel
theorem cw_X11_gather : Cond.code yX11_gather cX11_gather 6 none ∈ gt_T := gt_t8 205 rfl rfl
theorem im_X11_gather : Cond.instanceMethod yX11_gather ∈ gt_T := gt_t8 204 rfl rfl
theorem sl_X11_gather : Cond.selects yX11_gather.cls yX11_gather yX11_gather ∈ gt_T := gt_p7 11 rfl
theorem pd_X11_gather : yX11_gather.cls ≠ "java/lang/invoke/MethodHandle" ∧ yX11_gather.cls ≠ "java/lang/invoke/VarHandle" ∧ (parseMethodDescriptor yX11_gather.desc).map (fun d => d.parameters.length) = some 2 := by decide +kernel
theorem cw_X11_gatherOne : Cond.code yX11_gatherOne cX11_gatherOne 12 none ∈ gt_T := gt_t8 210 rfl rfl
theorem im_X11_gatherOne : Cond.instanceMethod yX11_gatherOne ∈ gt_T := gt_t8 209 rfl rfl
theorem sl_X11_gatherOne : Cond.selects yX11_gatherOne.cls yX11_gatherOne yX11_gatherOne ∈ gt_T := gt_p7 12 rfl
theorem pd_X11_gatherOne : yX11_gatherOne.cls ≠ "java/lang/invoke/MethodHandle" ∧ yX11_gatherOne.cls ≠ "java/lang/invoke/VarHandle" ∧ (parseMethodDescriptor yX11_gatherOne.desc).map (fun d => d.parameters.length) = some 3 := by decide +kernel
theorem cw_X11_greatest : Cond.code yX11_greatest cX11_greatest 6 (some .int) ∈ gt_T := gt_t8 223 rfl rfl
theorem im_X11_greatest : Cond.instanceMethod yX11_greatest ∈ gt_T := gt_t8 222 rfl rfl
theorem sl_X11_greatest : Cond.selects yX11_greatest.cls yX11_greatest yX11_greatest ∈ gt_T := gt_p7 15 rfl
theorem pd_X11_greatest : yX11_greatest.cls ≠ "java/lang/invoke/MethodHandle" ∧ yX11_greatest.cls ≠ "java/lang/invoke/VarHandle" ∧ (parseMethodDescriptor yX11_greatest.desc).map (fun d => d.parameters.length) = some 0 := by decide +kernel
theorem cw_X11_findFirst : Cond.code yX11_findFirst cX11_findFirst 6 none ∈ gt_T := gt_t8 227 rfl rfl
theorem im_X11_findFirst : Cond.instanceMethod yX11_findFirst ∈ gt_T := gt_t8 226 rfl rfl
theorem sl_X11_findFirst : Cond.selects yX11_findFirst.cls yX11_findFirst yX11_findFirst ∈ gt_T := gt_p8 0 rfl
theorem pd_X11_findFirst : yX11_findFirst.cls ≠ "java/lang/invoke/MethodHandle" ∧ yX11_findFirst.cls ≠ "java/lang/invoke/VarHandle" ∧ (parseMethodDescriptor yX11_findFirst.desc).map (fun d => d.parameters.length) = some 1 := by decide +kernel
theorem cw_X11_isOnWay : Cond.code yX11_isOnWay cX11_isOnWay 7 (some .boolean) ∈ gt_T := gt_t8 231 rfl rfl
theorem im_X11_isOnWay : Cond.instanceMethod yX11_isOnWay ∈ gt_T := gt_t8 230 rfl rfl
theorem sl_X11_isOnWay : Cond.selects yX11_isOnWay.cls yX11_isOnWay yX11_isOnWay ∈ gt_T := gt_p8 1 rfl
theorem pd_X11_isOnWay : yX11_isOnWay.cls ≠ "java/lang/invoke/MethodHandle" ∧ yX11_isOnWay.cls ≠ "java/lang/invoke/VarHandle" ∧ (parseMethodDescriptor yX11_isOnWay.desc).map (fun d => d.parameters.length) = some 4 := by decide +kernel
theorem cw_X11_together : Cond.code yX11_together cX11_together 4 (some .int) ∈ gt_T := gt_t8 200 rfl rfl
theorem im_X11_together : Cond.instanceMethod yX11_together ∈ gt_T := gt_t8 198 rfl rfl
theorem sl_X11_together : Cond.selects yX11_together.cls yX11_together yX11_together ∈ gt_T := gt_t8 199 rfl rfl
theorem pd_X11_together : yX11_together.cls ≠ "java/lang/invoke/MethodHandle" ∧ yX11_together.cls ≠ "java/lang/invoke/VarHandle" ∧ (parseMethodDescriptor yX11_together.desc).map (fun d => d.parameters.length) = some 1 := by decide +kernel
theorem cw_X11_brings : Cond.code yX11_brings cX11_brings 2 (some .int) ∈ gt_T := gt_t8 235 rfl rfl
theorem im_X11_brings : Cond.instanceMethod yX11_brings ∈ gt_T := gt_t8 233 rfl rfl
theorem sl_X11_brings : Cond.selects yX11_brings.cls yX11_brings yX11_brings ∈ gt_T := gt_t8 234 rfl rfl
theorem pd_X11_brings : yX11_brings.cls ≠ "java/lang/invoke/MethodHandle" ∧ yX11_brings.cls ≠ "java/lang/invoke/VarHandle" ∧ (parseMethodDescriptor yX11_brings.desc).map (fun d => d.parameters.length) = some 1 := by decide +kernel
theorem cw_X11_dear : Cond.code yX11_dear cX11_dear 4 (some .int) ∈ gt_T := gt_t8 239 rfl rfl
theorem im_X11_dear : Cond.instanceMethod yX11_dear ∈ gt_T := gt_t8 237 rfl rfl
theorem sl_X11_dear : Cond.selects yX11_dear.cls yX11_dear yX11_dear ∈ gt_T := gt_t8 238 rfl rfl
theorem pd_X11_dear : yX11_dear.cls ≠ "java/lang/invoke/MethodHandle" ∧ yX11_dear.cls ≠ "java/lang/invoke/VarHandle" ∧ (parseMethodDescriptor yX11_dear.desc).map (fun d => d.parameters.length) = some 2 := by decide +kernel
theorem cw_X11_loss : Cond.code yX11_loss cX11_loss 2 (some .int) ∈ gt_T := gt_t9 4 rfl rfl
theorem im_X11_loss : Cond.instanceMethod yX11_loss ∈ gt_T := gt_t9 2 rfl rfl
theorem sl_X11_loss : Cond.selects yX11_loss.cls yX11_loss yX11_loss ∈ gt_T := gt_t9 3 rfl rfl
theorem pd_X11_loss : yX11_loss.cls ≠ "java/lang/invoke/MethodHandle" ∧ yX11_loss.cls ≠ "java/lang/invoke/VarHandle" ∧ (parseMethodDescriptor yX11_loss.desc).map (fun d => d.parameters.length) = some 0 := by decide +kernel
theorem cw_X11_over : Cond.code yX11_over cX11_over 5 (some .long) ∈ gt_T := gt_t9 19 rfl rfl
theorem st_X11_over : Cond.static yX11_over ∈ gt_T := gt_t9 18 rfl rfl
theorem pd_X11_over : yX11_over.cls ≠ "java/lang/invoke/MethodHandle" ∧ yX11_over.cls ≠ "java/lang/invoke/VarHandle" ∧ (parseMethodDescriptor yX11_over.desc).map (fun d => d.parameters.length) = some 2 := by decide +kernel
theorem cw_X11_findShares : Cond.code yX11_findShares cX11_findShares 9 none ∈ gt_T := gt_t9 16 rfl rfl
theorem im_X11_findShares : Cond.instanceMethod yX11_findShares ∈ gt_T := gt_t9 15 rfl rfl
theorem sl_X11_findShares : Cond.selects yX11_findShares.cls yX11_findShares yX11_findShares ∈ gt_T := gt_p8 3 rfl
theorem pd_X11_findShares : yX11_findShares.cls ≠ "java/lang/invoke/MethodHandle" ∧ yX11_findShares.cls ≠ "java/lang/invoke/VarHandle" ∧ (parseMethodDescriptor yX11_findShares.desc).map (fun d => d.parameters.length) = some 1 := by decide +kernel
theorem cw_X11_blindMean : Cond.code yX11_blindMean cX11_blindMean 10 (some .long) ∈ gt_T := gt_t9 27 rfl rfl
theorem im_X11_blindMean : Cond.instanceMethod yX11_blindMean ∈ gt_T := gt_t9 26 rfl rfl
theorem sl_X11_blindMean : Cond.selects yX11_blindMean.cls yX11_blindMean yX11_blindMean ∈ gt_T := gt_p8 5 rfl
theorem pd_X11_blindMean : yX11_blindMean.cls ≠ "java/lang/invoke/MethodHandle" ∧ yX11_blindMean.cls ≠ "java/lang/invoke/VarHandle" ∧ (parseMethodDescriptor yX11_blindMean.desc).map (fun d => d.parameters.length) = some 1 := by decide +kernel
theorem cw_X11_findBlind : Cond.code yX11_findBlind cX11_findBlind 8 none ∈ gt_T := gt_t9 12 rfl rfl
theorem im_X11_findBlind : Cond.instanceMethod yX11_findBlind ∈ gt_T := gt_t9 11 rfl rfl
theorem sl_X11_findBlind : Cond.selects yX11_findBlind.cls yX11_findBlind yX11_findBlind ∈ gt_T := gt_p8 2 rfl
theorem pd_X11_findBlind : yX11_findBlind.cls ≠ "java/lang/invoke/MethodHandle" ∧ yX11_findBlind.cls ≠ "java/lang/invoke/VarHandle" ∧ (parseMethodDescriptor yX11_findBlind.desc).map (fun d => d.parameters.length) = some 1 := by decide +kernel
theorem cw_X11_tryTenths : Cond.code yX11_tryTenths cX11_tryTenths 5 none ∈ gt_T := gt_t9 23 rfl rfl
theorem im_X11_tryTenths : Cond.instanceMethod yX11_tryTenths ∈ gt_T := gt_t9 22 rfl rfl
theorem sl_X11_tryTenths : Cond.selects yX11_tryTenths.cls yX11_tryTenths yX11_tryTenths ∈ gt_T := gt_p8 4 rfl
theorem pd_X11_tryTenths : yX11_tryTenths.cls ≠ "java/lang/invoke/MethodHandle" ∧ yX11_tryTenths.cls ≠ "java/lang/invoke/VarHandle" ∧ (parseMethodDescriptor yX11_tryTenths.desc).map (fun d => d.parameters.length) = some 1 := by decide +kernel
theorem cw_X11_blind : Cond.code yX11_blind cX11_blind 6 (some .int) ∈ gt_T := gt_t9 8 rfl rfl
theorem im_X11_blind : Cond.instanceMethod yX11_blind ∈ gt_T := gt_t9 6 rfl rfl
theorem sl_X11_blind : Cond.selects yX11_blind.cls yX11_blind yX11_blind ∈ gt_T := gt_t9 7 rfl rfl
theorem pd_X11_blind : yX11_blind.cls ≠ "java/lang/invoke/MethodHandle" ∧ yX11_blind.cls ≠ "java/lang/invoke/VarHandle" ∧ (parseMethodDescriptor yX11_blind.desc).map (fun d => d.parameters.length) = some 2 := by decide +kernel
theorem cw_X11_byRule : Cond.code yX11_byRule cX11_byRule 4 (some .int) ∈ gt_T := gt_t9 39 rfl rfl
theorem im_X11_byRule : Cond.instanceMethod yX11_byRule ∈ gt_T := gt_t9 38 rfl rfl
theorem sl_X11_byRule : Cond.selects yX11_byRule.cls yX11_byRule yX11_byRule ∈ gt_T := gt_p8 7 rfl
theorem pd_X11_byRule : yX11_byRule.cls ≠ "java/lang/invoke/MethodHandle" ∧ yX11_byRule.cls ≠ "java/lang/invoke/VarHandle" ∧ (parseMethodDescriptor yX11_byRule.desc).map (fun d => d.parameters.length) = some 1 := by decide +kernel
theorem cw_X11_ruleValue : Cond.code yX11_ruleValue cX11_ruleValue 5 (some .int) ∈ gt_T := gt_t9 35 rfl rfl
theorem im_X11_ruleValue : Cond.instanceMethod yX11_ruleValue ∈ gt_T := gt_t9 34 rfl rfl
theorem sl_X11_ruleValue : Cond.selects yX11_ruleValue.cls yX11_ruleValue yX11_ruleValue ∈ gt_T := gt_p8 6 rfl
theorem pd_X11_ruleValue : yX11_ruleValue.cls ≠ "java/lang/invoke/MethodHandle" ∧ yX11_ruleValue.cls ≠ "java/lang/invoke/VarHandle" ∧ (parseMethodDescriptor yX11_ruleValue.desc).map (fun d => d.parameters.length) = some 0 := by decide +kernel
theorem cw_X11_nextBounds : Cond.code yX11_nextBounds cX11_nextBounds 3 (some .boolean) ∈ gt_T := gt_t9 43 rfl rfl
theorem im_X11_nextBounds : Cond.instanceMethod yX11_nextBounds ∈ gt_T := gt_t9 42 rfl rfl
theorem sl_X11_nextBounds : Cond.selects yX11_nextBounds.cls yX11_nextBounds yX11_nextBounds ∈ gt_T := gt_p8 8 rfl
theorem pd_X11_nextBounds : yX11_nextBounds.cls ≠ "java/lang/invoke/MethodHandle" ∧ yX11_nextBounds.cls ≠ "java/lang/invoke/VarHandle" ∧ (parseMethodDescriptor yX11_nextBounds.desc).map (fun d => d.parameters.length) = some 0 := by decide +kernel
theorem cw_X11_rule : Cond.code yX11_rule cX11_rule 6 (some .int) ∈ gt_T := gt_t9 31 rfl rfl
theorem im_X11_rule : Cond.instanceMethod yX11_rule ∈ gt_T := gt_t9 29 rfl rfl
theorem sl_X11_rule : Cond.selects yX11_rule.cls yX11_rule yX11_rule ∈ gt_T := gt_t9 30 rfl rfl
theorem pd_X11_rule : yX11_rule.cls ≠ "java/lang/invoke/MethodHandle" ∧ yX11_rule.cls ≠ "java/lang/invoke/VarHandle" ∧ (parseMethodDescriptor yX11_rule.desc).map (fun d => d.parameters.length) = some 1 := by decide +kernel
theorem cw_X11_letters : Cond.code yX11_letters cX11_letters 8 (some .int) ∈ gt_T := gt_t9 47 rfl rfl
theorem im_X11_letters : Cond.instanceMethod yX11_letters ∈ gt_T := gt_t9 45 rfl rfl
theorem sl_X11_letters : Cond.selects yX11_letters.cls yX11_letters yX11_letters ∈ gt_T := gt_t9 46 rfl rfl
theorem pd_X11_letters : yX11_letters.cls ≠ "java/lang/invoke/MethodHandle" ∧ yX11_letters.cls ≠ "java/lang/invoke/VarHandle" ∧ (parseMethodDescriptor yX11_letters.desc).map (fun d => d.parameters.length) = some 4 := by decide +kernel
theorem cw_X11_goesOn : Cond.code yX11_goesOn cX11_goesOn 9 (some .boolean) ∈ gt_T := gt_t9 60 rfl rfl
theorem im_X11_goesOn : Cond.instanceMethod yX11_goesOn ∈ gt_T := gt_t9 59 rfl rfl
theorem sl_X11_goesOn : Cond.selects yX11_goesOn.cls yX11_goesOn yX11_goesOn ∈ gt_T := gt_p8 10 rfl
theorem pd_X11_goesOn : yX11_goesOn.cls ≠ "java/lang/invoke/MethodHandle" ∧ yX11_goesOn.cls ≠ "java/lang/invoke/VarHandle" ∧ (parseMethodDescriptor yX11_goesOn.desc).map (fun d => d.parameters.length) = some 1 := by decide +kernel
theorem cw_X11_findRest : Cond.code yX11_findRest cX11_findRest 3 none ∈ gt_T := gt_t9 55 rfl rfl
theorem im_X11_findRest : Cond.instanceMethod yX11_findRest ∈ gt_T := gt_t9 54 rfl rfl
theorem sl_X11_findRest : Cond.selects yX11_findRest.cls yX11_findRest yX11_findRest ∈ gt_T := gt_p8 9 rfl
theorem pd_X11_findRest : yX11_findRest.cls ≠ "java/lang/invoke/MethodHandle" ∧ yX11_findRest.cls ≠ "java/lang/invoke/VarHandle" ∧ (parseMethodDescriptor yX11_findRest.desc).map (fun d => d.parameters.length) = some 0 := by decide +kernel
theorem cw_X11_rest : Cond.code yX11_rest cX11_rest 3 (some .int) ∈ gt_T := gt_t9 51 rfl rfl
theorem im_X11_rest : Cond.instanceMethod yX11_rest ∈ gt_T := gt_t9 49 rfl rfl
theorem sl_X11_rest : Cond.selects yX11_rest.cls yX11_rest yX11_rest ∈ gt_T := gt_t9 50 rfl rfl
theorem pd_X11_rest : yX11_rest.cls ≠ "java/lang/invoke/MethodHandle" ∧ yX11_rest.cls ≠ "java/lang/invoke/VarHandle" ∧ (parseMethodDescriptor yX11_rest.desc).map (fun d => d.parameters.length) = some 1 := by decide +kernel
theorem cw_X11_find : Cond.code yX11_find cX11_find 2 (some .int) ∈ gt_T := gt_t9 64 rfl rfl
theorem im_X11_find : Cond.instanceMethod yX11_find ∈ gt_T := gt_t9 62 rfl rfl
theorem sl_X11_find : Cond.selects yX11_find.cls yX11_find yX11_find ∈ gt_T := gt_t9 63 rfl rfl
theorem pd_X11_find : yX11_find.cls ≠ "java/lang/invoke/MethodHandle" ∧ yX11_find.cls ≠ "java/lang/invoke/VarHandle" ∧ (parseMethodDescriptor yX11_find.desc).map (fun d => d.parameters.length) = some 1 := by decide +kernel
theorem cw_X11_draw : Cond.code yX11_draw cX11_draw 2 (some .int) ∈ gt_T := gt_t9 84 rfl rfl
theorem im_X11_draw : Cond.instanceMethod yX11_draw ∈ gt_T := gt_t9 83 rfl rfl
theorem sl_X11_draw : Cond.selects yX11_draw.cls yX11_draw yX11_draw ∈ gt_T := gt_p8 14 rfl
theorem pd_X11_draw : yX11_draw.cls ≠ "java/lang/invoke/MethodHandle" ∧ yX11_draw.cls ≠ "java/lang/invoke/VarHandle" ∧ (parseMethodDescriptor yX11_draw.desc).map (fun d => d.parameters.length) = some 1 := by decide +kernel
theorem cw_X11_best : Cond.code yX11_best cX11_best 7 (some .int) ∈ gt_T := gt_t9 76 rfl rfl
theorem im_X11_best : Cond.instanceMethod yX11_best ∈ gt_T := gt_t9 75 rfl rfl
theorem sl_X11_best : Cond.selects yX11_best.cls yX11_best yX11_best ∈ gt_T := gt_p8 12 rfl
theorem pd_X11_best : yX11_best.cls ≠ "java/lang/invoke/MethodHandle" ∧ yX11_best.cls ≠ "java/lang/invoke/VarHandle" ∧ (parseMethodDescriptor yX11_best.desc).map (fun d => d.parameters.length) = some 2 := by decide +kernel
theorem cw_X11_drawnBy : Cond.code yX11_drawnBy cX11_drawnBy 4 (some .int) ∈ gt_T := gt_t9 80 rfl rfl
theorem im_X11_drawnBy : Cond.instanceMethod yX11_drawnBy ∈ gt_T := gt_t9 79 rfl rfl
theorem sl_X11_drawnBy : Cond.selects yX11_drawnBy.cls yX11_drawnBy yX11_drawnBy ∈ gt_T := gt_p8 13 rfl
theorem pd_X11_drawnBy : yX11_drawnBy.cls ≠ "java/lang/invoke/MethodHandle" ∧ yX11_drawnBy.cls ≠ "java/lang/invoke/VarHandle" ∧ (parseMethodDescriptor yX11_drawnBy.desc).map (fun d => d.parameters.length) = some 1 := by decide +kernel
theorem cw_X11_drawAll : Cond.code yX11_drawAll cX11_drawAll 6 (some .int) ∈ gt_T := gt_t9 72 rfl rfl
theorem im_X11_drawAll : Cond.instanceMethod yX11_drawAll ∈ gt_T := gt_t9 71 rfl rfl
theorem sl_X11_drawAll : Cond.selects yX11_drawAll.cls yX11_drawAll yX11_drawAll ∈ gt_T := gt_p8 11 rfl
theorem pd_X11_drawAll : yX11_drawAll.cls ≠ "java/lang/invoke/MethodHandle" ∧ yX11_drawAll.cls ≠ "java/lang/invoke/VarHandle" ∧ (parseMethodDescriptor yX11_drawAll.desc).map (fun d => d.parameters.length) = some 0 := by decide +kernel
theorem cw_X11_wed : Cond.code yX11_wed cX11_wed 4 (some .int) ∈ gt_T := gt_t9 68 rfl rfl
theorem im_X11_wed : Cond.instanceMethod yX11_wed ∈ gt_T := gt_t9 66 rfl rfl
theorem sl_X11_wed : Cond.selects yX11_wed.cls yX11_wed yX11_wed ∈ gt_T := gt_t9 67 rfl rfl
theorem pd_X11_wed : yX11_wed.cls ≠ "java/lang/invoke/MethodHandle" ∧ yX11_wed.cls ≠ "java/lang/invoke/VarHandle" ∧ (parseMethodDescriptor yX11_wed.desc).map (fun d => d.parameters.length) = some 1 := by decide +kernel
theorem cw_X11_had : Cond.code yX11_had cX11_had 2 (some .int) ∈ gt_T := gt_t9 91 rfl rfl
theorem im_X11_had : Cond.instanceMethod yX11_had ∈ gt_T := gt_t9 89 rfl rfl
theorem sl_X11_had : Cond.selects yX11_had.cls yX11_had yX11_had ∈ gt_T := gt_t9 90 rfl rfl
theorem pd_X11_had : yX11_had.cls ≠ "java/lang/invoke/MethodHandle" ∧ yX11_had.cls ≠ "java/lang/invoke/VarHandle" ∧ (parseMethodDescriptor yX11_had.desc).map (fun d => d.parameters.length) = some 1 := by decide +kernel
theorem cw_X11_brought : Cond.code yX11_brought cX11_brought 2 (some .int) ∈ gt_T := gt_t9 95 rfl rfl
theorem im_X11_brought : Cond.instanceMethod yX11_brought ∈ gt_T := gt_t9 93 rfl rfl
theorem sl_X11_brought : Cond.selects yX11_brought.cls yX11_brought yX11_brought ∈ gt_T := gt_t9 94 rfl rfl
theorem pd_X11_brought : yX11_brought.cls ≠ "java/lang/invoke/MethodHandle" ∧ yX11_brought.cls ≠ "java/lang/invoke/VarHandle" ∧ (parseMethodDescriptor yX11_brought.desc).map (fun d => d.parameters.length) = some 1 := by decide +kernel
theorem cw_X11_round : Cond.code yX11_round cX11_round 5 (some .int) ∈ gt_T := gt_t9 99 rfl rfl
theorem im_X11_round : Cond.instanceMethod yX11_round ∈ gt_T := gt_t9 97 rfl rfl
theorem sl_X11_round : Cond.selects yX11_round.cls yX11_round yX11_round ∈ gt_T := gt_t9 98 rfl rfl
theorem pd_X11_round : yX11_round.cls ≠ "java/lang/invoke/MethodHandle" ∧ yX11_round.cls ≠ "java/lang/invoke/VarHandle" ∧ (parseMethodDescriptor yX11_round.desc).map (fun d => d.parameters.length) = some 2 := by decide +kernel
theorem cw_X11_change_ : Cond.code yX11_change_ cX11_change_ 16 (some .int) ∈ gt_T := gt_t9 103 rfl rfl
theorem im_X11_change_ : Cond.instanceMethod yX11_change_ ∈ gt_T := gt_t9 101 rfl rfl
theorem sl_X11_change_ : Cond.selects yX11_change_.cls yX11_change_ yX11_change_ ∈ gt_T := gt_t9 102 rfl rfl
theorem pd_X11_change_ : yX11_change_.cls ≠ "java/lang/invoke/MethodHandle" ∧ yX11_change_.cls ≠ "java/lang/invoke/VarHandle" ∧ (parseMethodDescriptor yX11_change_.desc).map (fun d => d.parameters.length) = some 6 := by decide +kernel
theorem cw_X11_likedBy : Cond.code yX11_likedBy cX11_likedBy 6 (some .int) ∈ gt_T := gt_t9 111 rfl rfl
theorem im_X11_likedBy : Cond.instanceMethod yX11_likedBy ∈ gt_T := gt_t9 110 rfl rfl
theorem sl_X11_likedBy : Cond.selects yX11_likedBy.cls yX11_likedBy yX11_likedBy ∈ gt_T := gt_p8 15 rfl
theorem pd_X11_likedBy : yX11_likedBy.cls ≠ "java/lang/invoke/MethodHandle" ∧ yX11_likedBy.cls ≠ "java/lang/invoke/VarHandle" ∧ (parseMethodDescriptor yX11_likedBy.desc).map (fun d => d.parameters.length) = some 1 := by decide +kernel
theorem cw_X11_sure : Cond.code yX11_sure cX11_sure 7 (some .int) ∈ gt_T := gt_t9 107 rfl rfl
theorem im_X11_sure : Cond.instanceMethod yX11_sure ∈ gt_T := gt_t9 105 rfl rfl
theorem sl_X11_sure : Cond.selects yX11_sure.cls yX11_sure yX11_sure ∈ gt_T := gt_t9 106 rfl rfl
theorem pd_X11_sure : yX11_sure.cls ≠ "java/lang/invoke/MethodHandle" ∧ yX11_sure.cls ≠ "java/lang/invoke/VarHandle" ∧ (parseMethodDescriptor yX11_sure.desc).map (fun d => d.parameters.length) = some 1 := by decide +kernel
theorem cw_X11_count : Cond.code yX11_count cX11_count 2 (some .int) ∈ gt_T := gt_t9 115 rfl rfl
theorem im_X11_count : Cond.instanceMethod yX11_count ∈ gt_T := gt_t9 113 rfl rfl
theorem sl_X11_count : Cond.selects yX11_count.cls yX11_count yX11_count ∈ gt_T := gt_t9 114 rfl rfl
theorem pd_X11_count : yX11_count.cls ≠ "java/lang/invoke/MethodHandle" ∧ yX11_count.cls ≠ "java/lang/invoke/VarHandle" ∧ (parseMethodDescriptor yX11_count.desc).map (fun d => d.parameters.length) = some 1 := by decide +kernel
theorem cw_X11_status : Cond.code yX11_status cX11_status 1 (some .int) ∈ gt_T := gt_t9 119 rfl rfl
theorem im_X11_status : Cond.instanceMethod yX11_status ∈ gt_T := gt_t9 117 rfl rfl
theorem sl_X11_status : Cond.selects yX11_status.cls yX11_status yX11_status ∈ gt_T := gt_t9 118 rfl rfl
theorem pd_X11_status : yX11_status.cls ≠ "java/lang/invoke/MethodHandle" ∧ yX11_status.cls ≠ "java/lang/invoke/VarHandle" ∧ (parseMethodDescriptor yX11_status.desc).map (fun d => d.parameters.length) = some 0 := by decide +kernel
theorem cw_J0 : Cond.code yJ0 cJ0 2 (some .int) ∈ gt_T := gt_t4 167 rfl rfl
theorem st_J0 : Cond.static yJ0 ∈ gt_T := gt_t4 166 rfl rfl
theorem pd_J0 : yJ0.cls ≠ "java/lang/invoke/MethodHandle" ∧ yJ0.cls ≠ "java/lang/invoke/VarHandle" ∧ (parseMethodDescriptor yJ0.desc).map (fun d => d.parameters.length) = some 2 := by decide +kernel
theorem cw_J1 : Cond.code yJ1 cJ1 2 (some .int) ∈ gt_T := gt_t4 21 rfl rfl
theorem st_J1 : Cond.static yJ1 ∈ gt_T := gt_t4 20 rfl rfl
theorem pd_J1 : yJ1.cls ≠ "java/lang/invoke/MethodHandle" ∧ yJ1.cls ≠ "java/lang/invoke/VarHandle" ∧ (parseMethodDescriptor yJ1.desc).map (fun d => d.parameters.length) = some 2 := by decide +kernel
theorem cw_J2 : Cond.code yJ2 cJ2 4 (some .long) ∈ gt_T := gt_t4 179 rfl rfl
theorem st_J2 : Cond.static yJ2 ∈ gt_T := gt_t4 178 rfl rfl
theorem pd_J2 : yJ2.cls ≠ "java/lang/invoke/MethodHandle" ∧ yJ2.cls ≠ "java/lang/invoke/VarHandle" ∧ (parseMethodDescriptor yJ2.desc).map (fun d => d.parameters.length) = some 2 := by decide +kernel
theorem cw_J3 : Cond.code yJ3 cJ3 4 (some .long) ∈ gt_T := gt_t4 176 rfl rfl
theorem st_J3 : Cond.static yJ3 ∈ gt_T := gt_t4 175 rfl rfl
theorem pd_J3 : yJ3.cls ≠ "java/lang/invoke/MethodHandle" ∧ yJ3.cls ≠ "java/lang/invoke/VarHandle" ∧ (parseMethodDescriptor yJ3.desc).map (fun d => d.parameters.length) = some 2 := by decide +kernel
theorem cw_J4 : Cond.code yJ4 cJ4 3 none ∈ gt_T := gt_t5 2 rfl rfl
theorem st_J4 : Cond.static yJ4 ∈ gt_T := gt_t5 1 rfl rfl
theorem pd_J4 : yJ4.cls ≠ "java/lang/invoke/MethodHandle" ∧ yJ4.cls ≠ "java/lang/invoke/VarHandle" ∧ (parseMethodDescriptor yJ4.desc).map (fun d => d.parameters.length) = some 3 := by decide +kernel
theorem cw_J5 : Cond.code yJ5 cJ5 4 none ∈ gt_T := gt_t1 38 rfl rfl
theorem st_J5 : Cond.static yJ5 ∈ gt_T := gt_t1 37 rfl rfl
theorem pd_J5 : yJ5.cls ≠ "java/lang/invoke/MethodHandle" ∧ yJ5.cls ≠ "java/lang/invoke/VarHandle" ∧ (parseMethodDescriptor yJ5.desc).map (fun d => d.parameters.length) = some 2 := by decide +kernel
theorem cw_J6 : Cond.code yJ6 cJ6 5 none ∈ gt_T := gt_t5 77 rfl rfl
theorem st_J6 : Cond.static yJ6 ∈ gt_T := gt_t5 76 rfl rfl
theorem pd_J6 : yJ6.cls ≠ "java/lang/invoke/MethodHandle" ∧ yJ6.cls ≠ "java/lang/invoke/VarHandle" ∧ (parseMethodDescriptor yJ6.desc).map (fun d => d.parameters.length) = some 4 := by decide +kernel
theorem cw_J7 : Cond.code yJ7 cJ7 5 none ∈ gt_T := gt_t5 8 rfl rfl
theorem st_J7 : Cond.static yJ7 ∈ gt_T := gt_t5 7 rfl rfl
theorem pd_J7 : yJ7.cls ≠ "java/lang/invoke/MethodHandle" ∧ yJ7.cls ≠ "java/lang/invoke/VarHandle" ∧ (parseMethodDescriptor yJ7.desc).map (fun d => d.parameters.length) = some 2 := by decide +kernel
theorem cw_J8 : Cond.code yJ8 cJ8 6 none ∈ gt_T := gt_t4 239 rfl rfl
theorem st_J8 : Cond.static yJ8 ∈ gt_T := gt_t4 238 rfl rfl
theorem pd_J8 : yJ8.cls ≠ "java/lang/invoke/MethodHandle" ∧ yJ8.cls ≠ "java/lang/invoke/VarHandle" ∧ (parseMethodDescriptor yJ8.desc).map (fun d => d.parameters.length) = some 4 := by decide +kernel
theorem ln_X0_51 : Cond.methodLink RX0 51 yX0_shapeLevels ∈ gt_T := gt_t5 138 rfl rfl
theorem ln_X0_54 : Cond.methodLink RX0 54 yX0_countHeaps ∈ gt_T := gt_t5 148 rfl rfl
theorem ln_X0_64 : Cond.methodLink RX0 64 yX0_spread ∈ gt_T := gt_t5 160 rfl rfl
theorem ln_X0_75 : Cond.methodLink RX0 75 yX0_monomial ∈ gt_T := gt_t5 142 rfl rfl
theorem ln_X0_79 : Cond.methodLink RX0 79 yX0_degree ∈ gt_T := gt_t5 145 rfl rfl
theorem ln_X0_83 : Cond.methodLink RX0 83 yX0_factorial ∈ gt_T := gt_t5 152 rfl rfl
theorem ln_X0_87 : Cond.methodLink RX0 87 yX0_powerOf ∈ gt_T := gt_t5 155 rfl rfl
theorem ln_X0_91 : Cond.methodLink RX0 91 yX1_weigh ∈ gt_T := gt_t5 158 rfl rfl
theorem ln_X0_100 : Cond.methodLink RX0 100 yX0_putFirst ∈ gt_T := gt_t5 164 rfl rfl
theorem ln_X0_104 : Cond.methodLink RX0 104 yX0_putIn ∈ gt_T := gt_t5 168 rfl rfl
theorem ln_X0_107 : Cond.methodLink RX0 107 yX0_compare ∈ gt_T := gt_t5 172 rfl rfl
theorem ln_X0_110 : Cond.methodLink RX0 110 arraycopyName ∈ gt_T := gt_t5 176 rfl rfl
theorem ln_X1_58 : Cond.methodLink RX1 58 yX6_fact ∈ gt_T := gt_t4 196 rfl rfl
theorem ln_X1_62 : Cond.methodLink RX1 62 yJ1 ∈ gt_T := gt_t4 197 rfl rfl
theorem ln_X1_67 : Cond.methodLink RX1 67 yX1_makeUp ∈ gt_T := gt_t4 198 rfl rfl
theorem ln_X1_86 : Cond.methodLink RX1 86 yX1_weigh ∈ gt_T := gt_t4 232 rfl rfl
theorem ln_X1_99 : Cond.methodLink RX1 99 yX1_tryChange ∈ gt_T := gt_t6 56 rfl rfl
theorem ln_X1_103 : Cond.methodLink RX1 103 yX1_shape ∈ gt_T := gt_t4 223 rfl rfl
theorem ln_X1_107 : Cond.methodLink RX1 107 arraycopyName ∈ gt_T := gt_t4 231 rfl rfl
theorem ln_X1_113 : Cond.methodLink RX1 113 yX1_grow ∈ gt_T := gt_t4 227 rfl rfl
theorem ln_X2_51 : Cond.methodLink RX2 51 yJ8 ∈ gt_T := gt_t4 237 rfl rfl
theorem ln_X2_57 : Cond.methodLink RX2 57 yX2_set ∈ gt_T := gt_t5 3 rfl rfl
theorem ln_X2_61 : Cond.methodLink RX2 61 yX2_addMoney ∈ gt_T := gt_t5 9 rfl rfl
theorem ln_X2_65 : Cond.methodLink RX2 65 yX2_addGifts ∈ gt_T := gt_t5 25 rfl rfl
theorem ln_X2_69 : Cond.methodLink RX2 69 yX2_carryAll ∈ gt_T := gt_t5 33 rfl rfl
theorem ln_X2_76 : Cond.methodLink RX2 76 yX2_meanOf ∈ gt_T := gt_t5 37 rfl rfl
theorem ln_X2_86 : Cond.methodLink RX2 86 yX3_chanceSum ∈ gt_T := gt_t5 13 rfl rfl
theorem ln_X2_90 : Cond.methodLink RX2 90 arraycopyName ∈ gt_T := gt_t5 14 rfl rfl
theorem ln_X2_99 : Cond.methodLink RX2 99 yX2_multiply ∈ gt_T := gt_t5 15 rfl rfl
theorem ln_X2_105 : Cond.methodLink RX2 105 yX2_add ∈ gt_T := gt_t5 22 rfl rfl
theorem ln_X2_109 : Cond.methodLink RX2 109 yX1_after ∈ gt_T := gt_t5 29 rfl rfl
theorem ln_X2_115 : Cond.methodLink RX2 115 yX2_carry ∈ gt_T := gt_t5 18 rfl rfl
theorem ln_X2_119 : Cond.methodLink RX2 119 yX2_quotient ∈ gt_T := gt_t5 41 rfl rfl
theorem ln_X2_123 : Cond.methodLink RX2 123 yX2_below ∈ gt_T := gt_t5 45 rfl rfl
theorem ln_X2_127 : Cond.methodLink RX2 127 yX2_subtract ∈ gt_T := gt_t5 48 rfl rfl
theorem ln_X2_130 : Cond.methodLink RX2 130 yX2_halve ∈ gt_T := gt_t5 51 rfl rfl
theorem ln_X2_133 : Cond.methodLink RX2 133 yJ7 ∈ gt_T := gt_t5 6 rfl rfl
theorem ln_X3_60 : Cond.methodLink RX3 60 yX6_isGiver ∈ gt_T := gt_t4 130 rfl rfl
theorem ln_X3_64 : Cond.methodLink RX3 64 yX3_seatGiver ∈ gt_T := gt_t4 131 rfl rfl
theorem ln_X3_68 : Cond.methodLink RX3 68 yX6_purseOf ∈ gt_T := gt_t4 135 rfl rfl
theorem ln_X3_84 : Cond.methodLink RX3 84 yX6_fact ∈ gt_T := gt_t4 136 rfl rfl
theorem ln_X3_88 : Cond.methodLinkNest RX3 88 yX10_within "GiftTable" ∈ gt_N := gt_Ni 1055 (by decide +kernel) rfl
theorem ln_X3_92 : Cond.methodLink RX3 92 yX3_clauseWeight ∈ gt_T := gt_t4 148 rfl rfl
theorem ln_X3_96 : Cond.methodLink RX3 96 yX6_wayOf ∈ gt_T := gt_t4 152 rfl rfl
theorem ln_X3_103 : Cond.methodLink RX3 103 yX7_tells ∈ gt_T := gt_t4 156 rfl rfl
theorem ln_X3_107 : Cond.methodLink RX3 107 yJ5 ∈ gt_T := gt_t4 214 rfl rfl
theorem ln_X3_113 : Cond.methodLink RX3 113 yX3_chanceSum ∈ gt_T := gt_t4 215 rfl rfl
theorem ln_X3_116 : Cond.methodLink RX3 116 yX3_likedBest ∈ gt_T := gt_t6 68 rfl rfl
theorem ln_X4_42 : Cond.methodLink RX4 42 yX3_canBring ∈ gt_T := gt_t5 206 rfl rfl
theorem ln_X4_46 : Cond.methodLink RX4 46 yJ5 ∈ gt_T := gt_t5 218 rfl rfl
theorem ln_X4_60 : Cond.methodLink RX4 60 yX4_choiceBy ∈ gt_T := gt_t5 203 rfl rfl
theorem ln_X4_67 : Cond.methodLink RX4 67 yX1_weigh ∈ gt_T := gt_t5 219 rfl rfl
theorem ln_X4_76 : Cond.methodLink RX4 76 yX4_gatherCandidates ∈ gt_T := gt_t5 191 rfl rfl
theorem ln_X4_83 : Cond.methodLink RX4 83 yX4_tryBounds ∈ gt_T := gt_t5 195 rfl rfl
theorem ln_X4_91 : Cond.methodLink RX4 91 yX4_tryRule ∈ gt_T := gt_t5 199 rfl rfl
theorem ln_X4_95 : Cond.methodLink RX4 95 yX1_after ∈ gt_T := gt_t5 207 rfl rfl
theorem ln_X4_99 : Cond.methodLink RX4 99 yX3_moneyBy ∈ gt_T := gt_t5 208 rfl rfl
theorem ln_X4_105 : Cond.methodLink RX4 105 arraycopyName ∈ gt_T := gt_t5 209 rfl rfl
theorem ln_X4_114 : Cond.methodLink RX4 114 yX4_lay ∈ gt_T := gt_t5 232 rfl rfl
theorem ln_X4_121 : Cond.methodLink RX4 121 yX4_goRound ∈ gt_T := gt_t5 236 rfl rfl
theorem ln_X4_125 : Cond.methodLink RX4 125 yX4_valueNow ∈ gt_T := gt_t6 0 rfl rfl
theorem ln_X5_68 : Cond.methodLink RX5 68 yX5_rowKind ∈ gt_T := gt_t3 205 rfl rfl
theorem ln_X5_72 : Cond.methodLink RX5 72 yX5_tokenOf ∈ gt_T := gt_t3 209 rfl rfl
theorem ln_X5_76 : Cond.methodLink RX5 76 yX5_addToken ∈ gt_T := gt_t4 22 rfl rfl
theorem ln_X5_80 : Cond.methodLinkNest RX5 80 yX10_within "GiftTable" ∈ gt_N := gt_Ni 688 (by decide +kernel) rfl
theorem ln_X5_84 : Cond.methodLink RX5 84 yX5_wordOf ∈ gt_T := gt_t3 212 rfl rfl
theorem ln_X5_87 : Cond.methodLink RX5 87 yX5_numberOf ∈ gt_T := gt_t4 16 rfl rfl
theorem ln_X5_98 : Cond.methodLink RX5 98 yJ1 ∈ gt_T := gt_t4 19 rfl rfl
theorem ln_X5_49 : Cond.methodLink RX5 49 yX5_takes ∈ gt_T := gt_t4 30 rfl rfl
theorem ln_X5_53 : Cond.methodLink RX5 53 yX5_fail ∈ gt_T := gt_t4 34 rfl rfl
theorem ln_X5_104 : Cond.methodLink RX5 104 yX5_readSum ∈ gt_T := gt_t4 38 rfl rfl
theorem ln_X5_108 : Cond.methodLink RX5 108 yX5_readTest ∈ gt_T := gt_t4 62 rfl rfl
theorem ln_X5_111 : Cond.methodLink RX5 111 yX5_readBoth ∈ gt_T := gt_t4 66 rfl rfl
theorem ln_X5_114 : Cond.methodLink RX5 114 yX5_write ∈ gt_T := gt_t4 58 rfl rfl
theorem ln_X5_117 : Cond.methodLink RX5 117 yX5_fill ∈ gt_T := gt_t4 78 rfl rfl
theorem ln_X5_120 : Cond.methodLink RX5 120 yX5_readPlain ∈ gt_T := gt_t4 70 rfl rfl
theorem ln_X5_123 : Cond.methodLink RX5 123 yX5_opens ∈ gt_T := gt_t4 50 rfl rfl
theorem ln_X5_127 : Cond.methodLink RX5 127 yX5_closes ∈ gt_T := gt_t4 54 rfl rfl
theorem ln_X5_131 : Cond.methodLink RX5 131 yX5_readComparison ∈ gt_T := gt_t4 74 rfl rfl
theorem ln_X5_134 : Cond.methodLink RX5 134 yX5_readTerm ∈ gt_T := gt_t4 42 rfl rfl
theorem ln_X5_137 : Cond.methodLink RX5 137 yX5_readPart ∈ gt_T := gt_t4 46 rfl rfl
theorem ln_X6_58 : Cond.methodLink RX6 58 arraycopyName ∈ gt_T := gt_t6 80 rfl rfl
theorem ln_X6_70 : Cond.methodLinkNest RX6 70 yX10_within "GiftTable" ∈ gt_N := gt_Ni 593 (by decide +kernel) rfl
theorem ln_X6_74 : Cond.methodLink RX6 74 yX6_isGiver ∈ gt_T := gt_t6 93 rfl rfl
theorem ln_X7_18 : Cond.methodLink RX7 18 yX7_reckon ∈ gt_T := gt_t4 160 rfl rfl
theorem ln_X7_26 : Cond.methodLink RX7 26 yJ3 ∈ gt_T := gt_t4 174 rfl rfl
theorem ln_X7_32 : Cond.methodLink RX7 32 yJ2 ∈ gt_T := gt_t4 177 rfl rfl
theorem ln_X7_35 : Cond.methodLink RX7 35 yJ0 ∈ gt_T := gt_t4 165 rfl rfl
theorem ln_X7_38 : Cond.methodLink RX7 38 yX7_join ∈ gt_T := gt_t4 168 rfl rfl
theorem ln_X8_44 : Cond.methodLink RX8 44 arraycopyName ∈ gt_T := gt_t5 74 rfl rfl
theorem ln_X8_50 : Cond.methodLink RX8 50 yJ6 ∈ gt_T := gt_t5 75 rfl rfl
theorem ln_X8_56 : Cond.methodLink RX8 56 yX8_workLayer ∈ gt_T := gt_t5 78 rfl rfl
theorem ln_X8_60 : Cond.methodLink RX8 60 yX8_walkFirst ∈ gt_T := gt_t5 87 rfl rfl
theorem ln_X8_64 : Cond.methodLink RX8 64 yX1_after ∈ gt_T := gt_t5 82 rfl rfl
theorem ln_X8_68 : Cond.methodLink RX8 68 yX3_moneyBy ∈ gt_T := gt_t5 83 rfl rfl
theorem ln_X8_74 : Cond.methodLink RX8 74 yX3_canBring ∈ gt_T := gt_t5 91 rfl rfl
theorem ln_X8_78 : Cond.methodLink RX8 78 yX8_valueAfter ∈ gt_T := gt_t5 96 rfl rfl
theorem ln_X8_94 : Cond.methodLink RX8 94 yX8_tryLayer ∈ gt_T := gt_t5 121 rfl rfl
theorem ln_X8_97 : Cond.methodLink RX8 97 yJ0 ∈ gt_T := gt_t5 125 rfl rfl
theorem ln_X9_29 : Cond.methodLink RX9 29 yJ5 ∈ gt_T := gt_t6 17 rfl rfl
theorem ln_X9_48 : Cond.methodLink RX9 48 yX9_choose ∈ gt_T := gt_t6 18 rfl rfl
theorem ln_X9_55 : Cond.methodLink RX9 55 yX1_weigh ∈ gt_T := gt_t6 27 rfl rfl
theorem ln_X9_68 : Cond.methodLink RX9 68 yX9_bestByList ∈ gt_T := gt_t6 22 rfl rfl
theorem ln_X9_72 : Cond.methodLink RX9 72 yX9_drawnChoice ∈ gt_T := gt_t6 28 rfl rfl
theorem ln_X9_79 : Cond.methodLink RX9 79 yX3_canBring ∈ gt_T := gt_t6 26 rfl rfl
theorem ln_X9_89 : Cond.methodLink RX9 89 yX3_chanceSum ∈ gt_T := gt_t6 35 rfl rfl
theorem ln_X10_97 : Cond.methodLink RX10 97 yX10_thingFactCanBe ∈ gt_T := gt_t3 87 rfl rfl
theorem ln_X10_101 : Cond.methodLink RX10 101 yX10_refuse ∈ gt_T := gt_t3 93 rfl rfl
theorem ln_X10_111 : Cond.methodLink RX10 111 yX10_altered ∈ gt_T := gt_t3 97 rfl rfl
theorem ln_X10_114 : Cond.methodLink RX10 114 yX6_hasThing ∈ gt_T := gt_t3 109 rfl rfl
theorem ln_X10_118 : Cond.methodLink RX10 118 yX10_within ∈ gt_T := gt_t3 90 rfl rfl
theorem ln_X10_131 : Cond.methodLink RX10 131 yX10_guestCanBe ∈ gt_T := gt_t3 126 rfl rfl
theorem ln_X10_138 : Cond.methodLink RX10 138 yX6_addGuest ∈ gt_T := gt_t3 129 rfl rfl
theorem ln_X10_142 : Cond.methodLink RX10 142 yX6_hasGuest ∈ gt_T := gt_t3 137 rfl rfl
theorem ln_X10_151 : Cond.methodLink RX10 151 yX6_part ∈ gt_T := gt_t3 149 rfl rfl
theorem ln_X10_155 : Cond.methodLink RX10 155 yX6_isWithThird ∈ gt_T := gt_t3 153 rfl rfl
theorem ln_X10_167 : Cond.methodLink RX10 167 yX6_isGiver ∈ gt_T := gt_t3 165 rfl rfl
theorem ln_X10_170 : Cond.methodLink RX10 170 yX6_purseOf ∈ gt_T := gt_t3 169 rfl rfl
theorem ln_X10_176 : Cond.methodLink RX10 176 yX10_feedFour ∈ gt_T := gt_t3 177 rfl rfl
theorem ln_X10_200 : Cond.methodLink RX10 200 yX10_giverOf ∈ gt_T := gt_t4 122 rfl rfl
theorem ln_X10_203 : Cond.methodLink RX10 203 yX10_isChoice ∈ gt_T := gt_t4 140 rfl rfl
theorem ln_X10_206 : Cond.methodLink RX10 206 yX3_weightOf ∈ gt_T := gt_t4 144 rfl rfl
theorem ln_X10_210 : Cond.methodLink RX10 210 yX10_tellHeap ∈ gt_T := gt_t4 184 rfl rfl
theorem ln_X10_213 : Cond.methodLink RX10 213 yX1_weigh ∈ gt_T := gt_t4 192 rfl rfl
theorem ln_X10_226 : Cond.methodLink RX10 226 yX10_workMean ∈ gt_T := gt_t4 206 rfl rfl
theorem ln_X10_235 : Cond.methodLink RX10 235 yX3_seat ∈ gt_T := gt_t4 126 rfl rfl
theorem ln_X10_239 : Cond.methodLink RX10 239 yX3_fillChances ∈ gt_T := gt_t4 210 rfl rfl
theorem ln_X10_242 : Cond.methodLink RX10 242 yX2_lacking ∈ gt_T := gt_t5 58 rfl rfl
theorem ln_X10_246 : Cond.methodLink RX10 246 yX10_speakOut ∈ gt_T := gt_t5 66 rfl rfl
theorem ln_X10_249 : Cond.methodLink RX10 249 yX8_greatest ∈ gt_T := gt_t5 100 rfl rfl
theorem ln_X10_253 : Cond.methodLink RX10 253 yX8_countedWays ∈ gt_T := gt_t5 104 rfl rfl
theorem ln_X10_261 : Cond.methodLink RX10 261 yX3_canBring ∈ gt_T := gt_t5 116 rfl rfl
theorem ln_X10_264 : Cond.methodLink RX10 264 yX8_lessWith ∈ gt_T := gt_t5 117 rfl rfl
theorem ln_X10_268 : Cond.methodLink RX10 268 yX0_work ∈ gt_T := gt_t5 134 rfl rfl
theorem ln_X10_275 : Cond.methodLink RX10 275 yX0_tenthsOf ∈ gt_T := gt_t5 179 rfl rfl
theorem ln_X10_282 : Cond.methodLink RX10 282 yX1_price ∈ gt_T := gt_t4 219 rfl rfl
theorem ln_X10_286 : Cond.methodLink RX10 286 yX4_findRule ∈ gt_T := gt_t5 187 rfl rfl
theorem ln_X10_296 : Cond.methodLink RX10 296 yX10_fillTold ∈ gt_T := gt_t4 188 rfl rfl
theorem ln_X10_300 : Cond.methodLink RX10 300 yX4_valueBy ∈ gt_T := gt_t5 214 rfl rfl
theorem ln_X10_304 : Cond.methodLink RX10 304 yX10_settle ∈ gt_T := gt_t5 224 rfl rfl
theorem ln_X10_323 : Cond.methodLink RX10 323 yX9_hold ∈ gt_T := gt_t6 13 rfl rfl
theorem ln_X10_194 : Cond.methodLink RX10 194 yX10_accept ∈ gt_T := gt_t3 101 rfl rfl
theorem ln_X10_341 : Cond.methodLink RX10 341 yX1_findChange ∈ gt_T := gt_t6 52 rfl rfl
theorem ln_X10_354 : Cond.methodLink RX10 354 yX3_mostLiked ∈ gt_T := gt_t6 64 rfl rfl
theorem ln_X10_358 : Cond.methodLink RX10 358 yX6_copyFrom ∈ gt_T := gt_t6 76 rfl rfl
theorem ln_X10_362 : Cond.methodLink RX10 362 yX6_countGivers ∈ gt_T := gt_t6 89 rfl rfl
theorem ln_X10_371 : Cond.methodLink RX10 371 yX2_work ∈ gt_T := gt_t4 233 rfl rfl
theorem ln_X10_373 : Cond.methodLink RX10 373 yX8_work ∈ gt_T := gt_t5 70 rfl rfl
theorem ln_X10_374 : Cond.methodLink RX10 374 yX4_settle ∈ gt_T := gt_t5 228 rfl rfl
theorem ln_X11_159 : Cond.methodLink RX11 159 yX11_was ∈ gt_T := gt_t7 119 rfl rfl
theorem ln_X11_163 : Cond.methodLink RX11 163 yX11_in ∈ gt_T := gt_t7 86 rfl rfl
theorem ln_X11_167 : Cond.methodLink RX11 167 yX11_tell ∈ gt_T := gt_t7 89 rfl rfl
theorem ln_X11_176 : Cond.methodLink RX11 176 yX11_fits ∈ gt_T := gt_t7 101 rfl rfl
theorem ln_X11_180 : Cond.methodLink RX11 180 yX11_isThing ∈ gt_T := gt_t7 111 rfl rfl
theorem ln_X11_184 : Cond.methodLink RX11 184 yX11_change ∈ gt_T := gt_t7 115 rfl rfl
theorem ln_X11_194 : Cond.methodLink RX11 194 yX11_isNew ∈ gt_T := gt_t7 136 rfl rfl
theorem ln_X11_198 : Cond.methodLink RX11 198 yX11_add ∈ gt_T := gt_t7 141 rfl rfl
theorem ln_X11_202 : Cond.methodLink RX11 202 yX11_isGuest ∈ gt_T := gt_t7 149 rfl rfl
theorem ln_X11_205 : Cond.methodLink RX11 205 yX11_ofGuest ∈ gt_T := gt_t7 161 rfl rfl
theorem ln_X11_208 : Cond.methodLink RX11 208 yX11_isGiver ∈ gt_T := gt_t7 174 rfl rfl
theorem ln_X11_213 : Cond.methodLink RX11 213 yX11_pays ∈ gt_T := gt_t7 178 rfl rfl
theorem ln_X11_222 : Cond.methodLink RX11 222 yX11_four ∈ gt_T := gt_t7 194 rfl rfl
theorem ln_X11_233 : Cond.methodLink RX11 233 yX11_next ∈ gt_T := gt_t7 214 rfl rfl
theorem ln_X11_243 : Cond.methodLink RX11 243 yX11_isSmall ∈ gt_T := gt_t7 218 rfl rfl
theorem ln_X11_246 : Cond.methodLink RX11 246 yX11_isDigit ∈ gt_T := gt_t7 221 rfl rfl
theorem ln_X11_274 : Cond.methodLink RX11 274 yX11_binds ∈ gt_T := gt_t8 46 rfl rfl
theorem ln_X11_277 : Cond.methodLink RX11 277 yX11_emit ∈ gt_T := gt_t8 38 rfl rfl
theorem ln_X11_289 : Cond.methodLink RX11 289 yX11_isWord ∈ gt_T := gt_t7 235 rfl rfl
theorem ln_X11_264 : Cond.methodLink RX11 264 yX11_must ∈ gt_T := gt_t8 0 rfl rfl
theorem ln_X11_296 : Cond.methodLink RX11 296 yX11_push ∈ gt_T := gt_t8 13 rfl rfl
theorem ln_X11_302 : Cond.methodLink RX11 302 yX11_isSign ∈ gt_T := gt_t8 17 rfl rfl
theorem ln_X11_305 : Cond.methodLink RX11 305 yX11_openBracket ∈ gt_T := gt_t8 21 rfl rfl
theorem ln_X11_308 : Cond.methodLink RX11 308 yX11_partAt ∈ gt_T := gt_t8 29 rfl rfl
theorem ln_X11_314 : Cond.methodLink RX11 314 yX11_leaf ∈ gt_T := gt_t8 34 rfl rfl
theorem ln_X11_320 : Cond.methodLink RX11 320 yX11_readPart ∈ gt_T := gt_t8 25 rfl rfl
theorem ln_X11_323 : Cond.methodLink RX11 323 yX11_settle ∈ gt_T := gt_t8 49 rfl rfl
theorem ln_X11_326 : Cond.methodLink RX11 326 yX11_inner ∈ gt_T := gt_t8 53 rfl rfl
theorem ln_X11_329 : Cond.methodLink RX11 329 yX11_isCompared ∈ gt_T := gt_t8 57 rfl rfl
theorem ln_X11_337 : Cond.methodLink RX11 337 yX11_readPlain ∈ gt_T := gt_t8 8 rfl rfl
theorem ln_X11_340 : Cond.methodLink RX11 340 yX11_behindSum ∈ gt_T := gt_t8 42 rfl rfl
theorem ln_X11_344 : Cond.methodLink RX11 344 yX11_behindTest ∈ gt_T := gt_t8 65 rfl rfl
theorem ln_X11_354 : Cond.methodLink RX11 354 yX11_readExpression ∈ gt_T := gt_t8 4 rfl rfl
theorem ln_X11_359 : Cond.methodLink RX11 359 yX11_begin ∈ gt_T := gt_t7 210 rfl rfl
theorem ln_X11_362 : Cond.methodLink RX11 362 yX11_readClause ∈ gt_T := gt_t7 230 rfl rfl
theorem ln_X11_365 : Cond.methodLink RX11 365 yX11_isText ∈ gt_T := gt_t8 76 rfl rfl
theorem ln_X11_374 : Cond.methodLink RX11 374 yX11_reckon ∈ gt_T := gt_t8 113 rfl rfl
theorem ln_X11_385 : Cond.methodLink RX11 385 yX11_reckonAll ∈ gt_T := gt_t8 109 rfl rfl
theorem ln_X11_391 : Cond.methodLink RX11 391 yX11_ofThing ∈ gt_T := gt_t8 93 rfl rfl
theorem ln_X11_394 : Cond.methodLink RX11 394 yX11_givers ∈ gt_T := gt_t8 101 rfl rfl
theorem ln_X11_397 : Cond.methodLink RX11 397 yX11_isSo ∈ gt_T := gt_t8 105 rfl rfl
theorem ln_X11_400 : Cond.methodLink RX11 400 yX11_canPay ∈ gt_T := gt_t8 89 rfl rfl
theorem ln_X11_403 : Cond.methodLink RX11 403 yX11_asks ∈ gt_T := gt_t8 97 rfl rfl
theorem ln_X11_409 : Cond.methodLink RX11 409 yX11_weigh ∈ gt_T := gt_t8 85 rfl rfl
theorem ln_X11_412 : Cond.methodLink RX11 412 yX11_scale ∈ gt_T := gt_t8 135 rfl rfl
theorem ln_X11_415 : Cond.methodLink RX11 415 yX11_many ∈ gt_T := gt_t8 132 rfl rfl
theorem ln_X11_418 : Cond.methodLink RX11 418 yX11_worthOf ∈ gt_T := gt_t8 128 rfl rfl
theorem ln_X11_421 : Cond.methodLink RX11 421 yX11_all ∈ gt_T := gt_t8 138 rfl rfl
theorem ln_X11_425 : Cond.methodLink RX11 425 yX11_isHeap ∈ gt_T := gt_t8 123 rfl rfl
theorem ln_X11_430 : Cond.methodLink RX11 430 yX11_coinOf ∈ gt_T := gt_t8 181 rfl rfl
theorem ln_X11_434 : Cond.methodLink RX11 434 yX11_times ∈ gt_T := gt_t8 164 rfl rfl
theorem ln_X11_438 : Cond.methodLink RX11 438 yX11_compare ∈ gt_T := gt_t8 190 rfl rfl
theorem ln_X11_442 : Cond.methodLink RX11 442 yX11_findWorths ∈ gt_T := gt_t8 153 rfl rfl
theorem ln_X11_445 : Cond.methodLink RX11 445 yX11_setTo ∈ gt_T := gt_t8 157 rfl rfl
theorem ln_X11_448 : Cond.methodLink RX11 448 yX11_weighAll ∈ gt_T := gt_t8 160 rfl rfl
theorem ln_X11_451 : Cond.methodLink RX11 451 yX11_spreadOne ∈ gt_T := gt_t8 167 rfl rfl
theorem ln_X11_454 : Cond.methodLink RX11 454 yX11_step ∈ gt_T := gt_t8 171 rfl rfl
theorem ln_X11_457 : Cond.methodLink RX11 457 yX11_add_ ∈ gt_T := gt_t8 174 rfl rfl
theorem ln_X11_460 : Cond.methodLink RX11 460 yX11_spread ∈ gt_T := gt_t8 149 rfl rfl
theorem ln_X11_463 : Cond.methodLink RX11 463 yX11_addMoney ∈ gt_T := gt_t8 177 rfl rfl
theorem ln_X11_466 : Cond.methodLink RX11 466 yX11_ratio ∈ gt_T := gt_t8 185 rfl rfl
theorem ln_X11_469 : Cond.methodLink RX11 469 yX11_meanOf ∈ gt_T := gt_t8 145 rfl rfl
theorem ln_X11_473 : Cond.methodLink RX11 473 yX11_gatherOne ∈ gt_T := gt_t8 207 rfl rfl
theorem ln_X11_477 : Cond.methodLink RX11 477 yX11_may ∈ gt_T := gt_t8 211 rfl rfl
theorem ln_X11_480 : Cond.methodLink RX11 480 yX11_moneyOf ∈ gt_T := gt_t8 215 rfl rfl
theorem ln_X11_487 : Cond.methodLink RX11 487 yX11_isOnWay ∈ gt_T := gt_t8 228 rfl rfl
theorem ln_X11_495 : Cond.methodLink RX11 495 yX11_gather ∈ gt_T := gt_t8 202 rfl rfl
theorem ln_X11_498 : Cond.methodLink RX11 498 yX11_greatest ∈ gt_T := gt_t8 220 rfl rfl
theorem ln_X11_501 : Cond.methodLink RX11 501 yX11_findFirst ∈ gt_T := gt_t8 224 rfl rfl
theorem ln_X11_506 : Cond.methodLink RX11 506 yX11_over ∈ gt_T := gt_t9 17 rfl rfl
theorem ln_X11_510 : Cond.methodLink RX11 510 yX11_findShares ∈ gt_T := gt_t9 13 rfl rfl
theorem ln_X11_516 : Cond.methodLink RX11 516 yX11_tryTenths ∈ gt_T := gt_t9 20 rfl rfl
theorem ln_X11_519 : Cond.methodLink RX11 519 yX11_blindMean ∈ gt_T := gt_t9 24 rfl rfl
theorem ln_X11_523 : Cond.methodLink RX11 523 yX11_findBlind ∈ gt_T := gt_t9 9 rfl rfl
theorem ln_X11_526 : Cond.methodLink RX11 526 yX11_byRule ∈ gt_T := gt_t9 36 rfl rfl
theorem ln_X11_529 : Cond.methodLink RX11 529 yX11_ruleValue ∈ gt_T := gt_t9 32 rfl rfl
theorem ln_X11_532 : Cond.methodLink RX11 532 yX11_nextBounds ∈ gt_T := gt_t9 40 rfl rfl
theorem ln_X11_545 : Cond.methodLink RX11 545 yX11_goesOn ∈ gt_T := gt_t9 57 rfl rfl
theorem ln_X11_548 : Cond.methodLink RX11 548 yX11_findRest ∈ gt_T := gt_t9 52 rfl rfl
theorem ln_X11_560 : Cond.methodLink RX11 560 yX11_draw ∈ gt_T := gt_t9 81 rfl rfl
theorem ln_X11_569 : Cond.methodLink RX11 569 yX11_best ∈ gt_T := gt_t9 73 rfl rfl
theorem ln_X11_572 : Cond.methodLink RX11 572 yX11_drawnBy ∈ gt_T := gt_t9 77 rfl rfl
theorem ln_X11_575 : Cond.methodLink RX11 575 yX11_drawAll ∈ gt_T := gt_t9 69 rfl rfl
theorem ln_X11_584 : Cond.methodLink RX11 584 yX11_likedBy ∈ gt_T := gt_t9 108 rfl rfl
theorem ln_java_util_Arrays_13 : Cond.methodLink "java/util/Arrays" 13 yJ4 ∈ gt_T := gt_t5 0 rfl rfl
theorem st_acp : Cond.static arraycopyName ∈ gt_T := gt_t4 96 rfl rfl
theorem nt_acp : Cond.native arraycopyName ∈ gt_T := gt_t4 97 rfl rfl
end
section
/-! the cells: printed by wip/whole/gen2.py -/
def gt_kf (j : Nat) : Option gt_K := (if j < 76 then (if j < 38 then (if j < 19 then (if j < 9 then (if j < 4 then (if j < 2 then (if j < 1 then some (.inr (10, [some (some 1), some (some 12), some (some 35), some (some 36), none, none, none, none, some (some 37), none, some (some 38), some (some 39), some (some 44), some (some 56), some (some 67), some (some 76), some (some 82), some (some 100), some (some 106), some (some 110)])) else some (.inr (6, [none, some (some 2), some (some 3), some (some 4), some (some 5), none, some (some 6), some (some 7), some (some 8), some (some 9), none, none, some (some 10), some (some 11)]))) else (if j < 3 then some (.inl (.int, 16, [])) else some (.inl (.int, 4, [])))) else (if j < 6 then (if j < 5 then some (.inl (.int, 4, [])) else some (.inl (.int, 16, []))) else (if j < 7 then some (.inl (.int, 48, [])) else (if j < 8 then some (.inl (.int, 12, [])) else some (.inl (.int, 12, [])))))) else (if j < 14 then (if j < 11 then (if j < 10 then some (.inl (.int, 12, [])) else some (.inl (.object "GiftTable$Text", 6, []))) else (if j < 12 then some (.inl (.int, 6, [])) else (if j < 13 then some (.inl (.object "GiftTable$State", 2, [13, 24])) else some (.inr (6, [none, some (some 14), some (some 15), some (some 16), some (some 17), none, some (some 18), some (some 19), some (some 20), some (some 21), none, none, some (some 22), some (some 23)]))))) else (if j < 16 then (if j < 15 then some (.inl (.int, 16, [])) else some (.inl (.int, 4, []))) else (if j < 17 then some (.inl (.int, 4, [])) else (if j < 18 then some (.inl (.int, 16, [])) else some (.inl (.int, 48, []))))))) else (if j < 28 then (if j < 23 then (if j < 21 then (if j < 20 then some (.inl (.int, 12, [])) else some (.inl (.int, 12, []))) else (if j < 22 then some (.inl (.int, 12, [])) else some (.inl (.object "GiftTable$Text", 6, [])))) else (if j < 25 then (if j < 24 then some (.inl (.int, 6, [])) else some (.inr (6, [none, some (some 25), some (some 26), some (some 27), some (some 28), none, some (some 29), some (some 30), some (some 31), some (some 32), none, none, some (some 33), some (some 34)]))) else (if j < 26 then some (.inl (.int, 16, [])) else (if j < 27 then some (.inl (.int, 4, [])) else some (.inl (.int, 4, [])))))) else (if j < 33 then (if j < 30 then (if j < 29 then some (.inl (.int, 16, [])) else some (.inl (.int, 48, []))) else (if j < 31 then some (.inl (.int, 12, [])) else (if j < 32 then some (.inl (.int, 12, [])) else some (.inl (.int, 12, []))))) else (if j < 35 then (if j < 34 then some (.inl (.object "GiftTable$Text", 6, [])) else some (.inl (.int, 6, []))) else (if j < 36 then some (.inl (.boolean, 2, [])) else (if j < 37 then some (.inl (.int, 400, [])) else some (.inl (.int, 5, [])))))))) else (if j < 57 then (if j < 47 then (if j < 42 then (if j < 40 then (if j < 39 then some (.inl (.int, 4, [])) else some (.inr (5, [some (some 40), some (some 41), some (some 42), some (some 43), none, none, none, none, none, none]))) else (if j < 41 then some (.inl (.int, 401, [])) else some (.inl (.int, 401, [])))) else (if j < 44 then (if j < 43 then some (.inl (.int, 400, [])) else some (.inl (.int, 48, []))) else (if j < 45 then some (.inr (1, [some (some 45), some (some 46), some (some 47), none, none, none, none, none, none, none, none, some (some 48), some (some 49), some (some 50), some (some 51), some (some 52), some (some 53), some (some 54), some (some 55)])) else (if j < 46 then some (.inl (.int, 4, [])) else some (.inl (.int, 4, [])))))) else (if j < 52 then (if j < 49 then (if j < 48 then some (.inl (.int, 4, [])) else some (.inl (.int, 13, []))) else (if j < 50 then some (.inl (.int, 7280, [])) else (if j < 51 then some (.inl (.int, 7280, [])) else some (.inl (.int, 1820, []))))) else (if j < 54 then (if j < 53 then some (.inl (.int, 1820, [])) else some (.inl (.int, 1820, []))) else (if j < 55 then some (.inl (.int, 1820, [])) else (if j < 56 then some (.inl (.int, 1820, [])) else some (.inr (3, [none, some (some 57), some (some 58), some (some 59), some (some 60), some (some 61), some (some 62), some (some 63), some (some 64), some (some 65), some (some 66), none, none]))))))) else (if j < 66 then (if j < 61 then (if j < 59 then (if j < 58 then some (.inl (.int, 12, [])) else some (.inl (.int, 12, []))) else (if j < 60 then some (.inl (.int, 12, [])) else some (.inl (.int, 12, [])))) else (if j < 63 then (if j < 62 then some (.inl (.int, 12, [])) else some (.inl (.int, 12, []))) else (if j < 64 then some (.inl (.int, 12, [])) else (if j < 65 then some (.inl (.int, 60, [])) else some (.inl (.int, 10, [])))))) else (if j < 71 then (if j < 68 then (if j < 67 then some (.inl (.long, 64, [])) else some (.inr (2, [some (some 68), some (some 69), some (some 70), some (some 71), some (some 72), some (some 73), some (some 74), some (some 75), none]))) else (if j < 69 then some (.inl (.long, 1820, [])) else (if j < 70 then some (.inl (.long, 1820, [])) else some (.inl (.long, 1820, []))))) else (if j < 73 then (if j < 72 then some (.inl (.long, 4, [])) else some (.inl (.long, 4, []))) else (if j < 74 then some (.inl (.long, 4, [])) else (if j < 75 then some (.inl (.long, 4, [])) else some (.inl (.int, 3, []))))))))) else (if j < 114 then (if j < 95 then (if j < 85 then (if j < 80 then (if j < 78 then (if j < 77 then some (.inr (8, [some (some 77), some (some 78), some (some 79), some (some 80), some (some 81), none, none, none])) else some (.inl (.int, 6188, []))) else (if j < 79 then some (.inl (.int, 13, [])) else some (.inl (.int, 1820, [])))) else (if j < 82 then (if j < 81 then some (.inl (.int, 1820, [])) else some (.inl (.int, 12, []))) else (if j < 83 then some (.inr (0, [some (some 83), some (some 84), some (some 90), some (some 96), some (some 97), some (some 98), some (some 99), some none, none, none, none, none])) else (if j < 84 then some (.inl (.long, 495, [])) else some (.inl (.array .long, 5, [85, 86, 87, 88, 89])))))) else (if j < 90 then (if j < 87 then (if j < 86 then some (.inl (.long, 495, [])) else some (.inl (.long, 495, []))) else (if j < 88 then some (.inl (.long, 495, [])) else (if j < 89 then some (.inl (.long, 495, [])) else some (.inl (.long, 495, []))))) else (if j < 92 then (if j < 91 then some (.inl (.array .int, 5, [91, 92, 93, 94, 95])) else some (.inl (.int, 495, []))) else (if j < 93 then some (.inl (.int, 495, [])) else (if j < 94 then some (.inl (.int, 495, [])) else some (.inl (.int, 495, []))))))) else (if j < 104 then (if j < 99 then (if j < 97 then (if j < 96 then some (.inl (.int, 495, [])) else some (.inl (.int, 5, []))) else (if j < 98 then some (.inl (.int, 4, [])) else some (.inl (.int, 5, [])))) else (if j < 101 then (if j < 100 then some (.inl (.int, 5, [])) else some (.inr (4, [some (some 101), some (some 102), none, some (some 103), some (some 104), none, none, some (some 105), none, none, none, none, none, none]))) else (if j < 102 then some (.inl (.int, 4, [])) else (if j < 103 then some (.inl (.int, 27, [])) else some (.inl (.int, 4, [])))))) else (if j < 109 then (if j < 106 then (if j < 105 then some (.inl (.int, 4, [])) else some (.inl (.int, 12, []))) else (if j < 107 then some (.inr (9, [none, none, none, some (some 107), some (some 108), some (some 109)])) else (if j < 108 then some (.inl (.int, 5, [])) else some (.inl (.int, 12, []))))) else (if j < 111 then (if j < 110 then some (.inl (.int, 4, [])) else some (.inr (9, [none, none, none, some (some 111), some (some 112), some (some 113)]))) else (if j < 112 then some (.inl (.int, 5, [])) else (if j < 113 then some (.inl (.int, 12, [])) else some (.inl (.int, 4, [])))))))) else (if j < 133 then (if j < 123 then (if j < 118 then (if j < 116 then (if j < 115 then some (.inr (11, [none, none, some (some 115), some (some 116), some (some 117), some (some 118), none, some (some 119), none, none, none, none, some none, none, none, none, some (some 120), none, some (some 121), some (some 122), none, some (some 123), some (some 124), none, none, some (some 125), none, some (some 126), some (some 127), none, some none, some none, some (some 128), some (some 129), some (some 130), some (some 131), some (some 132), some (some 133), some (some 134), some (some 135), some (some 136), some (some 137), some (some 138), some (some 139), some (some 140), some (some 141), some (some 142), none, some (some 143), none, some (some 144), some (some 145), some (some 146), some (some 147), some none, some (some 148), some (some 149), some (some 150), none, none, none, some none, some (some 151), none, none, none, some (some 152), none, none])) else some (.inl (.int, 7, []))) else (if j < 117 then some (.inl (.int, 5550, [])) else some (.inl (.int, 11100, [])))) else (if j < 120 then (if j < 119 then some (.inl (.boolean, 2, [])) else some (.inl (.int, 400, []))) else (if j < 121 then some (.inl (.int, 96, [])) else (if j < 122 then some (.inl (.int, 400, [])) else some (.inl (.int, 400, [])))))) else (if j < 128 then (if j < 125 then (if j < 124 then some (.inl (.int, 400, [])) else some (.inl (.int, 400, []))) else (if j < 126 then some (.inl (.long, 10, [])) else (if j < 127 then some (.inl (.long, 13, [])) else some (.inl (.long, 400, []))))) else (if j < 130 then (if j < 129 then some (.inl (.int, 5, [])) else some (.inl (.int, 1820, []))) else (if j < 131 then some (.inl (.int, 28561, [])) else (if j < 132 then some (.inl (.int, 1820, [])) else some (.inl (.int, 1820, []))))))) else (if j < 143 then (if j < 138 then (if j < 135 then (if j < 134 then some (.inl (.int, 1820, [])) else some (.inl (.int, 4, []))) else (if j < 136 then some (.inl (.int, 4, [])) else (if j < 137 then some (.inl (.long, 14560, [])) else some (.inl (.long, 14560, []))))) else (if j < 140 then (if j < 139 then some (.inl (.long, 8, [])) else some (.inl (.long, 8, []))) else (if j < 141 then some (.inl (.long, 8, [])) else (if j < 142 then some (.inl (.int, 23660, [])) else some (.inl (.int, 23660, [])))))) else (if j < 148 then (if j < 145 then (if j < 144 then some (.inl (.int, 12, [])) else some (.inl (.int, 5, []))) else (if j < 146 then some (.inl (.int, 5, [])) else (if j < 147 then some (.inl (.long, 55, [])) else some (.inl (.long, 1820, []))))) else (if j < 150 then (if j < 149 then some (.inl (.int, 4, [])) else some (.inl (.int, 4, []))) else (if j < 151 then some (.inl (.int, 12, [])) else (if j < 152 then some (.inl (.int, 12, [])) else some (.inl (.int, 12, []))))))))))
def gt_ks : gt_KS := (gt_kf, 153)
theorem hw_X0 : ∀ w ∈ u_ws RX0 TX0 12, w ∈ gt_T ++ gt_N := fun w h => List.mem_append_left _ (gt_T_in ((by decide +kernel : ∀ w ∈ u_ws RX0 TX0 12, w ∈ lw_tbl) w h) (List.all_eq_true.mp (by decide +kernel : (u_ws RX0 TX0 12).all goodWord = true) w h))
theorem hw_X1 : ∀ w ∈ u_ws RX1 TX1 19, w ∈ gt_T ++ gt_N := fun w h => List.mem_append_left _ (gt_T_in ((by decide +kernel : ∀ w ∈ u_ws RX1 TX1 19, w ∈ lw_tbl) w h) (List.all_eq_true.mp (by decide +kernel : (u_ws RX1 TX1 19).all goodWord = true) w h))
theorem hw_X2 : ∀ w ∈ u_ws RX2 TX2 9, w ∈ gt_T ++ gt_N := fun w h => List.mem_append_left _ (gt_T_in ((by decide +kernel : ∀ w ∈ u_ws RX2 TX2 9, w ∈ lw_tbl) w h) (List.all_eq_true.mp (by decide +kernel : (u_ws RX2 TX2 9).all goodWord = true) w h))
theorem hw_X3 : ∀ w ∈ u_ws RX3 TX3 13, w ∈ gt_T ++ gt_N := fun w h => List.mem_append_left _ (gt_T_in ((by decide +kernel : ∀ w ∈ u_ws RX3 TX3 13, w ∈ lw_tbl) w h) (List.all_eq_true.mp (by decide +kernel : (u_ws RX3 TX3 13).all goodWord = true) w h))
theorem hw_X4 : ∀ w ∈ u_ws RX4 TX4 14, w ∈ gt_T ++ gt_N := fun w h => List.mem_append_left _ (gt_T_in ((by decide +kernel : ∀ w ∈ u_ws RX4 TX4 14, w ∈ lw_tbl) w h) (List.all_eq_true.mp (by decide +kernel : (u_ws RX4 TX4 14).all goodWord = true) w h))
theorem hw_X5 : ∀ w ∈ u_ws RX5 TX5 10, w ∈ gt_T ++ gt_N := fun w h => List.mem_append_left _ (gt_T_in ((by decide +kernel : ∀ w ∈ u_ws RX5 TX5 10, w ∈ lw_tbl) w h) (List.all_eq_true.mp (by decide +kernel : (u_ws RX5 TX5 10).all goodWord = true) w h))
theorem hw_X6 : ∀ w ∈ u_ws RX6 TX6 14, w ∈ gt_T ++ gt_N := fun w h => List.mem_append_left _ (gt_T_in ((by decide +kernel : ∀ w ∈ u_ws RX6 TX6 14, w ∈ lw_tbl) w h) (List.all_eq_true.mp (by decide +kernel : (u_ws RX6 TX6 14).all goodWord = true) w h))
theorem hw_X7 : ∀ w ∈ u_ws RX7 TX7 2, w ∈ gt_T ++ gt_N := fun w h => List.mem_append_left _ (gt_T_in ((by decide +kernel : ∀ w ∈ u_ws RX7 TX7 2, w ∈ lw_tbl) w h) (List.all_eq_true.mp (by decide +kernel : (u_ws RX7 TX7 2).all goodWord = true) w h))
theorem hw_X8 : ∀ w ∈ u_ws RX8 TX8 8, w ∈ gt_T ++ gt_N := fun w h => List.mem_append_left _ (gt_T_in ((by decide +kernel : ∀ w ∈ u_ws RX8 TX8 8, w ∈ lw_tbl) w h) (List.all_eq_true.mp (by decide +kernel : (u_ws RX8 TX8 8).all goodWord = true) w h))
theorem hw_X9 : ∀ w ∈ u_ws RX9 TX9 6, w ∈ gt_T ++ gt_N := fun w h => List.mem_append_left _ (gt_T_in ((by decide +kernel : ∀ w ∈ u_ws RX9 TX9 6, w ∈ lw_tbl) w h) (List.all_eq_true.mp (by decide +kernel : (u_ws RX9 TX9 6).all goodWord = true) w h))
theorem hw_X10 : ∀ w ∈ u_ws RX10 TX10 20, w ∈ gt_T ++ gt_N := fun w h => List.mem_append_left _ (gt_T_in ((by decide +kernel : ∀ w ∈ u_ws RX10 TX10 20, w ∈ lw_tbl) w h) (List.all_eq_true.mp (by decide +kernel : (u_ws RX10 TX10 20).all goodWord = true) w h))
theorem hw_X11 : ∀ w ∈ u_ws RX11 TX11 69, w ∈ gt_T ++ gt_N := fun w h => List.mem_append_left _ (gt_T_in ((by decide +kernel : ∀ w ∈ u_ws RX11 TX11 69, w ∈ lw_tbl) w h) (List.all_eq_true.mp (by decide +kernel : (u_ws RX11 TX11 69).all goodWord = true) w h))
theorem ff_X0_11 : gt_fok (gt_T ++ gt_N) RX0 vwCl (11, 0, 0, 0) := ⟨RX0, TX0, 12, tyX0, rfl, by decide, hw_X0, tyX0_ok, nmX0, Or.inl (List.mem_append_left _ (gt_t2 138 rfl rfl)), Or.inl rfl⟩
theorem ff_X0_17 : gt_fok (gt_T ++ gt_N) RX0 vwCl (17, 0, 1, 0) := ⟨RX0, TX0, 12, tyX0, rfl, by decide, hw_X0, tyX0_ok, nmX0, Or.inl (List.mem_append_left _ (gt_t2 139 rfl rfl)), Or.inl rfl⟩
theorem ff_X0_22 : gt_fok (gt_T ++ gt_N) RX0 vwCl (22, 0, 2, 0) := ⟨RX0, TX0, 12, tyX0, rfl, by decide, hw_X0, tyX0_ok, nmX0, Or.inl (List.mem_append_left _ (gt_t2 140 rfl rfl)), Or.inl rfl⟩
theorem ff_X0_25 : gt_fok (gt_T ++ gt_N) RX0 vwCl (25, 0, 3, 0) := ⟨RX0, TX0, 12, tyX0, rfl, by decide, hw_X0, tyX0_ok, nmX0, Or.inl (List.mem_append_left _ (gt_t2 141 rfl rfl)), Or.inl rfl⟩
theorem ff_X0_29 : gt_fok (gt_T ++ gt_N) RX0 vwCl (29, 0, 4, 0) := ⟨RX0, TX0, 12, tyX0, rfl, by decide, hw_X0, tyX0_ok, nmX0, Or.inl (List.mem_append_left _ (gt_t2 142 rfl rfl)), Or.inl rfl⟩
theorem ff_X0_32 : gt_fok (gt_T ++ gt_N) RX0 vwCl (32, 0, 5, 0) := ⟨RX0, TX0, 12, tyX0, rfl, by decide, hw_X0, tyX0_ok, nmX0, Or.inl (List.mem_append_left _ (gt_t2 143 rfl rfl)), Or.inl rfl⟩
theorem ff_X0_35 : gt_fok (gt_T ++ gt_N) RX0 vwCl (35, 0, 6, 0) := ⟨RX0, TX0, 12, tyX0, rfl, by decide, hw_X0, tyX0_ok, nmX0, Or.inl (List.mem_append_left _ (gt_t2 144 rfl rfl)), Or.inl rfl⟩
theorem ff_X0_38 : gt_fok (gt_T ++ gt_N) RX0 vwCl (38, 0, 10, 1) := ⟨RX0, TX0, 12, tyX0, rfl, by decide, hw_X0, tyX0_ok, nmX0, Or.inl (List.mem_append_left _ (gt_t2 148 rfl rfl)), Or.inr ⟨rfl, Or.inl ⟨rfl, rfl⟩⟩⟩
theorem ff_X0_42 : gt_fok (gt_T ++ gt_N) RX0 vwCl (42, 0, 9, 1) := ⟨RX0, TX0, 12, tyX0, rfl, by decide, hw_X0, tyX0_ok, nmX0, Or.inl (List.mem_append_left _ (gt_t2 147 rfl rfl)), Or.inr ⟨rfl, Or.inl ⟨rfl, rfl⟩⟩⟩
theorem ff_X0_45 : gt_fok (gt_T ++ gt_N) RX0 vwCl (45, 6, 0, 1) := ⟨RX6, TX6, 14, tyX6, rfl, by decide, hw_X6, tyX6_ok, nmX6, Or.inl (List.mem_append_left _ (gt_t1 41 rfl rfl)), Or.inr ⟨rfl, Or.inl ⟨rfl, rfl⟩⟩⟩
theorem ff_X0_50 : gt_fok (gt_T ++ gt_N) RX0 vwCl (50, 0, 8, 1) := ⟨RX0, TX0, 12, tyX0, rfl, by decide, hw_X0, tyX0_ok, nmX0, Or.inl (List.mem_append_left _ (gt_t2 146 rfl rfl)), Or.inr ⟨rfl, Or.inl ⟨rfl, rfl⟩⟩⟩
theorem ff_X0_60 : gt_fok (gt_T ++ gt_N) RX0 vwCl (60, 0, 7, 3) := ⟨RX0, TX0, 12, tyX0, rfl, by decide, hw_X0, tyX0_ok, nmX0, Or.inl (List.mem_append_left _ (gt_t2 145 rfl rfl)), Or.inr ⟨rfl, Or.inr (Or.inr ⟨rfl, rfl⟩)⟩⟩
theorem ff_X0_72 : gt_fok (gt_T ++ gt_N) RX0 vwCl (72, 0, 11, 1) := ⟨RX0, TX0, 12, tyX0, rfl, by decide, hw_X0, tyX0_ok, nmX0, Or.inl (List.mem_append_left _ (gt_t2 149 rfl rfl)), Or.inr ⟨rfl, Or.inl ⟨rfl, rfl⟩⟩⟩
theorem ff_X0_97 : gt_fok (gt_T ++ gt_N) RX0 vwCl (97, 1, 3, 1) := ⟨RX1, TX1, 19, tyX1, rfl, by decide, hw_X1, tyX1_ok, nmX1, Or.inl (List.mem_append_left _ (gt_t1 163 rfl rfl)), Or.inr ⟨rfl, Or.inl ⟨rfl, rfl⟩⟩⟩
def fl_X0 : List (Nat × Nat × Nat × Nat) := [(11, 0, 0, 0), (17, 0, 1, 0), (22, 0, 2, 0), (25, 0, 3, 0), (29, 0, 4, 0), (32, 0, 5, 0), (35, 0, 6, 0), (38, 0, 10, 1), (42, 0, 9, 1), (45, 6, 0, 1), (50, 0, 8, 1), (60, 0, 7, 3), (72, 0, 11, 1), (97, 1, 3, 1)]
theorem ef_X0 : ∀ q ∈ fl_X0, gt_fok (gt_T ++ gt_N) RX0 vwCl q := (gt_fall ff_X0_11 (gt_fall ff_X0_17 (gt_fall ff_X0_22 (gt_fall ff_X0_25 (gt_fall ff_X0_29 (gt_fall ff_X0_32 (gt_fall ff_X0_35 (gt_fall ff_X0_38 (gt_fall ff_X0_42 (gt_fall ff_X0_45 (gt_fall ff_X0_50 (gt_fall ff_X0_60 (gt_fall ff_X0_72 (gt_fall ff_X0_97 (fun _ h => absurd h List.not_mem_nil)))))))))))))))
def ci_X0 : List (Nat × Int32) := []
theorem ei_X0 : ∀ q ∈ ci_X0, Cond.constant RX0 q.1 q.2 ∈ gt_T ++ gt_N := (fun _ h => absurd h List.not_mem_nil)
def cj_X0 : List (Nat × Int64) := [(58, -1), (68, 10), (70, 100)]
theorem ej_X0 : ∀ q ∈ cj_X0, Cond.constantLong RX0 q.1 q.2 ∈ gt_T ++ gt_N := (List.forall_mem_cons.mpr ⟨List.mem_append_left _ (gt_t5 159 rfl rfl), (List.forall_mem_cons.mpr ⟨List.mem_append_left _ (gt_t5 177 rfl rfl), (List.forall_mem_cons.mpr ⟨List.mem_append_left _ (gt_t5 178 rfl rfl), (fun _ h => absurd h List.not_mem_nil)⟩)⟩)⟩)
theorem ff_X1_9 : gt_fok (gt_T ++ gt_N) RX1 vwCl (9, 1, 0, 0) := ⟨RX1, TX1, 19, tyX1, rfl, by decide, hw_X1, tyX1_ok, nmX1, Or.inl (List.mem_append_left _ (gt_t1 157 rfl rfl)), Or.inl rfl⟩
theorem ff_X1_15 : gt_fok (gt_T ++ gt_N) RX1 vwCl (15, 1, 1, 0) := ⟨RX1, TX1, 19, tyX1, rfl, by decide, hw_X1, tyX1_ok, nmX1, Or.inl (List.mem_append_left _ (gt_t1 158 rfl rfl)), Or.inl rfl⟩
theorem ff_X1_18 : gt_fok (gt_T ++ gt_N) RX1 vwCl (18, 1, 2, 0) := ⟨RX1, TX1, 19, tyX1, rfl, by decide, hw_X1, tyX1_ok, nmX1, Or.inl (List.mem_append_left _ (gt_t1 159 rfl rfl)), Or.inl rfl⟩
theorem ff_X1_21 : gt_fok (gt_T ++ gt_N) RX1 vwCl (21, 1, 9, 1) := ⟨RX1, TX1, 19, tyX1, rfl, by decide, hw_X1, tyX1_ok, nmX1, Or.inl (List.mem_append_left _ (gt_t1 177 rfl rfl)), Or.inr ⟨rfl, Or.inl ⟨rfl, rfl⟩⟩⟩
theorem ff_X1_25 : gt_fok (gt_T ++ gt_N) RX1 vwCl (25, 1, 10, 1) := ⟨RX1, TX1, 19, tyX1, rfl, by decide, hw_X1, tyX1_ok, nmX1, Or.inl (List.mem_append_left _ (gt_t1 179 rfl rfl)), Or.inr ⟨rfl, Or.inl ⟨rfl, rfl⟩⟩⟩
theorem ff_X1_28 : gt_fok (gt_T ++ gt_N) RX1 vwCl (28, 1, 11, 0) := ⟨RX1, TX1, 19, tyX1, rfl, by decide, hw_X1, tyX1_ok, nmX1, Or.inl (List.mem_append_left _ (gt_t1 180 rfl rfl)), Or.inl rfl⟩
theorem ff_X1_31 : gt_fok (gt_T ++ gt_N) RX1 vwCl (31, 1, 12, 0) := ⟨RX1, TX1, 19, tyX1, rfl, by decide, hw_X1, tyX1_ok, nmX1, Or.inl (List.mem_append_left _ (gt_t1 183 rfl rfl)), Or.inl rfl⟩
theorem ff_X1_34 : gt_fok (gt_T ++ gt_N) RX1 vwCl (34, 1, 13, 0) := ⟨RX1, TX1, 19, tyX1, rfl, by decide, hw_X1, tyX1_ok, nmX1, Or.inl (List.mem_append_left _ (gt_t1 184 rfl rfl)), Or.inl rfl⟩
theorem ff_X1_37 : gt_fok (gt_T ++ gt_N) RX1 vwCl (37, 1, 14, 0) := ⟨RX1, TX1, 19, tyX1, rfl, by decide, hw_X1, tyX1_ok, nmX1, Or.inl (List.mem_append_left _ (gt_t1 185 rfl rfl)), Or.inl rfl⟩
theorem ff_X1_40 : gt_fok (gt_T ++ gt_N) RX1 vwCl (40, 1, 15, 0) := ⟨RX1, TX1, 19, tyX1, rfl, by decide, hw_X1, tyX1_ok, nmX1, Or.inl (List.mem_append_left _ (gt_t1 186 rfl rfl)), Or.inl rfl⟩
theorem ff_X1_43 : gt_fok (gt_T ++ gt_N) RX1 vwCl (43, 1, 16, 0) := ⟨RX1, TX1, 19, tyX1, rfl, by decide, hw_X1, tyX1_ok, nmX1, Or.inl (List.mem_append_left _ (gt_t1 187 rfl rfl)), Or.inl rfl⟩
theorem ff_X1_46 : gt_fok (gt_T ++ gt_N) RX1 vwCl (46, 1, 17, 0) := ⟨RX1, TX1, 19, tyX1, rfl, by decide, hw_X1, tyX1_ok, nmX1, Or.inl (List.mem_append_left _ (gt_t1 191 rfl rfl)), Or.inl rfl⟩
theorem ff_X1_49 : gt_fok (gt_T ++ gt_N) RX1 vwCl (49, 1, 18, 0) := ⟨RX1, TX1, 19, tyX1, rfl, by decide, hw_X1, tyX1_ok, nmX1, Or.inl (List.mem_append_left _ (gt_t1 194 rfl rfl)), Or.inl rfl⟩
theorem ff_X1_52 : gt_fok (gt_T ++ gt_N) RX1 vwCl (52, 1, 3, 1) := ⟨RX1, TX1, 19, tyX1, rfl, by decide, hw_X1, tyX1_ok, nmX1, Or.inl (List.mem_append_left _ (gt_t1 160 rfl rfl)), Or.inr ⟨rfl, Or.inl ⟨rfl, rfl⟩⟩⟩
theorem ff_X1_55 : gt_fok (gt_T ++ gt_N) RX1 vwCl (55, 6, 0, 1) := ⟨RX6, TX6, 14, tyX6, rfl, by decide, hw_X6, tyX6_ok, nmX6, Or.inl (List.mem_append_left _ (gt_t1 40 rfl rfl)), Or.inr ⟨rfl, Or.inl ⟨rfl, rfl⟩⟩⟩
theorem ff_X1_71 : gt_fok (gt_T ++ gt_N) RX1 vwCl (71, 1, 4, 1) := ⟨RX1, TX1, 19, tyX1, rfl, by decide, hw_X1, tyX1_ok, nmX1, Or.inl (List.mem_append_left _ (gt_t1 165 rfl rfl)), Or.inr ⟨rfl, Or.inl ⟨rfl, rfl⟩⟩⟩
theorem ff_X1_74 : gt_fok (gt_T ++ gt_N) RX1 vwCl (74, 1, 5, 1) := ⟨RX1, TX1, 19, tyX1, rfl, by decide, hw_X1, tyX1_ok, nmX1, Or.inl (List.mem_append_left _ (gt_t1 168 rfl rfl)), Or.inr ⟨rfl, Or.inl ⟨rfl, rfl⟩⟩⟩
theorem ff_X1_77 : gt_fok (gt_T ++ gt_N) RX1 vwCl (77, 6, 4, 0) := ⟨RX6, TX6, 14, tyX6, rfl, by decide, hw_X6, tyX6_ok, nmX6, Or.inl (List.mem_append_left _ (gt_t1 55 rfl rfl)), Or.inl rfl⟩
theorem ff_X1_80 : gt_fok (gt_T ++ gt_N) RX1 vwCl (80, 6, 2, 0) := ⟨RX6, TX6, 14, tyX6, rfl, by decide, hw_X6, tyX6_ok, nmX6, Or.inl (List.mem_append_left _ (gt_t1 49 rfl rfl)), Or.inl rfl⟩
theorem ff_X1_83 : gt_fok (gt_T ++ gt_N) RX1 vwCl (83, 6, 3, 0) := ⟨RX6, TX6, 14, tyX6, rfl, by decide, hw_X6, tyX6_ok, nmX6, Or.inl (List.mem_append_left _ (gt_t1 52 rfl rfl)), Or.inl rfl⟩
theorem ff_X1_90 : gt_fok (gt_T ++ gt_N) RX1 vwCl (90, 1, 6, 1) := ⟨RX1, TX1, 19, tyX1, rfl, by decide, hw_X1, tyX1_ok, nmX1, Or.inl (List.mem_append_left _ (gt_t1 171 rfl rfl)), Or.inr ⟨rfl, Or.inl ⟨rfl, rfl⟩⟩⟩
theorem ff_X1_93 : gt_fok (gt_T ++ gt_N) RX1 vwCl (93, 1, 7, 1) := ⟨RX1, TX1, 19, tyX1, rfl, by decide, hw_X1, tyX1_ok, nmX1, Or.inl (List.mem_append_left _ (gt_t1 173 rfl rfl)), Or.inr ⟨rfl, Or.inl ⟨rfl, rfl⟩⟩⟩
theorem ff_X1_96 : gt_fok (gt_T ++ gt_N) RX1 vwCl (96, 1, 8, 1) := ⟨RX1, TX1, 19, tyX1, rfl, by decide, hw_X1, tyX1_ok, nmX1, Or.inl (List.mem_append_left _ (gt_t1 175 rfl rfl)), Or.inr ⟨rfl, Or.inl ⟨rfl, rfl⟩⟩⟩
def fl_X1 : List (Nat × Nat × Nat × Nat) := [(9, 1, 0, 0), (15, 1, 1, 0), (18, 1, 2, 0), (21, 1, 9, 1), (25, 1, 10, 1), (28, 1, 11, 0), (31, 1, 12, 0), (34, 1, 13, 0), (37, 1, 14, 0), (40, 1, 15, 0), (43, 1, 16, 0), (46, 1, 17, 0), (49, 1, 18, 0), (52, 1, 3, 1), (55, 6, 0, 1), (71, 1, 4, 1), (74, 1, 5, 1), (77, 6, 4, 0), (80, 6, 2, 0), (83, 6, 3, 0), (90, 1, 6, 1), (93, 1, 7, 1), (96, 1, 8, 1)]
theorem ef_X1 : ∀ q ∈ fl_X1, gt_fok (gt_T ++ gt_N) RX1 vwCl q := (gt_fall ff_X1_9 (gt_fall ff_X1_15 (gt_fall ff_X1_18 (gt_fall ff_X1_21 (gt_fall ff_X1_25 (gt_fall ff_X1_28 (gt_fall ff_X1_31 (gt_fall ff_X1_34 (gt_fall ff_X1_37 (gt_fall ff_X1_40 (gt_fall ff_X1_43 (gt_fall ff_X1_46 (gt_fall ff_X1_49 (gt_fall ff_X1_52 (gt_fall ff_X1_55 (gt_fall ff_X1_71 (gt_fall ff_X1_74 (gt_fall ff_X1_77 (gt_fall ff_X1_80 (gt_fall ff_X1_83 (gt_fall ff_X1_90 (gt_fall ff_X1_93 (gt_fall ff_X1_96 (fun _ h => absurd h List.not_mem_nil))))))))))))))))))))))))
def ci_X1 : List (Nat × Int32) := []
theorem ei_X1 : ∀ q ∈ ci_X1, Cond.constant RX1 q.1 q.2 ∈ gt_T ++ gt_N := (fun _ h => absurd h List.not_mem_nil)
def cj_X1 : List (Nat × Int64) := []
theorem ej_X1 : ∀ q ∈ cj_X1, Cond.constantLong RX1 q.1 q.2 ∈ gt_T ++ gt_N := (fun _ h => absurd h List.not_mem_nil)
theorem ff_X2_13 : gt_fok (gt_T ++ gt_N) RX2 vwCl (13, 2, 0, 0) := ⟨RX2, TX2, 9, tyX2, rfl, by decide, hw_X2, tyX2_ok, nmX2, Or.inl (List.mem_append_left _ (gt_t2 65 rfl rfl)), Or.inl rfl⟩
theorem ff_X2_17 : gt_fok (gt_T ++ gt_N) RX2 vwCl (17, 2, 1, 0) := ⟨RX2, TX2, 9, tyX2, rfl, by decide, hw_X2, tyX2_ok, nmX2, Or.inl (List.mem_append_left _ (gt_t2 66 rfl rfl)), Or.inl rfl⟩
theorem ff_X2_20 : gt_fok (gt_T ++ gt_N) RX2 vwCl (20, 2, 2, 0) := ⟨RX2, TX2, 9, tyX2, rfl, by decide, hw_X2, tyX2_ok, nmX2, Or.inl (List.mem_append_left _ (gt_t2 67 rfl rfl)), Or.inl rfl⟩
theorem ff_X2_23 : gt_fok (gt_T ++ gt_N) RX2 vwCl (23, 2, 3, 0) := ⟨RX2, TX2, 9, tyX2, rfl, by decide, hw_X2, tyX2_ok, nmX2, Or.inl (List.mem_append_left _ (gt_t2 68 rfl rfl)), Or.inl rfl⟩
theorem ff_X2_26 : gt_fok (gt_T ++ gt_N) RX2 vwCl (26, 2, 4, 0) := ⟨RX2, TX2, 9, tyX2, rfl, by decide, hw_X2, tyX2_ok, nmX2, Or.inl (List.mem_append_left _ (gt_t2 69 rfl rfl)), Or.inl rfl⟩
theorem ff_X2_29 : gt_fok (gt_T ++ gt_N) RX2 vwCl (29, 2, 5, 0) := ⟨RX2, TX2, 9, tyX2, rfl, by decide, hw_X2, tyX2_ok, nmX2, Or.inl (List.mem_append_left _ (gt_t2 70 rfl rfl)), Or.inl rfl⟩
theorem ff_X2_32 : gt_fok (gt_T ++ gt_N) RX2 vwCl (32, 2, 6, 0) := ⟨RX2, TX2, 9, tyX2, rfl, by decide, hw_X2, tyX2_ok, nmX2, Or.inl (List.mem_append_left _ (gt_t2 71 rfl rfl)), Or.inl rfl⟩
theorem ff_X2_35 : gt_fok (gt_T ++ gt_N) RX2 vwCl (35, 2, 7, 0) := ⟨RX2, TX2, 9, tyX2, rfl, by decide, hw_X2, tyX2_ok, nmX2, Or.inl (List.mem_append_left _ (gt_t2 72 rfl rfl)), Or.inl rfl⟩
theorem ff_X2_39 : gt_fok (gt_T ++ gt_N) RX2 vwCl (39, 2, 8, 1) := ⟨RX2, TX2, 9, tyX2, rfl, by decide, hw_X2, tyX2_ok, nmX2, Or.inl (List.mem_append_left _ (gt_t2 74 rfl rfl)), Or.inr ⟨rfl, Or.inl ⟨rfl, rfl⟩⟩⟩
theorem ff_X2_43 : gt_fok (gt_T ++ gt_N) RX2 vwCl (43, 1, 11, 0) := ⟨RX1, TX1, 19, tyX1, rfl, by decide, hw_X1, tyX1_ok, nmX1, Or.inl (List.mem_append_left _ (gt_t1 181 rfl rfl)), Or.inl rfl⟩
theorem ff_X2_46 : gt_fok (gt_T ++ gt_N) RX2 vwCl (46, 3, 0, 1) := ⟨RX3, TX3, 13, tyX3, rfl, by decide, hw_X3, tyX3_ok, nmX3, Or.inl (List.mem_append_left _ (gt_t2 4 rfl rfl)), Or.inr ⟨rfl, Or.inl ⟨rfl, rfl⟩⟩⟩
theorem ff_X2_73 : gt_fok (gt_T ++ gt_N) RX2 vwCl (73, 1, 16, 0) := ⟨RX1, TX1, 19, tyX1, rfl, by decide, hw_X1, tyX1_ok, nmX1, Or.inl (List.mem_append_left _ (gt_t1 189 rfl rfl)), Or.inl rfl⟩
theorem ff_X2_80 : gt_fok (gt_T ++ gt_N) RX2 vwCl (80, 1, 17, 0) := ⟨RX1, TX1, 19, tyX1, rfl, by decide, hw_X1, tyX1_ok, nmX1, Or.inl (List.mem_append_left _ (gt_t1 192 rfl rfl)), Or.inl rfl⟩
theorem ff_X2_83 : gt_fok (gt_T ++ gt_N) RX2 vwCl (83, 1, 18, 0) := ⟨RX1, TX1, 19, tyX1, rfl, by decide, hw_X1, tyX1_ok, nmX1, Or.inl (List.mem_append_left _ (gt_t1 195 rfl rfl)), Or.inl rfl⟩
theorem ff_X2_96 : gt_fok (gt_T ++ gt_N) RX2 vwCl (96, 3, 8, 0) := ⟨RX3, TX3, 13, tyX3, rfl, by decide, hw_X3, tyX3_ok, nmX3, Or.inl (List.mem_append_left _ (gt_t2 25 rfl rfl)), Or.inl rfl⟩
theorem ff_X2_103 : gt_fok (gt_T ++ gt_N) RX2 vwCl (103, 3, 4, 0) := ⟨RX3, TX3, 13, tyX3, rfl, by decide, hw_X3, tyX3_ok, nmX3, Or.inl (List.mem_append_left _ (gt_t2 15 rfl rfl)), Or.inl rfl⟩
def fl_X2 : List (Nat × Nat × Nat × Nat) := [(13, 2, 0, 0), (17, 2, 1, 0), (20, 2, 2, 0), (23, 2, 3, 0), (26, 2, 4, 0), (29, 2, 5, 0), (32, 2, 6, 0), (35, 2, 7, 0), (39, 2, 8, 1), (43, 1, 11, 0), (46, 3, 0, 1), (73, 1, 16, 0), (80, 1, 17, 0), (83, 1, 18, 0), (96, 3, 8, 0), (103, 3, 4, 0)]
theorem ef_X2 : ∀ q ∈ fl_X2, gt_fok (gt_T ++ gt_N) RX2 vwCl q := (gt_fall ff_X2_13 (gt_fall ff_X2_17 (gt_fall ff_X2_20 (gt_fall ff_X2_23 (gt_fall ff_X2_26 (gt_fall ff_X2_29 (gt_fall ff_X2_32 (gt_fall ff_X2_35 (gt_fall ff_X2_39 (gt_fall ff_X2_43 (gt_fall ff_X2_46 (gt_fall ff_X2_73 (gt_fall ff_X2_80 (gt_fall ff_X2_83 (gt_fall ff_X2_96 (gt_fall ff_X2_103 (fun _ h => absurd h List.not_mem_nil)))))))))))))))))
def ci_X2 : List (Nat × Int32) := []
theorem ei_X2 : ∀ q ∈ ci_X2, Cond.constant RX2 q.1 q.2 ∈ gt_T ++ gt_N := (fun _ h => absurd h List.not_mem_nil)
def cj_X2 : List (Nat × Int64) := [(113, 1125899906842623)]
theorem ej_X2 : ∀ q ∈ cj_X2, Cond.constantLong RX2 q.1 q.2 ∈ gt_T ++ gt_N := (List.forall_mem_cons.mpr ⟨List.mem_append_left _ (gt_t5 21 rfl rfl), (fun _ h => absurd h List.not_mem_nil)⟩)
theorem ff_X3_9 : gt_fok (gt_T ++ gt_N) RX3 vwCl (9, 3, 1, 0) := ⟨RX3, TX3, 13, tyX3, rfl, by decide, hw_X3, tyX3_ok, nmX3, Or.inl (List.mem_append_left _ (gt_t2 8 rfl rfl)), Or.inl rfl⟩
theorem ff_X3_15 : gt_fok (gt_T ++ gt_N) RX3 vwCl (15, 3, 2, 0) := ⟨RX3, TX3, 13, tyX3, rfl, by decide, hw_X3, tyX3_ok, nmX3, Or.inl (List.mem_append_left _ (gt_t2 10 rfl rfl)), Or.inl rfl⟩
theorem ff_X3_18 : gt_fok (gt_T ++ gt_N) RX3 vwCl (18, 3, 3, 0) := ⟨RX3, TX3, 13, tyX3, rfl, by decide, hw_X3, tyX3_ok, nmX3, Or.inl (List.mem_append_left _ (gt_t2 12 rfl rfl)), Or.inl rfl⟩
theorem ff_X3_21 : gt_fok (gt_T ++ gt_N) RX3 vwCl (21, 3, 4, 0) := ⟨RX3, TX3, 13, tyX3, rfl, by decide, hw_X3, tyX3_ok, nmX3, Or.inl (List.mem_append_left _ (gt_t2 13 rfl rfl)), Or.inl rfl⟩
theorem ff_X3_24 : gt_fok (gt_T ++ gt_N) RX3 vwCl (24, 3, 5, 0) := ⟨RX3, TX3, 13, tyX3, rfl, by decide, hw_X3, tyX3_ok, nmX3, Or.inl (List.mem_append_left _ (gt_t2 17 rfl rfl)), Or.inl rfl⟩
theorem ff_X3_27 : gt_fok (gt_T ++ gt_N) RX3 vwCl (27, 3, 6, 0) := ⟨RX3, TX3, 13, tyX3, rfl, by decide, hw_X3, tyX3_ok, nmX3, Or.inl (List.mem_append_left _ (gt_t2 19 rfl rfl)), Or.inl rfl⟩
theorem ff_X3_30 : gt_fok (gt_T ++ gt_N) RX3 vwCl (30, 3, 7, 0) := ⟨RX3, TX3, 13, tyX3, rfl, by decide, hw_X3, tyX3_ok, nmX3, Or.inl (List.mem_append_left _ (gt_t2 22 rfl rfl)), Or.inl rfl⟩
theorem ff_X3_33 : gt_fok (gt_T ++ gt_N) RX3 vwCl (33, 3, 8, 0) := ⟨RX3, TX3, 13, tyX3, rfl, by decide, hw_X3, tyX3_ok, nmX3, Or.inl (List.mem_append_left _ (gt_t2 24 rfl rfl)), Or.inl rfl⟩
theorem ff_X3_38 : gt_fok (gt_T ++ gt_N) RX3 vwCl (38, 3, 9, 0) := ⟨RX3, TX3, 13, tyX3, rfl, by decide, hw_X3, tyX3_ok, nmX3, Or.inl (List.mem_append_left _ (gt_t2 27 rfl rfl)), Or.inl rfl⟩
theorem ff_X3_41 : gt_fok (gt_T ++ gt_N) RX3 vwCl (41, 3, 10, 0) := ⟨RX3, TX3, 13, tyX3, rfl, by decide, hw_X3, tyX3_ok, nmX3, Or.inl (List.mem_append_left _ (gt_t2 28 rfl rfl)), Or.inl rfl⟩
theorem ff_X3_45 : gt_fok (gt_T ++ gt_N) RX3 vwCl (45, 3, 11, 1) := ⟨RX3, TX3, 13, tyX3, rfl, by decide, hw_X3, tyX3_ok, nmX3, Or.inl (List.mem_append_left _ (gt_t2 29 rfl rfl)), Or.inr ⟨rfl, Or.inl ⟨rfl, rfl⟩⟩⟩
theorem ff_X3_49 : gt_fok (gt_T ++ gt_N) RX3 vwCl (49, 3, 12, 1) := ⟨RX3, TX3, 13, tyX3, rfl, by decide, hw_X3, tyX3_ok, nmX3, Or.inl (List.mem_append_left _ (gt_t2 30 rfl rfl)), Or.inr ⟨rfl, Or.inl ⟨rfl, rfl⟩⟩⟩
theorem ff_X3_52 : gt_fok (gt_T ++ gt_N) RX3 vwCl (52, 3, 0, 1) := ⟨RX3, TX3, 13, tyX3, rfl, by decide, hw_X3, tyX3_ok, nmX3, Or.inl (List.mem_append_left _ (gt_t2 3 rfl rfl)), Or.inr ⟨rfl, Or.inl ⟨rfl, rfl⟩⟩⟩
theorem ff_X3_55 : gt_fok (gt_T ++ gt_N) RX3 vwCl (55, 6, 5, 1) := ⟨RX6, TX6, 14, tyX6, rfl, by decide, hw_X6, tyX6_ok, nmX6, Or.inl (List.mem_append_left _ (gt_t1 57 rfl rfl)), Or.inr ⟨rfl, Or.inl ⟨rfl, rfl⟩⟩⟩
theorem ff_X3_72 : gt_fok (gt_T ++ gt_N) RX3 vwCl (72, 6, 10, 1) := ⟨RX6, TX6, 14, tyX6, rfl, by decide, hw_X6, tyX6_ok, nmX6, Or.inl (List.mem_append_left _ (gt_t1 73 rfl rfl)), Or.inr ⟨rfl, Or.inl ⟨rfl, rfl⟩⟩⟩
theorem ff_X3_75 : gt_fok (gt_T ++ gt_N) RX3 vwCl (75, 6, 6, 0) := ⟨RX6, TX6, 14, tyX6, rfl, by decide, hw_X6, tyX6_ok, nmX6, Or.inl (List.mem_append_left _ (gt_t1 61 rfl rfl)), Or.inl rfl⟩
theorem ff_X3_78 : gt_fok (gt_T ++ gt_N) RX3 vwCl (78, 6, 7, 0) := ⟨RX6, TX6, 14, tyX6, rfl, by decide, hw_X6, tyX6_ok, nmX6, Or.inl (List.mem_append_left _ (gt_t1 64 rfl rfl)), Or.inl rfl⟩
theorem ff_X3_81 : gt_fok (gt_T ++ gt_N) RX3 vwCl (81, 6, 0, 1) := ⟨RX6, TX6, 14, tyX6, rfl, by decide, hw_X6, tyX6_ok, nmX6, Or.inl (List.mem_append_left _ (gt_t1 44 rfl rfl)), Or.inr ⟨rfl, Or.inl ⟨rfl, rfl⟩⟩⟩
theorem ff_X3_100 : gt_fok (gt_T ++ gt_N) RX3 vwCl (100, 6, 8, 0) := ⟨RX6, TX6, 14, tyX6, rfl, by decide, hw_X6, tyX6_ok, nmX6, Or.inl (List.mem_append_left _ (gt_t1 68 rfl rfl)), Or.inl rfl⟩
def fl_X3 : List (Nat × Nat × Nat × Nat) := [(9, 3, 1, 0), (15, 3, 2, 0), (18, 3, 3, 0), (21, 3, 4, 0), (24, 3, 5, 0), (27, 3, 6, 0), (30, 3, 7, 0), (33, 3, 8, 0), (38, 3, 9, 0), (41, 3, 10, 0), (45, 3, 11, 1), (49, 3, 12, 1), (52, 3, 0, 1), (55, 6, 5, 1), (72, 6, 10, 1), (75, 6, 6, 0), (78, 6, 7, 0), (81, 6, 0, 1), (100, 6, 8, 0)]
theorem ef_X3 : ∀ q ∈ fl_X3, gt_fok (gt_T ++ gt_N) RX3 vwCl q := (gt_fall ff_X3_9 (gt_fall ff_X3_15 (gt_fall ff_X3_18 (gt_fall ff_X3_21 (gt_fall ff_X3_24 (gt_fall ff_X3_27 (gt_fall ff_X3_30 (gt_fall ff_X3_33 (gt_fall ff_X3_38 (gt_fall ff_X3_41 (gt_fall ff_X3_45 (gt_fall ff_X3_49 (gt_fall ff_X3_52 (gt_fall ff_X3_55 (gt_fall ff_X3_72 (gt_fall ff_X3_75 (gt_fall ff_X3_78 (gt_fall ff_X3_81 (gt_fall ff_X3_100 (fun _ h => absurd h List.not_mem_nil))))))))))))))))))))
def ci_X3 : List (Nat × Int32) := []
theorem ei_X3 : ∀ q ∈ ci_X3, Cond.constant RX3 q.1 q.2 ∈ gt_T ++ gt_N := (fun _ h => absurd h List.not_mem_nil)
def cj_X3 : List (Nat × Int64) := []
theorem ej_X3 : ∀ q ∈ cj_X3, Cond.constantLong RX3 q.1 q.2 ∈ gt_T ++ gt_N := (fun _ h => absurd h List.not_mem_nil)
theorem ff_X4_9 : gt_fok (gt_T ++ gt_N) RX4 vwCl (9, 4, 0, 0) := ⟨RX4, TX4, 14, tyX4, rfl, by decide, hw_X4, tyX4_ok, nmX4, Or.inl (List.mem_append_left _ (gt_t2 182 rfl rfl)), Or.inl rfl⟩
theorem ff_X4_15 : gt_fok (gt_T ++ gt_N) RX4 vwCl (15, 4, 1, 0) := ⟨RX4, TX4, 14, tyX4, rfl, by decide, hw_X4, tyX4_ok, nmX4, Or.inl (List.mem_append_left _ (gt_t2 183 rfl rfl)), Or.inl rfl⟩
theorem ff_X4_18 : gt_fok (gt_T ++ gt_N) RX4 vwCl (18, 4, 3, 0) := ⟨RX4, TX4, 14, tyX4, rfl, by decide, hw_X4, tyX4_ok, nmX4, Or.inl (List.mem_append_left _ (gt_t2 185 rfl rfl)), Or.inl rfl⟩
theorem ff_X4_21 : gt_fok (gt_T ++ gt_N) RX4 vwCl (21, 4, 4, 0) := ⟨RX4, TX4, 14, tyX4, rfl, by decide, hw_X4, tyX4_ok, nmX4, Or.inl (List.mem_append_left _ (gt_t2 186 rfl rfl)), Or.inl rfl⟩
theorem ff_X4_24 : gt_fok (gt_T ++ gt_N) RX4 vwCl (24, 4, 6, 1) := ⟨RX4, TX4, 14, tyX4, rfl, by decide, hw_X4, tyX4_ok, nmX4, Or.inl (List.mem_append_left _ (gt_t2 190 rfl rfl)), Or.inr ⟨rfl, Or.inl ⟨rfl, rfl⟩⟩⟩
theorem ff_X4_28 : gt_fok (gt_T ++ gt_N) RX4 vwCl (28, 4, 7, 0) := ⟨RX4, TX4, 14, tyX4, rfl, by decide, hw_X4, tyX4_ok, nmX4, Or.inl (List.mem_append_left _ (gt_t2 191 rfl rfl)), Or.inl rfl⟩
theorem ff_X4_31 : gt_fok (gt_T ++ gt_N) RX4 vwCl (31, 4, 13, 1) := ⟨RX4, TX4, 14, tyX4, rfl, by decide, hw_X4, tyX4_ok, nmX4, Or.inl (List.mem_append_left _ (gt_t2 202 rfl rfl)), Or.inr ⟨rfl, Or.inl ⟨rfl, rfl⟩⟩⟩
theorem ff_X4_34 : gt_fok (gt_T ++ gt_N) RX4 vwCl (34, 3, 6, 0) := ⟨RX3, TX3, 13, tyX3, rfl, by decide, hw_X3, tyX3_ok, nmX3, Or.inl (List.mem_append_left _ (gt_t2 20 rfl rfl)), Or.inl rfl⟩
theorem ff_X4_39 : gt_fok (gt_T ++ gt_N) RX4 vwCl (39, 3, 5, 0) := ⟨RX3, TX3, 13, tyX3, rfl, by decide, hw_X3, tyX3_ok, nmX3, Or.inl (List.mem_append_left _ (gt_t2 18 rfl rfl)), Or.inl rfl⟩
theorem ff_X4_52 : gt_fok (gt_T ++ gt_N) RX4 vwCl (52, 3, 0, 1) := ⟨RX3, TX3, 13, tyX3, rfl, by decide, hw_X3, tyX3_ok, nmX3, Or.inl (List.mem_append_left _ (gt_t2 6 rfl rfl)), Or.inr ⟨rfl, Or.inl ⟨rfl, rfl⟩⟩⟩
theorem ff_X4_55 : gt_fok (gt_T ++ gt_N) RX4 vwCl (55, 6, 0, 1) := ⟨RX6, TX6, 14, tyX6, rfl, by decide, hw_X6, tyX6_ok, nmX6, Or.inl (List.mem_append_left _ (gt_t1 43 rfl rfl)), Or.inr ⟨rfl, Or.inl ⟨rfl, rfl⟩⟩⟩
theorem ff_X4_64 : gt_fok (gt_T ++ gt_N) RX4 vwCl (64, 3, 4, 0) := ⟨RX3, TX3, 13, tyX3, rfl, by decide, hw_X3, tyX3_ok, nmX3, Or.inl (List.mem_append_left _ (gt_t2 16 rfl rfl)), Or.inl rfl⟩
theorem ff_X4_73 : gt_fok (gt_T ++ gt_N) RX4 vwCl (73, 1, 3, 1) := ⟨RX1, TX1, 19, tyX1, rfl, by decide, hw_X1, tyX1_ok, nmX1, Or.inl (List.mem_append_left _ (gt_t1 162 rfl rfl)), Or.inr ⟨rfl, Or.inl ⟨rfl, rfl⟩⟩⟩
theorem ff_X4_80 : gt_fok (gt_T ++ gt_N) RX4 vwCl (80, 4, 5, 1) := ⟨RX4, TX4, 14, tyX4, rfl, by decide, hw_X4, tyX4_ok, nmX4, Or.inl (List.mem_append_left _ (gt_t2 188 rfl rfl)), Or.inr ⟨rfl, Or.inl ⟨rfl, rfl⟩⟩⟩
theorem ff_X4_87 : gt_fok (gt_T ++ gt_N) RX4 vwCl (87, 4, 2, 1) := ⟨RX4, TX4, 14, tyX4, rfl, by decide, hw_X4, tyX4_ok, nmX4, Or.inl (List.mem_append_left _ (gt_t2 184 rfl rfl)), Or.inr ⟨rfl, Or.inl ⟨rfl, rfl⟩⟩⟩
theorem ff_X4_90 : gt_fok (gt_T ++ gt_N) RX4 vwCl (90, 1, 9, 1) := ⟨RX1, TX1, 19, tyX1, rfl, by decide, hw_X1, tyX1_ok, nmX1, Or.inr ⟨"GiftTable", List.mem_append_right _ (gt_Ni 178 (by decide +kernel) rfl)⟩, Or.inr ⟨rfl, Or.inl ⟨rfl, rfl⟩⟩⟩
theorem ff_X4_102 : gt_fok (gt_T ++ gt_N) RX4 vwCl (102, 1, 16, 0) := ⟨RX1, TX1, 19, tyX1, rfl, by decide, hw_X1, tyX1_ok, nmX1, Or.inl (List.mem_append_left _ (gt_t1 190 rfl rfl)), Or.inl rfl⟩
theorem ff_X4_111 : gt_fok (gt_T ++ gt_N) RX4 vwCl (111, 4, 8, 1) := ⟨RX4, TX4, 14, tyX4, rfl, by decide, hw_X4, tyX4_ok, nmX4, Or.inl (List.mem_append_left _ (gt_t2 193 rfl rfl)), Or.inr ⟨rfl, Or.inl ⟨rfl, rfl⟩⟩⟩
theorem ff_X4_118 : gt_fok (gt_T ++ gt_N) RX4 vwCl (118, 4, 12, 1) := ⟨RX4, TX4, 14, tyX4, rfl, by decide, hw_X4, tyX4_ok, nmX4, Or.inl (List.mem_append_left _ (gt_t2 200 rfl rfl)), Or.inr ⟨rfl, Or.inl ⟨rfl, rfl⟩⟩⟩
theorem ff_X4_129 : gt_fok (gt_T ++ gt_N) RX4 vwCl (129, 4, 9, 1) := ⟨RX4, TX4, 14, tyX4, rfl, by decide, hw_X4, tyX4_ok, nmX4, Or.inl (List.mem_append_left _ (gt_t2 194 rfl rfl)), Or.inr ⟨rfl, Or.inl ⟨rfl, rfl⟩⟩⟩
theorem ff_X4_132 : gt_fok (gt_T ++ gt_N) RX4 vwCl (132, 1, 4, 1) := ⟨RX1, TX1, 19, tyX1, rfl, by decide, hw_X1, tyX1_ok, nmX1, Or.inl (List.mem_append_left _ (gt_t1 166 rfl rfl)), Or.inr ⟨rfl, Or.inl ⟨rfl, rfl⟩⟩⟩
theorem ff_X4_135 : gt_fok (gt_T ++ gt_N) RX4 vwCl (135, 4, 10, 1) := ⟨RX4, TX4, 14, tyX4, rfl, by decide, hw_X4, tyX4_ok, nmX4, Or.inl (List.mem_append_left _ (gt_t2 196 rfl rfl)), Or.inr ⟨rfl, Or.inl ⟨rfl, rfl⟩⟩⟩
theorem ff_X4_138 : gt_fok (gt_T ++ gt_N) RX4 vwCl (138, 1, 5, 1) := ⟨RX1, TX1, 19, tyX1, rfl, by decide, hw_X1, tyX1_ok, nmX1, Or.inl (List.mem_append_left _ (gt_t1 169 rfl rfl)), Or.inr ⟨rfl, Or.inl ⟨rfl, rfl⟩⟩⟩
theorem ff_X4_141 : gt_fok (gt_T ++ gt_N) RX4 vwCl (141, 4, 11, 1) := ⟨RX4, TX4, 14, tyX4, rfl, by decide, hw_X4, tyX4_ok, nmX4, Or.inl (List.mem_append_left _ (gt_t2 198 rfl rfl)), Or.inr ⟨rfl, Or.inl ⟨rfl, rfl⟩⟩⟩
def fl_X4 : List (Nat × Nat × Nat × Nat) := [(9, 4, 0, 0), (15, 4, 1, 0), (18, 4, 3, 0), (21, 4, 4, 0), (24, 4, 6, 1), (28, 4, 7, 0), (31, 4, 13, 1), (34, 3, 6, 0), (39, 3, 5, 0), (52, 3, 0, 1), (55, 6, 0, 1), (64, 3, 4, 0), (73, 1, 3, 1), (80, 4, 5, 1), (87, 4, 2, 1), (90, 1, 9, 1), (102, 1, 16, 0), (111, 4, 8, 1), (118, 4, 12, 1), (129, 4, 9, 1), (132, 1, 4, 1), (135, 4, 10, 1), (138, 1, 5, 1), (141, 4, 11, 1)]
theorem ef_X4 : ∀ q ∈ fl_X4, gt_fok (gt_T ++ gt_N) RX4 vwCl q := (gt_fall ff_X4_9 (gt_fall ff_X4_15 (gt_fall ff_X4_18 (gt_fall ff_X4_21 (gt_fall ff_X4_24 (gt_fall ff_X4_28 (gt_fall ff_X4_31 (gt_fall ff_X4_34 (gt_fall ff_X4_39 (gt_fall ff_X4_52 (gt_fall ff_X4_55 (gt_fall ff_X4_64 (gt_fall ff_X4_73 (gt_fall ff_X4_80 (gt_fall ff_X4_87 (gt_fall ff_X4_90 (gt_fall ff_X4_102 (gt_fall ff_X4_111 (gt_fall ff_X4_118 (gt_fall ff_X4_129 (gt_fall ff_X4_132 (gt_fall ff_X4_135 (gt_fall ff_X4_138 (gt_fall ff_X4_141 (fun _ h => absurd h List.not_mem_nil)))))))))))))))))))))))))
def ci_X4 : List (Nat × Int32) := []
theorem ei_X4 : ∀ q ∈ ci_X4, Cond.constant RX4 q.1 q.2 ∈ gt_T ++ gt_N := (fun _ h => absurd h List.not_mem_nil)
def cj_X4 : List (Nat × Int64) := []
theorem ej_X4 : ∀ q ∈ cj_X4, Cond.constantLong RX4 q.1 q.2 ∈ gt_T ++ gt_N := (fun _ h => absurd h List.not_mem_nil)
theorem ff_X5_9 : gt_fok (gt_T ++ gt_N) RX5 vwCl (9, 5, 0, 0) := ⟨RX5, TX5, 10, tyX5, rfl, by decide, hw_X5, tyX5_ok, nmX5, Or.inl (List.mem_append_left _ (gt_t1 118 rfl rfl)), Or.inl rfl⟩
theorem ff_X5_15 : gt_fok (gt_T ++ gt_N) RX5 vwCl (15, 5, 1, 0) := ⟨RX5, TX5, 10, tyX5, rfl, by decide, hw_X5, tyX5_ok, nmX5, Or.inl (List.mem_append_left _ (gt_t1 119 rfl rfl)), Or.inl rfl⟩
theorem ff_X5_18 : gt_fok (gt_T ++ gt_N) RX5 vwCl (18, 5, 2, 0) := ⟨RX5, TX5, 10, tyX5, rfl, by decide, hw_X5, tyX5_ok, nmX5, Or.inl (List.mem_append_left _ (gt_t1 120 rfl rfl)), Or.inl rfl⟩
theorem ff_X5_23 : gt_fok (gt_T ++ gt_N) RX5 vwCl (23, 5, 3, 0) := ⟨RX5, TX5, 10, tyX5, rfl, by decide, hw_X5, tyX5_ok, nmX5, Or.inl (List.mem_append_left _ (gt_t1 121 rfl rfl)), Or.inl rfl⟩
theorem ff_X5_26 : gt_fok (gt_T ++ gt_N) RX5 vwCl (26, 5, 9, 1) := ⟨RX5, TX5, 10, tyX5, rfl, by decide, hw_X5, tyX5_ok, nmX5, Or.inl (List.mem_append_left _ (gt_t1 127 rfl rfl)), Or.inr ⟨rfl, Or.inl ⟨rfl, rfl⟩⟩⟩
theorem ff_X5_34 : gt_fok (gt_T ++ gt_N) RX5 vwCl (34, 5, 5, 1) := ⟨RX5, TX5, 10, tyX5, rfl, by decide, hw_X5, tyX5_ok, nmX5, Or.inl (List.mem_append_left _ (gt_t1 123 rfl rfl)), Or.inr ⟨rfl, Or.inl ⟨rfl, rfl⟩⟩⟩
theorem ff_X5_37 : gt_fok (gt_T ++ gt_N) RX5 vwCl (37, 5, 6, 1) := ⟨RX5, TX5, 10, tyX5, rfl, by decide, hw_X5, tyX5_ok, nmX5, Or.inl (List.mem_append_left _ (gt_t1 124 rfl rfl)), Or.inr ⟨rfl, Or.inl ⟨rfl, rfl⟩⟩⟩
theorem ff_X5_40 : gt_fok (gt_T ++ gt_N) RX5 vwCl (40, 5, 7, 1) := ⟨RX5, TX5, 10, tyX5, rfl, by decide, hw_X5, tyX5_ok, nmX5, Or.inl (List.mem_append_left _ (gt_t1 125 rfl rfl)), Or.inr ⟨rfl, Or.inl ⟨rfl, rfl⟩⟩⟩
theorem ff_X5_43 : gt_fok (gt_T ++ gt_N) RX5 vwCl (43, 5, 8, 1) := ⟨RX5, TX5, 10, tyX5, rfl, by decide, hw_X5, tyX5_ok, nmX5, Or.inl (List.mem_append_left _ (gt_t1 126 rfl rfl)), Or.inr ⟨rfl, Or.inl ⟨rfl, rfl⟩⟩⟩
theorem ff_X5_65 : gt_fok (gt_T ++ gt_N) RX5 vwCl (65, 5, 4, 1) := ⟨RX5, TX5, 10, tyX5, rfl, by decide, hw_X5, tyX5_ok, nmX5, Or.inl (List.mem_append_left _ (gt_t1 122 rfl rfl)), Or.inr ⟨rfl, Or.inl ⟨rfl, rfl⟩⟩⟩
def fl_X5 : List (Nat × Nat × Nat × Nat) := [(9, 5, 0, 0), (15, 5, 1, 0), (18, 5, 2, 0), (23, 5, 3, 0), (26, 5, 9, 1), (34, 5, 5, 1), (37, 5, 6, 1), (40, 5, 7, 1), (43, 5, 8, 1), (65, 5, 4, 1)]
theorem ef_X5 : ∀ q ∈ fl_X5, gt_fok (gt_T ++ gt_N) RX5 vwCl q := (gt_fall ff_X5_9 (gt_fall ff_X5_15 (gt_fall ff_X5_18 (gt_fall ff_X5_23 (gt_fall ff_X5_26 (gt_fall ff_X5_34 (gt_fall ff_X5_37 (gt_fall ff_X5_40 (gt_fall ff_X5_43 (gt_fall ff_X5_65 (fun _ h => absurd h List.not_mem_nil)))))))))))
def ci_X5 : List (Nat × Int32) := []
theorem ei_X5 : ∀ q ∈ ci_X5, Cond.constant RX5 q.1 q.2 ∈ gt_T ++ gt_N := (fun _ h => absurd h List.not_mem_nil)
def cj_X5 : List (Nat × Int64) := []
theorem ej_X5 : ∀ q ∈ cj_X5, Cond.constantLong RX5 q.1 q.2 ∈ gt_T ++ gt_N := (fun _ h => absurd h List.not_mem_nil)
theorem ff_X6_9 : gt_fok (gt_T ++ gt_N) RX6 vwCl (9, 6, 1, 0) := ⟨RX6, TX6, 14, tyX6, rfl, by decide, hw_X6, tyX6_ok, nmX6, Or.inl (List.mem_append_left _ (gt_t1 46 rfl rfl)), Or.inl rfl⟩
theorem ff_X6_15 : gt_fok (gt_T ++ gt_N) RX6 vwCl (15, 6, 2, 0) := ⟨RX6, TX6, 14, tyX6, rfl, by decide, hw_X6, tyX6_ok, nmX6, Or.inl (List.mem_append_left _ (gt_t1 48 rfl rfl)), Or.inl rfl⟩
theorem ff_X6_18 : gt_fok (gt_T ++ gt_N) RX6 vwCl (18, 6, 3, 0) := ⟨RX6, TX6, 14, tyX6, rfl, by decide, hw_X6, tyX6_ok, nmX6, Or.inl (List.mem_append_left _ (gt_t1 51 rfl rfl)), Or.inl rfl⟩
theorem ff_X6_21 : gt_fok (gt_T ++ gt_N) RX6 vwCl (21, 6, 4, 0) := ⟨RX6, TX6, 14, tyX6, rfl, by decide, hw_X6, tyX6_ok, nmX6, Or.inl (List.mem_append_left _ (gt_t1 54 rfl rfl)), Or.inl rfl⟩
theorem ff_X6_24 : gt_fok (gt_T ++ gt_N) RX6 vwCl (24, 6, 6, 0) := ⟨RX6, TX6, 14, tyX6, rfl, by decide, hw_X6, tyX6_ok, nmX6, Or.inl (List.mem_append_left _ (gt_t1 60 rfl rfl)), Or.inl rfl⟩
theorem ff_X6_27 : gt_fok (gt_T ++ gt_N) RX6 vwCl (27, 6, 7, 0) := ⟨RX6, TX6, 14, tyX6, rfl, by decide, hw_X6, tyX6_ok, nmX6, Or.inl (List.mem_append_left _ (gt_t1 63 rfl rfl)), Or.inl rfl⟩
theorem ff_X6_30 : gt_fok (gt_T ++ gt_N) RX6 vwCl (30, 6, 8, 0) := ⟨RX6, TX6, 14, tyX6, rfl, by decide, hw_X6, tyX6_ok, nmX6, Or.inl (List.mem_append_left _ (gt_t1 66 rfl rfl)), Or.inl rfl⟩
theorem ff_X6_33 : gt_fok (gt_T ++ gt_N) RX6 vwCl (33, 6, 9, 0) := ⟨RX6, TX6, 14, tyX6, rfl, by decide, hw_X6, tyX6_ok, nmX6, Or.inl (List.mem_append_left _ (gt_t1 70 rfl rfl)), Or.inl rfl⟩
theorem ff_X6_36 : gt_fok (gt_T ++ gt_N) RX6 vwCl (36, 6, 10, 1) := ⟨RX6, TX6, 14, tyX6, rfl, by decide, hw_X6, tyX6_ok, nmX6, Or.inl (List.mem_append_left _ (gt_t1 72 rfl rfl)), Or.inr ⟨rfl, Or.inl ⟨rfl, rfl⟩⟩⟩
theorem ff_X6_42 : gt_fok (gt_T ++ gt_N) RX6 vwCl (42, 6, 12, 0) := ⟨RX6, TX6, 14, tyX6, rfl, by decide, hw_X6, tyX6_ok, nmX6, Or.inl (List.mem_append_left _ (gt_t1 77 rfl rfl)), Or.inl rfl⟩
theorem ff_X6_46 : gt_fok (gt_T ++ gt_N) RX6 vwCl (46, 6, 13, 0) := ⟨RX6, TX6, 14, tyX6, rfl, by decide, hw_X6, tyX6_ok, nmX6, Or.inl (List.mem_append_left _ (gt_t1 79 rfl rfl)), Or.inl rfl⟩
theorem ff_X6_55 : gt_fok (gt_T ++ gt_N) RX6 vwCl (55, 6, 0, 1) := ⟨RX6, TX6, 14, tyX6, rfl, by decide, hw_X6, tyX6_ok, nmX6, Or.inl (List.mem_append_left _ (gt_t1 39 rfl rfl)), Or.inr ⟨rfl, Or.inl ⟨rfl, rfl⟩⟩⟩
theorem ff_X6_64 : gt_fok (gt_T ++ gt_N) RX6 vwCl (64, 6, 5, 1) := ⟨RX6, TX6, 14, tyX6, rfl, by decide, hw_X6, tyX6_ok, nmX6, Or.inl (List.mem_append_left _ (gt_t1 58 rfl rfl)), Or.inr ⟨rfl, Or.inl ⟨rfl, rfl⟩⟩⟩
theorem ff_X6_67 : gt_fok (gt_T ++ gt_N) RX6 vwCl (67, 6, 11, 1) := ⟨RX6, TX6, 14, tyX6, rfl, by decide, hw_X6, tyX6_ok, nmX6, Or.inl (List.mem_append_left _ (gt_t1 75 rfl rfl)), Or.inr ⟨rfl, Or.inl ⟨rfl, rfl⟩⟩⟩
def fl_X6 : List (Nat × Nat × Nat × Nat) := [(9, 6, 1, 0), (15, 6, 2, 0), (18, 6, 3, 0), (21, 6, 4, 0), (24, 6, 6, 0), (27, 6, 7, 0), (30, 6, 8, 0), (33, 6, 9, 0), (36, 6, 10, 1), (42, 6, 12, 0), (46, 6, 13, 0), (55, 6, 0, 1), (64, 6, 5, 1), (67, 6, 11, 1)]
theorem ef_X6 : ∀ q ∈ fl_X6, gt_fok (gt_T ++ gt_N) RX6 vwCl q := (gt_fall ff_X6_9 (gt_fall ff_X6_15 (gt_fall ff_X6_18 (gt_fall ff_X6_21 (gt_fall ff_X6_24 (gt_fall ff_X6_27 (gt_fall ff_X6_30 (gt_fall ff_X6_33 (gt_fall ff_X6_36 (gt_fall ff_X6_42 (gt_fall ff_X6_46 (gt_fall ff_X6_55 (gt_fall ff_X6_64 (gt_fall ff_X6_67 (fun _ h => absurd h List.not_mem_nil)))))))))))))))
def ci_X6 : List (Nat × Int32) := []
theorem ei_X6 : ∀ q ∈ ci_X6, Cond.constant RX6 q.1 q.2 ∈ gt_T ++ gt_N := (fun _ h => absurd h List.not_mem_nil)
def cj_X6 : List (Nat × Int64) := []
theorem ej_X6 : ∀ q ∈ cj_X6, Cond.constantLong RX6 q.1 q.2 ∈ gt_T ++ gt_N := (fun _ h => absurd h List.not_mem_nil)
theorem ff_X7_9 : gt_fok (gt_T ++ gt_N) RX7 vwCl (9, 7, 0, 0) := ⟨RX7, TX7, 2, tyX7, rfl, by decide, hw_X7, tyX7_ok, nmX7, Or.inl (List.mem_append_left _ (gt_t4 102 rfl rfl)), Or.inl rfl⟩
theorem ff_X7_15 : gt_fok (gt_T ++ gt_N) RX7 vwCl (15, 7, 1, 0) := ⟨RX7, TX7, 2, tyX7, rfl, by decide, hw_X7, tyX7_ok, nmX7, Or.inl (List.mem_append_left _ (gt_t4 103 rfl rfl)), Or.inl rfl⟩
def fl_X7 : List (Nat × Nat × Nat × Nat) := [(9, 7, 0, 0), (15, 7, 1, 0)]
theorem ef_X7 : ∀ q ∈ fl_X7, gt_fok (gt_T ++ gt_N) RX7 vwCl q := (gt_fall ff_X7_9 (gt_fall ff_X7_15 (fun _ h => absurd h List.not_mem_nil)))
def ci_X7 : List (Nat × Int32) := []
theorem ei_X7 : ∀ q ∈ ci_X7, Cond.constant RX7 q.1 q.2 ∈ gt_T ++ gt_N := (fun _ h => absurd h List.not_mem_nil)
def cj_X7 : List (Nat × Int64) := [(22, -9223372036854775808), (24, 1000), (42, 1000000000), (44, -1000000000)]
theorem ej_X7 : ∀ q ∈ cj_X7, Cond.constantLong RX7 q.1 q.2 ∈ gt_T ++ gt_N := (List.forall_mem_cons.mpr ⟨List.mem_append_left _ (gt_t4 164 rfl rfl), (List.forall_mem_cons.mpr ⟨List.mem_append_left _ (gt_t4 173 rfl rfl), (List.forall_mem_cons.mpr ⟨List.mem_append_left _ (gt_t4 171 rfl rfl), (List.forall_mem_cons.mpr ⟨List.mem_append_left _ (gt_t4 172 rfl rfl), (fun _ h => absurd h List.not_mem_nil)⟩)⟩)⟩)⟩)
theorem ff_X8_11 : gt_fok (gt_T ++ gt_N) RX8 vwCl (11, 8, 0, 0) := ⟨RX8, TX8, 8, tyX8, rfl, by decide, hw_X8, tyX8_ok, nmX8, Or.inl (List.mem_append_left _ (gt_t2 100 rfl rfl)), Or.inl rfl⟩
theorem ff_X8_15 : gt_fok (gt_T ++ gt_N) RX8 vwCl (15, 8, 1, 0) := ⟨RX8, TX8, 8, tyX8, rfl, by decide, hw_X8, tyX8_ok, nmX8, Or.inl (List.mem_append_left _ (gt_t2 101 rfl rfl)), Or.inl rfl⟩
theorem ff_X8_20 : gt_fok (gt_T ++ gt_N) RX8 vwCl (20, 8, 2, 0) := ⟨RX8, TX8, 8, tyX8, rfl, by decide, hw_X8, tyX8_ok, nmX8, Or.inl (List.mem_append_left _ (gt_t2 102 rfl rfl)), Or.inl rfl⟩
theorem ff_X8_23 : gt_fok (gt_T ++ gt_N) RX8 vwCl (23, 8, 3, 0) := ⟨RX8, TX8, 8, tyX8, rfl, by decide, hw_X8, tyX8_ok, nmX8, Or.inl (List.mem_append_left _ (gt_t2 103 rfl rfl)), Or.inl rfl⟩
theorem ff_X8_26 : gt_fok (gt_T ++ gt_N) RX8 vwCl (26, 8, 4, 0) := ⟨RX8, TX8, 8, tyX8, rfl, by decide, hw_X8, tyX8_ok, nmX8, Or.inl (List.mem_append_left _ (gt_t2 104 rfl rfl)), Or.inl rfl⟩
theorem ff_X8_29 : gt_fok (gt_T ++ gt_N) RX8 vwCl (29, 8, 7, 1) := ⟨RX8, TX8, 8, tyX8, rfl, by decide, hw_X8, tyX8_ok, nmX8, Or.inl (List.mem_append_left _ (gt_t2 110 rfl rfl)), Or.inr ⟨rfl, Or.inl ⟨rfl, rfl⟩⟩⟩
theorem ff_X8_33 : gt_fok (gt_T ++ gt_N) RX8 vwCl (33, 3, 0, 1) := ⟨RX3, TX3, 13, tyX3, rfl, by decide, hw_X3, tyX3_ok, nmX3, Or.inl (List.mem_append_left _ (gt_t2 2 rfl rfl)), Or.inr ⟨rfl, Or.inl ⟨rfl, rfl⟩⟩⟩
theorem ff_X8_38 : gt_fok (gt_T ++ gt_N) RX8 vwCl (38, 1, 11, 0) := ⟨RX1, TX1, 19, tyX1, rfl, by decide, hw_X1, tyX1_ok, nmX1, Or.inl (List.mem_append_left _ (gt_t1 182 rfl rfl)), Or.inl rfl⟩
theorem ff_X8_41 : gt_fok (gt_T ++ gt_N) RX8 vwCl (41, 1, 16, 0) := ⟨RX1, TX1, 19, tyX1, rfl, by decide, hw_X1, tyX1_ok, nmX1, Or.inl (List.mem_append_left _ (gt_t1 188 rfl rfl)), Or.inl rfl⟩
theorem ff_X8_71 : gt_fok (gt_T ++ gt_N) RX8 vwCl (71, 3, 7, 0) := ⟨RX3, TX3, 13, tyX3, rfl, by decide, hw_X3, tyX3_ok, nmX3, Or.inl (List.mem_append_left _ (gt_t2 23 rfl rfl)), Or.inl rfl⟩
theorem ff_X8_82 : gt_fok (gt_T ++ gt_N) RX8 vwCl (82, 1, 17, 0) := ⟨RX1, TX1, 19, tyX1, rfl, by decide, hw_X1, tyX1_ok, nmX1, Or.inl (List.mem_append_left _ (gt_t1 193 rfl rfl)), Or.inl rfl⟩
theorem ff_X8_85 : gt_fok (gt_T ++ gt_N) RX8 vwCl (85, 8, 5, 1) := ⟨RX8, TX8, 8, tyX8, rfl, by decide, hw_X8, tyX8_ok, nmX8, Or.inl (List.mem_append_left _ (gt_t2 106 rfl rfl)), Or.inr ⟨rfl, Or.inl ⟨rfl, rfl⟩⟩⟩
theorem ff_X8_88 : gt_fok (gt_T ++ gt_N) RX8 vwCl (88, 1, 18, 0) := ⟨RX1, TX1, 19, tyX1, rfl, by decide, hw_X1, tyX1_ok, nmX1, Or.inl (List.mem_append_left _ (gt_t1 196 rfl rfl)), Or.inl rfl⟩
theorem ff_X8_91 : gt_fok (gt_T ++ gt_N) RX8 vwCl (91, 8, 6, 1) := ⟨RX8, TX8, 8, tyX8, rfl, by decide, hw_X8, tyX8_ok, nmX8, Or.inl (List.mem_append_left _ (gt_t2 108 rfl rfl)), Or.inr ⟨rfl, Or.inl ⟨rfl, rfl⟩⟩⟩
def fl_X8 : List (Nat × Nat × Nat × Nat) := [(11, 8, 0, 0), (15, 8, 1, 0), (20, 8, 2, 0), (23, 8, 3, 0), (26, 8, 4, 0), (29, 8, 7, 1), (33, 3, 0, 1), (38, 1, 11, 0), (41, 1, 16, 0), (71, 3, 7, 0), (82, 1, 17, 0), (85, 8, 5, 1), (88, 1, 18, 0), (91, 8, 6, 1)]
theorem ef_X8 : ∀ q ∈ fl_X8, gt_fok (gt_T ++ gt_N) RX8 vwCl q := (gt_fall ff_X8_11 (gt_fall ff_X8_15 (gt_fall ff_X8_20 (gt_fall ff_X8_23 (gt_fall ff_X8_26 (gt_fall ff_X8_29 (gt_fall ff_X8_33 (gt_fall ff_X8_38 (gt_fall ff_X8_41 (gt_fall ff_X8_71 (gt_fall ff_X8_82 (gt_fall ff_X8_85 (gt_fall ff_X8_88 (gt_fall ff_X8_91 (fun _ h => absurd h List.not_mem_nil)))))))))))))))
def ci_X8 : List (Nat × Int32) := []
theorem ei_X8 : ∀ q ∈ ci_X8, Cond.constant RX8 q.1 q.2 ∈ gt_T ++ gt_N := (fun _ h => absurd h List.not_mem_nil)
def cj_X8 : List (Nat × Int64) := []
theorem ej_X8 : ∀ q ∈ cj_X8, Cond.constantLong RX8 q.1 q.2 ∈ gt_T ++ gt_N := (fun _ h => absurd h List.not_mem_nil)
theorem ff_X9_9 : gt_fok (gt_T ++ gt_N) RX9 vwCl (9, 9, 3, 0) := ⟨RX9, TX9, 6, tyX9, rfl, by decide, hw_X9, tyX9_ok, nmX9, Or.inl (List.mem_append_left _ (gt_t3 4 rfl rfl)), Or.inl rfl⟩
theorem ff_X9_15 : gt_fok (gt_T ++ gt_N) RX9 vwCl (15, 9, 4, 0) := ⟨RX9, TX9, 6, tyX9, rfl, by decide, hw_X9, tyX9_ok, nmX9, Or.inl (List.mem_append_left _ (gt_t3 6 rfl rfl)), Or.inl rfl⟩
theorem ff_X9_18 : gt_fok (gt_T ++ gt_N) RX9 vwCl (18, 9, 5, 0) := ⟨RX9, TX9, 6, tyX9, rfl, by decide, hw_X9, tyX9_ok, nmX9, Or.inl (List.mem_append_left _ (gt_t3 8 rfl rfl)), Or.inl rfl⟩
theorem ff_X9_21 : gt_fok (gt_T ++ gt_N) RX9 vwCl (21, 9, 0, 2) := ⟨RX9, TX9, 6, tyX9, rfl, by decide, hw_X9, tyX9_ok, nmX9, Or.inl (List.mem_append_left _ (gt_t2 238 rfl rfl)), Or.inr ⟨rfl, Or.inr (Or.inl ⟨rfl, rfl⟩)⟩⟩
theorem ff_X9_25 : gt_fok (gt_T ++ gt_N) RX9 vwCl (25, 9, 2, 1) := ⟨RX9, TX9, 6, tyX9, rfl, by decide, hw_X9, tyX9_ok, nmX9, Or.inl (List.mem_append_left _ (gt_t3 2 rfl rfl)), Or.inr ⟨rfl, Or.inl ⟨rfl, rfl⟩⟩⟩
theorem ff_X9_35 : gt_fok (gt_T ++ gt_N) RX9 vwCl (35, 3, 0, 1) := ⟨RX3, TX3, 13, tyX3, rfl, by decide, hw_X3, tyX3_ok, nmX3, Or.inl (List.mem_append_left _ (gt_t2 5 rfl rfl)), Or.inr ⟨rfl, Or.inl ⟨rfl, rfl⟩⟩⟩
theorem ff_X9_40 : gt_fok (gt_T ++ gt_N) RX9 vwCl (40, 3, 1, 0) := ⟨RX3, TX3, 13, tyX3, rfl, by decide, hw_X3, tyX3_ok, nmX3, Or.inl (List.mem_append_left _ (gt_t2 9 rfl rfl)), Or.inl rfl⟩
theorem ff_X9_43 : gt_fok (gt_T ++ gt_N) RX9 vwCl (43, 6, 8, 0) := ⟨RX6, TX6, 14, tyX6, rfl, by decide, hw_X6, tyX6_ok, nmX6, Or.inl (List.mem_append_left _ (gt_t1 67 rfl rfl)), Or.inl rfl⟩
theorem ff_X9_52 : gt_fok (gt_T ++ gt_N) RX9 vwCl (52, 3, 4, 0) := ⟨RX3, TX3, 13, tyX3, rfl, by decide, hw_X3, tyX3_ok, nmX3, Or.inl (List.mem_append_left _ (gt_t2 14 rfl rfl)), Or.inl rfl⟩
theorem ff_X9_61 : gt_fok (gt_T ++ gt_N) RX9 vwCl (61, 1, 3, 1) := ⟨RX1, TX1, 19, tyX1, rfl, by decide, hw_X1, tyX1_ok, nmX1, Or.inl (List.mem_append_left _ (gt_t1 161 rfl rfl)), Or.inr ⟨rfl, Or.inl ⟨rfl, rfl⟩⟩⟩
theorem ff_X9_64 : gt_fok (gt_T ++ gt_N) RX9 vwCl (64, 9, 1, 1) := ⟨RX9, TX9, 6, tyX9, rfl, by decide, hw_X9, tyX9_ok, nmX9, Or.inl (List.mem_append_left _ (gt_t3 0 rfl rfl)), Or.inr ⟨rfl, Or.inl ⟨rfl, rfl⟩⟩⟩
theorem ff_X9_65 : gt_fok (gt_T ++ gt_N) RX9 vwCl (65, 3, 6, 0) := ⟨RX3, TX3, 13, tyX3, rfl, by decide, hw_X3, tyX3_ok, nmX3, Or.inl (List.mem_append_left _ (gt_t2 21 rfl rfl)), Or.inl rfl⟩
theorem ff_X9_76 : gt_fok (gt_T ++ gt_N) RX9 vwCl (76, 6, 0, 1) := ⟨RX6, TX6, 14, tyX6, rfl, by decide, hw_X6, tyX6_ok, nmX6, Or.inl (List.mem_append_left _ (gt_t1 45 rfl rfl)), Or.inr ⟨rfl, Or.inl ⟨rfl, rfl⟩⟩⟩
theorem ff_X9_93 : gt_fok (gt_T ++ gt_N) RX9 vwCl (93, 3, 8, 0) := ⟨RX3, TX3, 13, tyX3, rfl, by decide, hw_X3, tyX3_ok, nmX3, Or.inl (List.mem_append_left _ (gt_t2 26 rfl rfl)), Or.inl rfl⟩
def fl_X9 : List (Nat × Nat × Nat × Nat) := [(9, 9, 3, 0), (15, 9, 4, 0), (18, 9, 5, 0), (21, 9, 0, 2), (25, 9, 2, 1), (35, 3, 0, 1), (40, 3, 1, 0), (43, 6, 8, 0), (52, 3, 4, 0), (61, 1, 3, 1), (64, 9, 1, 1), (65, 3, 6, 0), (76, 6, 0, 1), (93, 3, 8, 0)]
theorem ef_X9 : ∀ q ∈ fl_X9, gt_fok (gt_T ++ gt_N) RX9 vwCl q := (gt_fall ff_X9_9 (gt_fall ff_X9_15 (gt_fall ff_X9_18 (gt_fall ff_X9_21 (gt_fall ff_X9_25 (gt_fall ff_X9_35 (gt_fall ff_X9_40 (gt_fall ff_X9_43 (gt_fall ff_X9_52 (gt_fall ff_X9_61 (gt_fall ff_X9_64 (gt_fall ff_X9_65 (gt_fall ff_X9_76 (gt_fall ff_X9_93 (fun _ h => absurd h List.not_mem_nil)))))))))))))))
def ci_X9 : List (Nat × Int32) := []
theorem ei_X9 : ∀ q ∈ ci_X9, Cond.constant RX9 q.1 q.2 ∈ gt_T ++ gt_N := (fun _ h => absurd h List.not_mem_nil)
def cj_X9 : List (Nat × Int64) := [(83, 1103), (85, 12345), (87, 1000003)]
theorem ej_X9 : ∀ q ∈ cj_X9, Cond.constantLong RX9 q.1 q.2 ∈ gt_T ++ gt_N := (List.forall_mem_cons.mpr ⟨List.mem_append_left _ (gt_t6 32 rfl rfl), (List.forall_mem_cons.mpr ⟨List.mem_append_left _ (gt_t6 33 rfl rfl), (List.forall_mem_cons.mpr ⟨List.mem_append_left _ (gt_t6 34 rfl rfl), (fun _ h => absurd h List.not_mem_nil)⟩)⟩)⟩)
theorem ff_X10_10 : gt_fok (gt_T ++ gt_N) RX10 vwCl (10, 10, 0, 0) := ⟨RX10, TX10, 20, tyX10, rfl, by decide, hw_X10, tyX10_ok, nmX10, Or.inl (List.mem_append_left _ (gt_t3 22 rfl rfl)), Or.inl rfl⟩
theorem ff_X10_16 : gt_fok (gt_T ++ gt_N) RX10 vwCl (16, 10, 1, 0) := ⟨RX10, TX10, 20, tyX10, rfl, by decide, hw_X10, tyX10_ok, nmX10, Or.inl (List.mem_append_left _ (gt_t3 23 rfl rfl)), Or.inl rfl⟩
theorem ff_X10_20 : gt_fok (gt_T ++ gt_N) RX10 vwCl (20, 10, 2, 0) := ⟨RX10, TX10, 20, tyX10, rfl, by decide, hw_X10, tyX10_ok, nmX10, Or.inl (List.mem_append_left _ (gt_t3 24 rfl rfl)), Or.inl rfl⟩
theorem ff_X10_24 : gt_fok (gt_T ++ gt_N) RX10 vwCl (24, 10, 3, 0) := ⟨RX10, TX10, 20, tyX10, rfl, by decide, hw_X10, tyX10_ok, nmX10, Or.inl (List.mem_append_left _ (gt_t3 25 rfl rfl)), Or.inl rfl⟩
theorem ff_X10_28 : gt_fok (gt_T ++ gt_N) RX10 vwCl (28, 10, 5, 1) := ⟨RX10, TX10, 20, tyX10, rfl, by decide, hw_X10, tyX10_ok, nmX10, Or.inl (List.mem_append_left _ (gt_t3 27 rfl rfl)), Or.inr ⟨rfl, Or.inl ⟨rfl, rfl⟩⟩⟩
theorem ff_X10_32 : gt_fok (gt_T ++ gt_N) RX10 vwCl (32, 10, 8, 0) := ⟨RX10, TX10, 20, tyX10, rfl, by decide, hw_X10, tyX10_ok, nmX10, Or.inl (List.mem_append_left _ (gt_t3 30 rfl rfl)), Or.inl rfl⟩
theorem ff_X10_35 : gt_fok (gt_T ++ gt_N) RX10 vwCl (35, 10, 10, 0) := ⟨RX10, TX10, 20, tyX10, rfl, by decide, hw_X10, tyX10_ok, nmX10, Or.inl (List.mem_append_left _ (gt_t3 32 rfl rfl)), Or.inl rfl⟩
theorem ff_X10_41 : gt_fok (gt_T ++ gt_N) RX10 vwCl (41, 10, 11, 0) := ⟨RX10, TX10, 20, tyX10, rfl, by decide, hw_X10, tyX10_ok, nmX10, Or.inl (List.mem_append_left _ (gt_t3 33 rfl rfl)), Or.inl rfl⟩
theorem ff_X10_48 : gt_fok (gt_T ++ gt_N) RX10 vwCl (48, 10, 12, 0) := ⟨RX10, TX10, 20, tyX10, rfl, by decide, hw_X10, tyX10_ok, nmX10, Or.inl (List.mem_append_left _ (gt_t3 34 rfl rfl)), Or.inl rfl⟩
theorem ff_X10_55 : gt_fok (gt_T ++ gt_N) RX10 vwCl (55, 10, 13, 0) := ⟨RX10, TX10, 20, tyX10, rfl, by decide, hw_X10, tyX10_ok, nmX10, Or.inl (List.mem_append_left _ (gt_t3 35 rfl rfl)), Or.inl rfl⟩
theorem ff_X10_62 : gt_fok (gt_T ++ gt_N) RX10 vwCl (62, 10, 14, 0) := ⟨RX10, TX10, 20, tyX10, rfl, by decide, hw_X10, tyX10_ok, nmX10, Or.inl (List.mem_append_left _ (gt_t3 36 rfl rfl)), Or.inl rfl⟩
theorem ff_X10_69 : gt_fok (gt_T ++ gt_N) RX10 vwCl (69, 10, 15, 0) := ⟨RX10, TX10, 20, tyX10, rfl, by decide, hw_X10, tyX10_ok, nmX10, Or.inl (List.mem_append_left _ (gt_t3 37 rfl rfl)), Or.inl rfl⟩
theorem ff_X10_76 : gt_fok (gt_T ++ gt_N) RX10 vwCl (76, 10, 16, 0) := ⟨RX10, TX10, 20, tyX10, rfl, by decide, hw_X10, tyX10_ok, nmX10, Or.inl (List.mem_append_left _ (gt_t3 38 rfl rfl)), Or.inl rfl⟩
theorem ff_X10_83 : gt_fok (gt_T ++ gt_N) RX10 vwCl (83, 10, 17, 0) := ⟨RX10, TX10, 20, tyX10, rfl, by decide, hw_X10, tyX10_ok, nmX10, Or.inl (List.mem_append_left _ (gt_t3 39 rfl rfl)), Or.inl rfl⟩
theorem ff_X10_90 : gt_fok (gt_T ++ gt_N) RX10 vwCl (90, 10, 18, 0) := ⟨RX10, TX10, 20, tyX10, rfl, by decide, hw_X10, tyX10_ok, nmX10, Or.inl (List.mem_append_left _ (gt_t3 40 rfl rfl)), Or.inl rfl⟩
theorem ff_X10_94 : gt_fok (gt_T ++ gt_N) RX10 vwCl (94, 10, 19, 0) := ⟨RX10, TX10, 20, tyX10, rfl, by decide, hw_X10, tyX10_ok, nmX10, Or.inl (List.mem_append_left _ (gt_t3 41 rfl rfl)), Or.inl rfl⟩
theorem ff_X10_105 : gt_fok (gt_T ++ gt_N) RX10 vwCl (105, 6, 0, 1) := ⟨RX6, TX6, 14, tyX6, rfl, by decide, hw_X6, tyX6_ok, nmX6, Or.inl (List.mem_append_left _ (gt_t1 42 rfl rfl)), Or.inr ⟨rfl, Or.inl ⟨rfl, rfl⟩⟩⟩
theorem ff_X10_108 : gt_fok (gt_T ++ gt_N) RX10 vwCl (108, 6, 1, 0) := ⟨RX6, TX6, 14, tyX6, rfl, by decide, hw_X6, tyX6_ok, nmX6, Or.inl (List.mem_append_left _ (gt_t1 47 rfl rfl)), Or.inl rfl⟩
theorem ff_X10_122 : gt_fok (gt_T ++ gt_N) RX10 vwCl (122, 6, 2, 0) := ⟨RX6, TX6, 14, tyX6, rfl, by decide, hw_X6, tyX6_ok, nmX6, Or.inl (List.mem_append_left _ (gt_t1 50 rfl rfl)), Or.inl rfl⟩
theorem ff_X10_125 : gt_fok (gt_T ++ gt_N) RX10 vwCl (125, 6, 3, 0) := ⟨RX6, TX6, 14, tyX6, rfl, by decide, hw_X6, tyX6_ok, nmX6, Or.inl (List.mem_append_left _ (gt_t1 53 rfl rfl)), Or.inl rfl⟩
theorem ff_X10_128 : gt_fok (gt_T ++ gt_N) RX10 vwCl (128, 6, 4, 0) := ⟨RX6, TX6, 14, tyX6, rfl, by decide, hw_X6, tyX6_ok, nmX6, Or.inl (List.mem_append_left _ (gt_t1 56 rfl rfl)), Or.inl rfl⟩
theorem ff_X10_135 : gt_fok (gt_T ++ gt_N) RX10 vwCl (135, 6, 5, 1) := ⟨RX6, TX6, 14, tyX6, rfl, by decide, hw_X6, tyX6_ok, nmX6, Or.inl (List.mem_append_left _ (gt_t1 59 rfl rfl)), Or.inr ⟨rfl, Or.inl ⟨rfl, rfl⟩⟩⟩
theorem ff_X10_145 : gt_fok (gt_T ++ gt_N) RX10 vwCl (145, 6, 7, 0) := ⟨RX6, TX6, 14, tyX6, rfl, by decide, hw_X6, tyX6_ok, nmX6, Or.inl (List.mem_append_left _ (gt_t1 65 rfl rfl)), Or.inl rfl⟩
theorem ff_X10_148 : gt_fok (gt_T ++ gt_N) RX10 vwCl (148, 6, 8, 0) := ⟨RX6, TX6, 14, tyX6, rfl, by decide, hw_X6, tyX6_ok, nmX6, Or.inl (List.mem_append_left _ (gt_t1 69 rfl rfl)), Or.inl rfl⟩
theorem ff_X10_158 : gt_fok (gt_T ++ gt_N) RX10 vwCl (158, 6, 9, 0) := ⟨RX6, TX6, 14, tyX6, rfl, by decide, hw_X6, tyX6_ok, nmX6, Or.inl (List.mem_append_left _ (gt_t1 71 rfl rfl)), Or.inl rfl⟩
theorem ff_X10_161 : gt_fok (gt_T ++ gt_N) RX10 vwCl (161, 6, 10, 1) := ⟨RX6, TX6, 14, tyX6, rfl, by decide, hw_X6, tyX6_ok, nmX6, Or.inl (List.mem_append_left _ (gt_t1 74 rfl rfl)), Or.inr ⟨rfl, Or.inl ⟨rfl, rfl⟩⟩⟩
theorem ff_X10_164 : gt_fok (gt_T ++ gt_N) RX10 vwCl (164, 6, 6, 0) := ⟨RX6, TX6, 14, tyX6, rfl, by decide, hw_X6, tyX6_ok, nmX6, Or.inl (List.mem_append_left _ (gt_t1 62 rfl rfl)), Or.inl rfl⟩
theorem ff_X10_173 : gt_fok (gt_T ++ gt_N) RX10 vwCl (173, 10, 4, 1) := ⟨RX10, TX10, 20, tyX10, rfl, by decide, hw_X10, tyX10_ok, nmX10, Or.inl (List.mem_append_left _ (gt_t3 26 rfl rfl)), Or.inr ⟨rfl, Or.inl ⟨rfl, rfl⟩⟩⟩
theorem ff_X10_179 : gt_fok (gt_T ++ gt_N) RX10 vwCl (179, 10, 6, 1) := ⟨RX10, TX10, 20, tyX10, rfl, by decide, hw_X10, tyX10_ok, nmX10, Or.inl (List.mem_append_left _ (gt_t3 28 rfl rfl)), Or.inr ⟨rfl, Or.inl ⟨rfl, rfl⟩⟩⟩
theorem ff_X10_182 : gt_fok (gt_T ++ gt_N) RX10 vwCl (182, 6, 11, 1) := ⟨RX6, TX6, 14, tyX6, rfl, by decide, hw_X6, tyX6_ok, nmX6, Or.inl (List.mem_append_left _ (gt_t1 76 rfl rfl)), Or.inr ⟨rfl, Or.inl ⟨rfl, rfl⟩⟩⟩
theorem ff_X10_189 : gt_fok (gt_T ++ gt_N) RX10 vwCl (189, 5, 9, 1) := ⟨RX5, TX5, 10, tyX5, rfl, by decide, hw_X5, tyX5_ok, nmX5, Or.inl (List.mem_append_left _ (gt_t1 128 rfl rfl)), Or.inr ⟨rfl, Or.inl ⟨rfl, rfl⟩⟩⟩
theorem ff_X10_190 : gt_fok (gt_T ++ gt_N) RX10 vwCl (190, 6, 12, 0) := ⟨RX6, TX6, 14, tyX6, rfl, by decide, hw_X6, tyX6_ok, nmX6, Or.inl (List.mem_append_left _ (gt_t1 78 rfl rfl)), Or.inl rfl⟩
theorem ff_X10_197 : gt_fok (gt_T ++ gt_N) RX10 vwCl (197, 6, 13, 0) := ⟨RX6, TX6, 14, tyX6, rfl, by decide, hw_X6, tyX6_ok, nmX6, Or.inl (List.mem_append_left _ (gt_t1 80 rfl rfl)), Or.inl rfl⟩
theorem ff_X10_217 : gt_fok (gt_T ++ gt_N) RX10 vwCl (217, 1, 3, 1) := ⟨RX1, TX1, 19, tyX1, rfl, by decide, hw_X1, tyX1_ok, nmX1, Or.inl (List.mem_append_left _ (gt_t1 164 rfl rfl)), Or.inr ⟨rfl, Or.inl ⟨rfl, rfl⟩⟩⟩
theorem ff_X10_220 : gt_fok (gt_T ++ gt_N) RX10 vwCl (220, 1, 4, 1) := ⟨RX1, TX1, 19, tyX1, rfl, by decide, hw_X1, tyX1_ok, nmX1, Or.inl (List.mem_append_left _ (gt_t1 167 rfl rfl)), Or.inr ⟨rfl, Or.inl ⟨rfl, rfl⟩⟩⟩
theorem ff_X10_223 : gt_fok (gt_T ++ gt_N) RX10 vwCl (223, 1, 5, 1) := ⟨RX1, TX1, 19, tyX1, rfl, by decide, hw_X1, tyX1_ok, nmX1, Or.inl (List.mem_append_left _ (gt_t1 170 rfl rfl)), Or.inr ⟨rfl, Or.inl ⟨rfl, rfl⟩⟩⟩
theorem ff_X10_229 : gt_fok (gt_T ++ gt_N) RX10 vwCl (229, 2, 7, 0) := ⟨RX2, TX2, 9, tyX2, rfl, by decide, hw_X2, tyX2_ok, nmX2, Or.inl (List.mem_append_left _ (gt_t2 73 rfl rfl)), Or.inl rfl⟩
theorem ff_X10_232 : gt_fok (gt_T ++ gt_N) RX10 vwCl (232, 10, 9, 1) := ⟨RX10, TX10, 20, tyX10, rfl, by decide, hw_X10, tyX10_ok, nmX10, Or.inl (List.mem_append_left _ (gt_t3 31 rfl rfl)), Or.inr ⟨rfl, Or.inl ⟨rfl, rfl⟩⟩⟩
theorem ff_X10_256 : gt_fok (gt_T ++ gt_N) RX10 vwCl (256, 8, 5, 1) := ⟨RX8, TX8, 8, tyX8, rfl, by decide, hw_X8, tyX8_ok, nmX8, Or.inl (List.mem_append_left _ (gt_t2 107 rfl rfl)), Or.inr ⟨rfl, Or.inl ⟨rfl, rfl⟩⟩⟩
theorem ff_X10_257 : gt_fok (gt_T ++ gt_N) RX10 vwCl (257, 8, 6, 1) := ⟨RX8, TX8, 8, tyX8, rfl, by decide, hw_X8, tyX8_ok, nmX8, Or.inl (List.mem_append_left _ (gt_t2 109 rfl rfl)), Or.inr ⟨rfl, Or.inl ⟨rfl, rfl⟩⟩⟩
theorem ff_X10_258 : gt_fok (gt_T ++ gt_N) RX10 vwCl (258, 8, 4, 0) := ⟨RX8, TX8, 8, tyX8, rfl, by decide, hw_X8, tyX8_ok, nmX8, Or.inl (List.mem_append_left _ (gt_t2 105 rfl rfl)), Or.inl rfl⟩
theorem ff_X10_272 : gt_fok (gt_T ++ gt_N) RX10 vwCl (272, 0, 11, 1) := ⟨RX0, TX0, 12, tyX0, rfl, by decide, hw_X0, tyX0_ok, nmX0, Or.inl (List.mem_append_left _ (gt_t2 150 rfl rfl)), Or.inr ⟨rfl, Or.inl ⟨rfl, rfl⟩⟩⟩
theorem ff_X10_279 : gt_fok (gt_T ++ gt_N) RX10 vwCl (279, 3, 0, 1) := ⟨RX3, TX3, 13, tyX3, rfl, by decide, hw_X3, tyX3_ok, nmX3, Or.inl (List.mem_append_left _ (gt_t2 7 rfl rfl)), Or.inr ⟨rfl, Or.inl ⟨rfl, rfl⟩⟩⟩
theorem ff_X10_290 : gt_fok (gt_T ++ gt_N) RX10 vwCl (290, 4, 5, 1) := ⟨RX4, TX4, 14, tyX4, rfl, by decide, hw_X4, tyX4_ok, nmX4, Or.inl (List.mem_append_left _ (gt_t2 189 rfl rfl)), Or.inr ⟨rfl, Or.inl ⟨rfl, rfl⟩⟩⟩
theorem ff_X10_293 : gt_fok (gt_T ++ gt_N) RX10 vwCl (293, 4, 4, 0) := ⟨RX4, TX4, 14, tyX4, rfl, by decide, hw_X4, tyX4_ok, nmX4, Or.inl (List.mem_append_left _ (gt_t2 187 rfl rfl)), Or.inl rfl⟩
theorem ff_X10_307 : gt_fok (gt_T ++ gt_N) RX10 vwCl (307, 4, 9, 1) := ⟨RX4, TX4, 14, tyX4, rfl, by decide, hw_X4, tyX4_ok, nmX4, Or.inl (List.mem_append_left _ (gt_t2 195 rfl rfl)), Or.inr ⟨rfl, Or.inl ⟨rfl, rfl⟩⟩⟩
theorem ff_X10_310 : gt_fok (gt_T ++ gt_N) RX10 vwCl (310, 4, 12, 1) := ⟨RX4, TX4, 14, tyX4, rfl, by decide, hw_X4, tyX4_ok, nmX4, Or.inl (List.mem_append_left _ (gt_t2 201 rfl rfl)), Or.inr ⟨rfl, Or.inl ⟨rfl, rfl⟩⟩⟩
theorem ff_X10_313 : gt_fok (gt_T ++ gt_N) RX10 vwCl (313, 4, 10, 1) := ⟨RX4, TX4, 14, tyX4, rfl, by decide, hw_X4, tyX4_ok, nmX4, Or.inl (List.mem_append_left _ (gt_t2 197 rfl rfl)), Or.inr ⟨rfl, Or.inl ⟨rfl, rfl⟩⟩⟩
theorem ff_X10_316 : gt_fok (gt_T ++ gt_N) RX10 vwCl (316, 4, 11, 1) := ⟨RX4, TX4, 14, tyX4, rfl, by decide, hw_X4, tyX4_ok, nmX4, Or.inl (List.mem_append_left _ (gt_t2 199 rfl rfl)), Or.inr ⟨rfl, Or.inl ⟨rfl, rfl⟩⟩⟩
theorem ff_X10_319 : gt_fok (gt_T ++ gt_N) RX10 vwCl (319, 4, 7, 0) := ⟨RX4, TX4, 14, tyX4, rfl, by decide, hw_X4, tyX4_ok, nmX4, Or.inl (List.mem_append_left _ (gt_t2 192 rfl rfl)), Or.inl rfl⟩
theorem ff_X10_327 : gt_fok (gt_T ++ gt_N) RX10 vwCl (327, 9, 1, 1) := ⟨RX9, TX9, 6, tyX9, rfl, by decide, hw_X9, tyX9_ok, nmX9, Or.inl (List.mem_append_left _ (gt_t3 1 rfl rfl)), Or.inr ⟨rfl, Or.inl ⟨rfl, rfl⟩⟩⟩
theorem ff_X10_328 : gt_fok (gt_T ++ gt_N) RX10 vwCl (328, 9, 0, 2) := ⟨RX9, TX9, 6, tyX9, rfl, by decide, hw_X9, tyX9_ok, nmX9, Or.inl (List.mem_append_left _ (gt_t2 239 rfl rfl)), Or.inr ⟨rfl, Or.inr (Or.inl ⟨rfl, rfl⟩)⟩⟩
theorem ff_X10_332 : gt_fok (gt_T ++ gt_N) RX10 vwCl (332, 9, 3, 0) := ⟨RX9, TX9, 6, tyX9, rfl, by decide, hw_X9, tyX9_ok, nmX9, Or.inl (List.mem_append_left _ (gt_t3 5 rfl rfl)), Or.inl rfl⟩
theorem ff_X10_335 : gt_fok (gt_T ++ gt_N) RX10 vwCl (335, 9, 4, 0) := ⟨RX9, TX9, 6, tyX9, rfl, by decide, hw_X9, tyX9_ok, nmX9, Or.inl (List.mem_append_left _ (gt_t3 7 rfl rfl)), Or.inl rfl⟩
theorem ff_X10_338 : gt_fok (gt_T ++ gt_N) RX10 vwCl (338, 9, 2, 1) := ⟨RX9, TX9, 6, tyX9, rfl, by decide, hw_X9, tyX9_ok, nmX9, Or.inl (List.mem_append_left _ (gt_t3 3 rfl rfl)), Or.inr ⟨rfl, Or.inl ⟨rfl, rfl⟩⟩⟩
theorem ff_X10_345 : gt_fok (gt_T ++ gt_N) RX10 vwCl (345, 1, 6, 1) := ⟨RX1, TX1, 19, tyX1, rfl, by decide, hw_X1, tyX1_ok, nmX1, Or.inl (List.mem_append_left _ (gt_t1 172 rfl rfl)), Or.inr ⟨rfl, Or.inl ⟨rfl, rfl⟩⟩⟩
theorem ff_X10_348 : gt_fok (gt_T ++ gt_N) RX10 vwCl (348, 1, 7, 1) := ⟨RX1, TX1, 19, tyX1, rfl, by decide, hw_X1, tyX1_ok, nmX1, Or.inl (List.mem_append_left _ (gt_t1 174 rfl rfl)), Or.inr ⟨rfl, Or.inl ⟨rfl, rfl⟩⟩⟩
theorem ff_X10_351 : gt_fok (gt_T ++ gt_N) RX10 vwCl (351, 1, 8, 1) := ⟨RX1, TX1, 19, tyX1, rfl, by decide, hw_X1, tyX1_ok, nmX1, Or.inl (List.mem_append_left _ (gt_t1 176 rfl rfl)), Or.inr ⟨rfl, Or.inl ⟨rfl, rfl⟩⟩⟩
theorem ff_X10_365 : gt_fok (gt_T ++ gt_N) RX10 vwCl (365, 10, 7, 1) := ⟨RX10, TX10, 20, tyX10, rfl, by decide, hw_X10, tyX10_ok, nmX10, Or.inl (List.mem_append_left _ (gt_t3 29 rfl rfl)), Or.inr ⟨rfl, Or.inl ⟨rfl, rfl⟩⟩⟩
theorem ff_X10_368 : gt_fok (gt_T ++ gt_N) RX10 vwCl (368, 3, 2, 0) := ⟨RX3, TX3, 13, tyX3, rfl, by decide, hw_X3, tyX3_ok, nmX3, Or.inl (List.mem_append_left _ (gt_t2 11 rfl rfl)), Or.inl rfl⟩
def fl_X10 : List (Nat × Nat × Nat × Nat) := [(10, 10, 0, 0), (16, 10, 1, 0), (20, 10, 2, 0), (24, 10, 3, 0), (28, 10, 5, 1), (32, 10, 8, 0), (35, 10, 10, 0), (41, 10, 11, 0), (48, 10, 12, 0), (55, 10, 13, 0), (62, 10, 14, 0), (69, 10, 15, 0), (76, 10, 16, 0), (83, 10, 17, 0), (90, 10, 18, 0), (94, 10, 19, 0), (105, 6, 0, 1), (108, 6, 1, 0), (122, 6, 2, 0), (125, 6, 3, 0), (128, 6, 4, 0), (135, 6, 5, 1), (145, 6, 7, 0), (148, 6, 8, 0), (158, 6, 9, 0), (161, 6, 10, 1), (164, 6, 6, 0), (173, 10, 4, 1), (179, 10, 6, 1), (182, 6, 11, 1), (189, 5, 9, 1), (190, 6, 12, 0), (197, 6, 13, 0), (217, 1, 3, 1), (220, 1, 4, 1), (223, 1, 5, 1), (229, 2, 7, 0), (232, 10, 9, 1), (256, 8, 5, 1), (257, 8, 6, 1), (258, 8, 4, 0), (272, 0, 11, 1), (279, 3, 0, 1), (290, 4, 5, 1), (293, 4, 4, 0), (307, 4, 9, 1), (310, 4, 12, 1), (313, 4, 10, 1), (316, 4, 11, 1), (319, 4, 7, 0), (327, 9, 1, 1), (328, 9, 0, 2), (332, 9, 3, 0), (335, 9, 4, 0), (338, 9, 2, 1), (345, 1, 6, 1), (348, 1, 7, 1), (351, 1, 8, 1), (365, 10, 7, 1), (368, 3, 2, 0)]
theorem ef_X10 : ∀ q ∈ fl_X10, gt_fok (gt_T ++ gt_N) RX10 vwCl q := (gt_fall ff_X10_10 (gt_fall ff_X10_16 (gt_fall ff_X10_20 (gt_fall ff_X10_24 (gt_fall ff_X10_28 (gt_fall ff_X10_32 (gt_fall ff_X10_35 (gt_fall ff_X10_41 (gt_fall ff_X10_48 (gt_fall ff_X10_55 (gt_fall ff_X10_62 (gt_fall ff_X10_69 (gt_fall ff_X10_76 (gt_fall ff_X10_83 (gt_fall ff_X10_90 (gt_fall ff_X10_94 (gt_fall ff_X10_105 (gt_fall ff_X10_108 (gt_fall ff_X10_122 (gt_fall ff_X10_125 (gt_fall ff_X10_128 (gt_fall ff_X10_135 (gt_fall ff_X10_145 (gt_fall ff_X10_148 (gt_fall ff_X10_158 (gt_fall ff_X10_161 (gt_fall ff_X10_164 (gt_fall ff_X10_173 (gt_fall ff_X10_179 (gt_fall ff_X10_182 (gt_fall ff_X10_189 (gt_fall ff_X10_190 (gt_fall ff_X10_197 (gt_fall ff_X10_217 (gt_fall ff_X10_220 (gt_fall ff_X10_223 (gt_fall ff_X10_229 (gt_fall ff_X10_232 (gt_fall ff_X10_256 (gt_fall ff_X10_257 (gt_fall ff_X10_258 (gt_fall ff_X10_272 (gt_fall ff_X10_279 (gt_fall ff_X10_290 (gt_fall ff_X10_293 (gt_fall ff_X10_307 (gt_fall ff_X10_310 (gt_fall ff_X10_313 (gt_fall ff_X10_316 (gt_fall ff_X10_319 (gt_fall ff_X10_327 (gt_fall ff_X10_328 (gt_fall ff_X10_332 (gt_fall ff_X10_335 (gt_fall ff_X10_338 (gt_fall ff_X10_345 (gt_fall ff_X10_348 (gt_fall ff_X10_351 (gt_fall ff_X10_365 (gt_fall ff_X10_368 (fun _ h => absurd h List.not_mem_nil)))))))))))))))))))))))))))))))))))))))))))))))))))))))))))))
def ci_X10 : List (Nat × Int32) := [(322, 1000000)]
theorem ei_X10 : ∀ q ∈ ci_X10, Cond.constant RX10 q.1 q.2 ∈ gt_T ++ gt_N := (List.forall_mem_cons.mpr ⟨List.mem_append_left _ (gt_t6 12 rfl rfl), (fun _ h => absurd h List.not_mem_nil)⟩)
def cj_X10 : List (Nat × Int64) := []
theorem ej_X10 : ∀ q ∈ cj_X10, Cond.constantLong RX10 q.1 q.2 ∈ gt_T ++ gt_N := (fun _ h => absurd h List.not_mem_nil)
theorem ff_X11_7 : gt_fok (gt_T ++ gt_N) RX11 vwCl (7, 11, 2, 0) := ⟨RX11, TX11, 69, tyX11, rfl, by decide, hw_X11, tyX11_ok, nmX11, Or.inl (List.mem_append_left _ (gt_t6 116 rfl rfl)), Or.inl rfl⟩
theorem ff_X11_13 : gt_fok (gt_T ++ gt_N) RX11 vwCl (13, 11, 3, 0) := ⟨RX11, TX11, 69, tyX11, rfl, by decide, hw_X11, tyX11_ok, nmX11, Or.inl (List.mem_append_left _ (gt_t6 117 rfl rfl)), Or.inl rfl⟩
theorem ff_X11_16 : gt_fok (gt_T ++ gt_N) RX11 vwCl (16, 11, 4, 0) := ⟨RX11, TX11, 69, tyX11, rfl, by decide, hw_X11, tyX11_ok, nmX11, Or.inl (List.mem_append_left _ (gt_t6 118 rfl rfl)), Or.inl rfl⟩
theorem ff_X11_19 : gt_fok (gt_T ++ gt_N) RX11 vwCl (19, 11, 5, 0) := ⟨RX11, TX11, 69, tyX11, rfl, by decide, hw_X11, tyX11_ok, nmX11, Or.inl (List.mem_append_left _ (gt_t6 119 rfl rfl)), Or.inl rfl⟩
theorem ff_X11_23 : gt_fok (gt_T ++ gt_N) RX11 vwCl (23, 11, 7, 0) := ⟨RX11, TX11, 69, tyX11, rfl, by decide, hw_X11, tyX11_ok, nmX11, Or.inl (List.mem_append_left _ (gt_t6 121 rfl rfl)), Or.inl rfl⟩
theorem ff_X11_26 : gt_fok (gt_T ++ gt_N) RX11 vwCl (26, 11, 13, 1) := ⟨RX11, TX11, 69, tyX11, rfl, by decide, hw_X11, tyX11_ok, nmX11, Or.inl (List.mem_append_left _ (gt_t6 127 rfl rfl)), Or.inr ⟨rfl, Or.inl ⟨rfl, rfl⟩⟩⟩
theorem ff_X11_30 : gt_fok (gt_T ++ gt_N) RX11 vwCl (30, 11, 16, 0) := ⟨RX11, TX11, 69, tyX11, rfl, by decide, hw_X11, tyX11_ok, nmX11, Or.inl (List.mem_append_left _ (gt_t6 130 rfl rfl)), Or.inl rfl⟩
theorem ff_X11_33 : gt_fok (gt_T ++ gt_N) RX11 vwCl (33, 11, 18, 0) := ⟨RX11, TX11, 69, tyX11, rfl, by decide, hw_X11, tyX11_ok, nmX11, Or.inl (List.mem_append_left _ (gt_t6 132 rfl rfl)), Or.inl rfl⟩
theorem ff_X11_36 : gt_fok (gt_T ++ gt_N) RX11 vwCl (36, 11, 19, 0) := ⟨RX11, TX11, 69, tyX11, rfl, by decide, hw_X11, tyX11_ok, nmX11, Or.inl (List.mem_append_left _ (gt_t6 133 rfl rfl)), Or.inl rfl⟩
theorem ff_X11_39 : gt_fok (gt_T ++ gt_N) RX11 vwCl (39, 11, 21, 0) := ⟨RX11, TX11, 69, tyX11, rfl, by decide, hw_X11, tyX11_ok, nmX11, Or.inl (List.mem_append_left _ (gt_t6 135 rfl rfl)), Or.inl rfl⟩
theorem ff_X11_42 : gt_fok (gt_T ++ gt_N) RX11 vwCl (42, 11, 22, 0) := ⟨RX11, TX11, 69, tyX11, rfl, by decide, hw_X11, tyX11_ok, nmX11, Or.inl (List.mem_append_left _ (gt_t6 136 rfl rfl)), Or.inl rfl⟩
theorem ff_X11_65 : gt_fok (gt_T ++ gt_N) RX11 vwCl (65, 11, 25, 0) := ⟨RX11, TX11, 69, tyX11, rfl, by decide, hw_X11, tyX11_ok, nmX11, Or.inl (List.mem_append_left _ (gt_t6 139 rfl rfl)), Or.inl rfl⟩
theorem ff_X11_69 : gt_fok (gt_T ++ gt_N) RX11 vwCl (69, 11, 27, 0) := ⟨RX11, TX11, 69, tyX11, rfl, by decide, hw_X11, tyX11_ok, nmX11, Or.inl (List.mem_append_left _ (gt_t6 141 rfl rfl)), Or.inl rfl⟩
theorem ff_X11_72 : gt_fok (gt_T ++ gt_N) RX11 vwCl (72, 11, 28, 0) := ⟨RX11, TX11, 69, tyX11, rfl, by decide, hw_X11, tyX11_ok, nmX11, Or.inl (List.mem_append_left _ (gt_t6 142 rfl rfl)), Or.inl rfl⟩
theorem ff_X11_75 : gt_fok (gt_T ++ gt_N) RX11 vwCl (75, 11, 32, 0) := ⟨RX11, TX11, 69, tyX11, rfl, by decide, hw_X11, tyX11_ok, nmX11, Or.inl (List.mem_append_left _ (gt_t6 146 rfl rfl)), Or.inl rfl⟩
theorem ff_X11_78 : gt_fok (gt_T ++ gt_N) RX11 vwCl (78, 11, 33, 0) := ⟨RX11, TX11, 69, tyX11, rfl, by decide, hw_X11, tyX11_ok, nmX11, Or.inl (List.mem_append_left _ (gt_t6 147 rfl rfl)), Or.inl rfl⟩
theorem ff_X11_81 : gt_fok (gt_T ++ gt_N) RX11 vwCl (81, 11, 34, 0) := ⟨RX11, TX11, 69, tyX11, rfl, by decide, hw_X11, tyX11_ok, nmX11, Or.inl (List.mem_append_left _ (gt_t6 148 rfl rfl)), Or.inl rfl⟩
theorem ff_X11_84 : gt_fok (gt_T ++ gt_N) RX11 vwCl (84, 11, 35, 0) := ⟨RX11, TX11, 69, tyX11, rfl, by decide, hw_X11, tyX11_ok, nmX11, Or.inl (List.mem_append_left _ (gt_t6 149 rfl rfl)), Or.inl rfl⟩
theorem ff_X11_87 : gt_fok (gt_T ++ gt_N) RX11 vwCl (87, 11, 36, 0) := ⟨RX11, TX11, 69, tyX11, rfl, by decide, hw_X11, tyX11_ok, nmX11, Or.inl (List.mem_append_left _ (gt_t6 150 rfl rfl)), Or.inl rfl⟩
theorem ff_X11_90 : gt_fok (gt_T ++ gt_N) RX11 vwCl (90, 11, 37, 0) := ⟨RX11, TX11, 69, tyX11, rfl, by decide, hw_X11, tyX11_ok, nmX11, Or.inl (List.mem_append_left _ (gt_t6 151 rfl rfl)), Or.inl rfl⟩
theorem ff_X11_93 : gt_fok (gt_T ++ gt_N) RX11 vwCl (93, 11, 38, 0) := ⟨RX11, TX11, 69, tyX11, rfl, by decide, hw_X11, tyX11_ok, nmX11, Or.inl (List.mem_append_left _ (gt_t6 152 rfl rfl)), Or.inl rfl⟩
theorem ff_X11_96 : gt_fok (gt_T ++ gt_N) RX11 vwCl (96, 11, 39, 0) := ⟨RX11, TX11, 69, tyX11, rfl, by decide, hw_X11, tyX11_ok, nmX11, Or.inl (List.mem_append_left _ (gt_t6 153 rfl rfl)), Or.inl rfl⟩
theorem ff_X11_99 : gt_fok (gt_T ++ gt_N) RX11 vwCl (99, 11, 40, 0) := ⟨RX11, TX11, 69, tyX11, rfl, by decide, hw_X11, tyX11_ok, nmX11, Or.inl (List.mem_append_left _ (gt_t6 154 rfl rfl)), Or.inl rfl⟩
theorem ff_X11_102 : gt_fok (gt_T ++ gt_N) RX11 vwCl (102, 11, 41, 0) := ⟨RX11, TX11, 69, tyX11, rfl, by decide, hw_X11, tyX11_ok, nmX11, Or.inl (List.mem_append_left _ (gt_t6 155 rfl rfl)), Or.inl rfl⟩
theorem ff_X11_105 : gt_fok (gt_T ++ gt_N) RX11 vwCl (105, 11, 42, 0) := ⟨RX11, TX11, 69, tyX11, rfl, by decide, hw_X11, tyX11_ok, nmX11, Or.inl (List.mem_append_left _ (gt_t6 156 rfl rfl)), Or.inl rfl⟩
theorem ff_X11_108 : gt_fok (gt_T ++ gt_N) RX11 vwCl (108, 11, 43, 0) := ⟨RX11, TX11, 69, tyX11, rfl, by decide, hw_X11, tyX11_ok, nmX11, Or.inl (List.mem_append_left _ (gt_t6 157 rfl rfl)), Or.inl rfl⟩
theorem ff_X11_111 : gt_fok (gt_T ++ gt_N) RX11 vwCl (111, 11, 44, 0) := ⟨RX11, TX11, 69, tyX11, rfl, by decide, hw_X11, tyX11_ok, nmX11, Or.inl (List.mem_append_left _ (gt_t6 158 rfl rfl)), Or.inl rfl⟩
theorem ff_X11_114 : gt_fok (gt_T ++ gt_N) RX11 vwCl (114, 11, 45, 0) := ⟨RX11, TX11, 69, tyX11, rfl, by decide, hw_X11, tyX11_ok, nmX11, Or.inl (List.mem_append_left _ (gt_t6 159 rfl rfl)), Or.inl rfl⟩
theorem ff_X11_117 : gt_fok (gt_T ++ gt_N) RX11 vwCl (117, 11, 46, 0) := ⟨RX11, TX11, 69, tyX11, rfl, by decide, hw_X11, tyX11_ok, nmX11, Or.inl (List.mem_append_left _ (gt_t6 160 rfl rfl)), Or.inl rfl⟩
theorem ff_X11_120 : gt_fok (gt_T ++ gt_N) RX11 vwCl (120, 11, 48, 0) := ⟨RX11, TX11, 69, tyX11, rfl, by decide, hw_X11, tyX11_ok, nmX11, Or.inl (List.mem_append_left _ (gt_t6 162 rfl rfl)), Or.inl rfl⟩
theorem ff_X11_123 : gt_fok (gt_T ++ gt_N) RX11 vwCl (123, 11, 50, 0) := ⟨RX11, TX11, 69, tyX11, rfl, by decide, hw_X11, tyX11_ok, nmX11, Or.inl (List.mem_append_left _ (gt_t6 164 rfl rfl)), Or.inl rfl⟩
theorem ff_X11_126 : gt_fok (gt_T ++ gt_N) RX11 vwCl (126, 11, 51, 0) := ⟨RX11, TX11, 69, tyX11, rfl, by decide, hw_X11, tyX11_ok, nmX11, Or.inl (List.mem_append_left _ (gt_t6 165 rfl rfl)), Or.inl rfl⟩
theorem ff_X11_129 : gt_fok (gt_T ++ gt_N) RX11 vwCl (129, 11, 52, 0) := ⟨RX11, TX11, 69, tyX11, rfl, by decide, hw_X11, tyX11_ok, nmX11, Or.inl (List.mem_append_left _ (gt_t6 166 rfl rfl)), Or.inl rfl⟩
theorem ff_X11_132 : gt_fok (gt_T ++ gt_N) RX11 vwCl (132, 11, 53, 0) := ⟨RX11, TX11, 69, tyX11, rfl, by decide, hw_X11, tyX11_ok, nmX11, Or.inl (List.mem_append_left _ (gt_t6 167 rfl rfl)), Or.inl rfl⟩
theorem ff_X11_135 : gt_fok (gt_T ++ gt_N) RX11 vwCl (135, 11, 55, 0) := ⟨RX11, TX11, 69, tyX11, rfl, by decide, hw_X11, tyX11_ok, nmX11, Or.inl (List.mem_append_left _ (gt_t6 169 rfl rfl)), Or.inl rfl⟩
theorem ff_X11_138 : gt_fok (gt_T ++ gt_N) RX11 vwCl (138, 11, 56, 0) := ⟨RX11, TX11, 69, tyX11, rfl, by decide, hw_X11, tyX11_ok, nmX11, Or.inl (List.mem_append_left _ (gt_t6 170 rfl rfl)), Or.inl rfl⟩
theorem ff_X11_141 : gt_fok (gt_T ++ gt_N) RX11 vwCl (141, 11, 57, 0) := ⟨RX11, TX11, 69, tyX11, rfl, by decide, hw_X11, tyX11_ok, nmX11, Or.inl (List.mem_append_left _ (gt_t6 171 rfl rfl)), Or.inl rfl⟩
theorem ff_X11_144 : gt_fok (gt_T ++ gt_N) RX11 vwCl (144, 11, 62, 0) := ⟨RX11, TX11, 69, tyX11, rfl, by decide, hw_X11, tyX11_ok, nmX11, Or.inl (List.mem_append_left _ (gt_t6 176 rfl rfl)), Or.inl rfl⟩
theorem ff_X11_147 : gt_fok (gt_T ++ gt_N) RX11 vwCl (147, 11, 63, 1) := ⟨RX11, TX11, 69, tyX11, rfl, by decide, hw_X11, tyX11_ok, nmX11, Or.inl (List.mem_append_left _ (gt_t6 177 rfl rfl)), Or.inr ⟨rfl, Or.inl ⟨rfl, rfl⟩⟩⟩
theorem ff_X11_150 : gt_fok (gt_T ++ gt_N) RX11 vwCl (150, 11, 66, 0) := ⟨RX11, TX11, 69, tyX11, rfl, by decide, hw_X11, tyX11_ok, nmX11, Or.inl (List.mem_append_left _ (gt_t6 180 rfl rfl)), Or.inl rfl⟩
theorem ff_X11_153 : gt_fok (gt_T ++ gt_N) RX11 vwCl (153, 11, 0, 1) := ⟨RX11, TX11, 69, tyX11, rfl, by decide, hw_X11, tyX11_ok, nmX11, Or.inl (List.mem_append_left _ (gt_t6 114 rfl rfl)), Or.inr ⟨rfl, Or.inl ⟨rfl, rfl⟩⟩⟩
theorem ff_X11_156 : gt_fok (gt_T ++ gt_N) RX11 vwCl (156, 11, 1, 1) := ⟨RX11, TX11, 69, tyX11, rfl, by decide, hw_X11, tyX11_ok, nmX11, Or.inl (List.mem_append_left _ (gt_t6 115 rfl rfl)), Or.inr ⟨rfl, Or.inl ⟨rfl, rfl⟩⟩⟩
theorem ff_X11_216 : gt_fok (gt_T ++ gt_N) RX11 vwCl (216, 11, 8, 1) := ⟨RX11, TX11, 69, tyX11, rfl, by decide, hw_X11, tyX11_ok, nmX11, Or.inl (List.mem_append_left _ (gt_t6 122 rfl rfl)), Or.inr ⟨rfl, Or.inl ⟨rfl, rfl⟩⟩⟩
theorem ff_X11_219 : gt_fok (gt_T ++ gt_N) RX11 vwCl (219, 11, 6, 1) := ⟨RX11, TX11, 69, tyX11, rfl, by decide, hw_X11, tyX11_ok, nmX11, Or.inl (List.mem_append_left _ (gt_t6 120 rfl rfl)), Or.inr ⟨rfl, Or.inl ⟨rfl, rfl⟩⟩⟩
theorem ff_X11_226 : gt_fok (gt_T ++ gt_N) RX11 vwCl (226, 11, 10, 1) := ⟨RX11, TX11, 69, tyX11, rfl, by decide, hw_X11, tyX11_ok, nmX11, Or.inl (List.mem_append_left _ (gt_t6 124 rfl rfl)), Or.inr ⟨rfl, Or.inl ⟨rfl, rfl⟩⟩⟩
theorem ff_X11_229 : gt_fok (gt_T ++ gt_N) RX11 vwCl (229, 11, 14, 2) := ⟨RX11, TX11, 69, tyX11, rfl, by decide, hw_X11, tyX11_ok, nmX11, Or.inl (List.mem_append_left _ (gt_t6 128 rfl rfl)), Or.inr ⟨rfl, Or.inr (Or.inl ⟨rfl, rfl⟩)⟩⟩
theorem ff_X11_236 : gt_fok (gt_T ++ gt_N) RX11 vwCl (236, 11, 9, 1) := ⟨RX11, TX11, 69, tyX11, rfl, by decide, hw_X11, tyX11_ok, nmX11, Or.inl (List.mem_append_left _ (gt_t6 123 rfl rfl)), Or.inr ⟨rfl, Or.inl ⟨rfl, rfl⟩⟩⟩
theorem ff_X11_239 : gt_fok (gt_T ++ gt_N) RX11 vwCl (239, 11, 12, 3) := ⟨RX11, TX11, 69, tyX11, rfl, by decide, hw_X11, tyX11_ok, nmX11, Or.inl (List.mem_append_left _ (gt_t6 126 rfl rfl)), Or.inr ⟨rfl, Or.inr (Or.inr ⟨rfl, rfl⟩)⟩⟩
theorem ff_X11_249 : gt_fok (gt_T ++ gt_N) RX11 vwCl (249, 11, 11, 1) := ⟨RX11, TX11, 69, tyX11, rfl, by decide, hw_X11, tyX11_ok, nmX11, Or.inl (List.mem_append_left _ (gt_t6 125 rfl rfl)), Or.inr ⟨rfl, Or.inl ⟨rfl, rfl⟩⟩⟩
theorem ff_X11_268 : gt_fok (gt_T ++ gt_N) RX11 vwCl (268, 11, 17, 1) := ⟨RX11, TX11, 69, tyX11, rfl, by decide, hw_X11, tyX11_ok, nmX11, Or.inl (List.mem_append_left _ (gt_t6 131 rfl rfl)), Or.inr ⟨rfl, Or.inl ⟨rfl, rfl⟩⟩⟩
theorem ff_X11_271 : gt_fok (gt_T ++ gt_N) RX11 vwCl (271, 11, 23, 1) := ⟨RX11, TX11, 69, tyX11, rfl, by decide, hw_X11, tyX11_ok, nmX11, Or.inl (List.mem_append_left _ (gt_t6 137 rfl rfl)), Or.inr ⟨rfl, Or.inl ⟨rfl, rfl⟩⟩⟩
theorem ff_X11_293 : gt_fok (gt_T ++ gt_N) RX11 vwCl (293, 11, 24, 1) := ⟨RX11, TX11, 69, tyX11, rfl, by decide, hw_X11, tyX11_ok, nmX11, Or.inl (List.mem_append_left _ (gt_t6 138 rfl rfl)), Or.inr ⟨rfl, Or.inl ⟨rfl, rfl⟩⟩⟩
theorem ff_X11_299 : gt_fok (gt_T ++ gt_N) RX11 vwCl (299, 11, 20, 1) := ⟨RX11, TX11, 69, tyX11, rfl, by decide, hw_X11, tyX11_ok, nmX11, Or.inl (List.mem_append_left _ (gt_t6 134 rfl rfl)), Or.inr ⟨rfl, Or.inl ⟨rfl, rfl⟩⟩⟩
theorem ff_X11_351 : gt_fok (gt_T ++ gt_N) RX11 vwCl (351, 11, 15, 1) := ⟨RX11, TX11, 69, tyX11, rfl, by decide, hw_X11, tyX11_ok, nmX11, Or.inl (List.mem_append_left _ (gt_t6 129 rfl rfl)), Or.inr ⟨rfl, Or.inl ⟨rfl, rfl⟩⟩⟩
theorem ff_X11_368 : gt_fok (gt_T ++ gt_N) RX11 vwCl (368, 11, 29, 2) := ⟨RX11, TX11, 69, tyX11, rfl, by decide, hw_X11, tyX11_ok, nmX11, Or.inl (List.mem_append_left _ (gt_t6 143 rfl rfl)), Or.inr ⟨rfl, Or.inr (Or.inl ⟨rfl, rfl⟩)⟩⟩
theorem ff_X11_371 : gt_fok (gt_T ++ gt_N) RX11 vwCl (371, 11, 26, 1) := ⟨RX11, TX11, 69, tyX11, rfl, by decide, hw_X11, tyX11_ok, nmX11, Or.inl (List.mem_append_left _ (gt_t6 140 rfl rfl)), Or.inr ⟨rfl, Or.inl ⟨rfl, rfl⟩⟩⟩
theorem ff_X11_382 : gt_fok (gt_T ++ gt_N) RX11 vwCl (382, 11, 30, 3) := ⟨RX11, TX11, 69, tyX11, rfl, by decide, hw_X11, tyX11_ok, nmX11, Or.inl (List.mem_append_left _ (gt_t6 144 rfl rfl)), Or.inr ⟨rfl, Or.inr (Or.inr ⟨rfl, rfl⟩)⟩⟩
theorem ff_X11_388 : gt_fok (gt_T ++ gt_N) RX11 vwCl (388, 11, 31, 3) := ⟨RX11, TX11, 69, tyX11, rfl, by decide, hw_X11, tyX11_ok, nmX11, Or.inl (List.mem_append_left _ (gt_t6 145 rfl rfl)), Or.inr ⟨rfl, Or.inr (Or.inr ⟨rfl, rfl⟩)⟩⟩
theorem ff_X11_484 : gt_fok (gt_T ++ gt_N) RX11 vwCl (484, 11, 47, 1) := ⟨RX11, TX11, 69, tyX11, rfl, by decide, hw_X11, tyX11_ok, nmX11, Or.inl (List.mem_append_left _ (gt_t6 161 rfl rfl)), Or.inr ⟨rfl, Or.inl ⟨rfl, rfl⟩⟩⟩
theorem ff_X11_490 : gt_fok (gt_T ++ gt_N) RX11 vwCl (490, 11, 49, 1) := ⟨RX11, TX11, 69, tyX11, rfl, by decide, hw_X11, tyX11_ok, nmX11, Or.inl (List.mem_append_left _ (gt_t6 163 rfl rfl)), Or.inr ⟨rfl, Or.inl ⟨rfl, rfl⟩⟩⟩
theorem ff_X11_513 : gt_fok (gt_T ++ gt_N) RX11 vwCl (513, 11, 54, 3) := ⟨RX11, TX11, 69, tyX11, rfl, by decide, hw_X11, tyX11_ok, nmX11, Or.inl (List.mem_append_left _ (gt_t6 168 rfl rfl)), Or.inr ⟨rfl, Or.inr (Or.inr ⟨rfl, rfl⟩)⟩⟩
theorem ff_X11_535 : gt_fok (gt_T ++ gt_N) RX11 vwCl (535, 11, 58, 1) := ⟨RX11, TX11, 69, tyX11, rfl, by decide, hw_X11, tyX11_ok, nmX11, Or.inl (List.mem_append_left _ (gt_t6 172 rfl rfl)), Or.inr ⟨rfl, Or.inl ⟨rfl, rfl⟩⟩⟩
theorem ff_X11_538 : gt_fok (gt_T ++ gt_N) RX11 vwCl (538, 11, 59, 1) := ⟨RX11, TX11, 69, tyX11, rfl, by decide, hw_X11, tyX11_ok, nmX11, Or.inl (List.mem_append_left _ (gt_t6 173 rfl rfl)), Or.inr ⟨rfl, Or.inl ⟨rfl, rfl⟩⟩⟩
theorem ff_X11_541 : gt_fok (gt_T ++ gt_N) RX11 vwCl (541, 11, 60, 1) := ⟨RX11, TX11, 69, tyX11, rfl, by decide, hw_X11, tyX11_ok, nmX11, Or.inl (List.mem_append_left _ (gt_t6 174 rfl rfl)), Or.inr ⟨rfl, Or.inl ⟨rfl, rfl⟩⟩⟩
theorem ff_X11_551 : gt_fok (gt_T ++ gt_N) RX11 vwCl (551, 11, 61, 3) := ⟨RX11, TX11, 69, tyX11, rfl, by decide, hw_X11, tyX11_ok, nmX11, Or.inl (List.mem_append_left _ (gt_t6 175 rfl rfl)), Or.inr ⟨rfl, Or.inr (Or.inr ⟨rfl, rfl⟩)⟩⟩
theorem ff_X11_563 : gt_fok (gt_T ++ gt_N) RX11 vwCl (563, 11, 67, 1) := ⟨RX11, TX11, 69, tyX11, rfl, by decide, hw_X11, tyX11_ok, nmX11, Or.inl (List.mem_append_left _ (gt_t6 181 rfl rfl)), Or.inr ⟨rfl, Or.inl ⟨rfl, rfl⟩⟩⟩
theorem ff_X11_566 : gt_fok (gt_T ++ gt_N) RX11 vwCl (566, 11, 68, 1) := ⟨RX11, TX11, 69, tyX11, rfl, by decide, hw_X11, tyX11_ok, nmX11, Or.inl (List.mem_append_left _ (gt_t6 182 rfl rfl)), Or.inr ⟨rfl, Or.inl ⟨rfl, rfl⟩⟩⟩
theorem ff_X11_578 : gt_fok (gt_T ++ gt_N) RX11 vwCl (578, 11, 64, 1) := ⟨RX11, TX11, 69, tyX11, rfl, by decide, hw_X11, tyX11_ok, nmX11, Or.inl (List.mem_append_left _ (gt_t6 178 rfl rfl)), Or.inr ⟨rfl, Or.inl ⟨rfl, rfl⟩⟩⟩
theorem ff_X11_581 : gt_fok (gt_T ++ gt_N) RX11 vwCl (581, 11, 65, 1) := ⟨RX11, TX11, 69, tyX11, rfl, by decide, hw_X11, tyX11_ok, nmX11, Or.inl (List.mem_append_left _ (gt_t6 179 rfl rfl)), Or.inr ⟨rfl, Or.inl ⟨rfl, rfl⟩⟩⟩
def fl_X11 : List (Nat × Nat × Nat × Nat) := [(7, 11, 2, 0), (13, 11, 3, 0), (16, 11, 4, 0), (19, 11, 5, 0), (23, 11, 7, 0), (26, 11, 13, 1), (30, 11, 16, 0), (33, 11, 18, 0), (36, 11, 19, 0), (39, 11, 21, 0), (42, 11, 22, 0), (65, 11, 25, 0), (69, 11, 27, 0), (72, 11, 28, 0), (75, 11, 32, 0), (78, 11, 33, 0), (81, 11, 34, 0), (84, 11, 35, 0), (87, 11, 36, 0), (90, 11, 37, 0), (93, 11, 38, 0), (96, 11, 39, 0), (99, 11, 40, 0), (102, 11, 41, 0), (105, 11, 42, 0), (108, 11, 43, 0), (111, 11, 44, 0), (114, 11, 45, 0), (117, 11, 46, 0), (120, 11, 48, 0), (123, 11, 50, 0), (126, 11, 51, 0), (129, 11, 52, 0), (132, 11, 53, 0), (135, 11, 55, 0), (138, 11, 56, 0), (141, 11, 57, 0), (144, 11, 62, 0), (147, 11, 63, 1), (150, 11, 66, 0), (153, 11, 0, 1), (156, 11, 1, 1), (216, 11, 8, 1), (219, 11, 6, 1), (226, 11, 10, 1), (229, 11, 14, 2), (236, 11, 9, 1), (239, 11, 12, 3), (249, 11, 11, 1), (268, 11, 17, 1), (271, 11, 23, 1), (293, 11, 24, 1), (299, 11, 20, 1), (351, 11, 15, 1), (368, 11, 29, 2), (371, 11, 26, 1), (382, 11, 30, 3), (388, 11, 31, 3), (484, 11, 47, 1), (490, 11, 49, 1), (513, 11, 54, 3), (535, 11, 58, 1), (538, 11, 59, 1), (541, 11, 60, 1), (551, 11, 61, 3), (563, 11, 67, 1), (566, 11, 68, 1), (578, 11, 64, 1), (581, 11, 65, 1)]
theorem ef_X11 : ∀ q ∈ fl_X11, gt_fok (gt_T ++ gt_N) RX11 vwCl q := (gt_fall ff_X11_7 (gt_fall ff_X11_13 (gt_fall ff_X11_16 (gt_fall ff_X11_19 (gt_fall ff_X11_23 (gt_fall ff_X11_26 (gt_fall ff_X11_30 (gt_fall ff_X11_33 (gt_fall ff_X11_36 (gt_fall ff_X11_39 (gt_fall ff_X11_42 (gt_fall ff_X11_65 (gt_fall ff_X11_69 (gt_fall ff_X11_72 (gt_fall ff_X11_75 (gt_fall ff_X11_78 (gt_fall ff_X11_81 (gt_fall ff_X11_84 (gt_fall ff_X11_87 (gt_fall ff_X11_90 (gt_fall ff_X11_93 (gt_fall ff_X11_96 (gt_fall ff_X11_99 (gt_fall ff_X11_102 (gt_fall ff_X11_105 (gt_fall ff_X11_108 (gt_fall ff_X11_111 (gt_fall ff_X11_114 (gt_fall ff_X11_117 (gt_fall ff_X11_120 (gt_fall ff_X11_123 (gt_fall ff_X11_126 (gt_fall ff_X11_129 (gt_fall ff_X11_132 (gt_fall ff_X11_135 (gt_fall ff_X11_138 (gt_fall ff_X11_141 (gt_fall ff_X11_144 (gt_fall ff_X11_147 (gt_fall ff_X11_150 (gt_fall ff_X11_153 (gt_fall ff_X11_156 (gt_fall ff_X11_216 (gt_fall ff_X11_219 (gt_fall ff_X11_226 (gt_fall ff_X11_229 (gt_fall ff_X11_236 (gt_fall ff_X11_239 (gt_fall ff_X11_249 (gt_fall ff_X11_268 (gt_fall ff_X11_271 (gt_fall ff_X11_293 (gt_fall ff_X11_299 (gt_fall ff_X11_351 (gt_fall ff_X11_368 (gt_fall ff_X11_371 (gt_fall ff_X11_382 (gt_fall ff_X11_388 (gt_fall ff_X11_484 (gt_fall ff_X11_490 (gt_fall ff_X11_513 (gt_fall ff_X11_535 (gt_fall ff_X11_538 (gt_fall ff_X11_541 (gt_fall ff_X11_551 (gt_fall ff_X11_563 (gt_fall ff_X11_566 (gt_fall ff_X11_578 (gt_fall ff_X11_581 (fun _ h => absurd h List.not_mem_nil))))))))))))))))))))))))))))))))))))))))))))))))))))))))))))))))))))))
def ci_X11 : List (Nat × Int32) := [(433, 100000000), (472, -1000000), (483, 1000000000), (544, 100000)]
theorem ei_X11 : ∀ q ∈ ci_X11, Cond.constant RX11 q.1 q.2 ∈ gt_T ++ gt_N := (List.forall_mem_cons.mpr ⟨List.mem_append_left _ (gt_t8 189 rfl rfl), (List.forall_mem_cons.mpr ⟨List.mem_append_left _ (gt_t8 206 rfl rfl), (List.forall_mem_cons.mpr ⟨List.mem_append_left _ (gt_t8 219 rfl rfl), (List.forall_mem_cons.mpr ⟨List.mem_append_left _ (gt_t9 56 rfl rfl), (fun _ h => absurd h List.not_mem_nil)⟩)⟩)⟩)⟩)
def cj_X11 : List (Nat × Int64) := [(45, 21243335), (47, 773279908), (49, 24627848), (51, 17376357), (53, 408572082), (55, 1253), (57, 17484389), (59, 638548), (61, 245044819), (63, 659117163), (170, 9), (172, 99), (174, 200), (188, 100), (190, 25), (192, 5), (211, 8), (252, 32), (254, 96), (256, -1), (258, 1000000), (260, 10), (262, 48), (281, 20), (283, 23), (285, 24), (287, 26), (312, 1000), (318, 14836), (333, 1476), (335, 498), (347, 12889267), (349, 113966), (357, 294), (378, -1000000000), (380, 1000000000), (407, 12), (428, 2), (493, 3), (504, 4), (554, 1103), (556, 12345), (558, 1000003)]
theorem ej_X11 : ∀ q ∈ cj_X11, Cond.constantLong RX11 q.1 q.2 ∈ gt_T ++ gt_N := (List.forall_mem_cons.mpr ⟨List.mem_append_left _ (gt_t6 104 rfl rfl), (List.forall_mem_cons.mpr ⟨List.mem_append_left _ (gt_t6 105 rfl rfl), (List.forall_mem_cons.mpr ⟨List.mem_append_left _ (gt_t6 106 rfl rfl), (List.forall_mem_cons.mpr ⟨List.mem_append_left _ (gt_t6 107 rfl rfl), (List.forall_mem_cons.mpr ⟨List.mem_append_left _ (gt_t6 108 rfl rfl), (List.forall_mem_cons.mpr ⟨List.mem_append_left _ (gt_t6 109 rfl rfl), (List.forall_mem_cons.mpr ⟨List.mem_append_left _ (gt_t6 110 rfl rfl), (List.forall_mem_cons.mpr ⟨List.mem_append_left _ (gt_t6 111 rfl rfl), (List.forall_mem_cons.mpr ⟨List.mem_append_left _ (gt_t6 112 rfl rfl), (List.forall_mem_cons.mpr ⟨List.mem_append_left _ (gt_t6 113 rfl rfl), (List.forall_mem_cons.mpr ⟨List.mem_append_left _ (gt_t7 104 rfl rfl), (List.forall_mem_cons.mpr ⟨List.mem_append_left _ (gt_t7 105 rfl rfl), (List.forall_mem_cons.mpr ⟨List.mem_append_left _ (gt_t7 106 rfl rfl), (List.forall_mem_cons.mpr ⟨List.mem_append_left _ (gt_t7 127 rfl rfl), (List.forall_mem_cons.mpr ⟨List.mem_append_left _ (gt_t7 139 rfl rfl), (List.forall_mem_cons.mpr ⟨List.mem_append_left _ (gt_t7 140 rfl rfl), (List.forall_mem_cons.mpr ⟨List.mem_append_left _ (gt_t7 173 rfl rfl), (List.forall_mem_cons.mpr ⟨List.mem_append_left _ (gt_t7 224 rfl rfl), (List.forall_mem_cons.mpr ⟨List.mem_append_left _ (gt_t7 225 rfl rfl), (List.forall_mem_cons.mpr ⟨List.mem_append_left _ (gt_t7 226 rfl rfl), (List.forall_mem_cons.mpr ⟨List.mem_append_left _ (gt_t7 227 rfl rfl), (List.forall_mem_cons.mpr ⟨List.mem_append_left _ (gt_t7 228 rfl rfl), (List.forall_mem_cons.mpr ⟨List.mem_append_left _ (gt_t7 229 rfl rfl), (List.forall_mem_cons.mpr ⟨List.mem_append_left _ (gt_t8 61 rfl rfl), (List.forall_mem_cons.mpr ⟨List.mem_append_left _ (gt_t8 62 rfl rfl), (List.forall_mem_cons.mpr ⟨List.mem_append_left _ (gt_t8 63 rfl rfl), (List.forall_mem_cons.mpr ⟨List.mem_append_left _ (gt_t8 64 rfl rfl), (List.forall_mem_cons.mpr ⟨List.mem_append_left _ (gt_t8 33 rfl rfl), (List.forall_mem_cons.mpr ⟨List.mem_append_left _ (gt_t8 12 rfl rfl), (List.forall_mem_cons.mpr ⟨List.mem_append_left _ (gt_t8 69 rfl rfl), (List.forall_mem_cons.mpr ⟨List.mem_append_left _ (gt_t8 70 rfl rfl), (List.forall_mem_cons.mpr ⟨List.mem_append_left _ (gt_t7 234 rfl rfl), (List.forall_mem_cons.mpr ⟨List.mem_append_left _ (gt_t7 239 rfl rfl), (List.forall_mem_cons.mpr ⟨List.mem_append_left _ (gt_t8 71 rfl rfl), (List.forall_mem_cons.mpr ⟨List.mem_append_left _ (gt_t8 117 rfl rfl), (List.forall_mem_cons.mpr ⟨List.mem_append_left _ (gt_t8 118 rfl rfl), (List.forall_mem_cons.mpr ⟨List.mem_append_left _ (gt_t8 84 rfl rfl), (List.forall_mem_cons.mpr ⟨List.mem_append_left _ (gt_t8 127 rfl rfl), (List.forall_mem_cons.mpr ⟨List.mem_append_left _ (gt_t8 201 rfl rfl), (List.forall_mem_cons.mpr ⟨List.mem_append_left _ (gt_t9 0 rfl rfl), (List.forall_mem_cons.mpr ⟨List.mem_append_left _ (gt_t9 85 rfl rfl), (List.forall_mem_cons.mpr ⟨List.mem_append_left _ (gt_t9 86 rfl rfl), (List.forall_mem_cons.mpr ⟨List.mem_append_left _ (gt_t9 87 rfl rfl), (fun _ h => absurd h List.not_mem_nil)⟩)⟩)⟩)⟩)⟩)⟩)⟩)⟩)⟩)⟩)⟩)⟩)⟩)⟩)⟩)⟩)⟩)⟩)⟩)⟩)⟩)⟩)⟩)⟩)⟩)⟩)⟩)⟩)⟩)⟩)⟩)⟩)⟩)⟩)⟩)⟩)⟩)⟩)⟩)⟩)⟩)⟩)⟩)
end
section
def gt_u {α : Type} (f : Nat → Nat → α) (j k : Nat) (v : α) : Nat → Nat → α := fun a b => if a = j then (if b = k then v else f a b) else f a b
def gt_lk {α : Type} : List (Nat × α) → Nat → Option α
  | [], _ => none
  | q :: t, n => bif Nat.beq q.1 n then some q.2 else gt_lk t n
/-- what a cell is: the fixed ones by the list, behind them three for each text -/
def gt_kd (ks : gt_KS) (tx : List (Nat × Nat)) (j : Nat) : Option gt_K :=
  if j < ks.2 then ks.1 j else
    match tx[(j - ks.2) / 3]? with
    | none => none
    | some ab => if (j - ks.2) % 3 = 0 then some (.inr (7, [some (some (j + 1)), some (some (j + 2))])) else if (j - ks.2) % 3 = 1 then some (.inl (.int, ab.1, [])) else some (.inl (.int, ab.2, []))
def gt_rf (rs : List Nat) (σ : gt_S) (j k : Nat) : Option Nat := match rs with
  | [] => σ.2.2.1 j k
  | r => r[k]?
def gt_sv (ad : Nat → Nat) (σ : gt_S) (j k : Nat) : Option (Option Nat) → Value
  | none => .int (σ.1 j k)
  | some none => .long (σ.2.1 j k)
  | some (some r) => if r = 999999 then .null else .ref (ad r)
def gt_fv (ad : Nat → Nat) (σ : gt_S) (j : Nat) : Nat → List (Option (Option Nat)) → List Value
  | _, [] => []
  | k, s :: t => gt_sv ad σ j k s :: gt_fv ad σ j (k + 1) t
def gt_ct (ad : Nat → Nat) (σ : gt_S) (j : Nat) (ty : FieldType) (rs : List Nat) : (Nat → Int32) ⊕ (Nat → Int64) ⊕ (Nat → UInt32) ⊕ (Nat → UInt64) ⊕ (Nat → Option Nat) := match ty with
  | .long => .inr (.inl (σ.2.1 j))
  | .object _ => .inr (.inr (.inr (.inr (fun k => (gt_rf rs σ j k).map ad))))
  | .array _ => .inr (.inr (.inr (.inr (fun k => (gt_rf rs σ j k).map ad))))
  | _ => .inl (σ.1 j)
def gt_c (cA : FieldType → Nat) (ad : Nat → Nat) (σ : gt_S) (j : Nat) : gt_K → va_E
  | .inl q => .inl (cA q.1, q.2.1, gt_ct ad σ j q.1 q.2.2)
  | .inr q => .inr (q.1, gt_fv ad σ j 0 q.2)
def gt_n (ks : gt_KS) (tx : List (Nat × Nat)) : Nat := ks.2 + 3 * tx.length
def gt_w (ks : gt_KS) (cA : FieldType → Nat) (ad : Nat → Nat) (σ : gt_S) : va_W := (List.range (gt_n ks σ.2.2.2)).map fun j => (ad j, match gt_kd ks σ.2.2.2 j with
  | some k => gt_c cA ad σ j k
  | none => .inr (0, []))
theorem gt_kd_lt {ks : gt_KS} {tx : List (Nat × Nat)} {j : Nat} {k : gt_K} (h : gt_kd ks tx j = some k) : j < gt_n ks tx := by
  unfold gt_kd at h
  unfold gt_n
  split at h
  · omega
  · split at h
    · cases h
    · rename_i q
      have := (List.getElem?_eq_some_iff.mp q).1
      omega
theorem gt_w_at {ks : gt_KS} {cA : FieldType → Nat} {ad : Nat → Nat} {σ : gt_S} {j : Nat} {k : gt_K} (h : gt_kd ks σ.2.2.2 j = some k) : (gt_w ks cA ad σ)[j]? = some (ad j, gt_c cA ad σ j k) := by
  have hl := gt_kd_lt h
  unfold gt_w
  rw [List.getElem?_map, List.getElem?_range hl]
  simp [h]
theorem gt_fv_congr {ad : Nat → Nat} {σ σ' : gt_S} {j : Nat} (h1 : σ'.1 j = σ.1 j) (h2 : σ'.2.1 j = σ.2.1 j) : ∀ (sl : List (Option (Option Nat))) (k : Nat), gt_fv ad σ' j k sl = gt_fv ad σ j k sl
  | [], _ => rfl
  | s :: t, k => by
    unfold gt_fv
    rw [gt_fv_congr h1 h2 t (k + 1)]
    congr 1
    rcases s with _ | _ | r
    · simp [gt_sv, h1]
    · simp [gt_sv, h2]
    · simp [gt_sv]
theorem gt_c_congr {cA : FieldType → Nat} {ad : Nat → Nat} {σ σ' : gt_S} {j : Nat} (h1 : σ'.1 j = σ.1 j) (h2 : σ'.2.1 j = σ.2.1 j) (h3 : σ'.2.2.1 j = σ.2.2.1 j) (k : gt_K) : gt_c cA ad σ' j k = gt_c cA ad σ j k := by
  rcases k with ⟨ty, n, rs⟩ | ⟨ci, sl⟩
  · have hr : gt_rf rs σ' j = gt_rf rs σ j := by
      funext k
      unfold gt_rf
      split
      · rw [h3]
      · rfl
    unfold gt_c gt_ct
    dsimp only
    rw [h1, h2, hr]
  · unfold gt_c
    dsimp only
    rw [gt_fv_congr h1 h2]
theorem gt_w_set {ks : gt_KS} {cA : FieldType → Nat} {ad : Nat → Nat} {σ σ' : gt_S} {j : Nat} {k : gt_K} (ht : σ'.2.2.2 = σ.2.2.2) (hne : ∀ i, i ≠ j → σ'.1 i = σ.1 i ∧ σ'.2.1 i = σ.2.1 i ∧ σ'.2.2.1 i = σ.2.2.1 i) (h : gt_kd ks σ.2.2.2 j = some k) : (gt_w ks cA ad σ).set j (ad j, gt_c cA ad σ' j k) = gt_w ks cA ad σ' := by
  have hl := gt_kd_lt h
  have hlen : (gt_w ks cA ad σ).length = gt_n ks σ.2.2.2 := by simp [gt_w]
  apply List.ext_getElem?
  intro i
  by_cases hij : i = j
  · subst hij
    rw [List.getElem?_set_self (by rw [hlen]; exact hl), gt_w_at (by rw [ht]; exact h)]
  · rw [List.getElem?_set_ne (Ne.symm hij)]
    unfold gt_w
    rw [ht, List.getElem?_map, List.getElem?_map]
    obtain ⟨a1, a2, a3⟩ := hne i hij
    cases hr : (List.range (gt_n ks σ.2.2.2))[i]? with
    | none => rfl
    | some x =>
      have hx : x = i := by
        obtain ⟨q1, q2⟩ := List.getElem?_eq_some_iff.mp hr
        rw [List.getElem_range] at q2
        exact q2.symm
      subst hx
      cases hk : gt_kd ks σ.2.2.2 x with
      | none => simp [hk]
      | some kk => simp [hk, gt_c_congr a1 a2 a3]
def gt_v (ad : Nat → Nat) : Value → Value
  | .ref j => .ref (ad j)
  | .retAddr k => .ref (ad (1000000 + k))
  | v => v
theorem gt_v_cat (ad : Nat → Nat) (v : Value) : (gt_v ad v).category = v.category := by cases v <;> rfl
def gt_lm (ad : Nat → Nat) (q : Nat × Value) : Nat × Value := (q.1, gt_v ad q.2)
def gt_tys (cA : FieldType → Nat) : List (ClassId × FieldType) := [(cA .int, .int), (cA .long, .long), (cA .boolean, .boolean), (cA (.object "GiftTable$State"), .object "GiftTable$State"), (cA (.object "GiftTable$Text"), .object "GiftTable$Text"), (cA (.array .long), .array .long), (cA (.array .int), .array .int)]
/-! reads and writes -/
def gt_ldI (ks : gt_KS) (σ : gt_S) (j : Nat) (i : Int32) : Option Int32 := match gt_kd ks σ.2.2.2 j with
  | some (.inl (.int, n, _)) => if i < 0 ∨ n ≤ i.toNatClampNeg then none else some (σ.1 j i.toNatClampNeg)
  | _ => none
def gt_ldZ (ks : gt_KS) (σ : gt_S) (j : Nat) (i : Int32) : Option Int32 := match gt_kd ks σ.2.2.2 j with
  | some (.inl (.boolean, n, _)) => if i < 0 ∨ n ≤ i.toNatClampNeg then none else some (σ.1 j i.toNatClampNeg)
  | _ => none
def gt_ldL (ks : gt_KS) (σ : gt_S) (j : Nat) (i : Int32) : Option Int64 := match gt_kd ks σ.2.2.2 j with
  | some (.inl (.long, n, _)) => if i < 0 ∨ n ≤ i.toNatClampNeg then none else some (σ.2.1 j i.toNatClampNeg)
  | _ => none
def gt_isT (ty : FieldType) : Bool := ty == .object "GiftTable$State" || (ty == .object "GiftTable$Text" || (ty == .array .long || ty == .array .int))
def gt_ldR (ks : gt_KS) (σ : gt_S) (j : Nat) (i : Int32) : Option (Option Nat) := match gt_kd ks σ.2.2.2 j with
  | some (.inl (ty, n, rs)) => if gt_isT ty = true then (if i < 0 ∨ n ≤ i.toNatClampNeg then none else some (gt_rf rs σ j i.toNatClampNeg)) else none
  | _ => none
def gt_stI (ks : gt_KS) (σ : gt_S) (j : Nat) (i v : Int32) : Option gt_S := match gt_kd ks σ.2.2.2 j with
  | some (.inl (.int, n, _)) => if i < 0 ∨ n ≤ i.toNatClampNeg then none else some (gt_u σ.1 j i.toNatClampNeg v, σ.2)
  | _ => none
def gt_stZ (ks : gt_KS) (σ : gt_S) (j : Nat) (i v : Int32) : Option gt_S := match gt_kd ks σ.2.2.2 j with
  | some (.inl (.boolean, n, _)) => if i < 0 ∨ n ≤ i.toNatClampNeg then none else some (gt_u σ.1 j i.toNatClampNeg (vp_nar .boolean v), σ.2)
  | _ => none
def gt_stL (ks : gt_KS) (σ : gt_S) (j : Nat) (i : Int32) (v : Int64) : Option gt_S := match gt_kd ks σ.2.2.2 j with
  | some (.inl (.long, n, _)) => if i < 0 ∨ n ≤ i.toNatClampNeg then none else some (σ.1, gt_u σ.2.1 j i.toNatClampNeg v, σ.2.2)
  | _ => none
/-- a text, or none, into a row of texts -/
def gt_stR (ks : gt_KS) (σ : gt_S) (j : Nat) (i : Int32) (v : Option Nat) : Option gt_S := match gt_kd ks σ.2.2.2 j with
  | some (.inl (.object C, n, [])) => if C = "GiftTable$Text" then (if i < 0 ∨ n ≤ i.toNatClampNeg then none else match v with
    | none => some (σ.1, σ.2.1, gt_u σ.2.2.1 j i.toNatClampNeg none, σ.2.2.2)
    | some t => (match gt_kd ks σ.2.2.2 t with
      | some (.inr (ci, _)) => if ci = 7 then some (σ.1, σ.2.1, gt_u σ.2.2.1 j i.toNatClampNeg (some t), σ.2.2.2) else none
      | _ => none)) else none
  | _ => none
def gt_ln (ks : gt_KS) (σ : gt_S) (j : Nat) : Option Nat := match gt_kd ks σ.2.2.2 j with
  | some (.inl (ty, n, _)) => if ty = .int ∨ ty = .long ∨ ty = .boolean then some n else none
  | _ => none
def gt_gf (ks : gt_KS) (σ : gt_S) (j ci k : Nat) : Option Value := match gt_kd ks σ.2.2.2 j with
  | some (.inr q) => if q.1 = ci then (match q.2[k]? with
    | some s => some (gt_sv id σ j k s)
    | none => none) else none
  | _ => none
/-- t: 1 an int field, 2 a boolean one, 3 a long one, 0 none that is written -/
def gt_pfI (ks : gt_KS) (σ : gt_S) (j ci k t : Nat) (x : Int32) : Option gt_S := match gt_kd ks σ.2.2.2 j with
  | some (.inr q) => if q.1 = ci then (match q.2[k]? with
    | some none => if t = 1 ∨ (t = 2 ∧ (x = 0 ∨ x = 1)) then some (gt_u σ.1 j k x, σ.2) else none
    | _ => none) else none
  | _ => none
def gt_pfL (ks : gt_KS) (σ : gt_S) (j ci k t : Nat) (x : Int64) : Option gt_S := match gt_kd ks σ.2.2.2 j with
  | some (.inr q) => if q.1 = ci then (match q.2[k]? with
    | some (some none) => if t = 3 then some (σ.1, gt_u σ.2.1 j k x, σ.2.2) else none
    | _ => none) else none
  | _ => none
/-! the step -/
def gt_i1 {α : Type} (st : List Value) (k : Int32 → List Value → Option α) : Option α := match st with
  | .int x :: r => k x r
  | _ => none
def gt_i2 {α : Type} (st : List Value) (k : Int32 → Int32 → List Value → Option α) : Option α := match st with
  | .int y :: .int x :: r => k x y r
  | _ => none
def gt_l1 {α : Type} (st : List Value) (k : Int64 → List Value → Option α) : Option α := match st with
  | .long x :: r => k x r
  | _ => none
def gt_l2 {α : Type} (st : List Value) (k : Int64 → Int64 → List Value → Option α) : Option α := match st with
  | .long y :: .long x :: r => k x y r
  | _ => none
def gt_li {α : Type} (st : List Value) (k : Int64 → Int32 → List Value → Option α) : Option α := match st with
  | .int y :: .long x :: r => k x y r
  | _ => none
def gt_a1 {α : Type} (st : List Value) (k : Nat → List Value → Option α) : Option α := match st with
  | .ref a :: r => k a r
  | _ => none
def gt_ai {α : Type} (st : List Value) (k : Nat → Int32 → List Value → Option α) : Option α := match st with
  | .int i :: .ref a :: r => k a i r
  | _ => none
def gt_aii {α : Type} (st : List Value) (k : Nat → Int32 → Int32 → List Value → Option α) : Option α := match st with
  | .int x :: .int i :: .ref a :: r => k a i x r
  | _ => none
def gt_ail {α : Type} (st : List Value) (k : Nat → Int32 → Int64 → List Value → Option α) : Option α := match st with
  | .long x :: .int i :: .ref a :: r => k a i x r
  | _ => none
def gt_aiq {α : Type} (st : List Value) (k : Nat → Int32 → Option Nat → List Value → Option α) : Option α := match st with
  | .ref v :: .int i :: .ref a :: r => k a i (some v) r
  | .null :: .int i :: .ref a :: r => k a i none r
  | _ => none
theorem gt_i1_s {α : Type} {st : List Value} {k : Int32 → List Value → Option α} {o : α} (h : gt_i1 st k = some o) : ∃ x r, st = .int x :: r ∧ k x r = some o := by
  unfold gt_i1 at h; split at h
  · exact ⟨_, _, rfl, h⟩
  · cases h
theorem gt_i2_s {α : Type} {st : List Value} {k : Int32 → Int32 → List Value → Option α} {o : α} (h : gt_i2 st k = some o) : ∃ x y r, st = .int y :: .int x :: r ∧ k x y r = some o := by
  unfold gt_i2 at h; split at h
  · exact ⟨_, _, _, rfl, h⟩
  · cases h
theorem gt_l1_s {α : Type} {st : List Value} {k : Int64 → List Value → Option α} {o : α} (h : gt_l1 st k = some o) : ∃ x r, st = .long x :: r ∧ k x r = some o := by
  unfold gt_l1 at h; split at h
  · exact ⟨_, _, rfl, h⟩
  · cases h
theorem gt_l2_s {α : Type} {st : List Value} {k : Int64 → Int64 → List Value → Option α} {o : α} (h : gt_l2 st k = some o) : ∃ x y r, st = .long y :: .long x :: r ∧ k x y r = some o := by
  unfold gt_l2 at h; split at h
  · exact ⟨_, _, _, rfl, h⟩
  · cases h
theorem gt_li_s {α : Type} {st : List Value} {k : Int64 → Int32 → List Value → Option α} {o : α} (h : gt_li st k = some o) : ∃ x y r, st = .int y :: .long x :: r ∧ k x y r = some o := by
  unfold gt_li at h; split at h
  · exact ⟨_, _, _, rfl, h⟩
  · cases h
theorem gt_a1_s {α : Type} {st : List Value} {k : Nat → List Value → Option α} {o : α} (h : gt_a1 st k = some o) : ∃ x r, st = .ref x :: r ∧ k x r = some o := by
  unfold gt_a1 at h; split at h
  · exact ⟨_, _, rfl, h⟩
  · cases h
theorem gt_ai_s {α : Type} {st : List Value} {k : Nat → Int32 → List Value → Option α} {o : α} (h : gt_ai st k = some o) : ∃ a i r, st = .int i :: .ref a :: r ∧ k a i r = some o := by
  unfold gt_ai at h; split at h
  · exact ⟨_, _, _, rfl, h⟩
  · cases h
theorem gt_aii_s {α : Type} {st : List Value} {k : Nat → Int32 → Int32 → List Value → Option α} {o : α} (h : gt_aii st k = some o) : ∃ a i x r, st = .int x :: .int i :: .ref a :: r ∧ k a i x r = some o := by
  unfold gt_aii at h; split at h
  · exact ⟨_, _, _, _, rfl, h⟩
  · cases h
theorem gt_ail_s {α : Type} {st : List Value} {k : Nat → Int32 → Int64 → List Value → Option α} {o : α} (h : gt_ail st k = some o) : ∃ a i x r, st = .long x :: .int i :: .ref a :: r ∧ k a i x r = some o := by
  unfold gt_ail at h; split at h
  · exact ⟨_, _, _, _, rfl, h⟩
  · cases h
theorem gt_aiq_s {α : Type} {st : List Value} {k : Nat → Int32 → Option Nat → List Value → Option α} {o : α} (h : gt_aiq st k = some o) : ∃ a i x r, st = va_rf x :: .int i :: .ref a :: r ∧ k a i x r = some o := by
  unfold gt_aiq at h; split at h
  · exact ⟨_, _, some _, _, rfl, h⟩
  · exact ⟨_, _, none, _, rfl, h⟩
  · cases h
def gt_jp {α : Type} (pc : Nat) (off : Int) (k : Nat → Option α) : Option α := match (pc : Int) + off with
  | .ofNat n => k n
  | .negSucc _ => none
theorem gt_jp_s {α : Type} {pc : Nat} {off : Int} {k : Nat → Option α} {o : α} (h : gt_jp pc off k = some o) : ∃ n : Nat, (pc : Int) + off = (n : Int) ∧ k n = some o := by
  unfold gt_jp at h; split at h
  · rename_i q; exact ⟨_, q, h⟩
  · cases h
/-- one after another: x against lo, lo + 1 .. -/
def gt_ts {α : Type} (x : Int32) (d : Int) (k : Int → Option α) : Int → List Int → Option α
  | _, [] => k d
  | lo, o :: t => if x = Int32.ofInt lo then k o else gt_ts x d k (lo + 1) t
def gt_lsw {α : Type} (x : Int32) (d : Int) (k : Int → Option α) : List (Int × Int) → Option α
  | [] => k d
  | q :: t => if x = Int32.ofInt q.1 then k q.2 else gt_lsw x d k t
def gt_set1 (i : Nat) (v : Value) (lv : gt_L) : gt_L := (i, v) :: lv.filter (fun q => !(q.1 == i) && !(q.1 + 1 == i && q.2.category == 2))
def gt_set2 (i : Nat) (v : Value) (lv : gt_L) : gt_L := (i, v) :: lv.filter (fun q => !(q.1 == i) && (!(q.1 == i + 1) && !(q.1 + 1 == i && q.2.category == 2)))
def gt_ldi {α : Type} (lv : gt_L) (i : Nat) (k : Int32 → Option α) : Option α := match gt_lk lv i with
  | some (.int x) => k x
  | _ => none
def gt_ldl {α : Type} (lv : gt_L) (i : Nat) (k : Int64 → Option α) : Option α := match gt_lk lv i with
  | some (.long x) => k x
  | _ => none
def gt_lda {α : Type} (lv : gt_L) (i : Nat) (k : Value → Option α) : Option α := match gt_lk lv i with
  | some (.ref x) => k (.ref x)
  | some .null => k .null
  | _ => none
theorem gt_ldi_s {α : Type} {lv : gt_L} {i : Nat} {k : Int32 → Option α} {o : α} (h : gt_ldi lv i k = some o) : ∃ x, gt_lk lv i = some (.int x) ∧ k x = some o := by
  unfold gt_ldi at h; split at h
  · rename_i q; exact ⟨_, q, h⟩
  · cases h
theorem gt_ldl_s {α : Type} {lv : gt_L} {i : Nat} {k : Int64 → Option α} {o : α} (h : gt_ldl lv i k = some o) : ∃ x, gt_lk lv i = some (.long x) ∧ k x = some o := by
  unfold gt_ldl at h; split at h
  · rename_i q; exact ⟨_, q, h⟩
  · cases h
theorem gt_lda_s {α : Type} {lv : gt_L} {i : Nat} {k : Value → Option α} {o : α} (h : gt_lda lv i k = some o) : ∃ x, gt_lk lv i = some (va_rf x) ∧ k (va_rf x) = some o := by
  unfold gt_lda at h; split at h
  · rename_i q; exact ⟨some _, q, h⟩
  · rename_i q; exact ⟨none, q, h⟩
  · cases h
/-- a branch -/
def gt_br {α : Type} (c : Jvm.ClassFile.Cond) (x y : Int32) (t f : Option α) : Option α := match c with
  | .eq => if x = y then t else f
  | .ne => if x = y then f else t
  | .lt => if x < y then t else f
  | .ge => if x < y then f else t
  | .gt => if y < x then t else f
  | .le => if y < x then f else t
abbrev gt_C : Type := Nat → gt_L → List Value → gt_S → Option gt_F
def gt_cv {α : Type} (o : Option (Option Value × gt_S)) (k : gt_S → Option α) : Option α := match o with
  | some (none, σ) => k σ
  | _ => none
def gt_ci {α : Type} (o : Option (Option Value × gt_S)) (k : Int32 → gt_S → Option α) : Option α := match o with
  | some (some (.int v), σ) => k v σ
  | _ => none
def gt_cl {α : Type} (o : Option (Option Value × gt_S)) (k : Int64 → gt_S → Option α) : Option α := match o with
  | some (some (.long v), σ) => k v σ
  | _ => none
def gt_ca {α : Type} (o : Option (Option Value × gt_S)) (k : Value → gt_S → Option α) : Option α := match o with
  | some (some (.ref v), σ) => k (.ref v) σ
  | some (some .null, σ) => k .null σ
  | _ => none
/-- a call: by what it gives back -/
def gt_cr (rk : Nat) (o : Option (Option Value × gt_S)) (rest : List Value) (k : List Value → gt_S → Option gt_F) : Option gt_F := match rk with
  | 0 => gt_cv o fun σ => k rest σ
  | 1 => gt_ci o fun v σ => k (.int v :: rest) σ
  | 2 => gt_cl o fun v σ => k (.long v :: rest) σ
  | _ => gt_ca o fun v σ => k (v :: rest) σ
theorem gt_cr_s {rk : Nat} {o : Option (Option Value × gt_S)} {rest : List Value} {k : List Value → gt_S → Option gt_F} {z : gt_F} (h : gt_cr rk o rest k = some z) : ∃ r σ, o = some (r, σ) ∧ k (r.toList ++ rest) σ = some z := by
  unfold gt_cr at h
  split at h
  · unfold gt_cv at h; split at h
    · exact ⟨_, _, rfl, h⟩
    · cases h
  · unfold gt_ci at h; split at h
    · exact ⟨_, _, rfl, h⟩
    · cases h
  · unfold gt_cl at h; split at h
    · exact ⟨_, _, rfl, h⟩
    · cases h
  · unfold gt_ca at h; split at h
    · exact ⟨_, _, rfl, h⟩
    · exact ⟨_, _, rfl, h⟩
    · cases h
def gt_inv (E : gt_E) (kd idx pc : Nat) (lv : gt_L) (st : List Value) (σ : gt_S) (κ : gt_C) : Option gt_F := match gt_lk E.2.2.2.1 idx with
  | some q => if q.1 = kd ∧ q.2.2.1 ≤ st.length ∧ ((st.drop q.2.2.1).map fun v => v.category).sum ≤ 8 then gt_cr q.2.1 (q.2.2.2 (st.take q.2.2.1).reverse σ) (st.drop q.2.2.1) (fun st σ => κ (pc + 3) lv st σ) else none
  | none => none
/-- by the instruction alone: so the arms stay closed terms -/
def gt_op : Instr → gt_KS → Nat → gt_E → Nat → gt_L → List Value → gt_S → gt_C → Option gt_F := fun i => match i with
  | .iconst n => fun ks nL E pc lv st σ κ => κ (pc + 1) lv (.int (Int32.ofInt n) :: st) σ
  | .bipush n => fun ks nL E pc lv st σ κ => κ (pc + 2) lv (.int (Int8.ofInt n).toInt32 :: st) σ
  | .sipush n => fun ks nL E pc lv st σ κ => κ (pc + 3) lv (.int (Int16.ofInt n).toInt32 :: st) σ
  | .lconst n => fun ks nL E pc lv st σ κ => κ (pc + 1) lv (.long (Int64.ofNat (n : Nat)) :: st) σ
  | .aconst_null => fun ks nL E pc lv st σ κ => κ (pc + 1) lv (.null :: st) σ
  | .ldc_w i => fun ks nL E pc lv st σ κ => (gt_lk E.2.1 i).bind fun v => κ (pc + 3) lv (.int v :: st) σ
  | .ldc i => fun ks nL E pc lv st σ κ => (gt_lk E.2.1 i).bind fun v => κ (pc + 2) lv (.int v :: st) σ
  | .ldc2_w i => fun ks nL E pc lv st σ κ => (gt_lk E.2.2.1 i).bind fun v => κ (pc + 3) lv (.long v :: st) σ
  | .iload_n k => fun ks nL E pc lv st σ κ => gt_ldi lv k.1 fun x => κ (pc + 1) lv (.int x :: st) σ
  | .iload i => fun ks nL E pc lv st σ κ => gt_ldi lv i fun x => κ (pc + 2) lv (.int x :: st) σ
  | .lload_n k => fun ks nL E pc lv st σ κ => gt_ldl lv k.1 fun x => κ (pc + 1) lv (.long x :: st) σ
  | .lload i => fun ks nL E pc lv st σ κ => gt_ldl lv i fun x => κ (pc + 2) lv (.long x :: st) σ
  | .aload_n k => fun ks nL E pc lv st σ κ => gt_lda lv k.1 fun x => κ (pc + 1) lv (x :: st) σ
  | .aload i => fun ks nL E pc lv st σ κ => gt_lda lv i fun x => κ (pc + 2) lv (x :: st) σ
  | .istore_n k => fun ks nL E pc lv st σ κ => gt_i1 st fun x r => if k.1 < nL then κ (pc + 1) (gt_set1 k.1 (.int x) lv) r σ else none
  | .istore i => fun ks nL E pc lv st σ κ => gt_i1 st fun x r => if i < nL then κ (pc + 2) (gt_set1 i (.int x) lv) r σ else none
  | .lstore_n k => fun ks nL E pc lv st σ κ => gt_l1 st fun x r => if k.1 + 1 < nL then κ (pc + 1) (gt_set2 k.1 (.long x) lv) r σ else none
  | .lstore i => fun ks nL E pc lv st σ κ => gt_l1 st fun x r => if i + 1 < nL then κ (pc + 2) (gt_set2 i (.long x) lv) r σ else none
  | .astore_n k => fun ks nL E pc lv st σ κ => gt_a1 st fun x r => if k.1 < nL then κ (pc + 1) (gt_set1 k.1 (.ref x) lv) r σ else none
  | .astore i => fun ks nL E pc lv st σ κ => gt_a1 st fun x r => if i < nL then κ (pc + 2) (gt_set1 i (.ref x) lv) r σ else none
  | .iinc i n => fun ks nL E pc lv st σ κ => gt_ldi lv i fun x => if i < nL then κ (pc + 3) (gt_set1 i (.int (x + Int32.ofInt n)) lv) st σ else none
  | .iadd => fun ks nL E pc lv st σ κ => gt_i2 st fun x y r => κ (pc + 1) lv (.int (x + y) :: r) σ
  | .isub => fun ks nL E pc lv st σ κ => gt_i2 st fun x y r => κ (pc + 1) lv (.int (x - y) :: r) σ
  | .imul => fun ks nL E pc lv st σ κ => gt_i2 st fun x y r => κ (pc + 1) lv (.int (x * y) :: r) σ
  | .iand => fun ks nL E pc lv st σ κ => gt_i2 st fun x y r => κ (pc + 1) lv (.int (x &&& y) :: r) σ
  | .ior => fun ks nL E pc lv st σ κ => gt_i2 st fun x y r => κ (pc + 1) lv (.int (x ||| y) :: r) σ
  | .idiv => fun ks nL E pc lv st σ κ => gt_i2 st fun x y r => if y = 0 then none else κ (pc + 1) lv (.int (x / y) :: r) σ
  | .irem => fun ks nL E pc lv st σ κ => gt_i2 st fun x y r => if y = 0 then none else κ (pc + 1) lv (.int (x - x / y * y) :: r) σ
  | .ineg => fun ks nL E pc lv st σ κ => gt_i1 st fun x r => κ (pc + 1) lv (.int (-x) :: r) σ
  | .ishl => fun ks nL E pc lv st σ κ => gt_i2 st fun x y r => κ (pc + 1) lv (.int (x <<< (y &&& 31)) :: r) σ
  | .ishr => fun ks nL E pc lv st σ κ => gt_i2 st fun x y r => κ (pc + 1) lv (.int (x >>> (y &&& 31)) :: r) σ
  | .ladd => fun ks nL E pc lv st σ κ => gt_l2 st fun x y r => κ (pc + 1) lv (.long (x + y) :: r) σ
  | .lsub => fun ks nL E pc lv st σ κ => gt_l2 st fun x y r => κ (pc + 1) lv (.long (x - y) :: r) σ
  | .lmul => fun ks nL E pc lv st σ κ => gt_l2 st fun x y r => κ (pc + 1) lv (.long (x * y) :: r) σ
  | .land => fun ks nL E pc lv st σ κ => gt_l2 st fun x y r => κ (pc + 1) lv (.long (x &&& y) :: r) σ
  | .lor => fun ks nL E pc lv st σ κ => gt_l2 st fun x y r => κ (pc + 1) lv (.long (x ||| y) :: r) σ
  | .ldiv => fun ks nL E pc lv st σ κ => gt_l2 st fun x y r => if y = 0 then none else κ (pc + 1) lv (.long (x / y) :: r) σ
  | .lrem => fun ks nL E pc lv st σ κ => gt_l2 st fun x y r => if y = 0 then none else κ (pc + 1) lv (.long (x - x / y * y) :: r) σ
  | .lshl => fun ks nL E pc lv st σ κ => gt_li st fun x y r => κ (pc + 1) lv (.long (x <<< (y.toInt64 &&& 63)) :: r) σ
  | .lshr => fun ks nL E pc lv st σ κ => gt_li st fun x y r => κ (pc + 1) lv (.long (x >>> (y.toInt64 &&& 63)) :: r) σ
  | .i2l => fun ks nL E pc lv st σ κ => gt_i1 st fun x r => κ (pc + 1) lv (.long x.toInt64 :: r) σ
  | .l2i => fun ks nL E pc lv st σ κ => gt_l1 st fun x r => κ (pc + 1) lv (.int x.toInt32 :: r) σ
  | .lcmp => fun ks nL E pc lv st σ κ => gt_l2 st fun x y r => κ (pc + 1) lv (.int (lg_cmp x y) :: r) σ
  | .dup => fun ks nL E pc lv st σ κ => (match st with
    | v :: r => if v.category = 1 then κ (pc + 1) lv (v :: v :: r) σ else none
    | _ => none)
  | .dup2 => fun ks nL E pc lv st σ κ => (match st with
    | v :: w :: r => if v.category = 1 ∧ w.category = 1 then κ (pc + 1) lv (v :: w :: v :: w :: r) σ else none
    | _ => none)
  | .pop => fun ks nL E pc lv st σ κ => (match st with
    | v :: r => if v.category = 1 then κ (pc + 1) lv r σ else none
    | _ => none)
  | .goto off => fun ks nL E pc lv st σ κ => gt_jp pc off fun t => κ t lv st σ
  | .ifCond c off => fun ks nL E pc lv st σ κ => gt_i1 st fun x r => gt_jp pc off fun t => gt_br c x 0 (κ t lv r σ) (κ (pc + 3) lv r σ)
  | .if_icmp c off => fun ks nL E pc lv st σ κ => gt_i2 st fun x y r => gt_jp pc off fun t => gt_br c x y (κ t lv r σ) (κ (pc + 3) lv r σ)
  | .ifnull off => fun ks nL E pc lv st σ κ => (match st with
    | .null :: r => gt_jp pc off fun t => κ t lv r σ
    | .ref _ :: r => κ (pc + 3) lv r σ
    | _ => none)
  | .ifnonnull off => fun ks nL E pc lv st σ κ => (match st with
    | .null :: r => κ (pc + 3) lv r σ
    | .ref _ :: r => gt_jp pc off fun t => κ t lv r σ
    | _ => none)
  | .tableswitch d lo hi offs => fun ks nL E pc lv st σ κ => gt_i1 st fun x r => if 0 ≤ lo ∧ hi = lo + offs.size - 1 ∧ hi < 1000 ∧ 0 < offs.size then gt_ts x d (fun o => gt_jp pc o fun t => κ t lv r σ) lo offs.toList else none
  | .lookupswitch d ps => fun ks nL E pc lv st σ κ => gt_i1 st fun x r => if (ps.toList.zip (ps.toList.drop 1)).all (fun (a, next) => a.1 < next.1) = true ∧ ps.toList.all (fun w => decide (-2147483648 ≤ w.1) && decide (w.1 < 2147483648)) = true then gt_lsw x d (fun o => gt_jp pc o fun t => κ t lv r σ) ps.toList else none
  | .getfield i => fun ks nL E pc lv st σ κ => gt_a1 st fun a r => (gt_lk E.1 i).bind fun f => (gt_gf ks σ a f.1 f.2.1).bind fun v => κ (pc + 3) lv (v :: r) σ
  | .putfield i => fun ks nL E pc lv st σ κ => (match st with
    | .int x :: .ref a :: r => (gt_lk E.1 i).bind fun f => (gt_pfI ks σ a f.1 f.2.1 f.2.2 x).bind fun σ' => κ (pc + 3) lv r σ'
    | .long x :: .ref a :: r => (gt_lk E.1 i).bind fun f => (gt_pfL ks σ a f.1 f.2.1 f.2.2 x).bind fun σ' => κ (pc + 3) lv r σ'
    | _ => none)
  | .iaload => fun ks nL E pc lv st σ κ => gt_ai st fun a i r => (gt_ldI ks σ a i).bind fun v => κ (pc + 1) lv (.int v :: r) σ
  | .baload => fun ks nL E pc lv st σ κ => gt_ai st fun a i r => (gt_ldZ ks σ a i).bind fun v => κ (pc + 1) lv (.int v :: r) σ
  | .laload => fun ks nL E pc lv st σ κ => gt_ai st fun a i r => (gt_ldL ks σ a i).bind fun v => κ (pc + 1) lv (.long v :: r) σ
  | .aaload => fun ks nL E pc lv st σ κ => gt_ai st fun a i r => (match gt_ldR ks σ a i with
    | some (some v) => κ (pc + 1) lv (.ref v :: r) σ
    | some none => κ (pc + 1) lv (.null :: r) σ
    | none => none)
  | .iastore => fun ks nL E pc lv st σ κ => gt_aii st fun a i x r => (gt_stI ks σ a i x).bind fun σ' => κ (pc + 1) lv r σ'
  | .bastore => fun ks nL E pc lv st σ κ => gt_aii st fun a i x r => (gt_stZ ks σ a i x).bind fun σ' => κ (pc + 1) lv r σ'
  | .lastore => fun ks nL E pc lv st σ κ => gt_ail st fun a i x r => (gt_stL ks σ a i x).bind fun σ' => κ (pc + 1) lv r σ'
  | .aastore => fun ks nL E pc lv st σ κ => gt_aiq st fun a i x r => (gt_stR ks σ a i x).bind fun σ' => κ (pc + 1) lv r σ'
  | .arraylength => fun ks nL E pc lv st σ κ => gt_a1 st fun a r => (gt_ln ks σ a).bind fun n => κ (pc + 1) lv (.int (Int32.ofNat n) :: r) σ
  | .invokevirtual i => fun ks nL E pc lv st σ κ => gt_inv E 0 i pc lv st σ κ
  | .invokestatic i => fun ks nL E pc lv st σ κ => gt_inv E 1 i pc lv st σ κ
  | .invokespecial i => fun ks nL E pc lv st σ κ => gt_inv E 2 i pc lv st σ κ
  | _ => fun _ _ _ _ _ _ _ _ => none
def gt_stp (ks : gt_KS) (nL : Nat) (E : gt_E) (q : gt_I) (lv : gt_L) (st : List Value) (σ : gt_S) (κ : gt_C) : Option gt_F := gt_op q.2.1 ks nL E q.1 lv st σ κ
/-! the step is what the machine does -/
theorem gt_lk_mem {α : Type} : ∀ {t : List (Nat × α)} {n : Nat} {v : α}, gt_lk t n = some v → (n, v) ∈ t
  | [], _, _, h => by cases h
  | q :: t, n, v, h => by
    unfold gt_lk at h
    cases hq : Nat.beq q.1 n with
    | true =>
      rw [hq] at h
      cases h
      have := Nat.eq_of_beq_eq_true hq
      subst this
      exact List.mem_cons_self
    | false =>
      rw [hq] at h
      exact List.mem_cons_of_mem _ (gt_lk_mem h)
theorem gt_fv_get (ad : Nat → Nat) (σ : gt_S) (j : Nat) : ∀ (sl : List (Option (Option Nat))) (k0 k : Nat) {x : Option (Option Nat)}, sl[k]? = some x → (gt_fv ad σ j k0 sl)[k]? = some (gt_sv ad σ j (k0 + k) x)
  | [], _, _, _, h => by simp at h
  | y :: t, k0, 0, x, h => by
    simp at h
    subst h
    rfl
  | y :: t, k0, k + 1, x, h => by
    rw [List.getElem?_cons_succ] at h
    unfold gt_fv
    rw [List.getElem?_cons_succ, gt_fv_get ad σ j t (k0 + 1) k h, show k0 + 1 + k = k0 + (k + 1) by omega]
theorem gt_fv_len (ad : Nat → Nat) (σ : gt_S) (j : Nat) : ∀ (sl : List (Option (Option Nat))) (k0 : Nat), (gt_fv ad σ j k0 sl).length = sl.length
  | [], _ => rfl
  | y :: t, k0 => by
    unfold gt_fv
    rw [List.length_cons, gt_fv_len ad σ j t (k0 + 1), List.length_cons]
theorem gt_fv_setI (ad : Nat → Nat) (σ : gt_S) (j : Nat) (v : Int32) : ∀ (sl : List (Option (Option Nat))) (k0 k : Nat), sl[k]? = some none → (gt_fv ad σ j k0 sl).set k (.int v) = gt_fv ad (gt_u σ.1 j (k0 + k) v, σ.2) j k0 sl := by
  intro sl k0 k h
  have hk : k < sl.length := (List.getElem?_eq_some_iff.mp h).1
  apply List.ext_getElem?
  intro i
  by_cases hi : i = k
  · subst hi
    rw [List.getElem?_set_self (by rw [gt_fv_len]; exact hk), gt_fv_get ad _ j sl k0 i h]
    simp [gt_sv, gt_u]
  · rw [List.getElem?_set_ne (Ne.symm hi)]
    cases hs : sl[i]? with
    | none =>
      have : sl.length ≤ i := List.getElem?_eq_none_iff.mp hs
      rw [List.getElem?_eq_none (by rw [gt_fv_len]; exact this), List.getElem?_eq_none (by rw [gt_fv_len]; exact this)]
    | some x =>
      rw [gt_fv_get ad _ j sl k0 i hs, gt_fv_get ad _ j sl k0 i hs]
      rcases x with _ | _ | r
      · simp [gt_sv, gt_u, hi]
      · rfl
      · rfl
theorem gt_fv_setL (ad : Nat → Nat) (σ : gt_S) (j : Nat) (v : Int64) : ∀ (sl : List (Option (Option Nat))) (k0 k : Nat), sl[k]? = some (some none) → (gt_fv ad σ j k0 sl).set k (.long v) = gt_fv ad (σ.1, gt_u σ.2.1 j (k0 + k) v, σ.2.2) j k0 sl := by
  intro sl k0 k h
  have hk : k < sl.length := (List.getElem?_eq_some_iff.mp h).1
  apply List.ext_getElem?
  intro i
  by_cases hi : i = k
  · subst hi
    rw [List.getElem?_set_self (by rw [gt_fv_len]; exact hk), gt_fv_get ad _ j sl k0 i h]
    simp [gt_sv, gt_u]
  · rw [List.getElem?_set_ne (Ne.symm hi)]
    cases hs : sl[i]? with
    | none =>
      have : sl.length ≤ i := List.getElem?_eq_none_iff.mp hs
      rw [List.getElem?_eq_none (by rw [gt_fv_len]; exact this), List.getElem?_eq_none (by rw [gt_fv_len]; exact this)]
    | some x =>
      rw [gt_fv_get ad _ j sl k0 i hs, gt_fv_get ad _ j sl k0 i hs]
      rcases x with _ | _ | r
      · rfl
      · simp [gt_sv, gt_u, hi]
      · rfl
theorem gt_v_sv (ad : Nat → Nat) (σ : gt_S) (j k : Nat) (x : Option (Option Nat)) : gt_v ad (gt_sv id σ j k x) = gt_sv ad σ j k x := by
  rcases x with _ | _ | r
  · rfl
  · rfl
  · unfold gt_sv
    dsimp only
    split <;> rfl
theorem gt_v_rf (ad : Nat → Nat) (x : Option Nat) : gt_v ad (va_rf x) = va_rf (x.map ad) := by
  cases x <;> rfl
theorem gt_set1_m (ad : Nat → Nat) (i : Nat) (v : Value) (lv : gt_L) : (i, gt_v ad v) :: (lv.map (gt_lm ad)).filter (fun q => !(q.1 == i) && !(q.1 + 1 == i && q.2.category == 2)) = (gt_set1 i v lv).map (gt_lm ad) := by
  unfold gt_set1
  rw [List.map_cons, List.filter_map]
  congr 2
  apply List.filter_congr
  intro q _
  simp only [Function.comp, gt_lm, gt_v_cat]
theorem gt_set2_m (ad : Nat → Nat) (i : Nat) (v : Value) (lv : gt_L) : (i, gt_v ad v) :: (lv.map (gt_lm ad)).filter (fun q => !(q.1 == i) && (!(q.1 == i + 1) && !(q.1 + 1 == i && q.2.category == 2))) = (gt_set2 i v lv).map (gt_lm ad) := by
  unfold gt_set2
  rw [List.map_cons, List.filter_map]
  congr 2
  apply List.filter_congr
  intro q _
  simp only [Function.comp, gt_lm, gt_v_cat]
theorem gt_ofInt {a : Int} (h0 : 0 ≤ a) (h1 : a < 2147483648) : (Int32.ofInt a).toInt = a := Int32.toInt_ofInt_of_le (by omega) (by omega)
theorem gt_ts_s {α : Type} {x : Int32} {d : Int} {k : Int → Option α} {o : α} : ∀ (offs : List Int) (lo : Int), 0 ≤ lo → lo + offs.length < 2147483648 → gt_ts x d k lo offs = some o →
    (∃ (n : Nat) (w : Int), offs[n]? = some w ∧ x.toInt = lo + n ∧ k w = some o) ∨ ((∀ n : Nat, n < offs.length → x.toInt ≠ lo + n) ∧ k d = some o)
  | [], lo, _, _, h => Or.inr ⟨fun n hn => absurd hn (Nat.not_lt_zero n), h⟩
  | w :: t, lo, h0, h1, h => by
    unfold gt_ts at h
    rw [List.length_cons] at h1
    by_cases hx : x = Int32.ofInt lo
    · rw [if_pos hx] at h
      refine Or.inl ⟨0, w, rfl, ?_, h⟩
      rw [hx, gt_ofInt h0 (by omega)]
      omega
    · rw [if_neg hx] at h
      rcases gt_ts_s t (lo + 1) (by omega) (by omega) h with ⟨n, w', a1, a2, a3⟩ | ⟨a1, a2⟩
      · exact Or.inl ⟨n + 1, w', by rw [List.getElem?_cons_succ]; exact a1, by omega, a3⟩
      · refine Or.inr ⟨fun n hn => ?_, a2⟩
        cases n with
        | zero =>
          intro q
          apply hx
          apply Int32.toInt_inj.mp
          rw [gt_ofInt h0 (by omega)]
          omega
        | succ n =>
          have := a1 n (by rw [List.length_cons] at hn; omega)
          omega
theorem gt_lsw_s {α : Type} {x : Int32} {d : Int} {k : Int → Option α} {o : α} : ∀ (ps : List (Int × Int)), ps.all (fun w => decide (-2147483648 ≤ w.1) && decide (w.1 < 2147483648)) = true → gt_lsw x d k ps = some o → ∃ off, Op.lookupswitch.offset ps d x.toInt = off ∧ k off = some o
  | [], _, h => ⟨d, rfl, h⟩
  | w :: t, hp, h => by
    rw [List.all_cons, Bool.and_eq_true, Bool.and_eq_true, decide_eq_true_eq, decide_eq_true_eq] at hp
    unfold gt_lsw at h
    rw [Op.lookupswitch.offset_cons]
    have e1 : (Int32.ofInt w.1).toInt = w.1 := Int32.toInt_ofInt_of_le (by omega) (by omega)
    by_cases hx : x = Int32.ofInt w.1
    · rw [if_pos hx] at h
      refine ⟨w.2, ?_, h⟩
      rw [if_pos]
      rw [hx, e1]
    · rw [if_neg hx] at h
      obtain ⟨off, h1, h2⟩ := gt_lsw_s t hp.2 h
      refine ⟨off, ?_, h2⟩
      rw [if_neg]
      · exact h1
      · intro q
        apply hx
        apply Int32.toInt_inj.mp
        rw [e1]
        exact q.symm
def gt_eok (Ts : List Cond) (own : String) (cl : List vw_C) (E : gt_E) : Prop := (∀ q ∈ E.1, gt_fok Ts own cl q) ∧ (∀ q ∈ E.2.1, Cond.constant own q.1 q.2 ∈ Ts) ∧ ∀ q ∈ E.2.2.1, Cond.constantLong own q.1 q.2 ∈ Ts
/-- the judgement: wherever the machine stands there, with these locals, stack and store, it comes to its end -/
def gt_J (Wm : Heap → List Loc → Nat → Array Slot → List Value → Prop) (D : va_G) (cl : List vw_C) (ks : gt_KS) (cA : FieldType → Nat) (ad : Nat → Nat) (A : Nat → Prop) (H0 : Heap) (tx : List (Nat × Nat)) (nL : Nat) (pc : Nat) (lv : gt_L) (st : List Value) (σ : gt_S) : Prop :=
  σ.2.2.2 = tx → ∀ (ls : Array Slot) (H : Heap) (locs : List Loc), lv_has ls nL (lv.map (gt_lm ad)) → va_P D cl (gt_w ks cA ad σ) H → va_S A H0 H locs → Wm H locs pc ls (st.map (gt_v ad))
def gt_inst (cc : ByteArray) (pc idx : Nat) : Nat → Prop
  | 0 => decode cc pc = .ok (.invokevirtual idx, 3)
  | 1 => decode cc pc = .ok (.invokestatic idx, 3)
  | _ => decode cc pc = .ok (.invokespecial idx, 3)
/-- a call is what its row of the table says -/
def gt_ck (J : Nat → gt_L → List Value → gt_S → Prop) (cc : ByteArray) (q : Nat × Nat × Nat × Nat × gt_G) : Prop := ∀ (pc : Nat) (lv : gt_L) (as rest : List Value) (σ σ' : gt_S) (r : Option Value), gt_inst cc pc q.1 q.2.1 → as.length = q.2.2.2.1 → q.2.2.2.2 as σ = some (r, σ') → (rest.map fun v => v.category).sum ≤ 8 → J (pc + 3) lv (r.toList ++ rest) σ' → J pc lv (as.reverse ++ rest) σ
def gt_cok (J : Nat → gt_L → List Value → gt_S → Prop) (cc : ByteArray) (E : gt_E) : Prop := ∀ q ∈ E.2.2.2.1, gt_ck J cc q
section GTJ
variable {p : Program} {l : Launch} {e : Env} {R : Room} {s : State} {m : MethodId} {args : Array Value} {below : List Frame} {meth : Method} {c : Code} {cells slots : Nat} {Q : State → Prop}
variable {cc : ByteArray} {D : va_G} {cl : List vw_C} {ks : gt_KS} {cA : FieldType → Nat} {ad : Nat → Nat} {A : Nat → Prop} {H0 : Heap} {tx : List (Nat × Nat)} {nL : Nat} {own : String} {Ts : List Cond}
/-- what a field's row gives: its value stands above -/
theorem gt_getf {idx ci k t a : Nat} {σ : gt_S} {v : Value} {pc : Nat} {ls : Array Slot} {H : Heap} {locs : List Loc} {rest : List Value} (hx : p.tables.exec = Jvm.exec) (hb : c.code = cc) (hown : s.vm.findClass own = some m.cls) (hts : ∀ w ∈ Ts, w.before args s = true) (hK : va_K D cl (gt_tys cA) s) (hf : gt_fok Ts own cl (idx, ci, k, t)) (hP : va_P D cl (gt_w ks cA ad σ) H) (hg : gt_gf ks σ a ci k = some v) (hdg : decode cc pc = .ok (.getfield idx, 3))
    (kk : W p l e R s m args below meth c H locs cells slots Q (F0 m (pc + 3) ls (gt_v ad v :: rest))) : W p l e R s m args below meth c H locs cells slots Q (F0 m pc ls (.ref (ad a) :: rest)) := by
  obtain ⟨C, T, N, ty, h1, h2, h3, -, -, h6, -⟩ := hf
  unfold gt_gf at hg
  split at hg
  · rename_i q hq
    split at hg
    · rename_i hci
      split at hg
      · rename_i x hx2
        cases hg
        rw [gt_v_sv] at kk
        have he := gt_w_at (cA := cA) (ad := ad) hq
        obtain ⟨q1, q2⟩ := q
        dsimp only at hci hx2
        subst hci
        have hv : (gt_fv ad σ a 0 q2)[k]? = some (gt_sv ad σ a k x) := by
          have := gt_fv_get ad σ a q2 0 k hx2
          rwa [Nat.zero_add] at this
        rcases h6 with h6 | ⟨host, h6⟩
        · exact va_get (D := D) hx hb hts h3 hown hK hP a he h1 k h2 (hts _ h6) (fun _ h9 => h9) hv hdg kk
        · exact va_getN (D := D) hx hb hts h3 hown hK hP a he h1 k h2 (hts _ h6) (fun _ h9 => h9) hv hdg kk
      · cases hg
    · cases hg
  · cases hg
theorem gt_ne_u {α : Type} {f : Nat → Nat → α} {j k : Nat} {v : α} {i : Nat} (h : i ≠ j) : gt_u f j k v i = f i := by
  funext b
  simp [gt_u, h]
theorem gt_putI {idx ci k t a : Nat} {σ σ' : gt_S} {x : Int32} {pc : Nat} {ls : Array Slot} {H : Heap} {locs : List Loc} {rest : List Value} (hx : p.tables.exec = Jvm.exec) (hb : c.code = cc) (hown : s.vm.findClass own = some m.cls) (hts : ∀ w ∈ Ts, w.before args s = true) (hK : va_K D cl (gt_tys cA) s) (hf : gt_fok Ts own cl (idx, ci, k, t)) (hP : va_P D cl (gt_w ks cA ad σ) H) (hD : va_D A (gt_w ks cA ad σ)) (hS : va_S A H0 H locs) (hg : gt_pfI ks σ a ci k t x = some σ') (hdg : decode cc pc = .ok (.putfield idx, 3))
    (kk : σ'.2.2.2 = σ.2.2.2 → ∀ (H : Heap) (locs : List Loc), va_P D cl (gt_w ks cA ad σ') H → va_S A H0 H locs → W p l e R s m args below meth c H locs cells slots Q (F0 m (pc + 3) ls rest)) : W p l e R s m args below meth c H locs cells slots Q (F0 m pc ls (.int x :: .ref (ad a) :: rest)) := by
  obtain ⟨C, T, N, ty, h1, h2, h3, h4, h5, h6, h7⟩ := hf
  dsimp only at h1 h2 h4 h6 h7
  unfold gt_pfI at hg
  split at hg
  · rename_i q hq
    split at hg
    · rename_i hci
      split at hg
      · rename_i hx2
        split at hg
        · rename_i ht
          cases hg
          obtain ⟨q1, q2⟩ := q
          dsimp only at hci hx2
          subst hci
          have he := gt_w_at (cA := cA) (ad := ad) hq
          have hset := gt_w_set (cA := cA) (ad := ad) (σ := σ) (σ' := (gt_u σ.1 a k x, σ.2)) rfl (fun i hi => ⟨gt_ne_u hi, rfl, rfl⟩) hq
          have hfv := gt_fv_setI ad σ a x q2 0 k hx2
          rw [Nat.zero_add] at hfv
          have hl : k < (gt_fv ad σ a 0 q2).length := by rw [gt_fv_len]; exact (List.getElem?_eq_some_iff.mp hx2).1
          have hkk : ∀ (H1 : Heap) (locs1 : List Loc), va_P D cl ((gt_w ks cA ad σ).set a (ad a, .inr (q1, (gt_fv ad σ a 0 q2).set k (.int x)))) H1 → va_D A ((gt_w ks cA ad σ).set a (ad a, .inr (q1, (gt_fv ad σ a 0 q2).set k (.int x)))) → va_S A H0 H1 locs1 → W p l e R s m args below meth c H1 locs1 cells slots Q (F0 m (pc + 3) ls rest) := by
            intro H1 locs1 hP1 _ hS1
            rw [hfv] at hP1
            have hP2 : va_P D cl (gt_w ks cA ad (gt_u σ.1 a k x, σ.2)) H1 := by rw [← hset]; exact hP1
            exact kk rfl H1 locs1 hP2 hS1
          have hfin : (T k).2.2.2 = false ∧ (ty k = .int ∨ (ty k = .boolean ∧ (x = 0 ∨ x = 1))) := by
            rcases h7 with h7 | ⟨a1, a2⟩
            · omega
            · refine ⟨a1, ?_⟩
              rcases a2 with ⟨b1, b2⟩ | ⟨b1, b2⟩ | ⟨b1, b2⟩
              · exact Or.inl b2
              · rcases ht with ht | ht
                · omega
                · exact Or.inr ⟨b2, ht.2⟩
              · omega
          obtain ⟨hfin, hty⟩ := hfin
          have hnar : narrow (ty k) (.int x) = .int x := by
            rcases hty with hty | ⟨hty, rfl | rfl⟩ <;> rw [hty] <;> rfl
          have hfit : fits (ty k) (.int x) = true := by
            rcases hty with hty | ⟨hty, rfl | rfl⟩ <;> rw [hty] <;> rfl
          rcases h6 with h6 | ⟨host, h6⟩
          · exact va_put (D := D) (v := .int x) (ty := ty k) hx hb hts h3 ty h4 h5 hown hK hP hD hS a he h1 k h2 (hts _ h6) (fun _ h9 => h9) hfin (h4 k h2) hnar hfit hl hdg hkk
          · exact va_putN (D := D) (v := .int x) (ty := ty k) hx hb hts h3 ty h4 h5 hown hK hP hD hS a he h1 k h2 (hts _ h6) (fun _ h9 => h9) hfin (h4 k h2) hnar hfit hl hdg hkk
        · cases hg
      · cases hg
    · cases hg
  · cases hg
theorem gt_putL {idx ci k t a : Nat} {σ σ' : gt_S} {x : Int64} {pc : Nat} {ls : Array Slot} {H : Heap} {locs : List Loc} {rest : List Value} (hx : p.tables.exec = Jvm.exec) (hb : c.code = cc) (hown : s.vm.findClass own = some m.cls) (hts : ∀ w ∈ Ts, w.before args s = true) (hK : va_K D cl (gt_tys cA) s) (hf : gt_fok Ts own cl (idx, ci, k, t)) (hP : va_P D cl (gt_w ks cA ad σ) H) (hD : va_D A (gt_w ks cA ad σ)) (hS : va_S A H0 H locs) (hg : gt_pfL ks σ a ci k t x = some σ') (hdg : decode cc pc = .ok (.putfield idx, 3))
    (kk : σ'.2.2.2 = σ.2.2.2 → ∀ (H : Heap) (locs : List Loc), va_P D cl (gt_w ks cA ad σ') H → va_S A H0 H locs → W p l e R s m args below meth c H locs cells slots Q (F0 m (pc + 3) ls rest)) : W p l e R s m args below meth c H locs cells slots Q (F0 m pc ls (.long x :: .ref (ad a) :: rest)) := by
  obtain ⟨C, T, N, ty, h1, h2, h3, h4, h5, h6, h7⟩ := hf
  dsimp only at h1 h2 h4 h6 h7
  unfold gt_pfL at hg
  split at hg
  · rename_i q hq
    split at hg
    · rename_i hci
      split at hg
      · rename_i hx2
        split at hg
        · rename_i ht
          cases hg
          obtain ⟨q1, q2⟩ := q
          dsimp only at hci hx2
          subst hci
          have he := gt_w_at (cA := cA) (ad := ad) hq
          have hset := gt_w_set (cA := cA) (ad := ad) (σ := σ) (σ' := (σ.1, gt_u σ.2.1 a k x, σ.2.2)) rfl (fun i hi => ⟨rfl, gt_ne_u hi, rfl⟩) hq
          have hfv := gt_fv_setL ad σ a x q2 0 k hx2
          rw [Nat.zero_add] at hfv
          have hl : k < (gt_fv ad σ a 0 q2).length := by rw [gt_fv_len]; exact (List.getElem?_eq_some_iff.mp hx2).1
          have hkk : ∀ (H1 : Heap) (locs1 : List Loc), va_P D cl ((gt_w ks cA ad σ).set a (ad a, .inr (q1, (gt_fv ad σ a 0 q2).set k (.long x)))) H1 → va_D A ((gt_w ks cA ad σ).set a (ad a, .inr (q1, (gt_fv ad σ a 0 q2).set k (.long x)))) → va_S A H0 H1 locs1 → W p l e R s m args below meth c H1 locs1 cells slots Q (F0 m (pc + 3) ls rest) := by
            intro H1 locs1 hP1 _ hS1
            rw [hfv] at hP1
            have hP2 : va_P D cl (gt_w ks cA ad (σ.1, gt_u σ.2.1 a k x, σ.2.2)) H1 := by rw [← hset]; exact hP1
            exact kk rfl H1 locs1 hP2 hS1
          have hfin : (T k).2.2.2 = false ∧ ty k = .long := by
            rcases h7 with h7 | ⟨a1, a2⟩
            · omega
            · refine ⟨a1, ?_⟩
              rcases a2 with ⟨b1, b2⟩ | ⟨b1, b2⟩ | ⟨b1, b2⟩
              · omega
              · omega
              · exact b2
          obtain ⟨hfin, hty⟩ := hfin
          have hnar : narrow (ty k) (.long x) = .long x := by rw [hty]; rfl
          have hfit : fits (ty k) (.long x) = true := by rw [hty]; rfl
          rcases h6 with h6 | ⟨host, h6⟩
          · exact va_put (D := D) (v := .long x) (ty := ty k) hx hb hts h3 ty h4 h5 hown hK hP hD hS a he h1 k h2 (hts _ h6) (fun _ h9 => h9) hfin (h4 k h2) hnar hfit hl hdg hkk
          · exact va_putN (D := D) (v := .long x) (ty := ty k) hx hb hts h3 ty h4 h5 hown hK hP hD hS a he h1 k h2 (hts _ h6) (fun _ h9 => h9) hfin (h4 k h2) hnar hfit hl hdg hkk
        · cases hg
      · cases hg
    · cases hg
  · cases hg
theorem gt_ldI_w {a : Nat} {σ : gt_S} {i v : Int32} {pc : Nat} {ls : Array Slot} {H : Heap} {locs : List Loc} {rest : List Value} (hx : p.tables.exec = Jvm.exec) (hb : c.code = cc) (hK : va_K D cl (gt_tys cA) s) (hP : va_P D cl (gt_w ks cA ad σ) H) (hg : gt_ldI ks σ a i = some v) (hdg : decode cc pc = .ok (.iaload, 1))
    (kk : W p l e R s m args below meth c H locs cells slots Q (F0 m (pc + 1) ls (.int v :: rest))) : W p l e R s m args below meth c H locs cells slots Q (F0 m pc ls (.int i :: .ref (ad a) :: rest)) := by
  unfold gt_ldI at hg
  split at hg
  · rename_i n rs hq
    split at hg
    · cases hg
    · rename_i hin
      cases hg
      exact va_iald hx hb hK hP a 0 (gt_w_at (cA := cA) (ad := ad) hq) rfl hin hdg kk
  · cases hg
theorem gt_ldZ_w {a : Nat} {σ : gt_S} {i v : Int32} {pc : Nat} {ls : Array Slot} {H : Heap} {locs : List Loc} {rest : List Value} (hx : p.tables.exec = Jvm.exec) (hb : c.code = cc) (hK : va_K D cl (gt_tys cA) s) (hP : va_P D cl (gt_w ks cA ad σ) H) (hg : gt_ldZ ks σ a i = some v) (hdg : decode cc pc = .ok (.baload, 1))
    (kk : W p l e R s m args below meth c H locs cells slots Q (F0 m (pc + 1) ls (.int v :: rest))) : W p l e R s m args below meth c H locs cells slots Q (F0 m pc ls (.int i :: .ref (ad a) :: rest)) := by
  unfold gt_ldZ at hg
  split at hg
  · rename_i n rs hq
    split at hg
    · cases hg
    · rename_i hin
      cases hg
      exact va_zald hx hb hK hP a 2 (gt_w_at (cA := cA) (ad := ad) hq) rfl hin hdg kk
  · cases hg
theorem gt_ldL_w {a : Nat} {σ : gt_S} {i : Int32} {v : Int64} {pc : Nat} {ls : Array Slot} {H : Heap} {locs : List Loc} {rest : List Value} (hx : p.tables.exec = Jvm.exec) (hb : c.code = cc) (hK : va_K D cl (gt_tys cA) s) (hP : va_P D cl (gt_w ks cA ad σ) H) (hg : gt_ldL ks σ a i = some v) (hdg : decode cc pc = .ok (.laload, 1))
    (kk : W p l e R s m args below meth c H locs cells slots Q (F0 m (pc + 1) ls (.long v :: rest))) : W p l e R s m args below meth c H locs cells slots Q (F0 m pc ls (.int i :: .ref (ad a) :: rest)) := by
  unfold gt_ldL at hg
  split at hg
  · rename_i n rs hq
    split at hg
    · cases hg
    · rename_i hin
      cases hg
      exact va_lald hx hb hK hP a 1 (gt_w_at (cA := cA) (ad := ad) hq) rfl hin hdg kk
  · cases hg
theorem gt_isT_at {cA : FieldType → Nat} {ty : FieldType} (h : gt_isT ty = true) : ∃ t0 : Nat, (gt_tys cA)[t0]? = some (cA ty, ty) ∧ ty.isReference = true ∧ ∀ (ad : Nat → Nat) (σ : gt_S) (j : Nat) (rs : List Nat), gt_ct ad σ j ty rs = .inr (.inr (.inr (.inr (fun k => (gt_rf rs σ j k).map ad)))) := by
  unfold gt_isT at h
  simp only [Bool.or_eq_true, beq_iff_eq] at h
  rcases h with rfl | rfl | rfl | rfl
  · exact ⟨3, rfl, rfl, fun _ _ _ _ => rfl⟩
  · exact ⟨4, rfl, rfl, fun _ _ _ _ => rfl⟩
  · exact ⟨5, rfl, rfl, fun _ _ _ _ => rfl⟩
  · exact ⟨6, rfl, rfl, fun _ _ _ _ => rfl⟩
theorem gt_ldR_w {a : Nat} {σ : gt_S} {i : Int32} {v : Option Nat} {pc : Nat} {ls : Array Slot} {H : Heap} {locs : List Loc} {rest : List Value} (hx : p.tables.exec = Jvm.exec) (hb : c.code = cc) (hK : va_K D cl (gt_tys cA) s) (hP : va_P D cl (gt_w ks cA ad σ) H) (hg : gt_ldR ks σ a i = some v) (hdg : decode cc pc = .ok (.aaload, 1))
    (kk : W p l e R s m args below meth c H locs cells slots Q (F0 m (pc + 1) ls (va_rf (v.map ad) :: rest))) : W p l e R s m args below meth c H locs cells slots Q (F0 m pc ls (.int i :: .ref (ad a) :: rest)) := by
  unfold gt_ldR at hg
  split at hg
  · rename_i ty n rs hq
    split at hg
    · rename_i hT
      split at hg
      · cases hg
      · rename_i hin
        cases hg
        obtain ⟨t0, ht, hr, hct⟩ := gt_isT_at (cA := cA) hT
        have ha := gt_w_at (cA := cA) (ad := ad) hq
        have ha2 : (gt_w ks cA ad σ)[a]? = some (ad a, .inl (cA ty, n, .inr (.inr (.inr (.inr (fun k => (gt_rf rs σ a k).map ad)))))) := by
          rw [ha]
          unfold gt_c
          dsimp only
          rw [hct]
        have hlt : i.toNatClampNeg < n := Nat.not_le.mp fun q => hin (Or.inr q)
        exact W.aald (v := va_rf ((gt_rf rs σ a i.toNatClampNeg).map ad)) (ty := ty) hx hb (hP a _ ha2) ((hK.2 t0 _ ht).1 n (fun j => va_rf ((gt_rf rs σ a j).map ad))) hr (fun q => by cases q) (by show ¬ (i < 0 ∨ (arrV _ _ _).slots.size ≤ _); rw [arrV_size]; exact hin) (by show (arrV _ _ _).slots[_]? = _; rw [arrV_read _ _ hlt]) rfl rfl hdg kk
    · cases hg
  · cases hg
theorem gt_u_self {α : Type} (f : Nat → Nat → α) (j k : Nat) (v : α) : gt_u f j k v j = fun b => if b = k then v else f j b := by
  funext b
  simp [gt_u]
theorem gt_stI_w {a : Nat} {σ σ' : gt_S} {i x : Int32} {pc : Nat} {ls : Array Slot} {H : Heap} {locs : List Loc} {rest : List Value} (hx : p.tables.exec = Jvm.exec) (hb : c.code = cc) (hK : va_K D cl (gt_tys cA) s) (hP : va_P D cl (gt_w ks cA ad σ) H) (hD : va_D A (gt_w ks cA ad σ)) (hS : va_S A H0 H locs) (hg : gt_stI ks σ a i x = some σ') (hdg : decode cc pc = .ok (.iastore, 1))
    (kk : σ'.2.2.2 = σ.2.2.2 → ∀ (H : Heap) (locs : List Loc), va_P D cl (gt_w ks cA ad σ') H → va_S A H0 H locs → W p l e R s m args below meth c H locs cells slots Q (F0 m (pc + 1) ls rest)) : W p l e R s m args below meth c H locs cells slots Q (F0 m pc ls (.int x :: .int i :: .ref (ad a) :: rest)) := by
  unfold gt_stI at hg
  split at hg
  · rename_i n rs hq
    split at hg
    · cases hg
    · rename_i hin
      cases hg
      refine va_iast hx hb hK hP hD hS a 0 (gt_w_at (cA := cA) (ad := ad) hq) rfl hin hdg (fun H1 locs1 hP1 _ hS1 => kk rfl H1 locs1 ?_ hS1)
      rw [← gt_w_set (cA := cA) (ad := ad) (σ := σ) (σ' := (gt_u σ.1 a i.toNatClampNeg x, σ.2)) rfl (fun i hi => ⟨gt_ne_u hi, rfl, rfl⟩) hq]
      unfold gt_c gt_ct
      dsimp only
      rw [gt_u_self]
      exact hP1
  · cases hg
theorem gt_stZ_w {a : Nat} {σ σ' : gt_S} {i x : Int32} {pc : Nat} {ls : Array Slot} {H : Heap} {locs : List Loc} {rest : List Value} (hx : p.tables.exec = Jvm.exec) (hb : c.code = cc) (hK : va_K D cl (gt_tys cA) s) (hP : va_P D cl (gt_w ks cA ad σ) H) (hD : va_D A (gt_w ks cA ad σ)) (hS : va_S A H0 H locs) (hg : gt_stZ ks σ a i x = some σ') (hdg : decode cc pc = .ok (.bastore, 1))
    (kk : σ'.2.2.2 = σ.2.2.2 → ∀ (H : Heap) (locs : List Loc), va_P D cl (gt_w ks cA ad σ') H → va_S A H0 H locs → W p l e R s m args below meth c H locs cells slots Q (F0 m (pc + 1) ls rest)) : W p l e R s m args below meth c H locs cells slots Q (F0 m pc ls (.int x :: .int i :: .ref (ad a) :: rest)) := by
  unfold gt_stZ at hg
  split at hg
  · rename_i n rs hq
    split at hg
    · cases hg
    · rename_i hin
      cases hg
      refine va_zast hx hb hK hP hD hS a 2 (gt_w_at (cA := cA) (ad := ad) hq) rfl hin hdg (fun H1 locs1 hP1 _ hS1 => kk rfl H1 locs1 ?_ hS1)
      rw [← gt_w_set (cA := cA) (ad := ad) (σ := σ) (σ' := (gt_u σ.1 a i.toNatClampNeg (vp_nar .boolean x), σ.2)) rfl (fun i hi => ⟨gt_ne_u hi, rfl, rfl⟩) hq]
      unfold gt_c gt_ct
      dsimp only
      rw [gt_u_self]
      exact hP1
  · cases hg
theorem gt_stL_w {a : Nat} {σ σ' : gt_S} {i : Int32} {x : Int64} {pc : Nat} {ls : Array Slot} {H : Heap} {locs : List Loc} {rest : List Value} (hx : p.tables.exec = Jvm.exec) (hb : c.code = cc) (hK : va_K D cl (gt_tys cA) s) (hP : va_P D cl (gt_w ks cA ad σ) H) (hD : va_D A (gt_w ks cA ad σ)) (hS : va_S A H0 H locs) (hg : gt_stL ks σ a i x = some σ') (hdg : decode cc pc = .ok (.lastore, 1))
    (kk : σ'.2.2.2 = σ.2.2.2 → ∀ (H : Heap) (locs : List Loc), va_P D cl (gt_w ks cA ad σ') H → va_S A H0 H locs → W p l e R s m args below meth c H locs cells slots Q (F0 m (pc + 1) ls rest)) : W p l e R s m args below meth c H locs cells slots Q (F0 m pc ls (.long x :: .int i :: .ref (ad a) :: rest)) := by
  unfold gt_stL at hg
  split at hg
  · rename_i n rs hq
    split at hg
    · cases hg
    · rename_i hin
      cases hg
      refine va_last hx hb hK hP hD hS a 1 (gt_w_at (cA := cA) (ad := ad) hq) rfl hin hdg (fun H1 locs1 hP1 _ hS1 => kk rfl H1 locs1 ?_ hS1)
      rw [← gt_w_set (cA := cA) (ad := ad) (σ := σ) (σ' := (σ.1, gt_u σ.2.1 a i.toNatClampNeg x, σ.2.2)) rfl (fun i hi => ⟨rfl, gt_ne_u hi, rfl⟩) hq]
      unfold gt_c gt_ct
      dsimp only
      rw [gt_u_self]
      exact hP1
  · cases hg
theorem gt_rf_up (ad : Nat → Nat) (f : Nat → Nat → Option Nat) (j k : Nat) (v : Option Nat) : (fun b => (gt_u f j k v j b).map ad) = va_up (fun b => (f j b).map ad) k (v.map ad) := by
  funext b
  by_cases h : b = k
  · simp [gt_u, va_up, h]
  · simp [gt_u, va_up, h]
theorem gt_stR_w {a : Nat} {σ σ' : gt_S} {i : Int32} {x : Option Nat} {pc : Nat} {ls : Array Slot} {H : Heap} {locs : List Loc} {rest : List Value} (hcl : cl[7]? = some (RX7, TX7, 2)) (hx : p.tables.exec = Jvm.exec) (hb : c.code = cc) (hK : va_K D cl (gt_tys cA) s) (hP : va_P D cl (gt_w ks cA ad σ) H) (hD : va_D A (gt_w ks cA ad σ)) (hS : va_S A H0 H locs) (hg : gt_stR ks σ a i x = some σ') (hdg : decode cc pc = .ok (.aastore, 1))
    (kk : σ'.2.2.2 = σ.2.2.2 → ∀ (H : Heap) (locs : List Loc), va_P D cl (gt_w ks cA ad σ') H → va_S A H0 H locs → W p l e R s m args below meth c H locs cells slots Q (F0 m (pc + 1) ls rest)) : W p l e R s m args below meth c H locs cells slots Q (F0 m pc ls (va_rf (x.map ad) :: .int i :: .ref (ad a) :: rest)) := by
  unfold gt_stR at hg
  split at hg
  · rename_i C n hq
    split at hg
    · rename_i hC
      subst hC
      split at hg
      · cases hg
      · rename_i hin
        split at hg
        · cases hg
          refine va_astqN (C := "GiftTable$Text") hx hb hK hP hD hS a 4 (gt_w_at (cA := cA) (ad := ad) hq) rfl hin hdg (fun H1 locs1 hP1 _ hS1 => kk rfl H1 locs1 ?_ hS1)
          rw [← gt_w_set (cA := cA) (ad := ad) (σ := σ) (σ' := (σ.1, σ.2.1, gt_u σ.2.2.1 a i.toNatClampNeg none, σ.2.2.2)) rfl (fun i hi => ⟨rfl, rfl, gt_ne_u hi⟩) hq]
          unfold gt_c gt_ct gt_rf
          dsimp only
          rw [gt_rf_up]
          exact hP1
        · rename_i t
          split at hg
          · rename_i ci sl hq2
            split at hg
            · rename_i hci
              subst hci
              cases hg
              refine va_astq (r := (RX7, TX7, 2)) hx hb hK hP hD hS a 4 t 7 (gt_w_at (cA := cA) (ad := ad) hq) rfl (gt_w_at (cA := cA) (ad := ad) hq2) hcl hin hdg (fun H1 locs1 hP1 _ hS1 => kk rfl H1 locs1 ?_ hS1)
              rw [← gt_w_set (cA := cA) (ad := ad) (σ := σ) (σ' := (σ.1, σ.2.1, gt_u σ.2.2.1 a i.toNatClampNeg (some t), σ.2.2.2)) rfl (fun i hi => ⟨rfl, rfl, gt_ne_u hi⟩) hq]
              unfold gt_c gt_ct gt_rf
              dsimp only
              rw [gt_rf_up]
              exact hP1
            · cases hg
          · cases hg
    · cases hg
  · cases hg
theorem gt_ln_w {a n : Nat} {σ : gt_S} {pc : Nat} {ls : Array Slot} {H : Heap} {locs : List Loc} {rest : List Value} (hx : p.tables.exec = Jvm.exec) (hb : c.code = cc) (hK : va_K D cl (gt_tys cA) s) (hP : va_P D cl (gt_w ks cA ad σ) H) (hg : gt_ln ks σ a = some n) (hdg : decode cc pc = .ok (.arraylength, 1))
    (kk : W p l e R s m args below meth c H locs cells slots Q (F0 m (pc + 1) ls (.int (Int32.ofNat n) :: rest))) : W p l e R s m args below meth c H locs cells slots Q (F0 m pc ls (.ref (ad a) :: rest)) := by
  unfold gt_ln at hg
  split at hg
  · rename_i ty n' rs hq
    split at hg
    · rename_i hty
      cases hg
      rcases hty with rfl | rfl | rfl
      · exact va_alen hx hb hK hP a 0 (gt_w_at (cA := cA) (ad := ad) hq) rfl rfl hdg kk
      · exact va_alen hx hb hK hP a 1 (gt_w_at (cA := cA) (ad := ad) hq) rfl rfl hdg kk
      · exact va_alen hx hb hK hP a 2 (gt_w_at (cA := cA) (ad := ad) hq) rfl rfl hdg kk
    · cases hg
  · cases hg
theorem gt_br_w {cd : Jvm.ClassFile.Cond} {x y : Int32} {t f : Option gt_F} {o : gt_F} (h : gt_br cd x y t f = some o) : (t = some o ∧ (match cd with
  | .eq => x = y
  | .ne => ¬ x = y
  | .lt => x < y
  | .ge => y ≤ x
  | .gt => y < x
  | .le => x ≤ y)) ∨ (f = some o ∧ (match cd with
  | .eq => ¬ x = y
  | .ne => x = y
  | .lt => ¬ x < y
  | .ge => ¬ y ≤ x
  | .gt => ¬ y < x
  | .le => ¬ x ≤ y)) := by
  unfold gt_br at h
  cases cd <;> dsimp only at h ⊢ <;> split at h
  · rename_i q; exact Or.inl ⟨h, q⟩
  · rename_i q; exact Or.inr ⟨h, q⟩
  · rename_i q; exact Or.inr ⟨h, q⟩
  · rename_i q; exact Or.inl ⟨h, q⟩
  · rename_i q; exact Or.inl ⟨h, q⟩
  · rename_i q; exact Or.inr ⟨h, q⟩
  · rename_i q; exact Or.inr ⟨h, Int32.not_le.mpr q⟩
  · rename_i q; exact Or.inl ⟨h, Int32.not_lt.mp q⟩
  · rename_i q; exact Or.inl ⟨h, q⟩
  · rename_i q; exact Or.inr ⟨h, q⟩
  · rename_i q; exact Or.inr ⟨h, Int32.not_le.mpr q⟩
  · rename_i q; exact Or.inl ⟨h, Int32.not_lt.mp q⟩
theorem gt_lv {ad : Nat → Nat} {ls : Array Slot} {nL : Nat} {lv : gt_L} {i : Nat} {v : Value} (h : lv_has ls nL (lv.map (gt_lm ad))) (hv : gt_lk lv i = some v) : ls[i]? = some (.val (gt_v ad v)) := h.2.2 (i, gt_v ad v) (List.mem_map.mpr ⟨(i, v), gt_lk_mem hv, rfl⟩)
set_option maxHeartbeats 4000000 in
set_option maxRecDepth 100000 in
theorem gt_stp_w (hcl : cl[7]? = some (RX7, TX7, 2)) (hx : p.tables.exec = Jvm.exec) (hb : c.code = cc) (hown : s.vm.findClass own = some m.cls) (hts : ∀ w ∈ Ts, w.before args s = true) (hK : va_K D cl (gt_tys cA) s) (hDD : ∀ σ : gt_S, σ.2.2.2 = tx → va_D A (gt_w ks cA ad σ)) {E : gt_E} (hE : gt_eok Ts own cl E)
    (hC : gt_cok (gt_J (fun H locs pc ls st => W p l e R s m args below meth c H locs cells slots Q (F0 m pc ls st)) D cl ks cA ad A H0 tx nL) cc E)
    {q : gt_I} (hq : decode cc q.1 = .ok (q.2.1, q.2.2)) (hlen : gt_lok q = true) {lv : gt_L} {st : List Value} {σ : gt_S} {κ : gt_C} {o : gt_F} (h : gt_stp ks nL E q lv st σ κ = some o)
    (hκ : ∀ pc lv st σ, κ pc lv st σ = some o → gt_J (fun H locs pc ls st => W p l e R s m args below meth c H locs cells slots Q (F0 m pc ls st)) D cl ks cA ad A H0 tx nL pc lv st σ) :
    gt_J (fun H locs pc ls st => W p l e R s m args below meth c H locs cells slots Q (F0 m pc ls st)) D cl ks cA ad A H0 tx nL q.1 lv st σ := by
  obtain ⟨pc, i, len⟩ := q
  dsimp only at hq h ⊢
  have hle : ∀ n : Nat, Nat.beq len n = true → len = n := fun n hn => Nat.eq_of_beq_eq_true hn
  cases i with
  | iconst n =>
    have hl := hle 1 hlen; subst hl
    dsimp only [gt_stp, gt_op] at h
    intro ht ls H locs hlv hP hS
    exact lv_iconst hx hb hq rfl (hκ _ _ _ _ h ht ls H locs hlv hP hS)
  | bipush n =>
    have hl := hle 2 hlen; subst hl
    dsimp only [gt_stp, gt_op] at h
    intro ht ls H locs hlv hP hS
    exact lv_bipush hx hb hq rfl (hκ _ _ _ _ h ht ls H locs hlv hP hS)
  | sipush n =>
    have hl := hle 3 hlen; subst hl
    dsimp only [gt_stp, gt_op] at h
    intro ht ls H locs hlv hP hS
    exact lv_sipush hx hb hq rfl (hκ _ _ _ _ h ht ls H locs hlv hP hS)
  | lconst n =>
    have hl := hle 1 hlen; subst hl
    dsimp only [gt_stp, gt_op] at h
    intro ht ls H locs hlv hP hS
    exact lv_lconst hx hb hq rfl (hκ _ _ _ _ h ht ls H locs hlv hP hS)
  | aconst_null =>
    have hl := hle 1 hlen; subst hl
    dsimp only [gt_stp, gt_op] at h
    intro ht ls H locs hlv hP hS
    exact lv_null hx hb hq (hκ _ _ _ _ h ht ls H locs hlv hP hS)
  | ldc k =>
    have hl := hle 2 hlen; subst hl
    dsimp only [gt_stp, gt_op] at h
    obtain ⟨v, hv, h⟩ := Option.bind_eq_some_iff.mp h
    intro ht ls H locs hlv hP hS
    exact lv_ldc hx hb hown (hts _ (hE.2.1 _ (gt_lk_mem hv))) hq (hκ _ _ _ _ h ht ls H locs hlv hP hS)
  | ldc_w k =>
    have hl := hle 3 hlen; subst hl
    dsimp only [gt_stp, gt_op] at h
    obtain ⟨v, hv, h⟩ := Option.bind_eq_some_iff.mp h
    intro ht ls H locs hlv hP hS
    exact lv_ldcw hx hb hown (hts _ (hE.2.1 _ (gt_lk_mem hv))) hq (hκ _ _ _ _ h ht ls H locs hlv hP hS)
  | ldc2_w k =>
    have hl := hle 3 hlen; subst hl
    dsimp only [gt_stp, gt_op] at h
    obtain ⟨v, hv, h⟩ := Option.bind_eq_some_iff.mp h
    intro ht ls H locs hlv hP hS
    exact lv_ldc2 hx hb hown (hts _ (hE.2.2 _ (gt_lk_mem hv))) hq (hκ _ _ _ _ h ht ls H locs hlv hP hS)
  | iload_n k =>
    have hl := hle 1 hlen; subst hl
    dsimp only [gt_stp, gt_op] at h
    replace h := gt_ldi_s h
    obtain ⟨x, hv, h⟩ := h
    intro ht ls H locs hlv hP hS
    exact lv_iload_n hx hb hq rfl (gt_lv hlv hv) (hκ _ _ _ _ h ht ls H locs hlv hP hS)
  | iload k =>
    have hl := hle 2 hlen; subst hl
    dsimp only [gt_stp, gt_op] at h
    replace h := gt_ldi_s h
    obtain ⟨x, hv, h⟩ := h
    intro ht ls H locs hlv hP hS
    exact lv_iload hx hb hq (gt_lv hlv hv) (hκ _ _ _ _ h ht ls H locs hlv hP hS)
  | lload_n k =>
    have hl := hle 1 hlen; subst hl
    dsimp only [gt_stp, gt_op] at h
    replace h := gt_ldl_s h
    obtain ⟨x, hv, h⟩ := h
    intro ht ls H locs hlv hP hS
    exact lv_lload_n hx hb hq rfl (gt_lv hlv hv) (hκ _ _ _ _ h ht ls H locs hlv hP hS)
  | lload k =>
    have hl := hle 2 hlen; subst hl
    dsimp only [gt_stp, gt_op] at h
    replace h := gt_ldl_s h
    obtain ⟨x, hv, h⟩ := h
    intro ht ls H locs hlv hP hS
    exact lv_lload hx hb hq (gt_lv hlv hv) (hκ _ _ _ _ h ht ls H locs hlv hP hS)
  | aload_n k =>
    have hl := hle 1 hlen; subst hl
    dsimp only [gt_stp, gt_op] at h
    replace h := gt_lda_s h
    obtain ⟨x, hv, h⟩ := h
    intro ht ls H locs hlv hP hS
    have h1 := gt_lv hlv hv
    have h2 := hκ _ _ _ _ h ht ls H locs hlv hP hS
    cases x with
    | none => exact lv_aload_nN hx hb hq rfl h1 h2
    | some x => exact lv_aload_n hx hb hq rfl h1 h2
  | aload k =>
    have hl := hle 2 hlen; subst hl
    dsimp only [gt_stp, gt_op] at h
    replace h := gt_lda_s h
    obtain ⟨x, hv, h⟩ := h
    intro ht ls H locs hlv hP hS
    have h1 := gt_lv hlv hv
    have h2 := hκ _ _ _ _ h ht ls H locs hlv hP hS
    cases x with
    | none => exact lv_aloadN hx hb hq h1 h2
    | some x => exact lv_aload hx hb hq h1 h2
  | istore_n k =>
    have hl := hle 1 hlen; subst hl
    dsimp only [gt_stp, gt_op] at h
    replace h := gt_i1_s h
    obtain ⟨x, r, rfl, h⟩ := h
    split at h
    · rename_i hn
      intro ht ls H locs hlv hP hS
      exact lv_istore_n hx hb hq rfl hlv hn (gt_set1_m ad k.1 (.int x) lv) (fun ls' hlv' => hκ _ _ _ _ h ht ls' H locs hlv' hP hS)
    · cases h
  | istore k =>
    have hl := hle 2 hlen; subst hl
    dsimp only [gt_stp, gt_op] at h
    replace h := gt_i1_s h
    obtain ⟨x, r, rfl, h⟩ := h
    split at h
    · rename_i hn
      intro ht ls H locs hlv hP hS
      exact lv_istore hx hb hq hlv hn (gt_set1_m ad k (.int x) lv) (fun ls' hlv' => hκ _ _ _ _ h ht ls' H locs hlv' hP hS)
    · cases h
  | lstore_n k =>
    have hl := hle 1 hlen; subst hl
    dsimp only [gt_stp, gt_op] at h
    replace h := gt_l1_s h
    obtain ⟨x, r, rfl, h⟩ := h
    split at h
    · rename_i hn
      intro ht ls H locs hlv hP hS
      exact lv_lstore_n hx hb hq rfl hlv hn (gt_set2_m ad k.1 (.long x) lv) (fun ls' hlv' => hκ _ _ _ _ h ht ls' H locs hlv' hP hS)
    · cases h
  | lstore k =>
    have hl := hle 2 hlen; subst hl
    dsimp only [gt_stp, gt_op] at h
    replace h := gt_l1_s h
    obtain ⟨x, r, rfl, h⟩ := h
    split at h
    · rename_i hn
      intro ht ls H locs hlv hP hS
      exact lv_lstore hx hb hq hlv hn (gt_set2_m ad k (.long x) lv) (fun ls' hlv' => hκ _ _ _ _ h ht ls' H locs hlv' hP hS)
    · cases h
  | astore_n k =>
    have hl := hle 1 hlen; subst hl
    dsimp only [gt_stp, gt_op] at h
    replace h := gt_a1_s h
    obtain ⟨x, r, rfl, h⟩ := h
    split at h
    · rename_i hn
      intro ht ls H locs hlv hP hS
      exact lv_astore_n hx hb hq rfl hlv hn (gt_set1_m ad k.1 (.ref x) lv) (fun ls' hlv' => hκ _ _ _ _ h ht ls' H locs hlv' hP hS)
    · cases h
  | astore k =>
    have hl := hle 2 hlen; subst hl
    dsimp only [gt_stp, gt_op] at h
    replace h := gt_a1_s h
    obtain ⟨x, r, rfl, h⟩ := h
    split at h
    · rename_i hn
      intro ht ls H locs hlv hP hS
      exact lv_astore hx hb hq hlv hn (gt_set1_m ad k (.ref x) lv) (fun ls' hlv' => hκ _ _ _ _ h ht ls' H locs hlv' hP hS)
    · cases h
  | iinc k n =>
    have hl := hle 3 hlen; subst hl
    dsimp only [gt_stp, gt_op] at h
    replace h := gt_ldi_s h
    obtain ⟨x, hv, h⟩ := h
    split at h
    · rename_i hn
      intro ht ls H locs hlv hP hS
      obtain ⟨j, hj⟩ := List.getElem?_of_mem (List.mem_map.mpr ⟨(k, .int x), gt_lk_mem hv, rfl⟩ : (k, .int x) ∈ lv.map (gt_lm ad))
      exact lv_iinc hx hb hq hlv hj rfl hn (gt_set1_m ad k (.int (x + Int32.ofInt n)) lv) (fun ls' hlv' => hκ _ _ _ _ h ht ls' H locs hlv' hP hS)
    · cases h
  | iadd =>
    have hl := hle 1 hlen; subst hl
    dsimp only [gt_stp, gt_op] at h
    replace h := gt_i2_s h
    obtain ⟨x, y, r, rfl, h⟩ := h
    intro ht ls H locs hlv hP hS
    exact lv_iadd hx hb hq (hκ _ _ _ _ h ht ls H locs hlv hP hS)
  | isub =>
    have hl := hle 1 hlen; subst hl
    dsimp only [gt_stp, gt_op] at h
    replace h := gt_i2_s h
    obtain ⟨x, y, r, rfl, h⟩ := h
    intro ht ls H locs hlv hP hS
    exact lv_isub hx hb hq (hκ _ _ _ _ h ht ls H locs hlv hP hS)
  | imul =>
    have hl := hle 1 hlen; subst hl
    dsimp only [gt_stp, gt_op] at h
    replace h := gt_i2_s h
    obtain ⟨x, y, r, rfl, h⟩ := h
    intro ht ls H locs hlv hP hS
    exact lv_imul hx hb hq (hκ _ _ _ _ h ht ls H locs hlv hP hS)
  | iand =>
    have hl := hle 1 hlen; subst hl
    dsimp only [gt_stp, gt_op] at h
    replace h := gt_i2_s h
    obtain ⟨x, y, r, rfl, h⟩ := h
    intro ht ls H locs hlv hP hS
    exact lv_iand hx hb hq (hκ _ _ _ _ h ht ls H locs hlv hP hS)
  | ior =>
    have hl := hle 1 hlen; subst hl
    dsimp only [gt_stp, gt_op] at h
    replace h := gt_i2_s h
    obtain ⟨x, y, r, rfl, h⟩ := h
    intro ht ls H locs hlv hP hS
    exact lv_ior hx hb hq (hκ _ _ _ _ h ht ls H locs hlv hP hS)
  | idiv =>
    have hl := hle 1 hlen; subst hl
    dsimp only [gt_stp, gt_op] at h
    replace h := gt_i2_s h
    obtain ⟨x, y, r, rfl, h⟩ := h
    split at h
    · cases h
    · rename_i hn
      intro ht ls H locs hlv hP hS
      exact lv_idiv hx hb hq hn (hκ _ _ _ _ h ht ls H locs hlv hP hS)
  | irem =>
    have hl := hle 1 hlen; subst hl
    dsimp only [gt_stp, gt_op] at h
    replace h := gt_i2_s h
    obtain ⟨x, y, r, rfl, h⟩ := h
    split at h
    · cases h
    · rename_i hn
      intro ht ls H locs hlv hP hS
      exact lv_irem hx hb hq hn (hκ _ _ _ _ h ht ls H locs hlv hP hS)
  | ineg =>
    have hl := hle 1 hlen; subst hl
    dsimp only [gt_stp, gt_op] at h
    replace h := gt_i1_s h
    obtain ⟨x, r, rfl, h⟩ := h
    intro ht ls H locs hlv hP hS
    exact lv_ineg hx hb hq (hκ _ _ _ _ h ht ls H locs hlv hP hS)
  | ishl =>
    have hl := hle 1 hlen; subst hl
    dsimp only [gt_stp, gt_op] at h
    replace h := gt_i2_s h
    obtain ⟨x, y, r, rfl, h⟩ := h
    intro ht ls H locs hlv hP hS
    exact lv_ishl hx hb hq (hκ _ _ _ _ h ht ls H locs hlv hP hS)
  | ishr =>
    have hl := hle 1 hlen; subst hl
    dsimp only [gt_stp, gt_op] at h
    replace h := gt_i2_s h
    obtain ⟨x, y, r, rfl, h⟩ := h
    intro ht ls H locs hlv hP hS
    exact lv_ishr hx hb hq (hκ _ _ _ _ h ht ls H locs hlv hP hS)
  | ladd =>
    have hl := hle 1 hlen; subst hl
    dsimp only [gt_stp, gt_op] at h
    replace h := gt_l2_s h
    obtain ⟨x, y, r, rfl, h⟩ := h
    intro ht ls H locs hlv hP hS
    exact lv_ladd hx hb hq (hκ _ _ _ _ h ht ls H locs hlv hP hS)
  | lsub =>
    have hl := hle 1 hlen; subst hl
    dsimp only [gt_stp, gt_op] at h
    replace h := gt_l2_s h
    obtain ⟨x, y, r, rfl, h⟩ := h
    intro ht ls H locs hlv hP hS
    exact lv_lsub hx hb hq (hκ _ _ _ _ h ht ls H locs hlv hP hS)
  | lmul =>
    have hl := hle 1 hlen; subst hl
    dsimp only [gt_stp, gt_op] at h
    replace h := gt_l2_s h
    obtain ⟨x, y, r, rfl, h⟩ := h
    intro ht ls H locs hlv hP hS
    exact lv_lmul hx hb hq (hκ _ _ _ _ h ht ls H locs hlv hP hS)
  | land =>
    have hl := hle 1 hlen; subst hl
    dsimp only [gt_stp, gt_op] at h
    replace h := gt_l2_s h
    obtain ⟨x, y, r, rfl, h⟩ := h
    intro ht ls H locs hlv hP hS
    exact lv_land hx hb hq (hκ _ _ _ _ h ht ls H locs hlv hP hS)
  | lor =>
    have hl := hle 1 hlen; subst hl
    dsimp only [gt_stp, gt_op] at h
    replace h := gt_l2_s h
    obtain ⟨x, y, r, rfl, h⟩ := h
    intro ht ls H locs hlv hP hS
    exact lv_lor hx hb hq (hκ _ _ _ _ h ht ls H locs hlv hP hS)
  | ldiv =>
    have hl := hle 1 hlen; subst hl
    dsimp only [gt_stp, gt_op] at h
    replace h := gt_l2_s h
    obtain ⟨x, y, r, rfl, h⟩ := h
    split at h
    · cases h
    · rename_i hn
      intro ht ls H locs hlv hP hS
      exact lv_ldiv hx hb hq hn (hκ _ _ _ _ h ht ls H locs hlv hP hS)
  | lrem =>
    have hl := hle 1 hlen; subst hl
    dsimp only [gt_stp, gt_op] at h
    replace h := gt_l2_s h
    obtain ⟨x, y, r, rfl, h⟩ := h
    split at h
    · cases h
    · rename_i hn
      intro ht ls H locs hlv hP hS
      exact lv_lrem hx hb hq hn (hκ _ _ _ _ h ht ls H locs hlv hP hS)
  | lshl =>
    have hl := hle 1 hlen; subst hl
    dsimp only [gt_stp, gt_op] at h
    replace h := gt_li_s h
    obtain ⟨x, y, r, rfl, h⟩ := h
    intro ht ls H locs hlv hP hS
    exact lv_lshl hx hb hq rfl (hκ _ _ _ _ h ht ls H locs hlv hP hS)
  | lshr =>
    have hl := hle 1 hlen; subst hl
    dsimp only [gt_stp, gt_op] at h
    replace h := gt_li_s h
    obtain ⟨x, y, r, rfl, h⟩ := h
    intro ht ls H locs hlv hP hS
    exact lv_lshr hx hb hq rfl (hκ _ _ _ _ h ht ls H locs hlv hP hS)
  | i2l =>
    have hl := hle 1 hlen; subst hl
    dsimp only [gt_stp, gt_op] at h
    replace h := gt_i1_s h
    obtain ⟨x, r, rfl, h⟩ := h
    intro ht ls H locs hlv hP hS
    exact lv_i2l hx hb hq rfl (hκ _ _ _ _ h ht ls H locs hlv hP hS)
  | l2i =>
    have hl := hle 1 hlen; subst hl
    dsimp only [gt_stp, gt_op] at h
    replace h := gt_l1_s h
    obtain ⟨x, r, rfl, h⟩ := h
    intro ht ls H locs hlv hP hS
    exact lv_l2i hx hb hq rfl (hκ _ _ _ _ h ht ls H locs hlv hP hS)
  | lcmp =>
    have hl := hle 1 hlen; subst hl
    dsimp only [gt_stp, gt_op] at h
    replace h := gt_l2_s h
    obtain ⟨x, y, r, rfl, h⟩ := h
    intro ht ls H locs hlv hP hS
    exact W.lcmp hx hb hq (hκ _ _ _ _ h ht ls H locs hlv hP hS)
  | dup =>
    have hl := hle 1 hlen; subst hl
    dsimp only [gt_stp, gt_op] at h
    split at h
    · split at h
      · rename_i v r hv
        intro ht ls H locs hlv hP hS
        exact lv_dup hx hb hq (by rw [gt_v_cat]; exact hv) (hκ _ _ _ _ h ht ls H locs hlv hP hS)
      · cases h
    · cases h
  | dup2 =>
    have hl := hle 1 hlen; subst hl
    dsimp only [gt_stp, gt_op] at h
    split at h
    · split at h
      · rename_i v w r hv
        intro ht ls H locs hlv hP hS
        exact lv_dup2_11 hx hb hq (by rw [gt_v_cat]; exact hv.1) (by rw [gt_v_cat]; exact hv.2) (hκ _ _ _ _ h ht ls H locs hlv hP hS)
      · cases h
    · cases h
  | pop =>
    have hl := hle 1 hlen; subst hl
    dsimp only [gt_stp, gt_op] at h
    split at h
    · split at h
      · rename_i v r hv
        intro ht ls H locs hlv hP hS
        exact lv_pop hx hb hq (by rw [gt_v_cat]; exact hv) (hκ _ _ _ _ h ht ls H locs hlv hP hS)
      · cases h
    · cases h
  | goto off =>
    have hl := hle 3 hlen; subst hl
    dsimp only [gt_stp, gt_op] at h
    replace h := gt_jp_s h
    obtain ⟨t, htg, h⟩ := h
    intro ht ls H locs hlv hP hS
    exact lv_goto hx hb hq htg (hκ _ _ _ _ h ht ls H locs hlv hP hS)
  | ifCond cd off =>
    have hl := hle 3 hlen; subst hl
    dsimp only [gt_stp, gt_op] at h
    replace h := gt_i1_s h
    obtain ⟨x, r, rfl, h⟩ := h
    replace h := gt_jp_s h
    obtain ⟨t, htg, h⟩ := h
    intro ht ls H locs hlv hP hS
    rcases gt_br_w h with ⟨h, hc⟩ | ⟨h, hc⟩
    · have k := hκ _ _ _ _ h ht ls H locs hlv hP hS
      cases cd
      · exact lv_if_eq hx hb hq htg (fun _ => k) (fun q => absurd hc q)
      · exact lv_if_ne hx hb hq htg (fun _ => k) (fun q => absurd q hc)
      · exact lv_if_lt hx hb hq htg (fun _ => k) (fun q => absurd hc q)
      · exact lv_if_ge hx hb hq htg (fun _ => k) (fun q => absurd hc q)
      · exact lv_if_gt hx hb hq htg (fun _ => k) (fun q => absurd hc q)
      · exact lv_if_le hx hb hq htg (fun _ => k) (fun q => absurd hc q)
    · have k := hκ _ _ _ _ h ht ls H locs hlv hP hS
      cases cd
      · exact lv_if_eq hx hb hq htg (fun q => absurd q hc) (fun _ => k)
      · exact lv_if_ne hx hb hq htg (fun q => absurd hc q) (fun _ => k)
      · exact lv_if_lt hx hb hq htg (fun q => absurd q hc) (fun _ => k)
      · exact lv_if_ge hx hb hq htg (fun q => absurd q hc) (fun _ => k)
      · exact lv_if_gt hx hb hq htg (fun q => absurd q hc) (fun _ => k)
      · exact lv_if_le hx hb hq htg (fun q => absurd q hc) (fun _ => k)
  | if_icmp cd off =>
    have hl := hle 3 hlen; subst hl
    dsimp only [gt_stp, gt_op] at h
    replace h := gt_i2_s h
    obtain ⟨x, y, r, rfl, h⟩ := h
    replace h := gt_jp_s h
    obtain ⟨t, htg, h⟩ := h
    intro ht ls H locs hlv hP hS
    rcases gt_br_w h with ⟨h, hc⟩ | ⟨h, hc⟩
    · have k := hκ _ _ _ _ h ht ls H locs hlv hP hS
      cases cd
      · exact lv_icmp_eq hx hb hq htg (fun _ => k) (fun q => absurd hc q)
      · exact lv_icmp_ne hx hb hq htg (fun _ => k) (fun q => absurd q hc)
      · exact lv_icmp_lt hx hb hq htg (fun _ => k) (fun q => absurd hc q)
      · exact lv_icmp_ge hx hb hq htg (fun _ => k) (fun q => absurd hc q)
      · exact lv_icmp_gt hx hb hq htg (fun _ => k) (fun q => absurd hc q)
      · exact lv_icmp_le hx hb hq htg (fun _ => k) (fun q => absurd hc q)
    · have k := hκ _ _ _ _ h ht ls H locs hlv hP hS
      cases cd
      · exact lv_icmp_eq hx hb hq htg (fun q => absurd q hc) (fun _ => k)
      · exact lv_icmp_ne hx hb hq htg (fun q => absurd hc q) (fun _ => k)
      · exact lv_icmp_lt hx hb hq htg (fun q => absurd q hc) (fun _ => k)
      · exact lv_icmp_ge hx hb hq htg (fun q => absurd q hc) (fun _ => k)
      · exact lv_icmp_gt hx hb hq htg (fun q => absurd q hc) (fun _ => k)
      · exact lv_icmp_le hx hb hq htg (fun q => absurd q hc) (fun _ => k)
  | ifnull off =>
    have hl := hle 3 hlen; subst hl
    dsimp only [gt_stp, gt_op] at h
    split at h
    · replace h := gt_jp_s h
      obtain ⟨t, htg, h⟩ := h
      intro ht ls H locs hlv hP hS
      exact lv_ifnullN hx hb hq htg (hκ _ _ _ _ h ht ls H locs hlv hP hS)
    · intro ht ls H locs hlv hP hS
      exact lv_ifnull hx hb hq (hκ _ _ _ _ h ht ls H locs hlv hP hS)
    · cases h
  | ifnonnull off =>
    have hl := hle 3 hlen; subst hl
    dsimp only [gt_stp, gt_op] at h
    split at h
    · intro ht ls H locs hlv hP hS
      exact lv_ifnonnullN hx hb hq (hκ _ _ _ _ h ht ls H locs hlv hP hS)
    · replace h := gt_jp_s h
      obtain ⟨t, htg, h⟩ := h
      intro ht ls H locs hlv hP hS
      exact lv_ifnonnull hx hb hq htg (hκ _ _ _ _ h ht ls H locs hlv hP hS)
    · cases h
  | tableswitch d lo hi offs =>
    dsimp only [gt_stp, gt_op] at h
    replace h := gt_i1_s h
    obtain ⟨x, r, rfl, h⟩ := h
    split at h
    · rename_i hlo
      obtain ⟨hlo, hhi, hsm, hps⟩ := hlo
      intro ht ls H locs hlv hP hS
      rcases gt_ts_s offs.toList lo hlo (by rw [Array.length_toList]; omega) h with ⟨n, w, a1, a2, a3⟩ | ⟨a1, a2⟩
      · obtain ⟨t, htg, h⟩ := gt_jp_s a3
        have hn : n < offs.size := by
          have := (List.getElem?_eq_some_iff.mp a1).1
          rwa [Array.length_toList] at this
        exact lv_tableIn hx hb hq (by omega) (by omega) (by rw [show (x.toInt - lo).toNat = n by omega, ← Array.getElem?_toList]; exact a1) htg (hκ _ _ _ _ h ht ls H locs hlv hP hS)
      · obtain ⟨t, htg, h⟩ := gt_jp_s a2
        refine lv_tableOut hx hb hq ?_ htg (hκ _ _ _ _ h ht ls H locs hlv hP hS)
        rw [Array.length_toList] at a1
        by_cases h1 : x.toInt < lo
        · exact Or.inl h1
        · refine Or.inr ?_
          by_cases h2 : hi < x.toInt
          · exact h2
          · have := a1 (x.toInt - lo).toNat (by omega)
            omega
    · cases h
  | lookupswitch d ps =>
    dsimp only [gt_stp, gt_op] at h
    replace h := gt_i1_s h
    obtain ⟨x, r, rfl, h⟩ := h
    split at h
    · rename_i hps
      obtain ⟨off, ho, h⟩ := gt_lsw_s _ hps.2 h
      replace h := gt_jp_s h
      obtain ⟨t, htg, h⟩ := h
      intro ht ls H locs hlv hP hS
      exact lv_lookup hx hb hq hps.1 ho htg (hκ _ _ _ _ h ht ls H locs hlv hP hS)
    · cases h
  | getfield k =>
    have hl := hle 3 hlen; subst hl
    dsimp only [gt_stp, gt_op] at h
    replace h := gt_a1_s h
    obtain ⟨a, r, rfl, h⟩ := h
    obtain ⟨f, hf, h⟩ := Option.bind_eq_some_iff.mp h
    obtain ⟨v, hv, h⟩ := Option.bind_eq_some_iff.mp h
    intro ht ls H locs hlv hP hS
    exact gt_getf (t := f.2.2) hx hb hown hts hK (hE.1 _ (gt_lk_mem hf)) hP hv hq (hκ _ _ _ _ h ht ls H locs hlv hP hS)
  | putfield k =>
    have hl := hle 3 hlen; subst hl
    dsimp only [gt_stp, gt_op] at h
    split at h
    · obtain ⟨f, hf, h⟩ := Option.bind_eq_some_iff.mp h
      obtain ⟨v, hv, h⟩ := Option.bind_eq_some_iff.mp h
      intro ht ls H locs hlv hP hS
      exact gt_putI (t := f.2.2) hx hb hown hts hK (hE.1 _ (gt_lk_mem hf)) hP (hDD _ ht) hS hv hq (fun e1 H locs hP hS => hκ _ _ _ _ h (e1.trans ht) ls H locs hlv hP hS)
    · obtain ⟨f, hf, h⟩ := Option.bind_eq_some_iff.mp h
      obtain ⟨v, hv, h⟩ := Option.bind_eq_some_iff.mp h
      intro ht ls H locs hlv hP hS
      exact gt_putL (t := f.2.2) hx hb hown hts hK (hE.1 _ (gt_lk_mem hf)) hP (hDD _ ht) hS hv hq (fun e1 H locs hP hS => hκ _ _ _ _ h (e1.trans ht) ls H locs hlv hP hS)
    · cases h
  | iaload =>
    have hl := hle 1 hlen; subst hl
    dsimp only [gt_stp, gt_op] at h
    replace h := gt_ai_s h
    obtain ⟨a, j, r, rfl, h⟩ := h
    obtain ⟨v, hv, h⟩ := Option.bind_eq_some_iff.mp h
    intro ht ls H locs hlv hP hS
    exact gt_ldI_w hx hb hK hP hv hq (hκ _ _ _ _ h ht ls H locs hlv hP hS)
  | baload =>
    have hl := hle 1 hlen; subst hl
    dsimp only [gt_stp, gt_op] at h
    replace h := gt_ai_s h
    obtain ⟨a, j, r, rfl, h⟩ := h
    obtain ⟨v, hv, h⟩ := Option.bind_eq_some_iff.mp h
    intro ht ls H locs hlv hP hS
    exact gt_ldZ_w hx hb hK hP hv hq (hκ _ _ _ _ h ht ls H locs hlv hP hS)
  | laload =>
    have hl := hle 1 hlen; subst hl
    dsimp only [gt_stp, gt_op] at h
    replace h := gt_ai_s h
    obtain ⟨a, j, r, rfl, h⟩ := h
    obtain ⟨v, hv, h⟩ := Option.bind_eq_some_iff.mp h
    intro ht ls H locs hlv hP hS
    exact gt_ldL_w hx hb hK hP hv hq (hκ _ _ _ _ h ht ls H locs hlv hP hS)
  | aaload =>
    have hl := hle 1 hlen; subst hl
    dsimp only [gt_stp, gt_op] at h
    replace h := gt_ai_s h
    obtain ⟨a, j, r, rfl, h⟩ := h
    split at h
    · rename_i v hv
      intro ht ls H locs hlv hP hS
      exact gt_ldR_w hx hb hK hP hv hq (hκ _ _ _ _ h ht ls H locs hlv hP hS)
    · rename_i hv
      intro ht ls H locs hlv hP hS
      exact gt_ldR_w hx hb hK hP hv hq (hκ _ _ _ _ h ht ls H locs hlv hP hS)
    · cases h
  | iastore =>
    have hl := hle 1 hlen; subst hl
    dsimp only [gt_stp, gt_op] at h
    replace h := gt_aii_s h
    obtain ⟨a, j, x, r, rfl, h⟩ := h
    obtain ⟨v, hv, h⟩ := Option.bind_eq_some_iff.mp h
    intro ht ls H locs hlv hP hS
    exact gt_stI_w hx hb hK hP (hDD _ ht) hS hv hq (fun e1 H locs hP hS => hκ _ _ _ _ h (e1.trans ht) ls H locs hlv hP hS)
  | bastore =>
    have hl := hle 1 hlen; subst hl
    dsimp only [gt_stp, gt_op] at h
    replace h := gt_aii_s h
    obtain ⟨a, j, x, r, rfl, h⟩ := h
    obtain ⟨v, hv, h⟩ := Option.bind_eq_some_iff.mp h
    intro ht ls H locs hlv hP hS
    exact gt_stZ_w hx hb hK hP (hDD _ ht) hS hv hq (fun e1 H locs hP hS => hκ _ _ _ _ h (e1.trans ht) ls H locs hlv hP hS)
  | lastore =>
    have hl := hle 1 hlen; subst hl
    dsimp only [gt_stp, gt_op] at h
    replace h := gt_ail_s h
    obtain ⟨a, j, x, r, rfl, h⟩ := h
    obtain ⟨v, hv, h⟩ := Option.bind_eq_some_iff.mp h
    intro ht ls H locs hlv hP hS
    exact gt_stL_w hx hb hK hP (hDD _ ht) hS hv hq (fun e1 H locs hP hS => hκ _ _ _ _ h (e1.trans ht) ls H locs hlv hP hS)
  | aastore =>
    have hl := hle 1 hlen; subst hl
    dsimp only [gt_stp, gt_op] at h
    replace h := gt_aiq_s h
    obtain ⟨a, j, x, r, rfl, h⟩ := h
    obtain ⟨v, hv, h⟩ := Option.bind_eq_some_iff.mp h
    intro ht ls H locs hlv hP hS
    have k := gt_stR_w (rest := r.map (gt_v ad)) (ls := ls) hcl hx hb hK hP (hDD _ ht) hS hv hq (fun e1 H locs hP hS => hκ _ _ _ _ h (e1.trans ht) ls H locs hlv hP hS)
    rw [← gt_v_rf] at k
    exact k
  | arraylength =>
    have hl := hle 1 hlen; subst hl
    dsimp only [gt_stp, gt_op] at h
    replace h := gt_a1_s h
    obtain ⟨a, r, rfl, h⟩ := h
    obtain ⟨v, hv, h⟩ := Option.bind_eq_some_iff.mp h
    intro ht ls H locs hlv hP hS
    exact gt_ln_w hx hb hK hP hv hq (hκ _ _ _ _ h ht ls H locs hlv hP hS)
  | invokevirtual k =>
    have hl := hle 3 hlen; subst hl
    dsimp only [gt_stp, gt_op] at h
    unfold gt_inv at h
    split at h
    · rename_i w hw
      split at h
      · rename_i hn
        obtain ⟨r1, σ1, hv, h⟩ := gt_cr_s h
        have k2 := hC (k, w.1, w.2.1, w.2.2.1, w.2.2.2) (gt_lk_mem hw) pc lv _ (st.drop w.2.2.1) σ σ1 r1 (by dsimp only; rw [hn.1]; exact hq) (by rw [List.length_reverse, List.length_take]; exact Nat.min_eq_left hn.2.1) hv hn.2.2 (hκ _ _ _ _ h)
        rwa [List.reverse_reverse, List.take_append_drop] at k2
      · cases h
    · cases h
  | invokestatic k =>
    have hl := hle 3 hlen; subst hl
    dsimp only [gt_stp, gt_op] at h
    unfold gt_inv at h
    split at h
    · rename_i w hw
      split at h
      · rename_i hn
        obtain ⟨r1, σ1, hv, h⟩ := gt_cr_s h
        have k2 := hC (k, w.1, w.2.1, w.2.2.1, w.2.2.2) (gt_lk_mem hw) pc lv _ (st.drop w.2.2.1) σ σ1 r1 (by dsimp only; rw [hn.1]; exact hq) (by rw [List.length_reverse, List.length_take]; exact Nat.min_eq_left hn.2.1) hv hn.2.2 (hκ _ _ _ _ h)
        rwa [List.reverse_reverse, List.take_append_drop] at k2
      · cases h
    · cases h
  | invokespecial k =>
    have hl := hle 3 hlen; subst hl
    dsimp only [gt_stp, gt_op] at h
    unfold gt_inv at h
    split at h
    · rename_i w hw
      split at h
      · rename_i hn
        obtain ⟨r1, σ1, hv, h⟩ := gt_cr_s h
        have k2 := hC (k, w.1, w.2.1, w.2.2.1, w.2.2.2) (gt_lk_mem hw) pc lv _ (st.drop w.2.2.1) σ σ1 r1 (by dsimp only; rw [hn.1]; exact hq) (by rw [List.length_reverse, List.length_take]; exact Nat.min_eq_left hn.2.1) hv hn.2.2 (hκ _ _ _ _ h)
        rwa [List.reverse_reverse, List.take_append_drop] at k2
      · cases h
    · cases h
  | _ => exact absurd (show (none : Option gt_F) = some o from h) (by simp)
end GTJ
/-! from stop to stop -/
def gt_sk (pc : Nat) : List gt_I → List gt_I
  | [] => []
  | q :: t => bif Nat.beq q.1 pc then q :: t else gt_sk pc t
def gt_nr : List Nat → gt_L → gt_L
  | [], _ => []
  | i :: t, lv => match gt_lk lv i with
    | some v => (i, v) :: gt_nr t lv
    | none => gt_nr t lv
def gt_st1 (ks : gt_KS) (nL : Nat) (E : gt_E) (q : gt_I) (lv : gt_L) (st : List Value) (σ : gt_S) (κ : gt_C) : Option gt_F := match gt_lk E.2.2.2.2 q.1 with
  | some g => (g lv st σ).bind fun o => κ o.1 o.2.1 o.2.2.1 o.2.2.2
  | none => gt_stp ks nL E q lv st σ κ
def gt_bx (ks : gt_KS) (nL : Nat) (E : gt_E) (sp : List (Nat × List Nat)) : Nat → List gt_I → gt_L → List Value → gt_S → Option gt_F
  | 0, _, _, _, _ => none
  | n + 1, cs, lv, st, σ => match cs with
    | [] => none
    | q :: t => gt_st1 ks nL E q lv st σ (fun pc lv st σ => match gt_lk sp pc with
      | some ix => some (pc, gt_nr ix lv, st, σ)
      | none => gt_bx ks nL E sp n (gt_sk pc t) lv st σ)
def gt_it (ks : gt_KS) (nL : Nat) (E : gt_E) (sp : List (Nat × List Nat)) (cs : List gt_I) : Nat → gt_F → Option gt_F
  | 0, a => some a
  | n + 1, a => (gt_bx ks nL E sp 1000 (gt_sk a.1 cs) a.2.1 a.2.2.1 a.2.2.2).bind (gt_it ks nL E sp cs n)
/-- from here the machine comes there -/
def gt_R (ks : gt_KS) (nL : Nat) (E : gt_E) (sp : List (Nat × List Nat)) (cs : List gt_I) (a b : gt_F) : Prop := ∃ n, gt_it ks nL E sp cs n a = some b
theorem gt_R_rf {ks : gt_KS} {nL : Nat} {E : gt_E} {sp : List (Nat × List Nat)} {cs : List gt_I} (a : gt_F) : gt_R ks nL E sp cs a a := ⟨0, rfl⟩
theorem gt_it_add {ks : gt_KS} {nL : Nat} {E : gt_E} {sp : List (Nat × List Nat)} {cs : List gt_I} : ∀ (n k : Nat) {a b d : gt_F}, gt_it ks nL E sp cs n a = some b → gt_it ks nL E sp cs k b = some d → gt_it ks nL E sp cs (n + k) a = some d
  | 0, k, a, b, d, h1, h2 => by
    cases h1
    rw [Nat.zero_add]
    exact h2
  | n + 1, k, a, b, d, h1, h2 => by
    unfold gt_it at h1
    obtain ⟨x, hx, h1⟩ := Option.bind_eq_some_iff.mp h1
    rw [show n + 1 + k = (n + k) + 1 by omega]
    unfold gt_it
    rw [hx]
    exact gt_it_add n k h1 h2
theorem gt_R.tr {ks : gt_KS} {nL : Nat} {E : gt_E} {sp : List (Nat × List Nat)} {cs : List gt_I} {a b d : gt_F} (h1 : gt_R ks nL E sp cs a b) (h2 : gt_R ks nL E sp cs b d) : gt_R ks nL E sp cs a d := by
  obtain ⟨n, h1⟩ := h1
  obtain ⟨k, h2⟩ := h2
  exact ⟨n + k, gt_it_add n k h1 h2⟩
theorem gt_R.st {ks : gt_KS} {nL : Nat} {E : gt_E} {sp : List (Nat × List Nat)} {cs : List gt_I} {pc : Nat} {lv : gt_L} {st : List Value} {σ : gt_S} {b d : gt_F} (h : gt_bx ks nL E sp 1000 (gt_sk pc cs) lv st σ = some b) (h2 : gt_R ks nL E sp cs b d) : gt_R ks nL E sp cs (pc, lv, st, σ) d := by
  obtain ⟨k, h2⟩ := h2
  refine ⟨k + 1, ?_⟩
  unfold gt_it
  dsimp only
  rw [h]
  exact h2
theorem gt_nr_mem {lv : gt_L} : ∀ {ix : List Nat} {q : Nat × Value}, q ∈ gt_nr ix lv → q ∈ lv
  | [], q, h => by cases h
  | i :: t, q, h => by
    unfold gt_nr at h
    split at h
    · rename_i v hv
      rcases List.mem_cons.mp h with rfl | h
      · exact gt_lk_mem hv
      · exact gt_nr_mem h
    · exact gt_nr_mem h
theorem gt_sk_sub {pc : Nat} : ∀ {cs : List gt_I} {q : gt_I}, q ∈ gt_sk pc cs → q ∈ cs
  | [], q, h => by cases h
  | x :: t, q, h => by
    unfold gt_sk at h
    cases hb : Nat.beq x.1 pc with
    | true =>
      rw [hb] at h
      exact h
    | false =>
      rw [hb] at h
      exact List.mem_cons_of_mem _ (gt_sk_sub h)
theorem gt_sk_hd {pc : Nat} : ∀ {cs : List gt_I} {q : gt_I} {t : List gt_I}, gt_sk pc cs = q :: t → q.1 = pc
  | [], q, t, h => by cases h
  | x :: r, q, t, h => by
    unfold gt_sk at h
    cases hb : Nat.beq x.1 pc with
    | true =>
      rw [hb] at h
      cases h
      exact Nat.eq_of_beq_eq_true hb
    | false =>
      rw [hb] at h
      exact gt_sk_hd h
theorem gt_bx_w {J : Nat → gt_L → List Value → gt_S → Prop} {cc : ByteArray} {ks : gt_KS} {nL : Nat} {E : gt_E} {sp : List (Nat × List Nat)} (hsub : ∀ pc lv lv' st σ, (∀ q ∈ lv', q ∈ lv) → J pc lv' st σ → J pc lv st σ)
    (hst : ∀ (q : gt_I), decode cc q.1 = .ok (q.2.1, q.2.2) → gt_lok q = true → ∀ (lv : gt_L) (st : List Value) (σ : gt_S) (κ : gt_C) (o : gt_F), gt_st1 ks nL E q lv st σ κ = some o → (∀ pc lv st σ, κ pc lv st σ = some o → J pc lv st σ) → J q.1 lv st σ) :
    ∀ (n : Nat) (cs : List gt_I) (lv : gt_L) (st : List Value) (σ : gt_S) (o : gt_F), gt_dok cc cs → gt_bx ks nL E sp n cs lv st σ = some o → J o.1 o.2.1 o.2.2.1 o.2.2.2 → ∀ q t, cs = q :: t → J q.1 lv st σ
  | 0, _, _, _, _, _, _, h, _, _, _, _ => by cases h
  | n + 1, cs, lv, st, σ, o, hd, h, hJ, q, t, hcs => by
    subst hcs
    unfold gt_bx at h
    dsimp only at h
    refine hst q (hd q List.mem_cons_self).1 (hd q List.mem_cons_self).2 lv st σ _ o h ?_
    intro pc lv1 st1 σ1 h1
    split at h1
    · cases h1
      exact hsub _ _ _ _ _ (fun q hq => gt_nr_mem hq) hJ
    · cases hs : gt_sk pc t with
      | nil =>
        rw [hs] at h1
        cases n <;> cases h1
      | cons x r =>
        have e1 := gt_sk_hd hs
        subst e1
        exact gt_bx_w hsub hst n (gt_sk x.1 t) lv1 st1 σ1 o (fun q hq => hd q (List.mem_cons_of_mem _ (gt_sk_sub hq))) h1 hJ x r hs
theorem gt_R_w {J : Nat → gt_L → List Value → gt_S → Prop} {cc : ByteArray} {ks : gt_KS} {nL : Nat} {E : gt_E} {sp : List (Nat × List Nat)} {cs : List gt_I} (hd : gt_dok cc cs) (hsub : ∀ pc lv lv' st σ, (∀ q ∈ lv', q ∈ lv) → J pc lv' st σ → J pc lv st σ)
    (hst : ∀ (q : gt_I), decode cc q.1 = .ok (q.2.1, q.2.2) → gt_lok q = true → ∀ (lv : gt_L) (st : List Value) (σ : gt_S) (κ : gt_C) (o : gt_F), gt_st1 ks nL E q lv st σ κ = some o → (∀ pc lv st σ, κ pc lv st σ = some o → J pc lv st σ) → J q.1 lv st σ) :
    ∀ (n : Nat) (a b : gt_F), gt_it ks nL E sp cs n a = some b → J b.1 b.2.1 b.2.2.1 b.2.2.2 → J a.1 a.2.1 a.2.2.1 a.2.2.2
  | 0, a, b, h, hJ => by cases h; exact hJ
  | n + 1, a, b, h, hJ => by
    unfold gt_it at h
    obtain ⟨x, hx, h⟩ := Option.bind_eq_some_iff.mp h
    have h2 := gt_R_w hd hsub hst n x b h hJ
    cases hs : gt_sk a.1 cs with
    | nil =>
      rw [hs] at hx
      cases hx
    | cons q t =>
      have e1 := gt_sk_hd hs
      rw [← e1]
      exact gt_bx_w hsub hst 1000 _ _ _ _ _ (fun q hq => hd q (gt_sk_sub hq)) hx h2 q t hs
/-! contracts -/
def gt_NN (U : State) : Prop := ∀ w ∈ gt_N, va_Nw w U
theorem gt_NN.warm {s U : State} (hW : s.WarmedH U.vm) (h : gt_NN s) : gt_NN U := by
  intro w hw
  have h1 := h w hw
  have h2 := (List.mem_filter.mp hw).2
  cases w <;> first | exact va_Nw.warmF hW h1 | exact va_Nw.warmM hW h1 | cases h2
theorem gt_NN.same {u U : State} (hv : u.vm = U.vm) (h : gt_NN u) : gt_NN U := by
  intro w hw
  have h1 := h w hw
  have h2 := (List.mem_filter.mp hw).2
  cases w <;> first | cases h2; done | exact va_Nw.same rfl hv h1
theorem gt_NN.use {s : State} (h : gt_NN s) {args : Array Value} : ∀ w ∈ gt_N, w.before args s = true := by
  intro w hw
  have h1 := h w hw
  have h2 := (List.mem_filter.mp hw).2
  cases w <;> first | cases h2; done | exact va_Nw.use rfl h1
def gt_Pc (D : va_G) (ks : gt_KS) (cA : FieldType → Nat) (ad : Nat → Nat) (σ : gt_S) (as : List Value) (sz : Nat) : Array Value → State → Prop := va_Pc (as.map (gt_v ad)) (fun U => U.heap.size = sz ∧ va_P D vwCl (gt_w ks cA ad σ) U.heap ∧ va_K D vwCl (gt_tys cA) U ∧ va_D (fun _ => True) (gt_w ks cA ad σ) ∧ gt_NN U)
def gt_Qc (D : va_G) (ks : gt_KS) (cA : FieldType → Nat) (ad : Nat → Nat) (σ σ' : gt_S) (r : Option Value) (sz : Nat) : Array Value → State → Outcome → State → Prop := fun _ st oc t => oc = .returned (r.map (gt_v ad)) ∧ σ'.2.2.2 = σ.2.2.2 ∧ va_P D vwCl (gt_w ks cA ad σ') t.heap ∧ va_F (va_A (gt_w ks cA ad σ) sz) st t
/-- a method does to the store what f does -/
def gt_M (l : Launch) (ks : gt_KS) (y : MethodName) (ws : List Cond) (rm : Room) (f : gt_G) : Prop := ∀ (D : va_G) (cA : FieldType → Nat) (ad : Nat → Nat) (σ σ' : gt_S) (as : List Value) (r : Option Value) (sz : Nat), f as σ = some (r, σ') → Met l y ws rm (gt_Pc D ks cA ad σ as sz) (gt_Qc D ks cA ad σ σ' r sz) 0 0 (va_A (gt_w ks cA ad σ) sz)
theorem gt_Pc_bl {D : va_G} {ks : gt_KS} {cA : FieldType → Nat} {ad : Nat → Nat} {σ : gt_S} {as : List Value} {sz : Nat} : FrameBlind (gt_Pc D ks cA ad σ as sz) := by
  intro a U g mk q
  obtain ⟨q0, q1, qP, qK, qD, qN⟩ := q
  exact ⟨q0, q1, qP, va_K.moved (u := U) (U := U.calling g mk a) (Vm.Alike.refl U.vm) qK, qD, gt_NN.same (u := U) (U := U.calling g mk a) rfl qN⟩
def gt_W (y : MethodName) (cc : ByteArray) (maxL : Nat) (ret : Option FieldType) : List Cond := Cond.code y cc maxL ret :: gt_T
theorem gt_good {y : MethodName} {cc : ByteArray} {maxL : Nat} {ret : Option FieldType} (h : Cond.code y cc maxL ret ∈ gt_T) : GoodIn gt_T (gt_W y cc maxL ret) := by
  intro w hw
  have hm : w ∈ gt_T := by
    rcases List.mem_cons.mp hw with rfl | hw
    · exact h
    · exact hw
  exact ⟨hm, good_of_word (List.mem_filter.mp hm).2⟩
section GTC
variable {p : Program} {l : Launch} {e : Env} {R : Room} {s : State} {m : MethodId} {args : Array Value} {below : List Frame} {meth : Method} {c : Code} {cells slots : Nat} {Q : State → Prop}
variable {cc : ByteArray} {D : va_G} {ks : gt_KS} {cA : FieldType → Nat} {ad : Nat → Nat} {A : Nat → Prop} {H0 : Heap} {tx : List (Nat × Nat)} {nL : Nat} {own : String}
theorem gt_callg {σ σ' : gt_S} {r : Option Value} {pc : Nat} {ls : Array Slot} {H : Heap} {locs : List Loc} {st0 rest : List Value} {aa : Array Value} (hr : va_Run p l e R s m args below meth c H locs cells slots 0 0 (F0 m pc ls st0) rest (gt_Qc D ks cA ad σ σ' r H.size aa) (va_A (gt_w ks cA ad σ) H.size)) (hS : va_S A H0 H locs) (hF : ∀ q, va_A (gt_w ks cA ad σ) H.size q → A q)
    (kk : σ'.2.2.2 = σ.2.2.2 → ∀ (H1 : Heap) (locs1 : List Loc), va_P D vwCl (gt_w ks cA ad σ') H1 → va_S A H0 H1 locs1 → W p l e R s m args below meth c H1 locs1 cells slots Q (F0 m (pc + 3) ls ((r.map (gt_v ad)).toList ++ rest))) : W p l e R s m args below meth c H locs cells slots Q (F0 m pc ls st0) := by
  intro T hT X
  obtain ⟨v, st₀, t, T', L, h0, X', hL, e1, e2, ⟨hv, htx, hP1, hz, hk⟩, st⟩ := hr T hT X
  cases hv
  rw [h0] at hz hk
  obtain ⟨t2, a1, b1⟩ := kk htx T'.heap (locs ++ L) (by rw [e1]; exact hP1)
    ⟨Nat.le_trans hS.1 (by rw [e1]; exact hz), fun q h1 h2 => by rw [e1, hk q (Nat.lt_of_lt_of_le h1 hS.1) (fun z => h2 (hF q z))]; exact hS.2.1 q h1 h2, fun q hq => by
      rcases List.mem_append.mp hq with h | h
      · exact hS.2.2 q h
      · exact hF _ (hL q h)⟩ T' rfl X'
  exact ⟨t2, st t2 a1, b1⟩
theorem gt_free {σ : gt_S} {H : Heap} {locs : List Loc} (hD : va_D A (gt_w ks cA ad σ)) (hS : va_S A H0 H locs) (hA : ∀ q, H0.size ≤ q → A q) : ∀ q, va_A (gt_w ks cA ad σ) H.size q → A q := by
  intro q h
  rcases h with ⟨k, e, h⟩ | h
  · exact hD.2 k (q, e) h
  · exact hA q (Nat.le_trans hS.1 h)
theorem gt_sum_map (ad : Nat → Nat) (rest : List Value) : ((rest.map (gt_v ad)).map fun v => v.category).sum = (rest.map fun v => v.category).sum := by
  rw [List.map_map]
  congr 1
  apply List.map_congr_left
  intro v _
  exact gt_v_cat ad v
/-- what a caller is -/
def gt_Ctx (p : Program) (s : State) (m : MethodId) (args : Array Value) (c : Code) (cc : ByteArray) (nL : Nat) (own : String) (D : va_G) (ks : gt_KS) (cA : FieldType → Nat) (ad : Nat → Nat) (A : Nat → Prop) (H0 : Heap) (tx : List (Nat × Nat)) : Prop :=
  p.tables.exec = Jvm.exec ∧ c.code = cc ∧ c.maxLocals = nL ∧ s.vm.findClass own = some m.cls ∧ (∀ w ∈ gt_T, w.before args s = true) ∧ va_K D vwCl (gt_tys cA) s ∧ (∀ σ : gt_S, σ.2.2.2 = tx → va_D A (gt_w ks cA ad σ)) ∧ (∀ q, H0.size ≤ q → A q) ∧ gt_NN s
theorem gt_ckV (X : gt_Ctx p s m args c cc nL own D ks cA ad A H0 tx) (hf : cells ≤ R.cells ∧ slots ≤ R.slots) {y : MethodName} {cy : ByteArray} {maxL : Nat} {ret : Option FieldType} {rm : Room} {f : gt_G} {idx n rk : Nat} (hM : gt_M l ks y (gt_W y cy maxL ret) rm f) (hrm : rm.cells = 0 ∧ rm.slots = 0) (hR : rm.frames + 1 ≤ R.frames ∧ 8 + (maxL + 11) + rm.locals ≤ R.locals)
    (hcode : Cond.code y cy maxL ret ∈ gt_T) (hw : ∀ w ∈ ([.methodLink own idx y, .instanceMethod y, .selects y.cls y y, .initialized y.cls] : List Cond), w ∈ gt_T) (hd : y.cls ≠ "java/lang/invoke/MethodHandle" ∧ y.cls ≠ "java/lang/invoke/VarHandle" ∧ (parseMethodDescriptor y.desc).map (fun d => d.parameters.length) = some n)
    (hrc : ∀ (as : List Value) (σ : gt_S) (o : Option Value × gt_S), f as σ = some o → ∃ (b : Nat) (as' : List Value) (ci : Nat) (sl : List (Option (Option Nat))) (T : u_T) (N : Nat), as = .ref b :: as' ∧ gt_kd ks σ.2.2.2 b = some (.inr (ci, sl)) ∧ vwCl[ci]? = some (y.cls, T, N)) :
    gt_ck (gt_J (fun H locs pc ls st => W p l e R s m args below meth c H locs cells slots Q (F0 m pc ls st)) D vwCl ks cA ad A H0 tx nL) cc (idx, 0, rk, n + 1, f) := by
  obtain ⟨hx, hb, hml, hown, hts, hK, hDD, hA, hN⟩ := X
  intro pc lv as rest σ σ' r hdg hlen hfs hsum hJ
  dsimp only at hlen hfs
  obtain ⟨b, as', ci, sl, Tc, N, rfl, hkb, hcb⟩ := hrc as σ _ hfs
  intro ht ls H locs hlv hP hS
  have hD := hDD σ ht
  have hF := gt_free hD hS hA
  have hG : GoodIn gt_T (wsV own idx y.cls y (gt_W y cy maxL ret)) := by
    intro w h
    rcases List.mem_append.mp h with h | h
    · exact ⟨hw w h, good_of_word (List.mem_filter.mp (hw w h)).2⟩
    · exact gt_good hcode w h
  have hcw := cwV (R := R) (s := s) (args := args) (ws := gt_W y cy maxL ret) (rm := rm) (mc := 0) (ms := 0) n hts hG rfl hrm.1 hrm.2 ⟨rfl, hd.1, hd.2.1, hd.2.2⟩ hR
  have hl2 : as'.length = n := by rw [List.length_cons] at hlen; omega
  have hrun := va_runV (As := as'.map (gt_v ad)) (b := ad b) (rest := rest.map (gt_v ad)) (g := F0 m pc ls (((.ref b :: as').reverse ++ rest).map (gt_v ad))) (locs := locs) (below := below) (meth := meth) (e := e) (cells := cells) (slots := slots) (H := H) ⟨hx, hb, hml, hown, hts⟩ (hM D cA ad σ σ' (.ref b :: as') r H.size hfs) hcw
    ⟨gt_Pc_bl, va_recv hK hP (ci := ci) (q0 := b) hcb (gt_w_at hkb), fun U hU hW => ⟨rfl, by rw [hU], by rw [hU]; exact hP, va_K.moved hW.alike hK, hD.weaken (fun _ _ _ _ => trivial), hN.warm hW⟩⟩ rfl (by rw [List.length_map]; exact hl2) hlv.1 (by simp [gt_v]) (lv_room (by rw [gt_sum_map]; exact hsum)) hdg ⟨hf.1, hf.2⟩
  refine gt_callg hrun hS hF (fun htx H1 locs1 hP1 hS1 => ?_)
  have := hJ (htx.trans ht) ls H1 locs1 hlv hP1 hS1
  rw [List.map_append] at this
  cases r <;> exact this
theorem gt_ckS (X : gt_Ctx p s m args c cc nL own D ks cA ad A H0 tx) (hf : cells ≤ R.cells ∧ slots ≤ R.slots) {y : MethodName} {cy : ByteArray} {maxL : Nat} {ret : Option FieldType} {rm : Room} {f : gt_G} {idx n rk : Nat} (hM : gt_M l ks y (gt_W y cy maxL ret) rm f) (hrm : rm.cells = 0 ∧ rm.slots = 0) (hR : rm.frames + 1 ≤ R.frames ∧ 8 + (maxL + 11) + rm.locals ≤ R.locals)
    (hcode : Cond.code y cy maxL ret ∈ gt_T) (hl : Cond.methodLink own idx y ∈ gt_T ∨ ∃ host, Cond.methodLinkNest own idx y host ∈ gt_N) (hst : Cond.static y ∈ gt_T) (hini : Cond.initialized y.cls ∈ gt_T) (hd : y.cls ≠ "java/lang/invoke/MethodHandle" ∧ y.cls ≠ "java/lang/invoke/VarHandle" ∧ (parseMethodDescriptor y.desc).map (fun d => d.parameters.length) = some n) :
    gt_ck (gt_J (fun H locs pc ls st => W p l e R s m args below meth c H locs cells slots Q (F0 m pc ls st)) D vwCl ks cA ad A H0 tx nL) cc (idx, 1, rk, n, f) := by
  obtain ⟨hx, hb, hml, hown, hts, hK, hDD, hA, hN⟩ := X
  intro pc lv as rest σ σ' r hdg hlen hfs hsum hJ
  dsimp only at hlen hfs
  intro ht ls H locs hlv hP hS
  have hD := hDD σ ht
  have hF := gt_free hD hS hA
  have hpre : PreS s H (gt_Pc D ks cA ad σ as H.size) (as.map (gt_v ad)) := ⟨gt_Pc_bl, fun U hU hW => ⟨rfl, by rw [hU], by rw [hU]; exact hP, va_K.moved hW.alike hK, hD.weaken (fun _ _ _ _ => trivial), hN.warm hW⟩⟩
  have hstk : ((as.reverse ++ rest).map (gt_v ad)) = (as.map (gt_v ad)).reverse ++ rest.map (gt_v ad) := by simp
  have hrun : va_Run p l e R s m args below meth c H locs cells slots 0 0 (F0 m pc ls ((as.reverse ++ rest).map (gt_v ad))) (rest.map (gt_v ad)) (gt_Qc D ks cA ad σ σ' r H.size (as.map (gt_v ad)).toArray) (va_A (gt_w ks cA ad σ) H.size) := by
    rcases hl with hl | ⟨host, hl⟩
    · exact va_runS (As := as.map (gt_v ad)) ⟨hx, hb, hml, hown, hts⟩ (hM D cA ad σ σ' as r H.size hfs) ⟨callB_of n hts (gt_good hcode) rfl hrm.1 hrm.2 (hts _ hini) (hts _ hl) hd hR, hts _ hst⟩ hpre rfl (by rw [List.length_map]; exact hlen) hlv.1 hstk (lv_room (by rw [gt_sum_map]; exact hsum)) hdg ⟨hf.1, hf.2⟩
    · exact va_runSN (As := as.map (gt_v ad)) ⟨hx, hb, hml, hown, hts⟩ (hM D cA ad σ σ' as r H.size hfs) ⟨va_cnB n hts (gt_good hcode) rfl hrm.1 hrm.2 (hN _ hl) (hts _ hini) hd hR, hts _ hst, trivial⟩ hpre rfl (by rw [List.length_map]; exact hlen) hlv.1 hstk (lv_room (by rw [gt_sum_map]; exact hsum)) hdg ⟨hf.1, hf.2⟩
  refine gt_callg hrun hS hF (fun htx H1 locs1 hP1 hS1 => ?_)
  have := hJ (htx.trans ht) ls H1 locs1 hlv hP1 hS1
  rw [List.map_append] at this
  cases r <;> exact this
end GTC
end
section
/-! a method's contract out of a run of the small machine -/
def gt_ckA (l : Launch) (ks : gt_KS) (cc : ByteArray) (nL : Nat) (own : String) (R : Room) (q : Nat × Nat × Nat × Nat × gt_G) : Prop := ∀ (p : Program) (e : Env) (s : State) (m : MethodId) (args : Array Value) (below : List Frame) (meth : Method) (c : Code) (Q : State → Prop) (D : va_G) (cA : FieldType → Nat) (ad : Nat → Nat) (A : Nat → Prop) (H0 : Heap) (tx : List (Nat × Nat)), gt_Ctx p s m args c cc nL own D ks cA ad A H0 tx →
  gt_ck (gt_J (fun H locs pc ls st => W p l e R s m args below meth c H locs 0 0 Q (F0 m pc ls st)) D vwCl ks cA ad A H0 tx nL) cc q
/-- a special step is what it says -/
def gt_spA (l : Launch) (ks : gt_KS) (cc : ByteArray) (nL : Nat) (own : String) (R : Room) (q : Nat × (gt_L → List Value → gt_S → Option gt_F)) : Prop := ∀ (p : Program) (e : Env) (s : State) (m : MethodId) (args : Array Value) (below : List Frame) (meth : Method) (c : Code) (Q : State → Prop) (D : va_G) (cA : FieldType → Nat) (ad : Nat → Nat) (A : Nat → Prop) (H0 : Heap) (tx : List (Nat × Nat)), gt_Ctx p s m args c cc nL own D ks cA ad A H0 tx →
  ∀ (lv : gt_L) (st : List Value) (σ : gt_S) (o : gt_F), q.2 lv st σ = some o → gt_J (fun H locs pc ls st => W p l e R s m args below meth c H locs 0 0 Q (F0 m pc ls st)) D vwCl ks cA ad A H0 tx nL o.1 o.2.1 o.2.2.1 o.2.2.2 → gt_J (fun H locs pc ls st => W p l e R s m args below meth c H locs 0 0 Q (F0 m pc ls st)) D vwCl ks cA ad A H0 tx nL q.1 lv st σ
theorem gt_aV {l : Launch} {ks : gt_KS} {cc : ByteArray} {nL : Nat} {own : String} {R : Room} {y : MethodName} {cy : ByteArray} {maxL : Nat} {ret : Option FieldType} {rm : Room} {f : gt_G} {idx n rk : Nat} (hM : gt_M l ks y (gt_W y cy maxL ret) rm f) (hrm : rm.cells = 0 ∧ rm.slots = 0) (hR : rm.frames + 1 ≤ R.frames ∧ 8 + (maxL + 11) + rm.locals ≤ R.locals)
    (hcode : Cond.code y cy maxL ret ∈ gt_T) (hw : ∀ w ∈ ([.methodLink own idx y, .instanceMethod y, .selects y.cls y y, .initialized y.cls] : List Cond), w ∈ gt_T) (hd : y.cls ≠ "java/lang/invoke/MethodHandle" ∧ y.cls ≠ "java/lang/invoke/VarHandle" ∧ (parseMethodDescriptor y.desc).map (fun d => d.parameters.length) = some n)
    (hrc : ∀ (as : List Value) (σ : gt_S) (o : Option Value × gt_S), f as σ = some o → ∃ (b : Nat) (as' : List Value) (ci : Nat) (sl : List (Option (Option Nat))) (T : u_T) (N : Nat), as = .ref b :: as' ∧ gt_kd ks σ.2.2.2 b = some (.inr (ci, sl)) ∧ vwCl[ci]? = some (y.cls, T, N)) : gt_ckA l ks cc nL own R (idx, 0, rk, n + 1, f) :=
  fun _ _ _ _ _ _ _ _ _ _ _ _ _ _ _ X => gt_ckV X ⟨Nat.zero_le _, Nat.zero_le _⟩ hM hrm hR hcode hw hd hrc
theorem gt_aS {l : Launch} {ks : gt_KS} {cc : ByteArray} {nL : Nat} {own : String} {R : Room} {y : MethodName} {cy : ByteArray} {maxL : Nat} {ret : Option FieldType} {rm : Room} {f : gt_G} {idx n rk : Nat} (hM : gt_M l ks y (gt_W y cy maxL ret) rm f) (hrm : rm.cells = 0 ∧ rm.slots = 0) (hR : rm.frames + 1 ≤ R.frames ∧ 8 + (maxL + 11) + rm.locals ≤ R.locals)
    (hcode : Cond.code y cy maxL ret ∈ gt_T) (hl : Cond.methodLink own idx y ∈ gt_T ∨ ∃ host, Cond.methodLinkNest own idx y host ∈ gt_N) (hst : Cond.static y ∈ gt_T) (hini : Cond.initialized y.cls ∈ gt_T) (hd : y.cls ≠ "java/lang/invoke/MethodHandle" ∧ y.cls ≠ "java/lang/invoke/VarHandle" ∧ (parseMethodDescriptor y.desc).map (fun d => d.parameters.length) = some n) : gt_ckA l ks cc nL own R (idx, 1, rk, n, f) :=
  fun _ _ _ _ _ _ _ _ _ _ _ _ _ _ _ X => gt_ckS X ⟨Nat.zero_le _, Nat.zero_le _⟩ hM hrm hR hcode hl hst hini hd
def gt_ro (cc : ByteArray) (ret : Option FieldType) (b : gt_F) (r : Option Value) : Prop := b.2.2.1 = r.toList ∧ match r with
  | none => decode cc b.1 = .ok (.return_, 1) ∧ ret = none
  | some (.int v) => decode cc b.1 = .ok (.ireturn, 1) ∧ (ret = some .int ∨ (ret = some .boolean ∧ (v = 0 ∨ v = 1)))
  | some (.long _) => decode cc b.1 = .ok (.lreturn, 1) ∧ ret = some .long
  | some .null => decode cc b.1 = .ok (.areturn, 1) ∧ ∃ n, ret = some (.object n)
  | some (.ref _) => decode cc b.1 = .ok (.areturn, 1) ∧ ∃ n, ret = some (.object n)
  | _ => False
theorem gt_args_m (ad : Nat → Nat) : ∀ (as : List Value) (k : Nat), lv_args k (as.map (gt_v ad)) = (lv_args k as).map (gt_lm ad)
  | [], _ => rfl
  | v :: t, k => by
    rw [List.map_cons]
    unfold lv_args
    rw [List.map_cons, gt_v_cat, gt_args_m ad t]
    rfl
theorem gt_sl_len (ad : Nat → Nat) : ∀ (as : List Value), (lg_sl (as.map (gt_v ad))).length = (lg_sl as).length
  | [] => rfl
  | v :: t => by
    have ih := gt_sl_len ad t
    unfold lg_sl at ih ⊢
    rw [List.map_cons, List.flatMap_cons, List.flatMap_cons, List.length_append, List.length_append, ih, gt_v_cat]
    congr 1
    split <;> rfl
theorem gt_w_D {B : Nat → Prop} {ks : gt_KS} {cA : FieldType → Nat} {ad : Nat → Nat} {σ σ2 : gt_S} {sz : Nat} (hD : va_D B (gt_w ks cA ad σ)) (ht : σ2.2.2.2 = σ.2.2.2) : va_D (va_A (gt_w ks cA ad σ) sz) (gt_w ks cA ad σ2) := by
  have key : ∀ (k : Nat) (q : Nat × va_E), (gt_w ks cA ad σ2)[k]? = some q → ∃ e, (gt_w ks cA ad σ)[k]? = some (q.1, e) := by
    intro k q hk
    unfold gt_w at hk ⊢
    rw [List.getElem?_map] at hk ⊢
    rw [ht] at hk
    cases hr : (List.range (gt_n ks σ.2.2.2))[k]? with
    | none => rw [hr] at hk; cases hk
    | some x =>
      rw [hr] at hk
      cases hk
      exact ⟨_, rfl⟩
  refine ⟨fun i j x y hi hj hxy => ?_, fun k q hk => ?_⟩
  · obtain ⟨e1, h1⟩ := key i x hi
    obtain ⟨e2, h2⟩ := key j y hj
    exact hD.1 i j _ _ h1 h2 hxy
  · obtain ⟨e1, h1⟩ := key k q hk
    exact Or.inl ⟨k, e1, h1⟩
set_option maxHeartbeats 4000000 in
theorem gt_met {l : Launch} {ks : gt_KS} {y : MethodName} {cc : ByteArray} {maxL : Nat} {ret : Option FieldType} {rm : Room} {f : gt_G} {E : gt_E} {sp : List (Nat × List Nat)} {cs : List gt_I} (hy : plainName y.cls = true) (hd : gt_dok cc cs) (hE : gt_eok (gt_T ++ gt_N) y.cls vwCl E) (hC : ∀ q ∈ E.2.2.2.1, gt_ckA l ks cc maxL y.cls rm q) (hSp : ∀ q ∈ E.2.2.2.2, gt_spA l ks cc maxL y.cls rm q)
    (hf : ∀ (as : List Value) (σ : gt_S) (r : Option Value) (σ' : gt_S), f as σ = some (r, σ') → (lg_sl as).length ≤ maxL ∧ ∃ b : gt_F, gt_R ks maxL E sp cs (0, lv_args 0 as, [], σ) b ∧ b.2.2.2 = σ' ∧ gt_ro cc ret b r) : gt_M l ks y (gt_W y cc maxL ret) rm f := by
  intro D cA ad σ σ' as r sz hfs
  obtain ⟨hla, b, ⟨n, hR⟩, hσ, hro⟩ := hf as σ r σ' hfs
  refine Met.ofW (cc := cc) (maxL := maxL) (ret := ret) hy rfl ?_
  intro p e s m args below meth c s₁ B hml hv
  obtain ⟨rfl, hsz, hP, hK, hD0, hN⟩ := hv
  have hx := B.exec
  have hb := B.bytes
  have hr := B.returns
  have hts0 := atoms_spec (ws := gt_W y cc maxL ret) B.pre
  have hts : ∀ w ∈ gt_T, w.before (as.map (gt_v ad)).toArray s = true := fun w hw => hts0 w (List.mem_cons_of_mem _ hw)
  have hown : s.vm.findClass y.cls = some m.cls := findClass_of_methodNamed B.named
  have hlocks := B.notSynchronized
  subst hsz
  have hDD : ∀ σ2 : gt_S, σ2.2.2.2 = σ.2.2.2 → va_D (va_A (gt_w ks cA ad σ) s.heap.size) (gt_w ks cA ad σ2) := fun σ2 h2 => gt_w_D hD0 h2
  have hA : ∀ q : Nat, s.heap.size ≤ q → va_A (gt_w ks cA ad σ) s.heap.size q := fun q h => Or.inr h
  have X : gt_Ctx p s m (as.map (gt_v ad)).toArray c cc maxL y.cls D ks cA ad (va_A (gt_w ks cA ad σ) s.heap.size) s.heap σ.2.2.2 := ⟨hx, hb, hml, hown, hts, hK, hDD, hA, hN⟩
  have hts2 : ∀ w ∈ gt_T ++ gt_N, w.before (as.map (gt_v ad)).toArray s = true := fun w hw => (List.mem_append.mp hw).elim (hts w) (hN.use w)
  have key := gt_R_w (J := gt_J (fun H locs pc ls st => W p l e rm s m (as.map (gt_v ad)).toArray below meth c H locs 0 0 (MQ below (gt_Qc D ks cA ad σ σ' r s.heap.size) (as.map (gt_v ad)).toArray s 0 0 (va_A (gt_w ks cA ad σ) s.heap.size)) (F0 m pc ls st)) D vwCl ks cA ad (va_A (gt_w ks cA ad σ) s.heap.size) s.heap σ.2.2.2 maxL) (E := E) (sp := sp) hd
    (fun pc lv lv' st σ2 hsub hJ ht ls H locs hlv hP hS => hJ ht ls H locs ⟨hlv.1, hlv.2.1, fun q hq => by
      obtain ⟨x, hx1, rfl⟩ := List.mem_map.mp hq
      exact hlv.2.2 _ (List.mem_map.mpr ⟨x, hsub x hx1, rfl⟩)⟩ hP hS)
    (fun q hq hl lv st σ2 κ o h hκ => by
      unfold gt_st1 at h
      split at h
      · rename_i g hg
        obtain ⟨o2, ho, h⟩ := Option.bind_eq_some_iff.mp h
        exact hSp (q.1, g) (gt_lk_mem hg) p e s m _ below meth c _ D cA ad _ _ _ X lv st σ2 o2 ho (hκ _ _ _ _ h)
      · exact gt_stp_w rfl hx hb hown hts2 hK hDD hE (fun q hq => hC q hq p e s m _ below meth c _ D cA ad _ _ _ X) hq hl h hκ) n _ b hR
  have hl := lv_entry (as.map (gt_v ad)) (n := maxL) (by rw [gt_sl_len]; exact hla)
  rw [lg_entry_eq]
  rw [gt_args_m] at hl
  refine key ?_ rfl _ s.heap [] hl hP va_S.rf
  intro ht ls H locs hlv hPb hS
  rw [hσ] at hPb ht
  obtain ⟨hst, hro⟩ := hro
  rw [hst]
  rcases r with _ | ⟨v | v | v | v | _ | a | v⟩
  · obtain ⟨hdg, hret⟩ := hro
    exact W.vret hx hb (hr.trans hret) (fun t h9 hW => ⟨rfl, ht, by rw [h9]; exact hPb, hS.F h9⟩) hS.2.2 hdg
  · obtain ⟨hdg, hret⟩ := hro
    rcases hret with hret | ⟨hret, hv⟩
    · exact W.iret (v := v) hx hb (hr.trans hret) (fun t h9 hW => ⟨rfl, ht, by rw [h9]; exact hPb, hS.F h9⟩) hS.2.2 hdg
    · exact W.zret (v := v) (ty := .boolean) hx hb (hr.trans hret) (by rcases hv with rfl | rfl <;> rfl) (fun t h9 hW => ⟨rfl, ht, by rw [h9]; exact hPb, hS.F h9⟩) hS.2.2 hdg
  · obtain ⟨hdg, hret⟩ := hro
    exact W.lret (v := v) hx hb (hr.trans hret) (fun t h9 hW => ⟨rfl, ht, by rw [h9]; exact hPb, hS.F h9⟩) hS.2.2 hdg
  · exact hro.elim
  · exact hro.elim
  · obtain ⟨hdg, nm, hret⟩ := hro
    exact W.aret (v := .null) hx hb (hr.trans hret) (Or.inl ⟨_, rfl⟩) (Or.inl rfl) (fun t h9 hW => ⟨rfl, ht, by rw [h9]; exact hPb, hS.F h9⟩) hS.2.2 hdg
  · obtain ⟨hdg, nm, hret⟩ := hro
    exact W.aret (v := .ref (ad a)) hx hb (hr.trans hret) (Or.inl ⟨_, rfl⟩) (Or.inr ⟨_, rfl⟩) (fun t h9 hW => ⟨rfl, ht, by rw [h9]; exact hPb, hS.F h9⟩) hS.2.2 hdg
  · exact hro.elim
end
section
/-! what a method does, as a function: where its run ends. (nL, tables, stops, code list, bytes, return type, class of the receiver) -/
abbrev gt_Y : Type := Nat × gt_E × List (Nat × List Nat) × List gt_I × ByteArray × Option FieldType × Option Nat
def gt_rv (ks : gt_KS) (ci : Option Nat) (as : List Value) (σ : gt_S) : Prop := match ci with
  | none => True
  | some ci => ∃ (b : Nat) (as' : List Value) (sl : List (Option (Option Nat))), as = .ref b :: as' ∧ gt_kd ks σ.2.2.2 b = some (.inr (ci, sl))
def gt_run (ks : gt_KS) (Y : gt_Y) (as : List Value) (σ : gt_S) (o : Option Value × gt_S) : Prop := gt_rv ks Y.2.2.2.2.2.2 as σ ∧ (lg_sl as).length ≤ Y.1 ∧ ∃ b : gt_F, gt_R ks Y.1 Y.2.1 Y.2.2.1 Y.2.2.2.1 (0, lv_args 0 as, [], σ) b ∧ b.2.2.2 = o.2 ∧ gt_ro Y.2.2.2.2.1 Y.2.2.2.2.2.1 b o.1
noncomputable def gt_sem (ks : gt_KS) (Y : gt_Y) : gt_G := fun as σ => @dite (Option (Option Value × gt_S)) (∃ o, gt_run ks Y as σ o) (Classical.propDecidable _) (fun h => some h.choose) (fun _ => none)
theorem gt_sem_s {ks : gt_KS} {Y : gt_Y} {as : List Value} {σ : gt_S} {o : Option Value × gt_S} (h : gt_sem ks Y as σ = some o) : gt_run ks Y as σ o := by
  unfold gt_sem at h
  split at h
  · rename_i hx
    cases h
    exact hx.choose_spec
  · cases h
def gt_isR : Instr → Bool
  | .ireturn => true
  | .lreturn => true
  | .areturn => true
  | .return_ => true
  | _ => false
theorem gt_ro_r {cc : ByteArray} {ret : Option FieldType} {b : gt_F} {r : Option Value} (h : gt_ro cc ret b r) : ∃ i, decode cc b.1 = .ok (i, 1) ∧ gt_isR i = true := by
  obtain ⟨-, h⟩ := h
  split at h
  · exact ⟨_, h.1, rfl⟩
  · exact ⟨_, h.1, rfl⟩
  · exact ⟨_, h.1, rfl⟩
  · exact ⟨_, h.1, rfl⟩
  · exact ⟨_, h.1, rfl⟩
  · exact h.elim
/-- no special step stands at a return -/
def gt_nsp (E : gt_E) (cs : List gt_I) : Bool := cs.all fun q => !(gt_isR q.2.1) || (gt_lk E.2.2.2.2 q.1).isNone
theorem gt_stp_r {ks : gt_KS} {nL : Nat} {E : gt_E} {q : gt_I} {lv : gt_L} {st : List Value} {σ : gt_S} {κ : gt_C} (h : gt_isR q.2.1 = true) : gt_stp ks nL E q lv st σ κ = none := by
  obtain ⟨pc, i, len⟩ := q
  cases i <;> first | rfl | cases h
theorem gt_end {ks : gt_KS} {nL : Nat} {E : gt_E} {sp : List (Nat × List Nat)} {cs : List gt_I} {cc : ByteArray} (hd : gt_dok cc cs) (hn0 : gt_nsp E cs = true) {ret : Option FieldType} {b : gt_F} {r : Option Value} (h : gt_ro cc ret b r) : ∀ (n : Nat) (d : gt_F), gt_it ks nL E sp cs n b = some d → n = 0
  | 0, _, _ => rfl
  | n + 1, d, hn => by
    exfalso
    unfold gt_it at hn
    obtain ⟨x, hx, -⟩ := Option.bind_eq_some_iff.mp hn
    obtain ⟨i, h1, h2⟩ := gt_ro_r h
    cases hs : gt_sk b.1 cs with
    | nil =>
      rw [hs] at hx
      cases hx
    | cons q t =>
      rw [hs] at hx
      have e1 := gt_sk_hd hs
      have hqm := gt_sk_sub (q := q) (by rw [hs]; exact List.mem_cons_self)
      have e2 := (hd q hqm).1
      have e3 := List.all_eq_true.mp hn0 q hqm
      rw [e1, h1] at e2
      obtain ⟨qp, qi, ql⟩ := q
      dsimp only at e2 e3
      cases e2
      rw [h2] at e3
      have e4 : gt_lk E.2.2.2.2 qp = none := by simpa using e3
      unfold gt_bx at hx
      dsimp only at hx
      unfold gt_st1 at hx
      dsimp only at hx
      rw [e4] at hx
      dsimp only at hx
      rw [gt_stp_r h2] at hx
      cases hx
theorem gt_uni {ks : gt_KS} {nL : Nat} {E : gt_E} {sp : List (Nat × List Nat)} {cs : List gt_I} {cc : ByteArray} (hd : gt_dok cc cs) (hn0 : gt_nsp E cs = true) {ret : Option FieldType} {a b b' : gt_F} {r r' : Option Value} (h : gt_ro cc ret b r) (h' : gt_ro cc ret b' r') : ∀ (n k : Nat) (a : gt_F), gt_it ks nL E sp cs n a = some b → gt_it ks nL E sp cs k a = some b' → b = b'
  | 0, k, a, h1, h2 => by
    cases h1
    have := gt_end hd hn0 h k b' h2
    subst this
    cases h2
    rfl
  | n + 1, 0, a, h1, h2 => by
    cases h2
    have := gt_end hd hn0 h' (n + 1) b h1
    omega
  | n + 1, k + 1, a, h1, h2 => by
    unfold gt_it at h1 h2
    obtain ⟨x, hx, h1⟩ := Option.bind_eq_some_iff.mp h1
    obtain ⟨z, hz, h2⟩ := Option.bind_eq_some_iff.mp h2
    rw [hx] at hz
    cases hz
    exact gt_uni (a := a) hd hn0 h h' n k x h1 h2
theorem gt_sem_i {ks : gt_KS} {Y : gt_Y} (hd : gt_dok Y.2.2.2.2.1 Y.2.2.2.1) (hn0 : gt_nsp Y.2.1 Y.2.2.2.1 = true) {as : List Value} {σ : gt_S} {o : Option Value × gt_S} (h : gt_run ks Y as σ o) : gt_sem ks Y as σ = some o := by
  unfold gt_sem
  split
  · rename_i hx
    have h2 := hx.choose_spec
    obtain ⟨-, -, b, ⟨n, hb⟩, h3, h4⟩ := h
    obtain ⟨-, -, b', ⟨n', hb'⟩, h3', h4'⟩ := h2
    have e := gt_uni (a := b) hd hn0 h4 h4' n n' _ hb hb'
    subst e
    congr 1
    have e1 : hx.choose.1 = o.1 := by
      have := h4.1.symm.trans h4'.1
      cases h9 : o.1 <;> cases h8 : hx.choose.1 <;> rw [h9, h8] at this <;> simp at this
      rw [this]
    exact Prod.ext e1 (h3'.symm.trans h3)
  · rename_i hx
    exact absurd ⟨o, h⟩ hx
theorem gt_noS {l : Launch} {ks : gt_KS} {cc : ByteArray} {nL : Nat} {own : String} {R : Room} : ∀ q ∈ ([] : List (Nat × (gt_L → List Value → gt_S → Option gt_F))), gt_spA l ks cc nL own R q := fun _ h => absurd h List.not_mem_nil
theorem gt_metS {l : Launch} {ks : gt_KS} {y : MethodName} {Y : gt_Y} {rm : Room} (hy : plainName y.cls = true) (hd : gt_dok Y.2.2.2.2.1 Y.2.2.2.1) (hE : gt_eok (gt_T ++ gt_N) y.cls vwCl Y.2.1) (hC : ∀ q ∈ Y.2.1.2.2.2.1, gt_ckA l ks Y.2.2.2.2.1 Y.1 y.cls rm q) (hSp : ∀ q ∈ Y.2.1.2.2.2.2, gt_spA l ks Y.2.2.2.2.1 Y.1 y.cls rm q) : gt_M l ks y (gt_W y Y.2.2.2.2.1 Y.1 Y.2.2.2.2.2.1) rm (gt_sem ks Y) :=
  gt_met (E := Y.2.1) (sp := Y.2.2.1) (cs := Y.2.2.2.1) hy hd hE hC hSp (fun _ _ _ _ h => (gt_sem_s h).2)
theorem gt_semrc {ks : gt_KS} {Y : gt_Y} {ci : Nat} {cls : String} {T : u_T} {N : Nat} (hY : Y.2.2.2.2.2.2 = some ci) (hc : vwCl[ci]? = some (cls, T, N)) (as : List Value) (σ : gt_S) (o : Option Value × gt_S) (h : gt_sem ks Y as σ = some o) : ∃ (b : Nat) (as' : List Value) (ci : Nat) (sl : List (Option (Option Nat))) (T : u_T) (N : Nat), as = .ref b :: as' ∧ gt_kd ks σ.2.2.2 b = some (.inr (ci, sl)) ∧ vwCl[ci]? = some (cls, T, N) := by
  have h1 := (gt_sem_s h).1
  unfold gt_rv at h1
  rw [hY] at h1
  obtain ⟨b, as', sl, e1, e2⟩ := h1
  exact ⟨b, as', ci, sl, T, N, e1, e2, hc⟩
theorem gt_nsp0 {E : gt_E} {cs : List gt_I} (h : E.2.2.2.2 = []) : gt_nsp E cs = true := by
  unfold gt_nsp
  rw [List.all_eq_true]
  intro q _
  rw [h]
  simp [gt_lk]
end
section
/-! System.arraycopy -/
def gt_cpy {α : Type} (f : Nat → Nat → α) (a sp b dp n : Nat) : Nat → Nat → α := fun j k => if j = b then va_cpy (f a) (f b) sp dp n k else f j k
def gt_acp (ks : gt_KS) : gt_G := fun as σ => match as with
  | [.ref a, .int sp, .ref b, .int dp, .int n] => (match gt_kd ks σ.2.2.2 a, gt_kd ks σ.2.2.2 b with
    | some (.inl (.int, n0, _)), some (.inl (.int, n1, _)) => if sp < 0 ∨ dp < 0 ∨ n < 0 ∨ n0 < sp.toNatClampNeg + n.toNatClampNeg ∨ n1 < dp.toNatClampNeg + n.toNatClampNeg then none else some (none, (gt_cpy σ.1 a sp.toNatClampNeg b dp.toNatClampNeg n.toNatClampNeg, σ.2))
    | some (.inl (.long, n0, _)), some (.inl (.long, n1, _)) => if sp < 0 ∨ dp < 0 ∨ n < 0 ∨ n0 < sp.toNatClampNeg + n.toNatClampNeg ∨ n1 < dp.toNatClampNeg + n.toNatClampNeg then none else some (none, (σ.1, gt_cpy σ.2.1 a sp.toNatClampNeg b dp.toNatClampNeg n.toNatClampNeg, σ.2.2))
    | _, _ => none)
  | _ => none
theorem gt_cpy_ne {α : Type} {f : Nat → Nat → α} {a sp b dp n i : Nat} (h : i ≠ b) : gt_cpy f a sp b dp n i = f i := by
  funext k
  simp [gt_cpy, h]
theorem gt_cpy_self {α : Type} {f : Nat → Nat → α} {a sp b dp n : Nat} : gt_cpy f a sp b dp n b = va_cpy (f a) (f b) sp dp n := by
  funext k
  simp [gt_cpy]
theorem gt_aCp {l : Launch} {ks : gt_KS} {cc : ByteArray} {nL : Nat} {own : String} {R : Room} {idx : Nat} (hl : Cond.methodLink own idx arraycopyName ∈ gt_T) (hnat : Cond.native arraycopyName ∈ gt_T) (hst : Cond.static arraycopyName ∈ gt_T) (hini : Cond.initialized "java/lang/System" ∈ gt_T) (hf : 1 ≤ R.frames) (hlo : 8 + (nativeFrameWords "java/lang/System" "arraycopy" 5 + 11) ≤ R.locals) : gt_ckA l ks cc nL own R (idx, 1, 0, 5, gt_acp ks) := by
  intro p e s m args below meth c Q D cA ad A H0 tx X
  obtain ⟨hx, hb, hml, hown, hts, hK, hDD, hA, hN⟩ := X
  intro pc lv as rest σ σ' r hdg hlen hfs hsum hJ
  dsimp only at hfs
  unfold gt_acp at hfs
  split at hfs
  · rename_i a sp b dp n
    split at hfs
    · rename_i n0 rs0 n1 rs1 ha hb2
      split at hfs
      · cases hfs
      · rename_i hno
        cases hfs
        intro ht ls H locs hlv hP hS
        refine va_copyi (rest := rest.map (gt_v ad)) hx hb (by rw [hml]; exact hlv.1.symm) hown (hts _ hl) (hts _ hnat) (hts _ hst) (hts _ hini) hK hP (hDD σ ht) hS a b 0 0 (gt_w_at (cA := cA) (ad := ad) ha) (gt_w_at (cA := cA) (ad := ad) hb2) rfl rfl rfl (fun q => hno (Or.inl q)) (fun q => hno (Or.inr (Or.inl q))) (fun q => hno (Or.inr (Or.inr (Or.inl q)))) (Nat.not_lt.mp fun q => hno (Or.inr (Or.inr (Or.inr (Or.inl q))))) (Nat.not_lt.mp fun q => hno (Or.inr (Or.inr (Or.inr (Or.inr q))))) (fun _ _ => rfl) hf (by rw [gt_sum_map]; omega) hdg (fun H1 locs1 hP1 _ hS1 => ?_)
        refine hJ ht ls H1 locs1 hlv ?_ hS1
        rw [← gt_w_set (cA := cA) (ad := ad) (σ := σ) (σ' := (gt_cpy σ.1 a sp.toNatClampNeg b dp.toNatClampNeg n.toNatClampNeg, σ.2)) rfl (fun i hi => ⟨gt_cpy_ne hi, rfl, rfl⟩) hb2]
        unfold gt_c gt_ct
        dsimp only
        rw [gt_cpy_self]
        exact hP1
    · rename_i n0 rs0 n1 rs1 ha hb2
      split at hfs
      · cases hfs
      · rename_i hno
        cases hfs
        intro ht ls H locs hlv hP hS
        refine va_copyl (rest := rest.map (gt_v ad)) hx hb (by rw [hml]; exact hlv.1.symm) hown (hts _ hl) (hts _ hnat) (hts _ hst) (hts _ hini) hK hP (hDD σ ht) hS a b 1 1 (gt_w_at (cA := cA) (ad := ad) ha) (gt_w_at (cA := cA) (ad := ad) hb2) rfl rfl rfl (fun q => hno (Or.inl q)) (fun q => hno (Or.inr (Or.inl q))) (fun q => hno (Or.inr (Or.inr (Or.inl q)))) (Nat.not_lt.mp fun q => hno (Or.inr (Or.inr (Or.inr (Or.inl q))))) (Nat.not_lt.mp fun q => hno (Or.inr (Or.inr (Or.inr (Or.inr q))))) (fun _ _ => rfl) hf (by rw [gt_sum_map]; omega) hdg (fun H1 locs1 hP1 _ hS1 => ?_)
        refine hJ ht ls H1 locs1 hlv ?_ hS1
        rw [← gt_w_set (cA := cA) (ad := ad) (σ := σ) (σ' := (σ.1, gt_cpy σ.2.1 a sp.toNatClampNeg b dp.toNatClampNeg n.toNatClampNeg, σ.2.2)) rfl (fun i hi => ⟨rfl, gt_cpy_ne hi, rfl⟩) hb2]
        unfold gt_c gt_ct
        dsimp only
        rw [gt_cpy_self]
        exact hP1
    · cases hfs
  · cases hfs
/-! Math.max, Math.min -/
def gt_mx : gt_G := fun as σ => match as with
  | [.int x, .int y] => some (some (.int (if x < y then y else x)), σ)
  | _ => none
def gt_mn : gt_G := fun as σ => match as with
  | [.int x, .int y] => some (some (.int (if y < x then y else x)), σ)
  | _ => none
def gt_mxl : gt_G := fun as σ => match as with
  | [.long x, .long y] => some (some (.long (if y < x then x else y)), σ)
  | _ => none
def gt_mnl : gt_G := fun as σ => match as with
  | [.long x, .long y] => some (some (.long (if y < x then y else x)), σ)
  | _ => none
theorem gt_aMx {l : Launch} {ks : gt_KS} {cc : ByteArray} {nL : Nat} {own : String} {R : Room} {idx : Nat} (hl : Cond.methodLink own idx Lib.Math.max.name ∈ gt_T) (hst : Cond.static Lib.Math.max.name ∈ gt_T) (hini : Cond.initialized "java/lang/Math" ∈ gt_T) (hc : Cond.code Lib.Math.max.name Lib.Math.max.code 2 (some .int) ∈ gt_T) (hf : 1 ≤ R.frames) (hlo : 21 ≤ R.locals) : gt_ckA l ks cc nL own R (idx, 1, 1, 2, gt_mx) := by
  intro p e s m args below meth c Q D cA ad A H0 tx X
  obtain ⟨hx, hb, hml, hown, hts, hK, hDD, hA, hN⟩ := X
  intro pc lv as rest σ σ' r hdg hlen hfs hsum hJ
  dsimp only at hfs
  unfold gt_mx at hfs
  split at hfs
  · cases hfs
    intro ht ls H locs hlv hP hS
    exact va_mmax (rest := rest.map (gt_v ad)) hx hb (by rw [hml]; exact hlv.1.symm) hown (hts _ hl) (hts _ hst) (hts _ hini) (hts _ hc) hf (by rw [gt_sum_map]; omega) (Nat.zero_le _) (Nat.zero_le _) hdg (hJ ht ls H locs hlv hP hS)
  · cases hfs
theorem gt_aMn {l : Launch} {ks : gt_KS} {cc : ByteArray} {nL : Nat} {own : String} {R : Room} {idx : Nat} (hl : Cond.methodLink own idx Lib.Math.min.name ∈ gt_T) (hst : Cond.static Lib.Math.min.name ∈ gt_T) (hini : Cond.initialized "java/lang/Math" ∈ gt_T) (hc : Cond.code Lib.Math.min.name Lib.Math.min.code 2 (some .int) ∈ gt_T) (hf : 1 ≤ R.frames) (hlo : 21 ≤ R.locals) : gt_ckA l ks cc nL own R (idx, 1, 1, 2, gt_mn) := by
  intro p e s m args below meth c Q D cA ad A H0 tx X
  obtain ⟨hx, hb, hml, hown, hts, hK, hDD, hA, hN⟩ := X
  intro pc lv as rest σ σ' r hdg hlen hfs hsum hJ
  dsimp only at hfs
  unfold gt_mn at hfs
  split at hfs
  · cases hfs
    intro ht ls H locs hlv hP hS
    exact va_mmin (rest := rest.map (gt_v ad)) hx hb (by rw [hml]; exact hlv.1.symm) hown (hts _ hl) (hts _ hst) (hts _ hini) (hts _ hc) hf (by rw [gt_sum_map]; omega) (Nat.zero_le _) (Nat.zero_le _) hdg (hJ ht ls H locs hlv hP hS)
  · cases hfs
theorem gt_aMxl {l : Launch} {ks : gt_KS} {cc : ByteArray} {nL : Nat} {own : String} {R : Room} {idx : Nat} (hl : Cond.methodLink own idx Lib.MathLoose.max_long.x ∈ gt_T) (hst : Cond.static Lib.MathLoose.max_long.x ∈ gt_T) (hini : Cond.initialized "java/lang/Math" ∈ gt_T) (hc : Cond.code Lib.MathLoose.max_long.x Lib.MathLoose.max_long.code 4 (some .long) ∈ gt_T) (hf : 1 ≤ R.frames) (hlo : 23 ≤ R.locals) : gt_ckA l ks cc nL own R (idx, 1, 2, 2, gt_mxl) := by
  intro p e s m args below meth c Q D cA ad A H0 tx X
  obtain ⟨hx, hb, hml, hown, hts, hK, hDD, hA, hN⟩ := X
  intro pc lv as rest σ σ' r hdg hlen hfs hsum hJ
  dsimp only at hfs
  unfold gt_mxl at hfs
  split at hfs
  · cases hfs
    intro ht ls H locs hlv hP hS
    exact va_mmax_long (rest := rest.map (gt_v ad)) hx hb (by rw [hml]; exact hlv.1.symm) hown (hts _ hl) (hts _ hst) (hts _ hini) (hts _ hc) hf (by rw [gt_sum_map]; omega) (Nat.zero_le _) (Nat.zero_le _) hdg (hJ ht ls H locs hlv hP hS)
  · cases hfs
theorem gt_aMnl {l : Launch} {ks : gt_KS} {cc : ByteArray} {nL : Nat} {own : String} {R : Room} {idx : Nat} (hl : Cond.methodLink own idx Lib.MathLoose.min_long.x ∈ gt_T) (hst : Cond.static Lib.MathLoose.min_long.x ∈ gt_T) (hini : Cond.initialized "java/lang/Math" ∈ gt_T) (hc : Cond.code Lib.MathLoose.min_long.x Lib.MathLoose.min_long.code 4 (some .long) ∈ gt_T) (hf : 1 ≤ R.frames) (hlo : 23 ≤ R.locals) : gt_ckA l ks cc nL own R (idx, 1, 2, 2, gt_mnl) := by
  intro p e s m args below meth c Q D cA ad A H0 tx X
  obtain ⟨hx, hb, hml, hown, hts, hK, hDD, hA, hN⟩ := X
  intro pc lv as rest σ σ' r hdg hlen hfs hsum hJ
  dsimp only at hfs
  unfold gt_mnl at hfs
  split at hfs
  · cases hfs
    intro ht ls H locs hlv hP hS
    exact va_mmin_long (rest := rest.map (gt_v ad)) hx hb (by rw [hml]; exact hlv.1.symm) hown (hts _ hl) (hts _ hst) (hts _ hini) (hts _ hc) hf (by rw [gt_sum_map]; omega) (Nat.zero_le _) (Nat.zero_le _) hdg (hJ ht ls H locs hlv hP hS)
  · cases hfs
end
section
/-! cells that come: a layout that grows at its end -/
def gt_ksc (n : Nat) : gt_K → Prop
  | .inl q => ∀ r ∈ q.2.2, r < n
  | .inr q => ∀ x ∈ q.2, ∀ r, x = some (some r) → r = 999999 ∨ r < n
def gt_vsc (n : Nat) : Value → Prop
  | .ref r => r < n
  | .retAddr _ => n < 1000000
  | _ => True
def gt_ssc (n : Nat) (σ : gt_S) : Prop := ∀ j k r, σ.2.2.1 j k = some r → r < n
/-- a layout's references stay within it -/
def gt_wf (ks : gt_KS) : Prop := ∀ j k, j < ks.2 → ks.1 j = some k → gt_ksc ks.2 k
def gt_up (ad : Nat → Nat) (n q : Nat) : Nat → Nat := fun j => if j = n then q else ad j
def gt_add (ks : gt_KS) (k : gt_K) : gt_KS := (fun j => if j = ks.2 then some k else ks.1 j, ks.2 + 1)
theorem gt_up_lt {ad : Nat → Nat} {n q r : Nat} (h : r < n) : gt_up ad n q r = ad r := if_neg (Nat.ne_of_lt h)
theorem gt_up_self {ad : Nat → Nat} {n q : Nat} : gt_up ad n q n = q := if_pos rfl
theorem gt_v_up {ad : Nat → Nat} {n q : Nat} {v : Value} (h : gt_vsc n v) : gt_v (gt_up ad n q) v = gt_v ad v := by
  cases v <;> try rfl
  · exact congrArg Value.ref (gt_up_lt h)
  · rename_i k
    have h1 : n < 1000000 := h
    exact congrArg Value.ref (if_neg (by omega))
theorem gt_lm_up {ad : Nat → Nat} {n q : Nat} {lv : gt_L} (h : ∀ x ∈ lv, gt_vsc n x.2) : lv.map (gt_lm (gt_up ad n q)) = lv.map (gt_lm ad) := by
  apply List.map_congr_left
  intro x hx
  unfold gt_lm
  rw [gt_v_up (h x hx)]
theorem gt_st_up {ad : Nat → Nat} {n q : Nat} {st : List Value} (h : ∀ x ∈ st, gt_vsc n x) : st.map (gt_v (gt_up ad n q)) = st.map (gt_v ad) := by
  apply List.map_congr_left
  intro x hx
  exact gt_v_up (h x hx)
theorem gt_sv_up {ad : Nat → Nat} {n q : Nat} {σ : gt_S} {j k : Nat} {x : Option (Option Nat)} (h : ∀ r, x = some (some r) → r = 999999 ∨ r < n) : gt_sv (gt_up ad n q) σ j k x = gt_sv ad σ j k x := by
  rcases x with _ | _ | r
  · rfl
  · rfl
  · unfold gt_sv
    dsimp only
    rcases h r rfl with h | h
    · rw [if_pos h, if_pos h]
    · rw [gt_up_lt h]
theorem gt_fv_up {ad : Nat → Nat} {n q : Nat} {σ : gt_S} {j : Nat} : ∀ (sl : List (Option (Option Nat))) (k : Nat), (∀ x ∈ sl, ∀ r, x = some (some r) → r = 999999 ∨ r < n) → gt_fv (gt_up ad n q) σ j k sl = gt_fv ad σ j k sl
  | [], _, _ => rfl
  | x :: t, k, h => by
    unfold gt_fv
    rw [gt_sv_up (h x List.mem_cons_self), gt_fv_up t (k + 1) (fun y hy => h y (List.mem_cons_of_mem _ hy))]
theorem gt_c_up {cA : FieldType → Nat} {ad : Nat → Nat} {n q : Nat} {σ : gt_S} {j : Nat} {k : gt_K} (hk : gt_ksc n k) (hs : gt_ssc n σ) : gt_c cA (gt_up ad n q) σ j k = gt_c cA ad σ j k := by
  rcases k with ⟨ty, n0, rs⟩ | ⟨ci, sl⟩
  · have hr : (fun k => (gt_rf rs σ j k).map (gt_up ad n q)) = fun k => (gt_rf rs σ j k).map ad := by
      funext k
      cases hx : gt_rf rs σ j k with
      | none => rfl
      | some r =>
        have hlt : r < n := by
          unfold gt_rf at hx
          split at hx
          · exact hs j k r hx
          · exact hk r (List.mem_of_getElem? hx)
        simp only [Option.map_some]
        rw [gt_up_lt hlt]
    unfold gt_c gt_ct
    dsimp only
    rw [hr]
  · unfold gt_c
    dsimp only
    rw [gt_fv_up sl 0 hk]
theorem gt_w_add {ks : gt_KS} {cA : FieldType → Nat} {ad : Nat → Nat} {q : Nat} {σ : gt_S} {k0 : gt_K} (ht : σ.2.2.2 = []) (hw : gt_wf ks) (hs : gt_ssc ks.2 σ) : gt_w (gt_add ks k0) cA (gt_up ad ks.2 q) σ = gt_w ks cA ad σ ++ [(q, gt_c cA (gt_up ad ks.2 q) σ ks.2 k0)] := by
  unfold gt_w gt_n gt_add
  rw [ht]
  simp only [List.length_nil, Nat.mul_zero, Nat.add_zero]
  rw [List.range_succ, List.map_append, List.map_cons, List.map_nil]
  congr 1
  · apply List.map_congr_left
    intro j hj
    have hj := List.mem_range.mp hj
    have e1 : gt_kd (fun j => if j = ks.2 then some k0 else ks.1 j, ks.2 + 1) [] j = gt_kd ks [] j := by
      unfold gt_kd
      dsimp only
      rw [if_pos (by omega), if_pos hj, if_neg (by omega)]
    rw [gt_up_lt hj, e1]
    congr 1
    cases hk : gt_kd ks [] j with
    | none => rfl
    | some k =>
      dsimp only
      apply gt_c_up _ hs
      refine hw j k hj ?_
      unfold gt_kd at hk
      rwa [if_pos hj] at hk
  · have e2 : gt_kd (fun j => if j = ks.2 then some k0 else ks.1 j, ks.2 + 1) [] ks.2 = some k0 := by
      unfold gt_kd
      dsimp only
      rw [if_pos (by omega), if_pos rfl]
    rw [e2, gt_up_self]
theorem gt_add_wf {ks : gt_KS} {k0 : gt_K} (hw : gt_wf ks) (h0 : gt_ksc (ks.2 + 1) k0) : gt_wf (gt_add ks k0) := by
  intro j k hj hk
  unfold gt_add at hj hk
  dsimp only at hj hk
  split at hk
  · cases hk
    exact h0
  · have h1 := hw j k (by omega) hk
    rcases k with q | q
    · exact fun r hr => Nat.lt_succ_of_lt (h1 r hr)
    · exact fun x hx r hr => (h1 x hx r hr).imp id Nat.lt_succ_of_lt
/-- the judgement over a growing layout: k cells of n slots have come -/
def gt_JK (Wm : Heap → List Loc → Nat → Nat → Nat → Array Slot → List Value → Prop) (D : va_G) (cl : List vw_C) (cA : FieldType → Nat) (A : Nat → Prop) (H0 : Heap) (nL : Nat) (Pa : (Nat → Nat) → Prop) (pc : Nat) (lv : gt_L) (st : List Value) (ks : gt_KS) (σ : gt_S) (k n : Nat) : Prop :=
  ∀ (ad : Nat → Nat) (ls : Array Slot) (H : Heap) (locs : List Loc), Pa ad → lv_has ls nL (lv.map (gt_lm ad)) → va_P D cl (gt_w ks cA ad σ) H → va_D A (gt_w ks cA ad σ) → va_S A H0 H locs → Wm H locs k n pc ls (st.map (gt_v ad))
/-- what stands when a layout grows: well-formed, all within -/
def gt_ok (ks : gt_KS) (σ : gt_S) (lv : gt_L) (st : List Value) : Prop := σ.2.2.2 = [] ∧ gt_wf ks ∧ gt_ssc ks.2 σ ∧ (∀ x ∈ lv, gt_vsc ks.2 x.2) ∧ ∀ x ∈ st, gt_vsc ks.2 x
section GTK
variable {p : Program} {l : Launch} {e : Env} {R : Room} {s : State} {m : MethodId} {args : Array Value} {below : List Frame} {meth : Method} {c : Code} {Q : State → Prop}
variable {cc : ByteArray} {D : va_G} {cA : FieldType → Nat} {A : Nat → Prop} {H0 : Heap} {nL : Nat} {own : String} {Pa : (Nat → Nat) → Prop}
theorem gt_k_newa (hx : p.tables.exec = Jvm.exec) (hb : c.code = cc) (hts : ∀ w ∈ gt_T, w.before args s = true) (hK : va_K D vwCl (gt_tys cA) s) (hA : ∀ q, H0.size ≤ q → A q) {ks : gt_KS} {σ : gt_S} {lv : gt_L} {st : List Value} (hok : gt_ok ks σ lv st) (hPa : ∀ ad q, Pa ad → Pa (gt_up ad ks.2 q)) {atype : ArrayType} {ty : FieldType} (hty : newarray.typeOf atype = ty) {t0 : Nat} (ht : (gt_tys cA)[t0]? = some (cA ty, ty)) (hz : (ty = .int ∨ ty = .boolean) ∧ σ.1 ks.2 = (fun _ => 0) ∨ ty = .long ∧ σ.2.1 ks.2 = fun _ => 0)
    (harr : Cond.arrayClass ty ∈ gt_T) {x : Int32} {N k n pc : Nat} (hn : ¬ x < 0) (hN : x.toNatClampNeg = N) (hbytes : N * componentBytes ty ≤ 536870912) (hcells : k + 1 ≤ R.cells) (hslots : n + N ≤ R.slots) (hdg : decode cc pc = .ok (.newarray atype, 2))
    (h : gt_JK (fun H locs k n pc ls st => W p l e R s m args below meth c H locs k n Q (F0 m pc ls st)) D vwCl cA A H0 nL Pa (pc + 2) lv (.ref ks.2 :: st) (gt_add ks (.inl (ty, N, []))) σ (k + 1) (n + N)) :
    gt_JK (fun H locs k n pc ls st => W p l e R s m args below meth c H locs k n Q (F0 m pc ls st)) D vwCl cA A H0 nL Pa pc lv (.int x :: st) ks σ k n := by
  intro ad ls H locs hpa hlv hP hD hS
  obtain ⟨htx, hw, hs, hlvs, hsts⟩ := hok
  have ha : ∀ cB : ClassId, vp_cell cB (N, gt_ct (fun j => j) σ ks.2 ty []) = arrV cB N (fun _ => defaultValue ty) := by
    intro cB
    rcases hz with ⟨rfl | rfl, hz⟩ | ⟨rfl, hz⟩
    · unfold gt_ct; dsimp only; rw [hz]; rfl
    · unfold gt_ct; dsimp only; rw [hz]; rfl
    · unfold gt_ct; dsimp only; rw [hz]; rfl
  refine va_newa hx hb (by rw [hty]; exact hts _ harr) hty hK hP hD hS hA ha hn hN hbytes hcells hslots hdg (fun q cB H1 hK1 hP1 hD1 hS1 => ?_)
  have hcB : cB = cA ty := by
    have e1 := (hK1.2 (gt_tys cA).length (cB, ty) (by rw [List.getElem?_append_right (Nat.le_refl _), Nat.sub_self]; rfl)).2
    have e2 := (hK.2 t0 _ ht).2
    rcases hz with ⟨rfl | rfl, -⟩ | ⟨rfl, -⟩ <;> exact Option.some.inj (e1.symm.trans e2)
  subst hcB
  have hct : ∀ ad' : Nat → Nat, gt_ct ad' σ ks.2 ty [] = gt_ct (fun j => j) σ ks.2 ty [] := by
    intro ad'
    rcases hz with ⟨rfl | rfl, -⟩ | ⟨rfl, -⟩ <;> rfl
  have hwe := gt_w_add (cA := cA) (ad := ad) (q := q) (k0 := .inl (ty, N, [])) htx hw hs
  have hce : gt_c cA (gt_up ad ks.2 q) σ ks.2 (.inl (ty, N, [])) = .inl (cA ty, N, gt_ct (fun j => j) σ ks.2 ty []) := by
    unfold gt_c
    dsimp only
    rw [hct]
  rw [hce] at hwe
  have := h (gt_up ad ks.2 q) ls H1 locs (hPa ad q hpa) (by rw [gt_lm_up hlvs]; exact hlv) (by rw [hwe]; exact hP1) (by rw [hwe]; exact hD1) hS1
  rw [List.map_cons, gt_st_up hsts] at this
  rw [show gt_v (gt_up ad ks.2 q) (.ref ks.2) = .ref q from congrArg Value.ref gt_up_self] at this
  exact this
end GTK
/-- the slots of a new object: numbers 0, references null -/
def gt_dfl (ty : FieldType) : Option (Option Nat) := match ty with
  | .long => some none
  | .object _ => some (some 999999)
  | .array _ => some (some 999999)
  | _ => none
def gt_dsl (ty : Nat → FieldType) (N : Nat) : List (Option (Option Nat)) := (List.range N).map fun j => gt_dfl (ty j)
def gt_okt (ty : FieldType) : Bool := match ty with
  | .int => true
  | .long => true
  | .boolean => true
  | .object _ => true
  | .array _ => true
  | _ => false
theorem gt_dfl_v {ad : Nat → Nat} {σ : gt_S} {j k : Nat} {ty : FieldType} (h1 : σ.1 j = fun _ => 0) (h2 : σ.2.1 j = fun _ => 0) (hty : gt_okt ty = true) : gt_sv ad σ j k (gt_dfl ty) = defaultValue ty := by
  cases ty <;> first | (cases hty; done) | (simp [gt_dfl, gt_sv, defaultValue, h1, h2]; done)
theorem gt_dsl_v {ad : Nat → Nat} {σ : gt_S} {j : Nat} {ty : Nat → FieldType} {N : Nat} (h1 : σ.1 j = fun _ => 0) (h2 : σ.2.1 j = fun _ => 0) (hty : ∀ k, k < N → gt_okt (ty k) = true) : ∀ k, k < N → defaultValue (ty k) = vp_V (gt_fv ad σ j 0 (gt_dsl ty N)) k := by
  intro k hk
  have e1 : (gt_dsl ty N)[k]? = some (gt_dfl (ty k)) := by
    unfold gt_dsl
    rw [List.getElem?_map, List.getElem?_range hk]
    rfl
  have e2 := gt_fv_get ad σ j _ 0 k e1
  unfold vp_V
  rw [List.getD_eq_getElem?_getD, e2]
  exact (gt_dfl_v h1 h2 (hty k hk)).symm
theorem gt_dsl_sc (ty : Nat → FieldType) (N n ci : Nat) : gt_ksc n (.inr (ci, gt_dsl ty N)) := by
  intro x hx r hr
  unfold gt_dsl at hx
  obtain ⟨j, -, rfl⟩ := List.mem_map.mp hx
  refine Or.inl ?_
  unfold gt_dfl at hr
  split at hr <;> first | (cases hr; rfl) | cases hr
/-- slot k of cell j now names cell r -/
def gt_sl (ks : gt_KS) (j k r : Nat) : gt_KS := (fun i => if i = j then (match ks.1 i with
  | some (.inr q) => some (.inr (q.1, q.2.set k (some (some r))))
  | o => o) else ks.1 i, ks.2)
section GTK
variable {p : Program} {l : Launch} {e : Env} {R : Room} {s : State} {m : MethodId} {args : Array Value} {below : List Frame} {meth : Method} {c : Code} {Q : State → Prop}
variable {cc : ByteArray} {D : va_G} {cA : FieldType → Nat} {A : Nat → Prop} {H0 : Heap} {nL : Nat} {own : String} {Pa : (Nat → Nat) → Prop}
theorem gt_k_new (hx : p.tables.exec = Jvm.exec) (hb : c.code = cc) (hown : s.vm.findClass own = some m.cls) (hts : ∀ w ∈ gt_T, w.before args s = true) (hK : va_K D vwCl (gt_tys cA) s) (hA : ∀ q, H0.size ≤ q → A q) {ks : gt_KS} {σ : gt_S} {lv : gt_L} {st : List Value} (hok : gt_ok ks σ lv st) (hPa : ∀ ad q, Pa ad → Pa (gt_up ad ks.2 q)) {C : String} {T : u_T} {N ci index : Nat} {ty : Nat → FieldType} (hws : ∀ w ∈ u_ws C T N, w ∈ gt_T) (hty : ∀ k, k < N → parseFieldDescriptor (T k).2.2.1 = some (ty k)) (hot : ∀ k, k < N → gt_okt (ty k) = true) (hc : vwCl[ci]? = some (C, T, N))
    (hcl : Cond.classLink own index C ∈ gt_T) (hinst : Cond.instantiable C N ∈ gt_T) (hini : Cond.initialized C ∈ gt_T) (h1 : σ.1 ks.2 = fun _ => 0) (h2 : σ.2.1 ks.2 = fun _ => 0) {k n pc : Nat} (hcells : k + 1 ≤ R.cells) (hslots : n + N ≤ R.slots) (hdg : decode cc pc = .ok (.new index, 3))
    (h : gt_JK (fun H locs k n pc ls st => W p l e R s m args below meth c H locs k n Q (F0 m pc ls st)) D vwCl cA A H0 nL Pa (pc + 3) lv (.ref ks.2 :: st) (gt_add ks (.inr (ci, gt_dsl ty N))) σ (k + 1) (n + N)) :
    gt_JK (fun H locs k n pc ls st => W p l e R s m args below meth c H locs k n Q (F0 m pc ls st)) D vwCl cA A H0 nL Pa pc lv st ks σ k n := by
  intro ad ls H locs hpa hlv hP hD hS
  obtain ⟨htx, hw, hs, hlvs, hsts⟩ := hok
  refine va_new (ci := ci) (fs := gt_fv ad σ ks.2 0 (gt_dsl ty N)) (C := C) (T := T) (N := N) hx hb hts hws ty hty hown (hts _ hcl) (hts _ hinst) (hts _ hini) hK hP hD hS hA hc (gt_dsl_v h1 h2 hot) hcells hslots hdg (fun q H1 hP1 hD1 hS1 => ?_)
  have hwe := gt_w_add (cA := cA) (ad := ad) (q := q) (k0 := .inr (ci, gt_dsl ty N)) htx hw hs
  have hce : gt_c cA (gt_up ad ks.2 q) σ ks.2 (.inr (ci, gt_dsl ty N)) = .inr (ci, gt_fv ad σ ks.2 0 (gt_dsl ty N)) := by
    unfold gt_c
    dsimp only
    rw [gt_fv_up _ 0 (gt_dsl_sc ty N ks.2 ci)]
  rw [hce] at hwe
  have := h (gt_up ad ks.2 q) ls H1 locs (hPa ad q hpa) (by rw [gt_lm_up hlvs]; exact hlv) (by rw [hwe]; exact hP1) (by rw [hwe]; exact hD1) hS1
  rw [List.map_cons, gt_st_up hsts] at this
  rw [show gt_v (gt_up ad ks.2 q) (.ref ks.2) = .ref q from congrArg Value.ref gt_up_self] at this
  exact this
theorem gt_k_putr (hx : p.tables.exec = Jvm.exec) (hb : c.code = cc) (hown : s.vm.findClass own = some m.cls) (hts : ∀ w ∈ gt_T, w.before args s = true) (hK : va_K D vwCl (gt_tys cA) s) (hin : meth.name = "<init>") {ks : gt_KS} {σ : gt_S} {lv : gt_L} {st : List Value} (htx : σ.2.2.2 = []) {T : u_T} {N ci index j fk r : Nat} {ty : Nat → FieldType} {sl : List (Option (Option Nat))} (hws : ∀ w ∈ u_ws own T N, w ∈ gt_T) (hty : ∀ k, k < N → parseFieldDescriptor (T k).2.2.1 = some (ty k)) (hnm : ∀ a, a < N → ∀ b, b < N → a ≠ b → (T a).2.1 ≠ (T b).2.1) (hc : vwCl[ci]? = some (own, T, N))
    (hj : ks.1 j = some (.inr (ci, sl))) (hjn : j < ks.2) (hfk : fk < N) (hsl : sl.length = N) (hlink : Cond.fieldLink own index (T fk).1 (T fk).2.1 (T fk).2.2.1 ∈ gt_T) (hfin : (T fk).2.2.2 = true) (hdecl : (T fk).1 = own) (hrt : (∃ C, ty fk = .object C) ∨ ∃ t, ty fk = .array t) (hr : r ≠ 999999) {k n pc : Nat} (hdg : decode cc pc = .ok (.putfield index, 3))
    (h : gt_JK (fun H locs k n pc ls st => W p l e R s m args below meth c H locs k n Q (F0 m pc ls st)) D vwCl cA A H0 nL Pa (pc + 3) lv st (gt_sl ks j fk r) σ k n) :
    gt_JK (fun H locs k n pc ls st => W p l e R s m args below meth c H locs k n Q (F0 m pc ls st)) D vwCl cA A H0 nL Pa pc lv (.ref r :: .ref j :: st) ks σ k n := by
  intro ad ls H locs hpa hlv hP hD hS
  have hkd : gt_kd ks σ.2.2.2 j = some (.inr (ci, sl)) := by
    unfold gt_kd
    rw [if_pos hjn]
    exact hj
  have he := gt_w_at (cA := cA) (ad := ad) hkd
  have hl : fk < (gt_fv ad σ j 0 sl).length := by rw [gt_fv_len, hsl]; exact hfk
  have hnar : narrow (ty fk) (.ref (ad r)) = .ref (ad r) := by rcases hrt with ⟨C, q⟩ | ⟨t, q⟩ <;> rw [q] <;> rfl
  have hfit : fits (ty fk) (.ref (ad r)) = true := by rcases hrt with ⟨C, q⟩ | ⟨t, q⟩ <;> rw [q] <;> rfl
  have hfs : (gt_fv ad σ j 0 sl).set fk (.ref (ad r)) = gt_fv ad σ j 0 (sl.set fk (some (some r))) := by
    apply List.ext_getElem?
    intro i
    have hfl : fk < sl.length := by rw [hsl]; exact hfk
    by_cases hi : i = fk
    · subst hi
      rw [List.getElem?_set_self hl, gt_fv_get ad σ j _ 0 i (List.getElem?_set_self hfl)]
      unfold gt_sv
      dsimp only
      rw [if_neg hr]
    · rw [List.getElem?_set_ne (Ne.symm hi)]
      cases hx2 : sl[i]? with
      | none =>
        have hlen : sl.length ≤ i := List.getElem?_eq_none_iff.mp hx2
        rw [List.getElem?_eq_none (by rw [gt_fv_len]; exact hlen), List.getElem?_eq_none (by rw [gt_fv_len, List.length_set]; exact hlen)]
      | some y =>
        rw [gt_fv_get ad σ j sl 0 i hx2, gt_fv_get ad σ j _ 0 i (by rw [List.getElem?_set_ne (Ne.symm hi)]; exact hx2)]
  have hset : (gt_w ks cA ad σ).set j (ad j, .inr (ci, gt_fv ad σ j 0 (sl.set fk (some (some r))))) = gt_w (gt_sl ks j fk r) cA ad σ := by
    apply List.ext_getElem?
    intro i
    have hlen : (gt_w ks cA ad σ).length = gt_n ks σ.2.2.2 := by simp [gt_w]
    by_cases hi : i = j
    · subst hi
      have hk2 : gt_kd (gt_sl ks i fk r) σ.2.2.2 i = some (.inr (ci, sl.set fk (some (some r)))) := by
        unfold gt_kd gt_sl
        dsimp only
        rw [if_pos hjn, if_pos rfl, hj]
      rw [List.getElem?_set_self (by rw [hlen]; exact gt_kd_lt hkd), gt_w_at hk2]
      rfl
    · rw [List.getElem?_set_ne (Ne.symm hi)]
      unfold gt_w
      rw [List.getElem?_map, List.getElem?_map]
      have hn2 : gt_n (gt_sl ks j fk r) σ.2.2.2 = gt_n ks σ.2.2.2 := rfl
      rw [hn2]
      cases hr2 : (List.range (gt_n ks σ.2.2.2))[i]? with
      | none => rfl
      | some x =>
        have hxi : x = i := by
          obtain ⟨q1, q2⟩ := List.getElem?_eq_some_iff.mp hr2
          rw [List.getElem_range] at q2
          exact q2.symm
        subst hxi
        have hk3 : gt_kd (gt_sl ks j fk r) σ.2.2.2 x = gt_kd ks σ.2.2.2 x := by
          unfold gt_kd gt_sl
          dsimp only
          rw [if_neg hi]
        simp only [Option.map_some, hk3]
  refine va_putF (D := D) (ci := ci) (v := .ref (ad r)) (ty := ty fk) (C := own) (T := T) (N := N) hx hb hts hws ty hty hnm hown hK hP hD hS j he hc fk hfk (hts _ hlink) (fun _ h9 => h9) hfin hin hdecl (hty fk hfk) hnar hfit hl hdg (fun H1 locs1 hP1 hD1 hS1 => ?_)
  rw [hfs, hset] at hP1 hD1
  exact h ad ls H1 locs1 hpa hlv hP1 hD1 hS1
/-- the super constructor -/
theorem gt_k_obj (hx : p.tables.exec = Jvm.exec) (hb : c.code = cc) (hml : c.maxLocals = nL) (hown : s.vm.findClass own = some m.cls) (hts : ∀ w ∈ gt_T, w.before args s = true) {ks : gt_KS} {σ : gt_S} {lv : gt_L} {st : List Value} {idx a k n pc : Nat} (hl : Cond.methodLink own idx objectInit ∈ gt_T) (hi : Cond.instanceMethod objectInit ∈ gt_T) (hc : Cond.code objectInit ⟨#[0xb1]⟩ 1 none ∈ gt_T) (hdg : decode cc pc = .ok (.invokespecial idx, 3)) (hf : 1 ≤ R.frames) (hlo : (st.map fun v => v.category).sum + 12 ≤ R.locals)
    (h : gt_JK (fun H locs k n pc ls st => W p l e R s m args below meth c H locs k n Q (F0 m pc ls st)) D vwCl cA A H0 nL Pa (pc + 3) lv st ks σ k n) :
    gt_JK (fun H locs k n pc ls st => W p l e R s m args below meth c H locs k n Q (F0 m pc ls st)) D vwCl cA A H0 nL Pa pc lv (.ref a :: st) ks σ k n := by
  intro ad ls H locs hpa hlv hP hD hS
  refine W.objInit hx hb hown (hts _ hl) (hts _ hi) (hts _ hc) rfl (by rw [hml]; exact hlv.1) rfl hdg hf (by show 2 * 0 + _ + 12 ≤ _; rw [gt_sum_map]; omega) ?_
  exact h ad ls H locs hpa hlv hP hD hS
end GTK
end
section
theorem gt_w_D2 {A : Nat → Prop} {ks : gt_KS} {cA : FieldType → Nat} {ad : Nat → Nat} {σ σ2 : gt_S} (hD : va_D A (gt_w ks cA ad σ)) (ht : σ2.2.2.2 = σ.2.2.2) : va_D A (gt_w ks cA ad σ2) := by
  have h1 := gt_w_D (sz := 0) hD ht
  refine ⟨h1.1, fun k q hk => ?_⟩
  unfold gt_w at hk
  rw [List.getElem?_map, ht] at hk
  cases hr : (List.range (gt_n ks σ.2.2.2))[k]? with
  | none => rw [hr] at hk; cases hk
  | some x =>
    rw [hr] at hk
    cases hk
    refine hD.2 k (ad x, match gt_kd ks σ.2.2.2 x with
      | some k => gt_c cA ad σ x k
      | none => .inr (0, [])) ?_
    unfold gt_w
    rw [List.getElem?_map, hr]
    rfl
theorem gt_w_same {ks ks' : gt_KS} {cA : FieldType → Nat} {ad : Nat → Nat} {σ : gt_S} (ht : σ.2.2.2 = []) (hn : ks.2 = ks'.2) (h : ∀ j, j < ks.2 → ks.1 j = ks'.1 j) : gt_w ks cA ad σ = gt_w ks' cA ad σ := by
  unfold gt_w gt_n
  rw [ht, hn]
  apply List.map_congr_left
  intro j hj
  have hj := List.mem_range.mp hj
  simp only [List.length_nil, Nat.mul_zero, Nat.add_zero] at hj
  have e : gt_kd ks [] j = gt_kd ks' [] j := by
    unfold gt_kd
    rw [if_pos (by rw [hn]; exact hj), if_pos hj]
    exact h j (by rw [hn]; exact hj)
  rw [e]
def gt_eqb (ks ks' : gt_KS) : Bool := decide (ks.2 = ks'.2) && (List.range ks.2).all fun j => decide (ks.1 j = ks'.1 j)
theorem gt_eqb_s {ks ks' : gt_KS} (h : gt_eqb ks ks' = true) : ks.2 = ks'.2 ∧ ∀ j, j < ks.2 → ks.1 j = ks'.1 j := by
  unfold gt_eqb at h
  simp only [Bool.and_eq_true, decide_eq_true_eq, List.all_eq_true] at h
  exact ⟨h.1, fun j hj => h.2 j (List.mem_range.mpr hj)⟩
def gt_kscb (n : Nat) : gt_K → Bool
  | .inl q => q.2.2.all fun r => decide (r < n)
  | .inr q => q.2.all fun x => match x with
    | some (some r) => decide (r = 999999) || decide (r < n)
    | _ => true
theorem gt_kscb_s {n : Nat} {k : gt_K} (h : gt_kscb n k = true) : gt_ksc n k := by
  rcases k with q | q
  · intro r hr
    have := List.all_eq_true.mp h r hr
    exact of_decide_eq_true this
  · intro x hx r hr
    have := List.all_eq_true.mp h x hx
    subst hr
    simpa using this
def gt_wfb (ks : gt_KS) : Bool := (List.range ks.2).all fun j => match ks.1 j with
  | some k => gt_kscb ks.2 k
  | none => true
theorem gt_wfb_s {ks : gt_KS} (h : gt_wfb ks = true) : gt_wf ks := by
  intro j k hj hk
  have := List.all_eq_true.mp h j (List.mem_range.mpr hj)
  rw [hk] at this
  exact gt_kscb_s this
def gt_vscb (n : Nat) : Value → Bool
  | .ref r => decide (r < n)
  | .retAddr _ => decide (n < 1000000)
  | _ => true
theorem gt_vscb_s {n : Nat} {v : Value} (h : gt_vscb n v = true) : gt_vsc n v := by
  cases v with
  | ref r => exact (of_decide_eq_true (show decide (r < n) = true from h) : r < n)
  | retAddr k => exact (of_decide_eq_true (show decide (n < 1000000) = true from h) : n < 1000000)
  | _ => trivial
theorem gt_ok_b {ks : gt_KS} {σ : gt_S} {lv : gt_L} {st : List Value} (h1 : σ.2.2.2 = []) (h2 : gt_ssc ks.2 σ) (h : (gt_wfb ks && (lv.all fun x => gt_vscb ks.2 x.2) && st.all (gt_vscb ks.2)) = true) : gt_ok ks σ lv st := by
  simp only [Bool.and_eq_true, List.all_eq_true] at h
  exact ⟨h1, gt_wfb_s h.1.1, h2, fun x hx => gt_vscb_s (h.1.2 x hx), fun x hx => gt_vscb_s (h.2 x hx)⟩
section GTK
variable {p : Program} {l : Launch} {e : Env} {R : Room} {s : State} {m : MethodId} {args : Array Value} {below : List Frame} {meth : Method} {c : Code} {Q : State → Prop}
variable {cc : ByteArray} {D : va_G} {cA : FieldType → Nat} {A : Nat → Prop} {H0 : Heap} {nL : Nat} {own : String} {Pa : (Nat → Nat) → Prop}
theorem gt_k_same {ks ks' : gt_KS} {σ : gt_S} {lv : gt_L} {st : List Value} {k n pc : Nat} (ht : σ.2.2.2 = []) (hb : gt_eqb ks ks' = true)
    (h : gt_JK (fun H locs k n pc ls st => W p l e R s m args below meth c H locs k n Q (F0 m pc ls st)) D vwCl cA A H0 nL Pa pc lv st ks' σ k n) :
    gt_JK (fun H locs k n pc ls st => W p l e R s m args below meth c H locs k n Q (F0 m pc ls st)) D vwCl cA A H0 nL Pa pc lv st ks σ k n := by
  intro ad ls H locs hpa hlv hP hD hS
  obtain ⟨e1, e2⟩ := gt_eqb_s hb
  rw [gt_w_same ht e1 e2] at hP hD
  exact h ad ls H locs hpa hlv hP hD hS
/-- a stretch that makes nothing -/
theorem gt_k_seg (hx : p.tables.exec = Jvm.exec) (hb : c.code = cc) (hown : s.vm.findClass own = some m.cls) (hts : ∀ w ∈ gt_T, w.before args s = true) (hNN : gt_NN s) (hK : va_K D vwCl (gt_tys cA) s) {E : gt_E} (hE : gt_eok (gt_T ++ gt_N) own vwCl E) {sp : List (Nat × List Nat)} {cs : List gt_I} (hd : gt_dok cc cs) {ks : gt_KS} {σ : gt_S} (ht : σ.2.2.2 = []) {lv : gt_L} {st : List Value} {k n pc : Nat} {o : gt_F} (hS0 : E.2.2.2.2 = [])
    (hC : ∀ ad : Nat → Nat, (∀ σ2 : gt_S, σ2.2.2.2 = [] → va_D A (gt_w ks cA ad σ2)) → gt_cok (gt_J (fun H locs pc ls st => W p l e R s m args below meth c H locs k n Q (F0 m pc ls st)) D vwCl ks cA ad A H0 [] nL) cc E)
    (hbx : gt_bx ks nL E sp 1000 (gt_sk pc cs) lv st σ = some o) (hto : o.2.2.2.2.2.2 = [])
    (h : gt_JK (fun H locs k n pc ls st => W p l e R s m args below meth c H locs k n Q (F0 m pc ls st)) D vwCl cA A H0 nL Pa o.1 o.2.1 o.2.2.1 ks o.2.2.2 k n) :
    gt_JK (fun H locs k n pc ls st => W p l e R s m args below meth c H locs k n Q (F0 m pc ls st)) D vwCl cA A H0 nL Pa pc lv st ks σ k n := by
  intro ad ls H locs hpa hlv hP hD hS
  have hDD : ∀ σ2 : gt_S, σ2.2.2.2 = [] → va_D A (gt_w ks cA ad σ2) := fun σ2 h2 => gt_w_D2 hD (h2.trans ht.symm)
  have hts2 : ∀ w ∈ gt_T ++ gt_N, w.before args s = true := fun w hw => (List.mem_append.mp hw).elim (hts w) (hNN.use w)
  cases hs : gt_sk pc cs with
  | nil =>
    rw [hs] at hbx
    cases hbx
  | cons q t =>
    have e1 := gt_sk_hd hs
    have key := gt_bx_w (J := gt_J (fun H locs pc ls st => W p l e R s m args below meth c H locs k n Q (F0 m pc ls st)) D vwCl ks cA ad A H0 [] nL) (E := E) (sp := sp) (ks := ks) (cc := cc)
      (fun pc lv lv' st σ2 hsub hJ ht ls H locs hlv hP hS => hJ ht ls H locs ⟨hlv.1, hlv.2.1, fun q hq => by
        obtain ⟨x, hx1, rfl⟩ := List.mem_map.mp hq
        exact hlv.2.2 _ (List.mem_map.mpr ⟨x, hsub x hx1, rfl⟩)⟩ hP hS)
      (fun q hq hl lv st σ2 κ o h hκ => by
        unfold gt_st1 at h
        rw [hS0] at h
        exact gt_stp_w rfl hx hb hown hts2 hK hDD hE (hC ad hDD) hq hl h hκ) 1000 (gt_sk pc cs) lv st σ o (fun q hq => hd q (gt_sk_sub hq)) hbx
      (fun ht2 ls H locs hlv hP hS => h ad ls H locs hpa hlv hP (hDD _ ht2) hS) q t hs
    rw [e1] at key
    exact key ht ls H locs hlv hP hS
end GTK
end
section
/-! constructors: from an object of zeros to a layout of its own -/
def gt_z : gt_S := (fun _ _ => 0, fun _ _ => 0, fun _ _ => none, [])
def gt_k1 (ci : Nat) (sl : List (Option (Option Nat))) : gt_KS := (fun j => if j = 0 then some (.inr (ci, sl)) else none, 1)
def gt_AO (U : State) : Prop := va_AO "GiftTable$Text" U ∧ va_AO "GiftTable$State" U ∧ (Cond.arrayOver (.array .long)).before #[] U = true ∧ (Cond.arrayOver (.array .int)).before #[] U = true
theorem gt_AO.moved {u U : State} (hvm : u.vm.Alike U.vm) (h : gt_AO u) : gt_AO U := ⟨h.1.moved hvm, h.2.1.moved hvm, over_moved hvm h.2.2.1, over_moved hvm h.2.2.2⟩
def gt_w1 (cA : FieldType → Nat) (ci : Nat) (sl : List (Option (Option Nat))) (h0 : Nat) : va_W := gt_w (gt_k1 ci sl) cA (fun _ => h0) gt_z
def gt_PI (D : va_G) (cA : FieldType → Nat) (ci : Nat) (sl : List (Option (Option Nat))) (h0 sz : Nat) : Array Value → State → Prop := va_Pc [.ref h0] (fun U => U.heap.size = sz ∧ va_P D vwCl (gt_w1 cA ci sl h0) U.heap ∧ va_K D vwCl (gt_tys cA) U ∧ va_D (fun _ => True) (gt_w1 cA ci sl h0) ∧ gt_NN U ∧ gt_AO U)
def gt_QI (D : va_G) (cA : FieldType → Nat) (ci : Nat) (sl : List (Option (Option Nat))) (kX : gt_KS) (σX : gt_S) (h0 sz : Nat) : Array Value → State → Outcome → State → Prop := fun _ st oc t => oc = .returned none ∧ (∃ ad : Nat → Nat, ad 0 = h0 ∧ va_P D vwCl (gt_w kX cA ad σX) t.heap ∧ va_D (va_A (gt_w1 cA ci sl h0) sz) (gt_w kX cA ad σX)) ∧ va_F (va_A (gt_w1 cA ci sl h0) sz) st t
/-- a constructor makes this layout, with this in it -/
def gt_MI (l : Launch) (y : MethodName) (ws : List Cond) (rm : Room) (ci : Nat) (sl : List (Option (Option Nat))) (kX : gt_KS) (σX : gt_S) (mc ms : Nat) : Prop := ∀ (D : va_G) (cA : FieldType → Nat) (h0 sz : Nat), Met l y ws rm (gt_PI D cA ci sl h0 sz) (gt_QI D cA ci sl kX σX h0 sz) mc ms (va_A (gt_w1 cA ci sl h0) sz)
theorem gt_PI_bl {D : va_G} {cA : FieldType → Nat} {ci : Nat} {sl : List (Option (Option Nat))} {h0 sz : Nat} : FrameBlind (gt_PI D cA ci sl h0 sz) := by
  intro a U g mk q
  obtain ⟨q0, q1, qP, qK, qD, qN, qA⟩ := q
  exact ⟨q0, q1, qP, va_K.moved (u := U) (U := U.calling g mk a) (Vm.Alike.refl U.vm) qK, qD, gt_NN.same (u := U) (U := U.calling g mk a) rfl qN, gt_AO.moved (u := U) (U := U.calling g mk a) (Vm.Alike.refl U.vm) qA⟩
/-- what a constructor's walk is given -/
def gt_CI (p : Program) (s : State) (m : MethodId) (args : Array Value) (meth : Method) (c : Code) (cc : ByteArray) (nL : Nat) (own : String) (D : va_G) (cA : FieldType → Nat) (A : Nat → Prop) (H0 : Heap) : Prop :=
  p.tables.exec = Jvm.exec ∧ c.code = cc ∧ c.maxLocals = nL ∧ s.vm.findClass own = some m.cls ∧ (∀ w ∈ gt_T, w.before args s = true) ∧ va_K D vwCl (gt_tys cA) s ∧ (∀ q, H0.size ≤ q → A q) ∧ gt_NN s ∧ gt_AO s ∧ meth.name = "<init>"
set_option maxHeartbeats 4000000 in
theorem gt_metI {l : Launch} {y : MethodName} {cc : ByteArray} {maxL : Nat} {rm : Room} {ci : Nat} {sl : List (Option (Option Nat))} {kX : gt_KS} {σX : gt_S} {mc ms rpc : Nat} (hy : plainName y.cls = true) (hyn : y.name = "<init>") (hl1 : 1 ≤ maxL) (htx : σX.2.2.2 = []) (hdg : decode cc rpc = .ok (.return_, 1))
    (walk : ∀ (p : Program) (e : Env) (s : State) (m : MethodId) (args : Array Value) (below : List Frame) (meth : Method) (c : Code) (Q : State → Prop) (D : va_G) (cA : FieldType → Nat) (A : Nat → Prop) (H0 : Heap) (Pa : (Nat → Nat) → Prop), gt_CI p s m args meth c cc maxL y.cls D cA A H0 → (∀ (n : Nat), 1 ≤ n → ∀ ad q, Pa ad → Pa (gt_up ad n q)) →
      gt_JK (fun H locs k n pc ls st => W p l e rm s m args below meth c H locs k n Q (F0 m pc ls st)) D vwCl cA A H0 maxL Pa rpc [(0, .ref 0)] [] kX σX mc ms →
      gt_JK (fun H locs k n pc ls st => W p l e rm s m args below meth c H locs k n Q (F0 m pc ls st)) D vwCl cA A H0 maxL Pa 0 [(0, .ref 0)] [] (gt_k1 ci sl) gt_z 0 0) :
    gt_MI l y (gt_W y cc maxL none) rm ci sl kX σX mc ms := by
  intro D cA h0 sz
  refine Met.ofW (cc := cc) (maxL := maxL) (ret := none) hy rfl ?_
  intro p e s m args below meth c s₁ B hml hv
  obtain ⟨rfl, hsz, hP, hK, hD0, hN, hAO⟩ := hv
  have hx := B.exec
  have hb := B.bytes
  have hr := B.returns
  have hts0 := atoms_spec (ws := gt_W y cc maxL none) B.pre
  have hts : ∀ w ∈ gt_T, w.before ([Value.ref h0] : List Value).toArray s = true := fun w hw => hts0 w (List.mem_cons_of_mem _ hw)
  have hown : s.vm.findClass y.cls = some m.cls := findClass_of_methodNamed B.named
  have hlocks := B.notSynchronized
  have hin : meth.name = "<init>" := by rw [← hyn]; exact (name_of_methodNamed B.named B.method).1
  subst hsz
  have hA : ∀ q : Nat, s.heap.size ≤ q → va_A (gt_w1 cA ci sl h0) s.heap.size q := fun q h => Or.inr h
  have hD := hD0.self (sz := s.heap.size)
  have hl := lv_entry ([.ref h0]) (n := maxL) hl1
  rw [lg_entry_eq]
  refine walk p e s m _ below meth c _ D cA (va_A (gt_w1 cA ci sl h0) s.heap.size) s.heap (fun ad => ad 0 = h0) ⟨hx, hb, hml, hown, hts, hK, hA, hN, hAO, hin⟩ (fun n hn ad q h => (gt_up_lt hn).trans h) ?_ (fun _ => h0) _ s.heap [] rfl hl hP hD va_S.rf
  intro ad ls H locs hpa hlv hPb hDb hS
  exact W.vret hx hb hr (fun t h9 hW => ⟨rfl, ⟨ad, hpa, by rw [h9]; exact hPb, hDb⟩, hS.F h9⟩) hS.2.2 hdg
end
section
/-! a sub-object's constructor: its layout behind the caller's -/
def gt_sh (b : Nat) : gt_K → gt_K
  | .inl q => .inl (q.1, q.2.1, q.2.2.map (· + b))
  | .inr q => .inr (q.1, q.2.map fun x => match x with
    | some (some r) => if r = 999999 then some (some 999999) else some (some (r + b))
    | x => x)
def gt_kcat (ks kX : gt_KS) : gt_KS := (fun i => if i < ks.2 then ks.1 i else (kX.1 (i - ks.2)).map (gt_sh ks.2), ks.2 + kX.2)
def gt_scat (n : Nat) (σ σX : gt_S) : gt_S := (fun i => if i < n then σ.1 i else σX.1 (i - n), fun i => if i < n then σ.2.1 i else σX.2.1 (i - n), fun i => if i < n then σ.2.2.1 i else fun k => (σX.2.2.1 (i - n) k).map (· + n), [])
def gt_acat (n : Nat) (ad adX : Nat → Nat) : Nat → Nat := fun i => if i < n ∨ 1000000 ≤ i then ad i else adX (i - n)
theorem gt_fv_ad {ad ad' : Nat → Nat} {n : Nat} (h : ∀ r, r < n → ad' r = ad r) {σ : gt_S} {j : Nat} : ∀ (sl : List (Option (Option Nat))) (k : Nat), (∀ x ∈ sl, ∀ r, x = some (some r) → r = 999999 ∨ r < n) → gt_fv ad' σ j k sl = gt_fv ad σ j k sl
  | [], _, _ => rfl
  | x :: t, k, hs => by
    unfold gt_fv
    rw [gt_fv_ad h t (k + 1) (fun y hy => hs y (List.mem_cons_of_mem _ hy))]
    congr 1
    rcases x with _ | _ | r
    · rfl
    · rfl
    · unfold gt_sv
      dsimp only
      rcases hs _ List.mem_cons_self r rfl with q | q
      · rw [if_pos q, if_pos q]
      · rw [h r q]
theorem gt_c_ad {cA : FieldType → Nat} {ad ad' : Nat → Nat} {n : Nat} (h : ∀ r, r < n → ad' r = ad r) {σ : gt_S} {j : Nat} {k : gt_K} (hk : gt_ksc n k) (hs : gt_ssc n σ) : gt_c cA ad' σ j k = gt_c cA ad σ j k := by
  rcases k with ⟨ty, n0, rs⟩ | ⟨ci, sl⟩
  · have hr : (fun k => (gt_rf rs σ j k).map ad') = fun k => (gt_rf rs σ j k).map ad := by
      funext k
      cases hx : gt_rf rs σ j k with
      | none => rfl
      | some r =>
        have hlt : r < n := by
          unfold gt_rf at hx
          split at hx
          · exact hs j k r hx
          · exact hk r (List.mem_of_getElem? hx)
        simp only [Option.map_some]
        rw [h r hlt]
    unfold gt_c gt_ct
    dsimp only
    rw [hr]
  · unfold gt_c
    dsimp only
    rw [gt_fv_ad h sl 0 hk]
theorem gt_c_shift {cA : FieldType → Nat} {ad adX : Nat → Nat} {n m0 : Nat} (hm : n + m0 ≤ 999999) {σ σX : gt_S} {j : Nat} {k : gt_K} (hk : gt_ksc m0 k) (hs : gt_ssc m0 σX) : gt_c cA (gt_acat n ad adX) (gt_scat n σ σX) (n + j) (gt_sh n k) = gt_c cA adX σX j k := by
  have ha : ∀ r, r < m0 → gt_acat n ad adX (r + n) = adX r := by
    intro r hr
    unfold gt_acat
    rw [if_neg (by omega), Nat.add_sub_cancel]
  have e1 : (gt_scat n σ σX).1 (n + j) = σX.1 j := by
    show (if n + j < n then σ.1 (n + j) else σX.1 (n + j - n)) = _
    rw [if_neg (by omega), Nat.add_sub_cancel_left]
  have e2 : (gt_scat n σ σX).2.1 (n + j) = σX.2.1 j := by
    show (if n + j < n then σ.2.1 (n + j) else σX.2.1 (n + j - n)) = _
    rw [if_neg (by omega), Nat.add_sub_cancel_left]
  have e3 : (gt_scat n σ σX).2.2.1 (n + j) = fun k => (σX.2.2.1 j k).map (· + n) := by
    show (if n + j < n then σ.2.2.1 (n + j) else fun k => (σX.2.2.1 (n + j - n) k).map (· + n)) = _
    rw [if_neg (by omega), Nat.add_sub_cancel_left]
  rcases k with ⟨ty, n0, rs⟩ | ⟨ci, sl⟩
  · have hr : (fun k => (gt_rf (rs.map (· + n)) (gt_scat n σ σX) (n + j) k).map (gt_acat n ad adX)) = fun k => (gt_rf rs σX j k).map adX := by
      funext k
      cases rs with
      | nil =>
        show ((gt_scat n σ σX).2.2.1 (n + j) k).map _ = (σX.2.2.1 j k).map _
        rw [e3]
        dsimp only
        cases hx : σX.2.2.1 j k with
        | none => rfl
        | some r =>
          simp only [Option.map_some]
          rw [ha r (hs j k r hx)]
      | cons r0 rt =>
        show (((r0 :: rt).map (· + n))[k]?).map _ = ((r0 :: rt)[k]?).map _
        rw [List.getElem?_map]
        cases hx : (r0 :: rt)[k]? with
        | none => rfl
        | some r =>
          simp only [Option.map_some]
          rw [ha r (hk r (List.mem_of_getElem? hx))]
    unfold gt_sh gt_c gt_ct
    dsimp only
    rw [hr, e1, e2]
  · unfold gt_sh gt_c
    dsimp only
    congr 2
    have key : ∀ (sl : List (Option (Option Nat))) (k : Nat), (∀ x ∈ sl, ∀ r, x = some (some r) → r = 999999 ∨ r < m0) → gt_fv (gt_acat n ad adX) (gt_scat n σ σX) (n + j) k (sl.map fun x => match x with
        | some (some r) => if r = 999999 then some (some 999999) else some (some (r + n))
        | x => x) = gt_fv adX σX j k sl := by
      intro sl
      induction sl with
      | nil => intro k _; rfl
      | cons x t ih =>
        intro k hsl
        rw [List.map_cons]
        unfold gt_fv
        rw [ih (k + 1) (fun y hy => hsl y (List.mem_cons_of_mem _ hy))]
        congr 1
        rcases x with _ | _ | r
        · unfold gt_sv; dsimp only; rw [e1]
        · unfold gt_sv; dsimp only; rw [e2]
        · unfold gt_sv
          dsimp only
          rcases hsl _ List.mem_cons_self r rfl with q | q
          · rw [if_pos q]
            dsimp only
            rw [if_pos rfl, if_pos q]
          · rw [if_neg (by omega)]
            dsimp only
            rw [if_neg (by omega), if_neg (by omega), ha r q]
    exact key sl 0 hk
theorem gt_w_cat {ks kX : gt_KS} {cA : FieldType → Nat} {ad adX : Nat → Nat} {σ σX : gt_S} (ht : σ.2.2.2 = []) (htX : σX.2.2.2 = []) (hw : gt_wf ks) (hs : gt_ssc ks.2 σ) (hwX : gt_wf kX) (hsX : gt_ssc kX.2 σX) (hm : ks.2 + kX.2 ≤ 999999) : gt_w (gt_kcat ks kX) cA (gt_acat ks.2 ad adX) (gt_scat ks.2 σ σX) = gt_w ks cA ad σ ++ gt_w kX cA adX σX := by
  have e0 : (gt_scat ks.2 σ σX).2.2.2 = [] := rfl
  unfold gt_w gt_n
  rw [ht, htX, e0]
  simp only [List.length_nil, Nat.mul_zero, Nat.add_zero]
  show (List.range (ks.2 + kX.2)).map _ = _
  rw [List.range_add, List.map_append, List.map_map]
  congr 1
  · apply List.map_congr_left
    intro j hj
    have hj := List.mem_range.mp hj
    have e1 : gt_kd (gt_kcat ks kX) [] j = gt_kd ks [] j := by
      unfold gt_kd gt_kcat
      dsimp only
      rw [if_pos (by omega), if_pos hj, if_pos hj]
    have e2 : gt_acat ks.2 ad adX j = ad j := if_pos (Or.inl hj)
    rw [e1, e2]
    congr 1
    cases hk : gt_kd ks [] j with
    | none => rfl
    | some k =>
      dsimp only
      have hkk : gt_ksc ks.2 k := by
        refine hw j k hj ?_
        unfold gt_kd at hk
        rwa [if_pos hj] at hk
      have h1 : (gt_scat ks.2 σ σX).1 j = σ.1 j := if_pos hj
      have h2 : (gt_scat ks.2 σ σX).2.1 j = σ.2.1 j := if_pos hj
      have h3 : (gt_scat ks.2 σ σX).2.2.1 j = σ.2.2.1 j := if_pos hj
      rw [gt_c_congr h1 h2 h3]
      exact gt_c_ad (ad' := gt_acat ks.2 ad adX) (n := ks.2) (fun r hr => if_pos (Or.inl hr)) hkk hs
  · apply List.map_congr_left
    intro j hj
    have hj := List.mem_range.mp hj
    have e1 : gt_kd (gt_kcat ks kX) [] (ks.2 + j) = (gt_kd kX [] j).map (gt_sh ks.2) := by
      unfold gt_kd gt_kcat
      dsimp only
      rw [if_pos (by omega), if_neg (by omega), if_pos hj, Nat.add_sub_cancel_left]
    have e2 : gt_acat ks.2 ad adX (ks.2 + j) = adX j := by
      unfold gt_acat
      rw [if_neg (by omega), Nat.add_sub_cancel_left]
    simp only [Function.comp]
    rw [e1, e2]
    congr 1
    cases hk : gt_kd kX [] j with
    | none => rfl
    | some k =>
      dsimp only [Option.map]
      refine gt_c_shift hm ?_ hsX
      refine hwX j k hj ?_
      unfold gt_kd at hk
      rwa [if_pos hj] at hk
end
section
theorem gt_v_acat {n : Nat} {ad adX : Nat → Nat} (h0 : adX 0 = ad n) (hn : n < 1000000) {v : Value} (h : gt_vsc (n + 1) v) : gt_v (gt_acat n ad adX) v = gt_v ad v := by
  cases v <;> try rfl
  · rename_i r
    have hr : r < n + 1 := h
    refine congrArg Value.ref ?_
    by_cases e : r = n
    · subst e
      unfold gt_acat
      rw [if_neg (by omega), Nat.sub_self, h0]
    · exact if_pos (Or.inl (Nat.lt_of_le_of_ne (Nat.le_of_lt_succ hr) e))
  · exact congrArg Value.ref (if_pos (Or.inr (by omega)))
theorem gt_fv_null {ad ad' : Nat → Nat} {σ : gt_S} {j : Nat} (h1 : σ.1 j = fun _ => 0) (h2 : σ.2.1 j = fun _ => 0) : ∀ (sl : List (Option (Option Nat))) (k : Nat), (∀ x ∈ sl, x = none ∨ x = some none ∨ x = some (some 999999)) → gt_fv ad σ j k sl = gt_fv ad' gt_z 0 k sl
  | [], _, _ => rfl
  | x :: t, k, hs => by
    unfold gt_fv
    rw [gt_fv_null h1 h2 t (k + 1) (fun y hy => hs y (List.mem_cons_of_mem _ hy))]
    congr 1
    rcases hs x List.mem_cons_self with rfl | rfl | rfl
    · unfold gt_sv; dsimp only; rw [h1]; rfl
    · unfold gt_sv; dsimp only; rw [h2]; rfl
    · rfl
theorem gt_w1_eq {cA : FieldType → Nat} {ci : Nat} {sl : List (Option (Option Nat))} {h0 : Nat} : gt_w1 cA ci sl h0 = [(h0, .inr (ci, gt_fv (fun _ => h0) gt_z 0 0 sl))] := rfl
section GTK
variable {p : Program} {l : Launch} {e : Env} {R : Room} {s : State} {m : MethodId} {args : Array Value} {below : List Frame} {meth : Method} {c : Code} {Q : State → Prop}
variable {cc : ByteArray} {D : va_G} {cA : FieldType → Nat} {A : Nat → Prop} {H0 : Heap} {nL : Nat} {own : String} {Pa : (Nat → Nat) → Prop}
set_option maxHeartbeats 4000000 in
theorem gt_k_init (hx : p.tables.exec = Jvm.exec) (hb : c.code = cc) (hml : c.maxLocals = nL) (hown : s.vm.findClass own = some m.cls) (hts : ∀ w ∈ gt_T, w.before args s = true) (hK : va_K D vwCl (gt_tys cA) s) (hA : ∀ q, H0.size ≤ q → A q) (hN : gt_NN s) (hAO : gt_AO s) {ks kX : gt_KS} {σ σX : gt_S} {lv : gt_L} {st : List Value} (ht : σ.2.2.2 = []) (hw : gt_wf ks) (hs : gt_ssc ks.2 σ) (hlvs : ∀ x ∈ lv, gt_vsc (ks.2 + 1) x.2) (hsts : ∀ x ∈ st, gt_vsc (ks.2 + 1) x) (htX : σX.2.2.2 = []) (hwX : gt_wf kX) (hsX : gt_ssc kX.2 σX) (hm : ks.2 + kX.2 ≤ 999999) (hPa : ∀ ad adX, adX 0 = ad ks.2 → Pa ad → Pa (gt_acat ks.2 ad adX))
    {y : MethodName} {cy : ByteArray} {maxL ci idx mc ms k n pc : Nat} {rm : Room} {sl : List (Option (Option Nat))} (hM : gt_MI l y (gt_W y cy maxL none) rm ci sl kX σX mc ms) (hrm : rm.cells = mc ∧ rm.slots = ms) (hR : rm.frames + 1 ≤ R.frames ∧ 8 + (maxL + 11) + rm.locals ≤ R.locals) (hcode : Cond.code y cy maxL none ∈ gt_T) (hl : Cond.methodLink own idx y ∈ gt_T ∨ ∃ host, Cond.methodLinkNest own idx y host ∈ gt_N) (him : Cond.instanceMethod y ∈ gt_T) (hini : Cond.initialized y.cls ∈ gt_T) (hyn : y.name = "<init>") (hd : y.cls ≠ "java/lang/invoke/MethodHandle" ∧ y.cls ≠ "java/lang/invoke/VarHandle" ∧ (parseMethodDescriptor y.desc).map (fun d => d.parameters.length) = some 0)
    (hsl : ∀ x ∈ sl, x = none ∨ x = some none ∨ x = some (some 999999)) (hz1 : σ.1 ks.2 = fun _ => 0) (hz2 : σ.2.1 ks.2 = fun _ => 0) (hsum : (st.map fun v => v.category).sum ≤ 8) (hf : k + mc ≤ R.cells ∧ n + ms ≤ R.slots) (hdg : decode cc pc = .ok (.invokespecial idx, 3))
    (h : gt_JK (fun H locs k n pc ls st => W p l e R s m args below meth c H locs k n Q (F0 m pc ls st)) D vwCl cA A H0 nL Pa (pc + 3) lv st (gt_kcat ks kX) (gt_scat ks.2 σ σX) (k + mc) (n + ms)) :
    gt_JK (fun H locs k n pc ls st => W p l e R s m args below meth c H locs k n Q (F0 m pc ls st)) D vwCl cA A H0 nL Pa pc lv (.ref ks.2 :: st) (gt_add ks (.inr (ci, sl))) σ k n := by
  intro ad ls H locs hpa hlv hP hD hS
  have hup : gt_up ad ks.2 (ad ks.2) = ad := by
    funext j
    unfold gt_up
    split
    · rename_i q; rw [q]
    · rfl
  have hwe := gt_w_add (cA := cA) (ad := ad) (q := ad ks.2) (k0 := .inr (ci, sl)) ht hw hs
  rw [hup] at hwe
  have hobj : gt_c cA ad σ ks.2 (.inr (ci, sl)) = .inr (ci, gt_fv (fun _ => ad ks.2) gt_z 0 0 sl) := by
    unfold gt_c
    dsimp only
    rw [gt_fv_null (ad' := fun _ => ad ks.2) hz1 hz2 sl 0 hsl]
  rw [hobj, ← gt_w1_eq (cA := cA)] at hwe
  have hlen : (gt_w ks cA ad σ).length = ks.2 := by
    unfold gt_w gt_n
    rw [ht]
    simp
  have hC : ([ks.2] : List Nat).map (fun i => (gt_w (gt_add ks (.inr (ci, sl))) cA ad σ)[i]?) = (gt_w1 cA ci sl (ad ks.2)).map some := by
    rw [hwe, gt_w1_eq]
    simp only [List.map_cons, List.map_nil]
    rw [List.getElem?_append_right (by rw [hlen]; exact Nat.le_refl _), hlen, Nat.sub_self]
    rfl
  have hRr : (List.range ks.2).map (fun i => (gt_w (gt_add ks (.inr (ci, sl))) cA ad σ)[i]?) = (gt_w ks cA ad σ).map some := by
    rw [hwe]
    apply List.ext_getElem?
    intro i
    rw [List.getElem?_map, List.getElem?_map]
    by_cases hi : i < ks.2
    · rw [List.getElem?_range hi]
      simp only [Option.map_some]
      rw [List.getElem?_append_left (by rw [hlen]; exact hi)]
      rw [List.getElem?_eq_getElem (by rw [hlen]; exact hi)]
      rfl
    · rw [List.getElem?_eq_none (by rw [List.length_range]; omega), List.getElem?_eq_none (by rw [hlen]; omega)]
      rfl
  have hnd : ∀ (a : Nat), va_nd (List.range a) = true := by
    intro a
    have key : ∀ (l : List Nat), l.Nodup → va_nd l = true := by
      intro l hl
      induction l with
      | nil => rfl
      | cons x t ih =>
        rw [List.nodup_cons] at hl
        simp [va_nd, hl.1, ih hl.2]
    exact key _ List.nodup_range
  have hFc := va_free (wc := gt_w1 cA ci sl (ad ks.2)) hD hS hA [ks.2] hC
  have hP1 : va_P D vwCl (gt_w1 cA ci sl (ad ks.2)) H := hP.sub [ks.2] (by
    rw [hwe, gt_w1_eq]
    simp only [List.filterMap_cons, List.filterMap_nil]
    rw [List.getElem?_append_right (by rw [hlen]; exact Nat.le_refl _), hlen, Nat.sub_self]
    rfl)
  have hD1 : va_D (fun _ => True) (gt_w1 cA ci sl (ad ks.2)) := (hD.sub [ks.2] (by rfl) hC).weaken (fun _ _ _ _ => trivial)
  have hpre : PreS s H (gt_PI D cA ci sl (ad ks.2) H.size) (.ref (ad ks.2) :: []) := ⟨gt_PI_bl, fun U hU hW => ⟨rfl, by rw [hU], by rw [hU]; exact hP1, va_K.moved hW.alike hK, hD1, hN.warm hW, hAO.moved hW.alike⟩⟩
  have hrun : va_Run p l e R s m args below meth c H locs k n mc ms (F0 m pc ls (.ref (ad ks.2) :: st.map (gt_v ad))) (st.map (gt_v ad)) (gt_QI D cA ci sl kX σX (ad ks.2) H.size ([.ref (ad ks.2)] : List Value).toArray) (va_A (gt_w1 cA ci sl (ad ks.2)) H.size) := by
    rcases hl with hl | ⟨host, hl⟩
    · exact va_runI (As := []) ⟨hx, hb, hml, hown, hts⟩ (hM D cA (ad ks.2) H.size) ⟨callB_of 0 hts (gt_good hcode) rfl hrm.1 hrm.2 (hts _ hini) (hts _ hl) hd hR, hyn, hts _ him⟩ hpre rfl rfl hlv.1 rfl (lv_room (by rw [gt_sum_map]; exact hsum)) hdg hf
    · exact va_runIN (As := []) ⟨hx, hb, hml, hown, hts⟩ (hM D cA (ad ks.2) H.size) ⟨va_cnB 0 hts (gt_good hcode) rfl hrm.1 hrm.2 (hN _ hl) (hts _ hini) hd hR, hyn, hts _ him⟩ hpre rfl rfl hlv.1 rfl (lv_room (by rw [gt_sum_map]; exact hsum)) hdg hf
  intro T hT X
  obtain ⟨v, st₀, t, T', L, h0, X', hL, e1, e2, ⟨hv, ⟨adX, had, hPX, hDX⟩, hz, hk⟩, stp⟩ := hrun T hT X
  cases hv
  rw [h0] at hz hk
  obtain ⟨hP2, hD2⟩ := va_join (w1 := gt_w kX cA adX σX) hP hD [ks.2] (List.range ks.2) hC hRr (hnd _) (by
    intro i hi hc
    have h1 := List.mem_range.mp hi
    rcases List.mem_cons.mp hc with h2 | h2
    · omega
    · cases h2) hk hFc hPX hDX
  rw [← gt_w_cat (cA := cA) (ad := ad) (adX := adX) ht htX hw hs hwX hsX hm] at hP2 hD2
  have hlvE : lv.map (gt_lm (gt_acat ks.2 ad adX)) = lv.map (gt_lm ad) := by
    apply List.map_congr_left
    intro x hx
    unfold gt_lm
    rw [gt_v_acat had (by omega) (hlvs x hx)]
  have hstE : st.map (gt_v (gt_acat ks.2 ad adX)) = st.map (gt_v ad) := by
    apply List.map_congr_left
    intro x hx
    exact gt_v_acat had (by omega) (hsts x hx)
  have hgo := h (gt_acat ks.2 ad adX) ls T'.heap (locs ++ L) (hPa ad adX had hpa) (by rw [hlvE]; exact hlv) (by rw [e1]; exact hP2) hD2
    ⟨Nat.le_trans hS.1 (by rw [e1]; exact hz), fun q h1 h2 => by rw [e1, hk q (Nat.lt_of_lt_of_le h1 hS.1) (fun z => h2 (hFc q z))]; exact hS.2.1 q h1 h2, fun q hq => by
      rcases List.mem_append.mp hq with h | h
      · exact hS.2.2 q h
      · exact hFc _ (hL q h)⟩
  rw [hstE] at hgo
  obtain ⟨t2, a1, b1⟩ := hgo T' rfl X'
  exact ⟨t2, stp t2 a1, b1⟩
end GTK
end
