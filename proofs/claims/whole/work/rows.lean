section
-- ===== PART A: goes FIRST, ahead of the names: the tables' words, and 'selects' of the private methods out of them =====
/-- a private method of a class that the tables say can be made, by its rows of tables_1 -/
def lw_okq (q : MethodName × Nat) : Prop := (q.1.cls ≠ "java/lang/invoke/MethodHandle" ∧ q.1.cls ≠ "java/lang/invoke/VarHandle") ∧ Cond.instantiable q.1.cls q.2 ∈ tables_1 ∧ Cond.privateMethod q.1 ∈ tables_1 ∧ Cond.instanceMethod q.1 ∈ tables_1
theorem lw_p0 : lw_okq (⟨"LoanNames", "refusalOf", "(III)I"⟩, 18) := ⟨⟨by decide +kernel, by decide +kernel⟩, List.mem_of_getElem? (i := 24) (by decide +kernel), List.mem_of_getElem? (i := 428) (by decide +kernel), List.mem_of_getElem? (i := 429) (by decide +kernel)⟩
theorem lw_p1 : lw_okq (⟨"LoanNames$DealReader", "readAll", "(I)Z"⟩, 8) := ⟨⟨by decide +kernel, by decide +kernel⟩, List.mem_of_getElem? (i := 63) (by decide +kernel), List.mem_of_getElem? (i := 532) (by decide +kernel), List.mem_of_getElem? (i := 533) (by decide +kernel)⟩
theorem lw_p2 : lw_okq (⟨"LoanNames$DealReader", "readPart", "(I)Z"⟩, 8) := ⟨⟨by decide +kernel, by decide +kernel⟩, List.mem_of_getElem? (i := 63) (by decide +kernel), List.mem_of_getElem? (i := 536) (by decide +kernel), List.mem_of_getElem? (i := 537) (by decide +kernel)⟩
theorem lw_p3 : lw_okq (⟨"LoanNames$DealReader", "readLeaf", "(I)Z"⟩, 8) := ⟨⟨by decide +kernel, by decide +kernel⟩, List.mem_of_getElem? (i := 63) (by decide +kernel), List.mem_of_getElem? (i := 593) (by decide +kernel), List.mem_of_getElem? (i := 594) (by decide +kernel)⟩
theorem lw_p4 : lw_okq (⟨"LoanNames$DealReader", "readTwo", "()Z"⟩, 8) := ⟨⟨by decide +kernel, by decide +kernel⟩, List.mem_of_getElem? (i := 63) (by decide +kernel), List.mem_of_getElem? (i := 602) (by decide +kernel), List.mem_of_getElem? (i := 603) (by decide +kernel)⟩
theorem lw_p5 : lw_okq (⟨"LoanNames$DealReader", "readSo", "()Z"⟩, 8) := ⟨⟨by decide +kernel, by decide +kernel⟩, List.mem_of_getElem? (i := 63) (by decide +kernel), List.mem_of_getElem? (i := 613) (by decide +kernel), List.mem_of_getElem? (i := 614) (by decide +kernel)⟩
theorem lw_p6 : lw_okq (⟨"LoanNames$DealReader", "readPay", "(I)Z"⟩, 8) := ⟨⟨by decide +kernel, by decide +kernel⟩, List.mem_of_getElem? (i := 63) (by decide +kernel), List.mem_of_getElem? (i := 622) (by decide +kernel), List.mem_of_getElem? (i := 623) (by decide +kernel)⟩
theorem lw_p7 : lw_okq (⟨"LoanNames$DealReader", "readDays", "(I)Z"⟩, 8) := ⟨⟨by decide +kernel, by decide +kernel⟩, List.mem_of_getElem? (i := 63) (by decide +kernel), List.mem_of_getElem? (i := 635) (by decide +kernel), List.mem_of_getElem? (i := 636) (by decide +kernel)⟩
theorem lw_p8 : lw_okq (⟨"LoanNames$Shape", "hasRoom", "(I)Z"⟩, 3) := ⟨⟨by decide +kernel, by decide +kernel⟩, List.mem_of_getElem? (i := 69) (by decide +kernel), List.mem_of_getElem? (i := 647) (by decide +kernel), List.mem_of_getElem? (i := 648) (by decide +kernel)⟩
theorem lw_p9 : lw_okq (⟨"LoanNames$Deal", "putRow", "(IZIJII)V"⟩, 13) := ⟨⟨by decide +kernel, by decide +kernel⟩, List.mem_of_getElem? (i := 431) (by decide +kernel), List.mem_of_getElem? (i := 663) (by decide +kernel), List.mem_of_getElem? (i := 664) (by decide +kernel)⟩
theorem lw_p10 : lw_okq (⟨"LoanNames$DealReader", "readAfter", "(I)Z"⟩, 8) := ⟨⟨by decide +kernel, by decide +kernel⟩, List.mem_of_getElem? (i := 63) (by decide +kernel), List.mem_of_getElem? (i := 667) (by decide +kernel), List.mem_of_getElem? (i := 668) (by decide +kernel)⟩
theorem lw_p11 : lw_okq (⟨"LoanNames$DealReader", "readBlock", "(I)Z"⟩, 8) := ⟨⟨by decide +kernel, by decide +kernel⟩, List.mem_of_getElem? (i := 63) (by decide +kernel), List.mem_of_getElem? (i := 675) (by decide +kernel), List.mem_of_getElem? (i := 676) (by decide +kernel)⟩
theorem lw_p12 : lw_okq (⟨"LoanNames$Shape", "isBegun", "(I)Z"⟩, 3) := ⟨⟨by decide +kernel, by decide +kernel⟩, List.mem_of_getElem? (i := 69) (by decide +kernel), List.mem_of_getElem? (i := 691) (by decide +kernel), List.mem_of_getElem? (i := 692) (by decide +kernel)⟩
theorem lw_p13 : lw_okq (⟨"LoanNames$Shape", "lift", "(III)V"⟩, 3) := ⟨⟨by decide +kernel, by decide +kernel⟩, List.mem_of_getElem? (i := 69) (by decide +kernel), List.mem_of_getElem? (i := 695) (by decide +kernel), List.mem_of_getElem? (i := 696) (by decide +kernel)⟩
theorem lw_p14 : lw_okq (⟨"LoanNames$Shape", "isJustAfter", "(II)Z"⟩, 3) := ⟨⟨by decide +kernel, by decide +kernel⟩, List.mem_of_getElem? (i := 69) (by decide +kernel), List.mem_of_getElem? (i := 699) (by decide +kernel), List.mem_of_getElem? (i := 700) (by decide +kernel)⟩
theorem lw_p15 : lw_okq (⟨"LoanNames$DealReader", "readTimes", "(I)Z"⟩, 8) := ⟨⟨by decide +kernel, by decide +kernel⟩, List.mem_of_getElem? (i := 63) (by decide +kernel), List.mem_of_getElem? (i := 703) (by decide +kernel), List.mem_of_getElem? (i := 704) (by decide +kernel)⟩
def lw_privs_1 : List (MethodName × Nat) := [(⟨"LoanNames", "refusalOf", "(III)I"⟩, 18), (⟨"LoanNames$DealReader", "readAll", "(I)Z"⟩, 8), (⟨"LoanNames$DealReader", "readPart", "(I)Z"⟩, 8), (⟨"LoanNames$DealReader", "readLeaf", "(I)Z"⟩, 8), (⟨"LoanNames$DealReader", "readTwo", "()Z"⟩, 8), (⟨"LoanNames$DealReader", "readSo", "()Z"⟩, 8), (⟨"LoanNames$DealReader", "readPay", "(I)Z"⟩, 8), (⟨"LoanNames$DealReader", "readDays", "(I)Z"⟩, 8), (⟨"LoanNames$Shape", "hasRoom", "(I)Z"⟩, 3), (⟨"LoanNames$Deal", "putRow", "(IZIJII)V"⟩, 13), (⟨"LoanNames$DealReader", "readAfter", "(I)Z"⟩, 8), (⟨"LoanNames$DealReader", "readBlock", "(I)Z"⟩, 8), (⟨"LoanNames$Shape", "isBegun", "(I)Z"⟩, 3), (⟨"LoanNames$Shape", "lift", "(III)V"⟩, 3), (⟨"LoanNames$Shape", "isJustAfter", "(II)Z"⟩, 3), (⟨"LoanNames$DealReader", "readTimes", "(I)Z"⟩, 8)]
theorem lw_r1 : ∀ q ∈ lw_privs_1, lw_okq q := List.forall_mem_cons.mpr ⟨lw_p0, List.forall_mem_cons.mpr ⟨lw_p1, List.forall_mem_cons.mpr ⟨lw_p2, List.forall_mem_cons.mpr ⟨lw_p3, List.forall_mem_cons.mpr ⟨lw_p4, List.forall_mem_cons.mpr ⟨lw_p5, List.forall_mem_cons.mpr ⟨lw_p6, List.forall_mem_cons.mpr ⟨lw_p7, List.forall_mem_cons.mpr ⟨lw_p8, List.forall_mem_cons.mpr ⟨lw_p9, List.forall_mem_cons.mpr ⟨lw_p10, List.forall_mem_cons.mpr ⟨lw_p11, List.forall_mem_cons.mpr ⟨lw_p12, List.forall_mem_cons.mpr ⟨lw_p13, List.forall_mem_cons.mpr ⟨lw_p14, List.forall_mem_cons.mpr ⟨lw_p15, fun _ h => absurd h List.not_mem_nil⟩⟩⟩⟩⟩⟩⟩⟩⟩⟩⟩⟩⟩⟩⟩⟩
theorem lw_p16 : lw_okq (⟨"LoanNames$DealReader", "readIf", "(I)Z"⟩, 8) := ⟨⟨by decide +kernel, by decide +kernel⟩, List.mem_of_getElem? (i := 63) (by decide +kernel), List.mem_of_getElem? (i := 707) (by decide +kernel), List.mem_of_getElem? (i := 708) (by decide +kernel)⟩
theorem lw_p17 : lw_okq (⟨"LoanNames$DealReader", "readBranches", "(IIIILjava/lang/String;)Z"⟩, 8) := ⟨⟨by decide +kernel, by decide +kernel⟩, List.mem_of_getElem? (i := 63) (by decide +kernel), List.mem_of_getElem? (i := 713) (by decide +kernel), List.mem_of_getElem? (i := 714) (by decide +kernel)⟩
theorem lw_p18 : lw_okq (⟨"LoanNames$DealReader", "readBranch", "(III)Z"⟩, 8) := ⟨⟨by decide +kernel, by decide +kernel⟩, List.mem_of_getElem? (i := 63) (by decide +kernel), List.mem_of_getElem? (i := 717) (by decide +kernel), List.mem_of_getElem? (i := 718) (by decide +kernel)⟩
theorem lw_p19 : lw_okq (⟨"LoanNames$Shape", "isAlike", "(III)Z"⟩, 3) := ⟨⟨by decide +kernel, by decide +kernel⟩, List.mem_of_getElem? (i := 69) (by decide +kernel), List.mem_of_getElem? (i := 729) (by decide +kernel), List.mem_of_getElem? (i := 730) (by decide +kernel)⟩
theorem lw_p20 : lw_okq (⟨"LoanNames$DealReader", "readChoice", "(I)Z"⟩, 8) := ⟨⟨by decide +kernel, by decide +kernel⟩, List.mem_of_getElem? (i := 63) (by decide +kernel), List.mem_of_getElem? (i := 733) (by decide +kernel), List.mem_of_getElem? (i := 734) (by decide +kernel)⟩
theorem lw_p21 : lw_okq (⟨"LoanNames", "closeText", "(ZI)I"⟩, 18) := ⟨⟨by decide +kernel, by decide +kernel⟩, List.mem_of_getElem? (i := 24) (by decide +kernel), List.mem_of_getElem? (i := 755) (by decide +kernel), List.mem_of_getElem? (i := 756) (by decide +kernel)⟩
theorem lw_p22 : lw_okq (⟨"LoanNames", "tellRules", "(I[LLoanNames$Rules;III)I"⟩, 18) := ⟨⟨by decide +kernel, by decide +kernel⟩, List.mem_of_getElem? (i := 24) (by decide +kernel), List.mem_of_getElem? (i := 764) (by decide +kernel), List.mem_of_getElem? (i := 765) (by decide +kernel)⟩
theorem lw_p23 : lw_okq (⟨"LoanNames$Rules", "readStatement", "(LLoanNames$Tape;I)Z"⟩, 2) := ⟨⟨by decide +kernel, by decide +kernel⟩, List.mem_of_getElem? (i := 767) (by decide +kernel), List.mem_of_getElem? (i := 788) (by decide +kernel), List.mem_of_getElem? (i := 789) (by decide +kernel)⟩
theorem lw_p24 : lw_okq (⟨"LoanNames$Rules", "readForm", "(LLoanNames$Tape;I)Z"⟩, 2) := ⟨⟨by decide +kernel, by decide +kernel⟩, List.mem_of_getElem? (i := 767) (by decide +kernel), List.mem_of_getElem? (i := 794) (by decide +kernel), List.mem_of_getElem? (i := 795) (by decide +kernel)⟩
theorem lw_p25 : lw_okq (⟨"LoanNames$Rules", "readTies", "(LLoanNames$Tape;I)V"⟩, 2) := ⟨⟨by decide +kernel, by decide +kernel⟩, List.mem_of_getElem? (i := 767) (by decide +kernel), List.mem_of_getElem? (i := 805) (by decide +kernel), List.mem_of_getElem? (i := 806) (by decide +kernel)⟩
theorem lw_p26 : lw_okq (⟨"LoanNames$Rules", "readWithin", "(LLoanNames$Tape;I)Z"⟩, 2) := ⟨⟨by decide +kernel, by decide +kernel⟩, List.mem_of_getElem? (i := 767) (by decide +kernel), List.mem_of_getElem? (i := 811) (by decide +kernel), List.mem_of_getElem? (i := 812) (by decide +kernel)⟩
theorem lw_p27 : lw_okq (⟨"LoanNames$Kinship", "giveSlots", "(LLoanNames$Deal;I)V"⟩, 7) := ⟨⟨by decide +kernel, by decide +kernel⟩, List.mem_of_getElem? (i := 315) (by decide +kernel), List.mem_of_getElem? (i := 855) (by decide +kernel), List.mem_of_getElem? (i := 856) (by decide +kernel)⟩
theorem lw_p28 : lw_okq (⟨"LoanNames$Kinship", "pour", "(LLoanNames$Deal;III)V"⟩, 7) := ⟨⟨by decide +kernel, by decide +kernel⟩, List.mem_of_getElem? (i := 315) (by decide +kernel), List.mem_of_getElem? (i := 871) (by decide +kernel), List.mem_of_getElem? (i := 872) (by decide +kernel)⟩
theorem lw_p29 : lw_okq (⟨"LoanNames$Kinship", "isLevel", "()Z"⟩, 7) := ⟨⟨by decide +kernel, by decide +kernel⟩, List.mem_of_getElem? (i := 315) (by decide +kernel), List.mem_of_getElem? (i := 879) (by decide +kernel), List.mem_of_getElem? (i := 880) (by decide +kernel)⟩
theorem lw_p30 : lw_okq (⟨"LoanNames$Ledger", "shareOf", "(LLoanNames$Deal;II)J"⟩, 20) := ⟨⟨by decide +kernel, by decide +kernel⟩, List.mem_of_getElem? (i := 138) (by decide +kernel), List.mem_of_getElem? (i := 941) (by decide +kernel), List.mem_of_getElem? (i := 942) (by decide +kernel)⟩
theorem lw_p31 : lw_okq (⟨"LoanNames$Ledger", "earliestHead", "(LLoanNames$Bundle;)I"⟩, 20) := ⟨⟨by decide +kernel, by decide +kernel⟩, List.mem_of_getElem? (i := 138) (by decide +kernel), List.mem_of_getElem? (i := 981) (by decide +kernel), List.mem_of_getElem? (i := 982) (by decide +kernel)⟩
def lw_privs_2 : List (MethodName × Nat) := [(⟨"LoanNames$DealReader", "readIf", "(I)Z"⟩, 8), (⟨"LoanNames$DealReader", "readBranches", "(IIIILjava/lang/String;)Z"⟩, 8), (⟨"LoanNames$DealReader", "readBranch", "(III)Z"⟩, 8), (⟨"LoanNames$Shape", "isAlike", "(III)Z"⟩, 3), (⟨"LoanNames$DealReader", "readChoice", "(I)Z"⟩, 8), (⟨"LoanNames", "closeText", "(ZI)I"⟩, 18), (⟨"LoanNames", "tellRules", "(I[LLoanNames$Rules;III)I"⟩, 18), (⟨"LoanNames$Rules", "readStatement", "(LLoanNames$Tape;I)Z"⟩, 2), (⟨"LoanNames$Rules", "readForm", "(LLoanNames$Tape;I)Z"⟩, 2), (⟨"LoanNames$Rules", "readTies", "(LLoanNames$Tape;I)V"⟩, 2), (⟨"LoanNames$Rules", "readWithin", "(LLoanNames$Tape;I)Z"⟩, 2), (⟨"LoanNames$Kinship", "giveSlots", "(LLoanNames$Deal;I)V"⟩, 7), (⟨"LoanNames$Kinship", "pour", "(LLoanNames$Deal;III)V"⟩, 7), (⟨"LoanNames$Kinship", "isLevel", "()Z"⟩, 7), (⟨"LoanNames$Ledger", "shareOf", "(LLoanNames$Deal;II)J"⟩, 20), (⟨"LoanNames$Ledger", "earliestHead", "(LLoanNames$Bundle;)I"⟩, 20)]
theorem lw_r2 : ∀ q ∈ lw_privs_2, lw_okq q := List.forall_mem_cons.mpr ⟨lw_p16, List.forall_mem_cons.mpr ⟨lw_p17, List.forall_mem_cons.mpr ⟨lw_p18, List.forall_mem_cons.mpr ⟨lw_p19, List.forall_mem_cons.mpr ⟨lw_p20, List.forall_mem_cons.mpr ⟨lw_p21, List.forall_mem_cons.mpr ⟨lw_p22, List.forall_mem_cons.mpr ⟨lw_p23, List.forall_mem_cons.mpr ⟨lw_p24, List.forall_mem_cons.mpr ⟨lw_p25, List.forall_mem_cons.mpr ⟨lw_p26, List.forall_mem_cons.mpr ⟨lw_p27, List.forall_mem_cons.mpr ⟨lw_p28, List.forall_mem_cons.mpr ⟨lw_p29, List.forall_mem_cons.mpr ⟨lw_p30, List.forall_mem_cons.mpr ⟨lw_p31, fun _ h => absurd h List.not_mem_nil⟩⟩⟩⟩⟩⟩⟩⟩⟩⟩⟩⟩⟩⟩⟩⟩
theorem lw_p32 : lw_okq (⟨"LoanNames$Ledger", "putEntry", "(LLoanNames$Deal;II)I"⟩, 20) := ⟨⟨by decide +kernel, by decide +kernel⟩, List.mem_of_getElem? (i := 138) (by decide +kernel), List.mem_of_getElem? (i := 986) (by decide +kernel), List.mem_of_getElem? (i := 987) (by decide +kernel)⟩
theorem lw_p33 : lw_okq (⟨"LoanNames$Ledger", "endDay", "(I)V"⟩, 20) := ⟨⟨by decide +kernel, by decide +kernel⟩, List.mem_of_getElem? (i := 138) (by decide +kernel), List.mem_of_getElem? (i := 998) (by decide +kernel), List.mem_of_getElem? (i := 999) (by decide +kernel)⟩
theorem lw_p34 : lw_okq (⟨"LoanNames$Ledger", "book", "(III)V"⟩, 20) := ⟨⟨by decide +kernel, by decide +kernel⟩, List.mem_of_getElem? (i := 138) (by decide +kernel), List.mem_of_getElem? (i := 1002) (by decide +kernel), List.mem_of_getElem? (i := 1003) (by decide +kernel)⟩
theorem lw_p35 : lw_okq (⟨"LoanNames$Ledger", "findUneven", "()V"⟩, 20) := ⟨⟨by decide +kernel, by decide +kernel⟩, List.mem_of_getElem? (i := 138) (by decide +kernel), List.mem_of_getElem? (i := 1006) (by decide +kernel), List.mem_of_getElem? (i := 1007) (by decide +kernel)⟩
theorem lw_p36 : lw_okq (⟨"LoanNames$Tally", "noteLender", "(LLoanNames$Ledger;I)V"⟩, 5) := ⟨⟨by decide +kernel, by decide +kernel⟩, List.mem_of_getElem? (i := 208) (by decide +kernel), List.mem_of_getElem? (i := 1013) (by decide +kernel), List.mem_of_getElem? (i := 1014) (by decide +kernel)⟩
theorem lw_p37 : lw_okq (⟨"LoanNames$Tally", "notePrice", "(IJJ)V"⟩, 5) := ⟨⟨by decide +kernel, by decide +kernel⟩, List.mem_of_getElem? (i := 208) (by decide +kernel), List.mem_of_getElem? (i := 1024) (by decide +kernel), List.mem_of_getElem? (i := 1025) (by decide +kernel)⟩
theorem lw_p38 : lw_okq (⟨"LoanNames$Tally", "leastPair", "(I)I"⟩, 5) := ⟨⟨by decide +kernel, by decide +kernel⟩, List.mem_of_getElem? (i := 208) (by decide +kernel), List.mem_of_getElem? (i := 1034) (by decide +kernel), List.mem_of_getElem? (i := 1035) (by decide +kernel)⟩
theorem lw_p39 : lw_okq (⟨"LoanNames", "lawInForce", "()LLoanNames$Rules;"⟩, 18) := ⟨⟨by decide +kernel, by decide +kernel⟩, List.mem_of_getElem? (i := 24) (by decide +kernel), List.mem_of_getElem? (i := 1062) (by decide +kernel), List.mem_of_getElem? (i := 1063) (by decide +kernel)⟩
theorem lw_p40 : lw_okq (⟨"LoanNames$Judge", "hearAlso", "(LLoanNames$Deal;)V"⟩, 5) := ⟨⟨by decide +kernel, by decide +kernel⟩, List.mem_of_getElem? (i := 235) (by decide +kernel), List.mem_of_getElem? (i := 1070) (by decide +kernel), List.mem_of_getElem? (i := 1071) (by decide +kernel)⟩
theorem lw_p41 : lw_okq (⟨"LoanNames$Judge", "findLeaves", "([II)Z"⟩, 5) := ⟨⟨by decide +kernel, by decide +kernel⟩, List.mem_of_getElem? (i := 235) (by decide +kernel), List.mem_of_getElem? (i := 1079) (by decide +kernel), List.mem_of_getElem? (i := 1080) (by decide +kernel)⟩
theorem lw_p42 : lw_okq (⟨"LoanNames$Judge", "isOf", "(III)Z"⟩, 5) := ⟨⟨by decide +kernel, by decide +kernel⟩, List.mem_of_getElem? (i := 235) (by decide +kernel), List.mem_of_getElem? (i := 1083) (by decide +kernel), List.mem_of_getElem? (i := 1084) (by decide +kernel)⟩
theorem lw_p43 : lw_okq (⟨"LoanNames$Judge", "findSecond", "([III)I"⟩, 5) := ⟨⟨by decide +kernel, by decide +kernel⟩, List.mem_of_getElem? (i := 235) (by decide +kernel), List.mem_of_getElem? (i := 1087) (by decide +kernel), List.mem_of_getElem? (i := 1088) (by decide +kernel)⟩
theorem lw_p44 : lw_okq (⟨"LoanNames$Judge", "isLater", "(III)Z"⟩, 5) := ⟨⟨by decide +kernel, by decide +kernel⟩, List.mem_of_getElem? (i := 235) (by decide +kernel), List.mem_of_getElem? (i := 1091) (by decide +kernel), List.mem_of_getElem? (i := 1092) (by decide +kernel)⟩
theorem lw_p45 : lw_okq (⟨"LoanNames$Judge", "isTied", "(III)Z"⟩, 5) := ⟨⟨by decide +kernel, by decide +kernel⟩, List.mem_of_getElem? (i := 235) (by decide +kernel), List.mem_of_getElem? (i := 1095) (by decide +kernel), List.mem_of_getElem? (i := 1096) (by decide +kernel)⟩
theorem lw_p46 : lw_okq (⟨"LoanNames$Search", "findBarred", "(LLoanNames$Rules;[II)V"⟩, 15) := ⟨⟨by decide +kernel, by decide +kernel⟩, List.mem_of_getElem? (i := 259) (by decide +kernel), List.mem_of_getElem? (i := 1120) (by decide +kernel), List.mem_of_getElem? (i := 1121) (by decide +kernel)⟩
theorem lw_p47 : lw_okq (⟨"LoanNames$Search", "grow", "(III)V"⟩, 15) := ⟨⟨by decide +kernel, by decide +kernel⟩, List.mem_of_getElem? (i := 259) (by decide +kernel), List.mem_of_getElem? (i := 1134) (by decide +kernel), List.mem_of_getElem? (i := 1135) (by decide +kernel)⟩
def lw_privs_3 : List (MethodName × Nat) := [(⟨"LoanNames$Ledger", "putEntry", "(LLoanNames$Deal;II)I"⟩, 20), (⟨"LoanNames$Ledger", "endDay", "(I)V"⟩, 20), (⟨"LoanNames$Ledger", "book", "(III)V"⟩, 20), (⟨"LoanNames$Ledger", "findUneven", "()V"⟩, 20), (⟨"LoanNames$Tally", "noteLender", "(LLoanNames$Ledger;I)V"⟩, 5), (⟨"LoanNames$Tally", "notePrice", "(IJJ)V"⟩, 5), (⟨"LoanNames$Tally", "leastPair", "(I)I"⟩, 5), (⟨"LoanNames", "lawInForce", "()LLoanNames$Rules;"⟩, 18), (⟨"LoanNames$Judge", "hearAlso", "(LLoanNames$Deal;)V"⟩, 5), (⟨"LoanNames$Judge", "findLeaves", "([II)Z"⟩, 5), (⟨"LoanNames$Judge", "isOf", "(III)Z"⟩, 5), (⟨"LoanNames$Judge", "findSecond", "([III)I"⟩, 5), (⟨"LoanNames$Judge", "isLater", "(III)Z"⟩, 5), (⟨"LoanNames$Judge", "isTied", "(III)Z"⟩, 5), (⟨"LoanNames$Search", "findBarred", "(LLoanNames$Rules;[II)V"⟩, 15), (⟨"LoanNames$Search", "grow", "(III)V"⟩, 15)]
theorem lw_r3 : ∀ q ∈ lw_privs_3, lw_okq q := List.forall_mem_cons.mpr ⟨lw_p32, List.forall_mem_cons.mpr ⟨lw_p33, List.forall_mem_cons.mpr ⟨lw_p34, List.forall_mem_cons.mpr ⟨lw_p35, List.forall_mem_cons.mpr ⟨lw_p36, List.forall_mem_cons.mpr ⟨lw_p37, List.forall_mem_cons.mpr ⟨lw_p38, List.forall_mem_cons.mpr ⟨lw_p39, List.forall_mem_cons.mpr ⟨lw_p40, List.forall_mem_cons.mpr ⟨lw_p41, List.forall_mem_cons.mpr ⟨lw_p42, List.forall_mem_cons.mpr ⟨lw_p43, List.forall_mem_cons.mpr ⟨lw_p44, List.forall_mem_cons.mpr ⟨lw_p45, List.forall_mem_cons.mpr ⟨lw_p46, List.forall_mem_cons.mpr ⟨lw_p47, fun _ h => absurd h List.not_mem_nil⟩⟩⟩⟩⟩⟩⟩⟩⟩⟩⟩⟩⟩⟩⟩⟩
theorem lw_p48 : lw_okq (⟨"LoanNames$Search", "mayLend", "(I)Z"⟩, 15) := ⟨⟨by decide +kernel, by decide +kernel⟩, List.mem_of_getElem? (i := 259) (by decide +kernel), List.mem_of_getElem? (i := 1140) (by decide +kernel), List.mem_of_getElem? (i := 1141) (by decide +kernel)⟩
theorem lw_p49 : lw_okq (⟨"LoanNames$Search", "isLoan", "(I)Z"⟩, 15) := ⟨⟨by decide +kernel, by decide +kernel⟩, List.mem_of_getElem? (i := 259) (by decide +kernel), List.mem_of_getElem? (i := 1144) (by decide +kernel), List.mem_of_getElem? (i := 1145) (by decide +kernel)⟩
theorem lw_p50 : lw_okq (⟨"LoanNames", "isLet", "(LLoanNames$Bundle;)Z"⟩, 18) := ⟨⟨by decide +kernel, by decide +kernel⟩, List.mem_of_getElem? (i := 24) (by decide +kernel), List.mem_of_getElem? (i := 1186) (by decide +kernel), List.mem_of_getElem? (i := 1187) (by decide +kernel)⟩
theorem lw_p51 : lw_okq (⟨"LoanNames", "sparesHonest", "(LLoanNames$Rules;)Z"⟩, 18) := ⟨⟨by decide +kernel, by decide +kernel⟩, List.mem_of_getElem? (i := 24) (by decide +kernel), List.mem_of_getElem? (i := 1204) (by decide +kernel), List.mem_of_getElem? (i := 1205) (by decide +kernel)⟩
theorem lw_p52 : lw_okq (⟨"LoanNames$Search", "wordsThatBar", "(II)I"⟩, 15) := ⟨⟨by decide +kernel, by decide +kernel⟩, List.mem_of_getElem? (i := 259) (by decide +kernel), List.mem_of_getElem? (i := 1212) (by decide +kernel), List.mem_of_getElem? (i := 1213) (by decide +kernel)⟩
theorem lw_p53 : lw_okq (⟨"LoanNames$Search", "putNeed", "(I)V"⟩, 15) := ⟨⟨by decide +kernel, by decide +kernel⟩, List.mem_of_getElem? (i := 259) (by decide +kernel), List.mem_of_getElem? (i := 1216) (by decide +kernel), List.mem_of_getElem? (i := 1217) (by decide +kernel)⟩
theorem lw_p54 : lw_okq (⟨"LoanNames$Search", "meetsNeeds", "(I)Z"⟩, 15) := ⟨⟨by decide +kernel, by decide +kernel⟩, List.mem_of_getElem? (i := 259) (by decide +kernel), List.mem_of_getElem? (i := 1220) (by decide +kernel), List.mem_of_getElem? (i := 1221) (by decide +kernel)⟩
theorem lw_p55 : lw_okq (⟨"LoanNames$Kinship", "hangTogether", "(LLoanNames$Deal;LLoanNames$Deal;I)Z"⟩, 7) := ⟨⟨by decide +kernel, by decide +kernel⟩, List.mem_of_getElem? (i := 315) (by decide +kernel), List.mem_of_getElem? (i := 1233) (by decide +kernel), List.mem_of_getElem? (i := 1234) (by decide +kernel)⟩
theorem lw_p56 : lw_okq (⟨"LoanNames$Kinship", "join", "(III)V"⟩, 7) := ⟨⟨by decide +kernel, by decide +kernel⟩, List.mem_of_getElem? (i := 315) (by decide +kernel), List.mem_of_getElem? (i := 1240) (by decide +kernel), List.mem_of_getElem? (i := 1241) (by decide +kernel)⟩
theorem lw_p57 : lw_okq (⟨"LoanNamesModel", "beginsText", "(I)V"⟩, 93) := ⟨⟨by decide +kernel, by decide +kernel⟩, List.mem_of_getElem? (i := 1267) (by decide +kernel), List.mem_of_getElem? (i := 1569) (by decide +kernel), List.mem_of_getElem? (i := 1570) (by decide +kernel)⟩
theorem lw_p58 : lw_okq (⟨"LoanNamesModel", "next", "()V"⟩, 93) := ⟨⟨by decide +kernel, by decide +kernel⟩, List.mem_of_getElem? (i := 1267) (by decide +kernel), List.mem_of_getElem? (i := 1573) (by decide +kernel), List.mem_of_getElem? (i := 1574) (by decide +kernel)⟩
theorem lw_p59 : lw_okq (⟨"LoanNamesModel", "here", "()I"⟩, 93) := ⟨⟨by decide +kernel, by decide +kernel⟩, List.mem_of_getElem? (i := 1267) (by decide +kernel), List.mem_of_getElem? (i := 1577) (by decide +kernel), List.mem_of_getElem? (i := 1578) (by decide +kernel)⟩
theorem lw_p60 : lw_okq (⟨"LoanNamesModel", "kindHere", "()I"⟩, 93) := ⟨⟨by decide +kernel, by decide +kernel⟩, List.mem_of_getElem? (i := 1267) (by decide +kernel), List.mem_of_getElem? (i := 1584) (by decide +kernel), List.mem_of_getElem? (i := 1585) (by decide +kernel)⟩
theorem lw_p61 : lw_okq (⟨"LoanNamesModel", "errs", "()V"⟩, 93) := ⟨⟨by decide +kernel, by decide +kernel⟩, List.mem_of_getElem? (i := 1267) (by decide +kernel), List.mem_of_getElem? (i := 1596) (by decide +kernel), List.mem_of_getElem? (i := 1597) (by decide +kernel)⟩
theorem lw_p62 : lw_okq (⟨"LoanNamesModel", "readLeaf", "(I)V"⟩, 93) := ⟨⟨by decide +kernel, by decide +kernel⟩, List.mem_of_getElem? (i := 1267) (by decide +kernel), List.mem_of_getElem? (i := 1600) (by decide +kernel), List.mem_of_getElem? (i := 1601) (by decide +kernel)⟩
theorem lw_p63 : lw_okq (⟨"LoanNamesModel", "newNode", "(I)I"⟩, 93) := ⟨⟨by decide +kernel, by decide +kernel⟩, List.mem_of_getElem? (i := 1267) (by decide +kernel), List.mem_of_getElem? (i := 1604) (by decide +kernel), List.mem_of_getElem? (i := 1605) (by decide +kernel)⟩
def lw_privs_4 : List (MethodName × Nat) := [(⟨"LoanNames$Search", "mayLend", "(I)Z"⟩, 15), (⟨"LoanNames$Search", "isLoan", "(I)Z"⟩, 15), (⟨"LoanNames", "isLet", "(LLoanNames$Bundle;)Z"⟩, 18), (⟨"LoanNames", "sparesHonest", "(LLoanNames$Rules;)Z"⟩, 18), (⟨"LoanNames$Search", "wordsThatBar", "(II)I"⟩, 15), (⟨"LoanNames$Search", "putNeed", "(I)V"⟩, 15), (⟨"LoanNames$Search", "meetsNeeds", "(I)Z"⟩, 15), (⟨"LoanNames$Kinship", "hangTogether", "(LLoanNames$Deal;LLoanNames$Deal;I)Z"⟩, 7), (⟨"LoanNames$Kinship", "join", "(III)V"⟩, 7), (⟨"LoanNamesModel", "beginsText", "(I)V"⟩, 93), (⟨"LoanNamesModel", "next", "()V"⟩, 93), (⟨"LoanNamesModel", "here", "()I"⟩, 93), (⟨"LoanNamesModel", "kindHere", "()I"⟩, 93), (⟨"LoanNamesModel", "errs", "()V"⟩, 93), (⟨"LoanNamesModel", "readLeaf", "(I)V"⟩, 93), (⟨"LoanNamesModel", "newNode", "(I)I"⟩, 93)]
theorem lw_r4 : ∀ q ∈ lw_privs_4, lw_okq q := List.forall_mem_cons.mpr ⟨lw_p48, List.forall_mem_cons.mpr ⟨lw_p49, List.forall_mem_cons.mpr ⟨lw_p50, List.forall_mem_cons.mpr ⟨lw_p51, List.forall_mem_cons.mpr ⟨lw_p52, List.forall_mem_cons.mpr ⟨lw_p53, List.forall_mem_cons.mpr ⟨lw_p54, List.forall_mem_cons.mpr ⟨lw_p55, List.forall_mem_cons.mpr ⟨lw_p56, List.forall_mem_cons.mpr ⟨lw_p57, List.forall_mem_cons.mpr ⟨lw_p58, List.forall_mem_cons.mpr ⟨lw_p59, List.forall_mem_cons.mpr ⟨lw_p60, List.forall_mem_cons.mpr ⟨lw_p61, List.forall_mem_cons.mpr ⟨lw_p62, List.forall_mem_cons.mpr ⟨lw_p63, fun _ h => absurd h List.not_mem_nil⟩⟩⟩⟩⟩⟩⟩⟩⟩⟩⟩⟩⟩⟩⟩⟩
theorem lw_p64 : lw_okq (⟨"LoanNamesModel", "hand", "(I)I"⟩, 93) := ⟨⟨by decide +kernel, by decide +kernel⟩, List.mem_of_getElem? (i := 1267) (by decide +kernel), List.mem_of_getElem? (i := 1608) (by decide +kernel), List.mem_of_getElem? (i := 1609) (by decide +kernel)⟩
theorem lw_p65 : lw_okq (⟨"LoanNamesModel", "thingOf", "()I"⟩, 93) := ⟨⟨by decide +kernel, by decide +kernel⟩, List.mem_of_getElem? (i := 1267) (by decide +kernel), List.mem_of_getElem? (i := 1613) (by decide +kernel), List.mem_of_getElem? (i := 1614) (by decide +kernel)⟩
theorem lw_p66 : lw_okq (⟨"LoanNamesModel", "thingHere", "()I"⟩, 93) := ⟨⟨by decide +kernel, by decide +kernel⟩, List.mem_of_getElem? (i := 1267) (by decide +kernel), List.mem_of_getElem? (i := 1617) (by decide +kernel), List.mem_of_getElem? (i := 1618) (by decide +kernel)⟩
theorem lw_p67 : lw_okq (⟨"LoanNamesModel", "numeral", "(II)I"⟩, 93) := ⟨⟨by decide +kernel, by decide +kernel⟩, List.mem_of_getElem? (i := 1267) (by decide +kernel), List.mem_of_getElem? (i := 1627) (by decide +kernel), List.mem_of_getElem? (i := 1628) (by decide +kernel)⟩
theorem lw_p68 : lw_okq (⟨"LoanNamesModel", "mustBe", "(J)V"⟩, 93) := ⟨⟨by decide +kernel, by decide +kernel⟩, List.mem_of_getElem? (i := 1267) (by decide +kernel), List.mem_of_getElem? (i := 1632) (by decide +kernel), List.mem_of_getElem? (i := 1633) (by decide +kernel)⟩
theorem lw_p69 : lw_okq (⟨"LoanNamesModel", "is", "(J)Z"⟩, 93) := ⟨⟨by decide +kernel, by decide +kernel⟩, List.mem_of_getElem? (i := 1267) (by decide +kernel), List.mem_of_getElem? (i := 1636) (by decide +kernel), List.mem_of_getElem? (i := 1637) (by decide +kernel)⟩
theorem lw_p70 : lw_okq (⟨"LoanNamesModel", "closes", "()Z"⟩, 93) := ⟨⟨by decide +kernel, by decide +kernel⟩, List.mem_of_getElem? (i := 1267) (by decide +kernel), List.mem_of_getElem? (i := 1643) (by decide +kernel), List.mem_of_getElem? (i := 1644) (by decide +kernel)⟩
theorem lw_p71 : lw_okq (⟨"LoanNamesModel", "opens", "(II)V"⟩, 93) := ⟨⟨by decide +kernel, by decide +kernel⟩, List.mem_of_getElem? (i := 1267) (by decide +kernel), List.mem_of_getElem? (i := 1649) (by decide +kernel), List.mem_of_getElem? (i := 1650) (by decide +kernel)⟩
theorem lw_p72 : lw_okq (⟨"LoanNamesModel", "readGroup", "(I)V"⟩, 93) := ⟨⟨by decide +kernel, by decide +kernel⟩, List.mem_of_getElem? (i := 1267) (by decide +kernel), List.mem_of_getElem? (i := 1653) (by decide +kernel), List.mem_of_getElem? (i := 1654) (by decide +kernel)⟩
theorem lw_p73 : lw_okq (⟨"LoanNamesModel", "eventHere", "()I"⟩, 93) := ⟨⟨by decide +kernel, by decide +kernel⟩, List.mem_of_getElem? (i := 1267) (by decide +kernel), List.mem_of_getElem? (i := 1657) (by decide +kernel), List.mem_of_getElem? (i := 1658) (by decide +kernel)⟩
theorem lw_p74 : lw_okq (⟨"LoanNamesModel", "isDeal", "(I)Z"⟩, 93) := ⟨⟨by decide +kernel, by decide +kernel⟩, List.mem_of_getElem? (i := 1267) (by decide +kernel), List.mem_of_getElem? (i := 1674) (by decide +kernel), List.mem_of_getElem? (i := 1675) (by decide +kernel)⟩
theorem lw_p75 : lw_okq (⟨"LoanNamesModel", "isLeaf", "(I)Z"⟩, 93) := ⟨⟨by decide +kernel, by decide +kernel⟩, List.mem_of_getElem? (i := 1267) (by decide +kernel), List.mem_of_getElem? (i := 1678) (by decide +kernel), List.mem_of_getElem? (i := 1679) (by decide +kernel)⟩
theorem lw_p76 : lw_okq (⟨"LoanNamesModel", "told", "(II)I"⟩, 93) := ⟨⟨by decide +kernel, by decide +kernel⟩, List.mem_of_getElem? (i := 1267) (by decide +kernel), List.mem_of_getElem? (i := 1686) (by decide +kernel), List.mem_of_getElem? (i := 1687) (by decide +kernel)⟩
theorem lw_p77 : lw_okq (⟨"LoanNamesModel", "later", "(I)I"⟩, 93) := ⟨⟨by decide +kernel, by decide +kernel⟩, List.mem_of_getElem? (i := 1267) (by decide +kernel), List.mem_of_getElem? (i := 1690) (by decide +kernel), List.mem_of_getElem? (i := 1691) (by decide +kernel)⟩
theorem lw_p78 : lw_okq (⟨"LoanNamesModel", "simplifies", "(II)V"⟩, 93) := ⟨⟨by decide +kernel, by decide +kernel⟩, List.mem_of_getElem? (i := 1267) (by decide +kernel), List.mem_of_getElem? (i := 1698) (by decide +kernel), List.mem_of_getElem? (i := 1699) (by decide +kernel)⟩
theorem lw_p79 : lw_okq (⟨"LoanNamesModel", "partsLeft", "(III)I"⟩, 93) := ⟨⟨by decide +kernel, by decide +kernel⟩, List.mem_of_getElem? (i := 1267) (by decide +kernel), List.mem_of_getElem? (i := 1702) (by decide +kernel), List.mem_of_getElem? (i := 1703) (by decide +kernel)⟩
def lw_privs_5 : List (MethodName × Nat) := [(⟨"LoanNamesModel", "hand", "(I)I"⟩, 93), (⟨"LoanNamesModel", "thingOf", "()I"⟩, 93), (⟨"LoanNamesModel", "thingHere", "()I"⟩, 93), (⟨"LoanNamesModel", "numeral", "(II)I"⟩, 93), (⟨"LoanNamesModel", "mustBe", "(J)V"⟩, 93), (⟨"LoanNamesModel", "is", "(J)Z"⟩, 93), (⟨"LoanNamesModel", "closes", "()Z"⟩, 93), (⟨"LoanNamesModel", "opens", "(II)V"⟩, 93), (⟨"LoanNamesModel", "readGroup", "(I)V"⟩, 93), (⟨"LoanNamesModel", "eventHere", "()I"⟩, 93), (⟨"LoanNamesModel", "isDeal", "(I)Z"⟩, 93), (⟨"LoanNamesModel", "isLeaf", "(I)Z"⟩, 93), (⟨"LoanNamesModel", "told", "(II)I"⟩, 93), (⟨"LoanNamesModel", "later", "(I)I"⟩, 93), (⟨"LoanNamesModel", "simplifies", "(II)V"⟩, 93), (⟨"LoanNamesModel", "partsLeft", "(III)I"⟩, 93)]
theorem lw_r5 : ∀ q ∈ lw_privs_5, lw_okq q := List.forall_mem_cons.mpr ⟨lw_p64, List.forall_mem_cons.mpr ⟨lw_p65, List.forall_mem_cons.mpr ⟨lw_p66, List.forall_mem_cons.mpr ⟨lw_p67, List.forall_mem_cons.mpr ⟨lw_p68, List.forall_mem_cons.mpr ⟨lw_p69, List.forall_mem_cons.mpr ⟨lw_p70, List.forall_mem_cons.mpr ⟨lw_p71, List.forall_mem_cons.mpr ⟨lw_p72, List.forall_mem_cons.mpr ⟨lw_p73, List.forall_mem_cons.mpr ⟨lw_p74, List.forall_mem_cons.mpr ⟨lw_p75, List.forall_mem_cons.mpr ⟨lw_p76, List.forall_mem_cons.mpr ⟨lw_p77, List.forall_mem_cons.mpr ⟨lw_p78, List.forall_mem_cons.mpr ⟨lw_p79, fun _ h => absurd h List.not_mem_nil⟩⟩⟩⟩⟩⟩⟩⟩⟩⟩⟩⟩⟩⟩⟩⟩
theorem lw_p80 : lw_okq (⟨"LoanNamesModel", "areAlike", "(II)Z"⟩, 93) := ⟨⟨by decide +kernel, by decide +kernel⟩, List.mem_of_getElem? (i := 1267) (by decide +kernel), List.mem_of_getElem? (i := 1706) (by decide +kernel), List.mem_of_getElem? (i := 1707) (by decide +kernel)⟩
theorem lw_p81 : lw_okq (⟨"LoanNamesModel", "laysOut", "(IIII)I"⟩, 93) := ⟨⟨by decide +kernel, by decide +kernel⟩, List.mem_of_getElem? (i := 1267) (by decide +kernel), List.mem_of_getElem? (i := 1710) (by decide +kernel), List.mem_of_getElem? (i := 1711) (by decide +kernel)⟩
theorem lw_p82 : lw_okq (⟨"LoanNamesModel", "closesUp", "(II)V"⟩, 93) := ⟨⟨by decide +kernel, by decide +kernel⟩, List.mem_of_getElem? (i := 1267) (by decide +kernel), List.mem_of_getElem? (i := 1714) (by decide +kernel), List.mem_of_getElem? (i := 1715) (by decide +kernel)⟩
theorem lw_p83 : lw_okq (⟨"LoanNamesModel", "sign", "(II)V"⟩, 93) := ⟨⟨by decide +kernel, by decide +kernel⟩, List.mem_of_getElem? (i := 1267) (by decide +kernel), List.mem_of_getElem? (i := 1718) (by decide +kernel), List.mem_of_getElem? (i := 1719) (by decide +kernel)⟩
theorem lw_p84 : lw_okq (⟨"LoanNamesModel", "partLeft", "(III)I"⟩, 93) := ⟨⟨by decide +kernel, by decide +kernel⟩, List.mem_of_getElem? (i := 1267) (by decide +kernel), List.mem_of_getElem? (i := 1722) (by decide +kernel), List.mem_of_getElem? (i := 1723) (by decide +kernel)⟩
theorem lw_p85 : lw_okq (⟨"LoanNamesModel", "passes", "(III)V"⟩, 93) := ⟨⟨by decide +kernel, by decide +kernel⟩, List.mem_of_getElem? (i := 1267) (by decide +kernel), List.mem_of_getElem? (i := 1730) (by decide +kernel), List.mem_of_getElem? (i := 1731) (by decide +kernel)⟩
theorem lw_p86 : lw_okq (⟨"LoanNamesModel", "times", "(III)J"⟩, 93) := ⟨⟨by decide +kernel, by decide +kernel⟩, List.mem_of_getElem? (i := 1267) (by decide +kernel), List.mem_of_getElem? (i := 1734) (by decide +kernel), List.mem_of_getElem? (i := 1735) (by decide +kernel)⟩
theorem lw_p87 : lw_okq (⟨"LoanNamesModel", "flow", "(IIIIJ)V"⟩, 93) := ⟨⟨by decide +kernel, by decide +kernel⟩, List.mem_of_getElem? (i := 1267) (by decide +kernel), List.mem_of_getElem? (i := 1738) (by decide +kernel), List.mem_of_getElem? (i := 1739) (by decide +kernel)⟩
theorem lw_p88 : lw_okq (⟨"LoanNamesModel", "among", "(III)J"⟩, 93) := ⟨⟨by decide +kernel, by decide +kernel⟩, List.mem_of_getElem? (i := 1267) (by decide +kernel), List.mem_of_getElem? (i := 1742) (by decide +kernel), List.mem_of_getElem? (i := 1743) (by decide +kernel)⟩
theorem lw_p89 : lw_okq (⟨"LoanNamesModel", "bundleAtHand", "()V"⟩, 93) := ⟨⟨by decide +kernel, by decide +kernel⟩, List.mem_of_getElem? (i := 1267) (by decide +kernel), List.mem_of_getElem? (i := 1758) (by decide +kernel), List.mem_of_getElem? (i := 1759) (by decide +kernel)⟩
theorem lw_p90 : lw_okq (⟨"LoanNamesModel", "codesAtHand", "()I"⟩, 93) := ⟨⟨by decide +kernel, by decide +kernel⟩, List.mem_of_getElem? (i := 1267) (by decide +kernel), List.mem_of_getElem? (i := 1762) (by decide +kernel), List.mem_of_getElem? (i := 1763) (by decide +kernel)⟩
theorem lw_p91 : lw_okq (⟨"LoanNamesModel", "choicesAtHand", "()I"⟩, 93) := ⟨⟨by decide +kernel, by decide +kernel⟩, List.mem_of_getElem? (i := 1267) (by decide +kernel), List.mem_of_getElem? (i := 1766) (by decide +kernel), List.mem_of_getElem? (i := 1767) (by decide +kernel)⟩
theorem lw_p92 : lw_okq (⟨"LoanNamesModel", "rowsOfDeal", "(III)I"⟩, 93) := ⟨⟨by decide +kernel, by decide +kernel⟩, List.mem_of_getElem? (i := 1267) (by decide +kernel), List.mem_of_getElem? (i := 1770) (by decide +kernel), List.mem_of_getElem? (i := 1771) (by decide +kernel)⟩
theorem lw_p93 : lw_okq (⟨"LoanNamesModel", "rowsOf", "(I)I"⟩, 93) := ⟨⟨by decide +kernel, by decide +kernel⟩, List.mem_of_getElem? (i := 1267) (by decide +kernel), List.mem_of_getElem? (i := 1774) (by decide +kernel), List.mem_of_getElem? (i := 1775) (by decide +kernel)⟩
theorem lw_p94 : lw_okq (⟨"LoanNamesModel", "findRow", "(IIII)V"⟩, 93) := ⟨⟨by decide +kernel, by decide +kernel⟩, List.mem_of_getElem? (i := 1267) (by decide +kernel), List.mem_of_getElem? (i := 1778) (by decide +kernel), List.mem_of_getElem? (i := 1779) (by decide +kernel)⟩
theorem lw_p95 : lw_okq (⟨"LoanNamesModel", "rowTold", "(I)J"⟩, 93) := ⟨⟨by decide +kernel, by decide +kernel⟩, List.mem_of_getElem? (i := 1267) (by decide +kernel), List.mem_of_getElem? (i := 1782) (by decide +kernel), List.mem_of_getElem? (i := 1783) (by decide +kernel)⟩
def lw_privs_6 : List (MethodName × Nat) := [(⟨"LoanNamesModel", "areAlike", "(II)Z"⟩, 93), (⟨"LoanNamesModel", "laysOut", "(IIII)I"⟩, 93), (⟨"LoanNamesModel", "closesUp", "(II)V"⟩, 93), (⟨"LoanNamesModel", "sign", "(II)V"⟩, 93), (⟨"LoanNamesModel", "partLeft", "(III)I"⟩, 93), (⟨"LoanNamesModel", "passes", "(III)V"⟩, 93), (⟨"LoanNamesModel", "times", "(III)J"⟩, 93), (⟨"LoanNamesModel", "flow", "(IIIIJ)V"⟩, 93), (⟨"LoanNamesModel", "among", "(III)J"⟩, 93), (⟨"LoanNamesModel", "bundleAtHand", "()V"⟩, 93), (⟨"LoanNamesModel", "codesAtHand", "()I"⟩, 93), (⟨"LoanNamesModel", "choicesAtHand", "()I"⟩, 93), (⟨"LoanNamesModel", "rowsOfDeal", "(III)I"⟩, 93), (⟨"LoanNamesModel", "rowsOf", "(I)I"⟩, 93), (⟨"LoanNamesModel", "findRow", "(IIII)V"⟩, 93), (⟨"LoanNamesModel", "rowTold", "(I)J"⟩, 93)]
theorem lw_r6 : ∀ q ∈ lw_privs_6, lw_okq q := List.forall_mem_cons.mpr ⟨lw_p80, List.forall_mem_cons.mpr ⟨lw_p81, List.forall_mem_cons.mpr ⟨lw_p82, List.forall_mem_cons.mpr ⟨lw_p83, List.forall_mem_cons.mpr ⟨lw_p84, List.forall_mem_cons.mpr ⟨lw_p85, List.forall_mem_cons.mpr ⟨lw_p86, List.forall_mem_cons.mpr ⟨lw_p87, List.forall_mem_cons.mpr ⟨lw_p88, List.forall_mem_cons.mpr ⟨lw_p89, List.forall_mem_cons.mpr ⟨lw_p90, List.forall_mem_cons.mpr ⟨lw_p91, List.forall_mem_cons.mpr ⟨lw_p92, List.forall_mem_cons.mpr ⟨lw_p93, List.forall_mem_cons.mpr ⟨lw_p94, List.forall_mem_cons.mpr ⟨lw_p95, fun _ h => absurd h List.not_mem_nil⟩⟩⟩⟩⟩⟩⟩⟩⟩⟩⟩⟩⟩⟩⟩⟩
theorem lw_p96 : lw_okq (⟨"LoanNamesModel", "passesAll", "(I)V"⟩, 93) := ⟨⟨by decide +kernel, by decide +kernel⟩, List.mem_of_getElem? (i := 1267) (by decide +kernel), List.mem_of_getElem? (i := 1791) (by decide +kernel), List.mem_of_getElem? (i := 1792) (by decide +kernel)⟩
theorem lw_p97 : lw_okq (⟨"LoanNamesModel", "netOf", "(III)J"⟩, 93) := ⟨⟨by decide +kernel, by decide +kernel⟩, List.mem_of_getElem? (i := 1267) (by decide +kernel), List.mem_of_getElem? (i := 1795) (by decide +kernel), List.mem_of_getElem? (i := 1796) (by decide +kernel)⟩
theorem lw_p98 : lw_okq (⟨"LoanNamesModel", "isLookedAt", "()Z"⟩, 93) := ⟨⟨by decide +kernel, by decide +kernel⟩, List.mem_of_getElem? (i := 1267) (by decide +kernel), List.mem_of_getElem? (i := 1803) (by decide +kernel), List.mem_of_getElem? (i := 1804) (by decide +kernel)⟩
theorem lw_p99 : lw_okq (⟨"LoanNamesModel", "eventsAtHand", "()I"⟩, 93) := ⟨⟨by decide +kernel, by decide +kernel⟩, List.mem_of_getElem? (i := 1267) (by decide +kernel), List.mem_of_getElem? (i := 1807) (by decide +kernel), List.mem_of_getElem? (i := 1808) (by decide +kernel)⟩
theorem lw_p100 : lw_okq (⟨"LoanNamesModel", "codeFrom", "(I)I"⟩, 93) := ⟨⟨by decide +kernel, by decide +kernel⟩, List.mem_of_getElem? (i := 1267) (by decide +kernel), List.mem_of_getElem? (i := 1821) (by decide +kernel), List.mem_of_getElem? (i := 1822) (by decide +kernel)⟩
theorem lw_p101 : lw_okq (⟨"LoanNamesModel", "findLending", "(I)V"⟩, 93) := ⟨⟨by decide +kernel, by decide +kernel⟩, List.mem_of_getElem? (i := 1267) (by decide +kernel), List.mem_of_getElem? (i := 1825) (by decide +kernel), List.mem_of_getElem? (i := 1826) (by decide +kernel)⟩
theorem lw_p102 : lw_okq (⟨"LoanNamesModel", "findDays", "()V"⟩, 93) := ⟨⟨by decide +kernel, by decide +kernel⟩, List.mem_of_getElem? (i := 1267) (by decide +kernel), List.mem_of_getElem? (i := 1829) (by decide +kernel), List.mem_of_getElem? (i := 1830) (by decide +kernel)⟩
theorem lw_p103 : lw_okq (⟨"LoanNamesModel", "lendingDay", "(I)I"⟩, 93) := ⟨⟨by decide +kernel, by decide +kernel⟩, List.mem_of_getElem? (i := 1267) (by decide +kernel), List.mem_of_getElem? (i := 1833) (by decide +kernel), List.mem_of_getElem? (i := 1834) (by decide +kernel)⟩
theorem lw_p104 : lw_okq (⟨"LoanNamesModel", "outOf", "(I)J"⟩, 93) := ⟨⟨by decide +kernel, by decide +kernel⟩, List.mem_of_getElem? (i := 1267) (by decide +kernel), List.mem_of_getElem? (i := 1841) (by decide +kernel), List.mem_of_getElem? (i := 1842) (by decide +kernel)⟩
theorem lw_p105 : lw_okq (⟨"LoanNamesModel", "loanAtHand", "()I"⟩, 93) := ⟨⟨by decide +kernel, by decide +kernel⟩, List.mem_of_getElem? (i := 1267) (by decide +kernel), List.mem_of_getElem? (i := 1855) (by decide +kernel), List.mem_of_getElem? (i := 1856) (by decide +kernel)⟩
theorem lw_p106 : lw_okq (⟨"LoanNamesModel", "readBars", "(II)I"⟩, 93) := ⟨⟨by decide +kernel, by decide +kernel⟩, List.mem_of_getElem? (i := 1267) (by decide +kernel), List.mem_of_getElem? (i := 1875) (by decide +kernel), List.mem_of_getElem? (i := 1876) (by decide +kernel)⟩
theorem lw_p107 : lw_okq (⟨"LoanNamesModel", "readBar", "(I)V"⟩, 93) := ⟨⟨by decide +kernel, by decide +kernel⟩, List.mem_of_getElem? (i := 1267) (by decide +kernel), List.mem_of_getElem? (i := 1879) (by decide +kernel), List.mem_of_getElem? (i := 1880) (by decide +kernel)⟩
theorem lw_p108 : lw_okq (⟨"LoanNamesModel", "formHere", "()I"⟩, 93) := ⟨⟨by decide +kernel, by decide +kernel⟩, List.mem_of_getElem? (i := 1267) (by decide +kernel), List.mem_of_getElem? (i := 1884) (by decide +kernel), List.mem_of_getElem? (i := 1885) (by decide +kernel)⟩
theorem lw_p109 : lw_okq (⟨"LoanNamesModel", "ofHere", "()I"⟩, 93) := ⟨⟨by decide +kernel, by decide +kernel⟩, List.mem_of_getElem? (i := 1267) (by decide +kernel), List.mem_of_getElem? (i := 1889) (by decide +kernel), List.mem_of_getElem? (i := 1890) (by decide +kernel)⟩
theorem lw_p110 : lw_okq (⟨"LoanNamesModel", "askedHere", "()I"⟩, 93) := ⟨⟨by decide +kernel, by decide +kernel⟩, List.mem_of_getElem? (i := 1267) (by decide +kernel), List.mem_of_getElem? (i := 1895) (by decide +kernel), List.mem_of_getElem? (i := 1896) (by decide +kernel)⟩
theorem lw_p111 : lw_okq (⟨"LoanNamesModel", "breachNow", "()I"⟩, 93) := ⟨⟨by decide +kernel, by decide +kernel⟩, List.mem_of_getElem? (i := 1267) (by decide +kernel), List.mem_of_getElem? (i := 1910) (by decide +kernel), List.mem_of_getElem? (i := 1911) (by decide +kernel)⟩
def lw_privs_7 : List (MethodName × Nat) := [(⟨"LoanNamesModel", "passesAll", "(I)V"⟩, 93), (⟨"LoanNamesModel", "netOf", "(III)J"⟩, 93), (⟨"LoanNamesModel", "isLookedAt", "()Z"⟩, 93), (⟨"LoanNamesModel", "eventsAtHand", "()I"⟩, 93), (⟨"LoanNamesModel", "codeFrom", "(I)I"⟩, 93), (⟨"LoanNamesModel", "findLending", "(I)V"⟩, 93), (⟨"LoanNamesModel", "findDays", "()V"⟩, 93), (⟨"LoanNamesModel", "lendingDay", "(I)I"⟩, 93), (⟨"LoanNamesModel", "outOf", "(I)J"⟩, 93), (⟨"LoanNamesModel", "loanAtHand", "()I"⟩, 93), (⟨"LoanNamesModel", "readBars", "(II)I"⟩, 93), (⟨"LoanNamesModel", "readBar", "(I)V"⟩, 93), (⟨"LoanNamesModel", "formHere", "()I"⟩, 93), (⟨"LoanNamesModel", "ofHere", "()I"⟩, 93), (⟨"LoanNamesModel", "askedHere", "()I"⟩, 93), (⟨"LoanNamesModel", "breachNow", "()I"⟩, 93)]
theorem lw_r7 : ∀ q ∈ lw_privs_7, lw_okq q := List.forall_mem_cons.mpr ⟨lw_p96, List.forall_mem_cons.mpr ⟨lw_p97, List.forall_mem_cons.mpr ⟨lw_p98, List.forall_mem_cons.mpr ⟨lw_p99, List.forall_mem_cons.mpr ⟨lw_p100, List.forall_mem_cons.mpr ⟨lw_p101, List.forall_mem_cons.mpr ⟨lw_p102, List.forall_mem_cons.mpr ⟨lw_p103, List.forall_mem_cons.mpr ⟨lw_p104, List.forall_mem_cons.mpr ⟨lw_p105, List.forall_mem_cons.mpr ⟨lw_p106, List.forall_mem_cons.mpr ⟨lw_p107, List.forall_mem_cons.mpr ⟨lw_p108, List.forall_mem_cons.mpr ⟨lw_p109, List.forall_mem_cons.mpr ⟨lw_p110, List.forall_mem_cons.mpr ⟨lw_p111, fun _ h => absurd h List.not_mem_nil⟩⟩⟩⟩⟩⟩⟩⟩⟩⟩⟩⟩⟩⟩⟩⟩
theorem lw_p112 : lw_okq (⟨"LoanNamesModel", "findLeaves", "()V"⟩, 93) := ⟨⟨by decide +kernel, by decide +kernel⟩, List.mem_of_getElem? (i := 1267) (by decide +kernel), List.mem_of_getElem? (i := 1914) (by decide +kernel), List.mem_of_getElem? (i := 1915) (by decide +kernel)⟩
theorem lw_p113 : lw_okq (⟨"LoanNamesModel", "doesBar", "(I)Z"⟩, 93) := ⟨⟨by decide +kernel, by decide +kernel⟩, List.mem_of_getElem? (i := 1267) (by decide +kernel), List.mem_of_getElem? (i := 1918) (by decide +kernel), List.mem_of_getElem? (i := 1919) (by decide +kernel)⟩
theorem lw_p114 : lw_okq (⟨"LoanNamesModel", "isOf", "(III)Z"⟩, 93) := ⟨⟨by decide +kernel, by decide +kernel⟩, List.mem_of_getElem? (i := 1267) (by decide +kernel), List.mem_of_getElem? (i := 1922) (by decide +kernel), List.mem_of_getElem? (i := 1923) (by decide +kernel)⟩
theorem lw_p115 : lw_okq (⟨"LoanNamesModel", "isPair", "(III)Z"⟩, 93) := ⟨⟨by decide +kernel, by decide +kernel⟩, List.mem_of_getElem? (i := 1267) (by decide +kernel), List.mem_of_getElem? (i := 1926) (by decide +kernel), List.mem_of_getElem? (i := 1927) (by decide +kernel)⟩
theorem lw_p116 : lw_okq (⟨"LoanNamesModel", "doesWordBar", "(I)Z"⟩, 93) := ⟨⟨by decide +kernel, by decide +kernel⟩, List.mem_of_getElem? (i := 1267) (by decide +kernel), List.mem_of_getElem? (i := 1934) (by decide +kernel), List.mem_of_getElem? (i := 1935) (by decide +kernel)⟩
theorem lw_p117 : lw_okq (⟨"LoanNamesModel", "findSly", "(I)V"⟩, 93) := ⟨⟨by decide +kernel, by decide +kernel⟩, List.mem_of_getElem? (i := 1267) (by decide +kernel), List.mem_of_getElem? (i := 1946) (by decide +kernel), List.mem_of_getElem? (i := 1947) (by decide +kernel)⟩
theorem lw_p118 : lw_okq (⟨"LoanNamesModel", "wordsThatBar", "()I"⟩, 93) := ⟨⟨by decide +kernel, by decide +kernel⟩, List.mem_of_getElem? (i := 1267) (by decide +kernel), List.mem_of_getElem? (i := 1950) (by decide +kernel), List.mem_of_getElem? (i := 1951) (by decide +kernel)⟩
theorem lw_p119 : lw_okq (⟨"LoanNamesModel", "honestAtHand", "(I)V"⟩, 93) := ⟨⟨by decide +kernel, by decide +kernel⟩, List.mem_of_getElem? (i := 1267) (by decide +kernel), List.mem_of_getElem? (i := 1962) (by decide +kernel), List.mem_of_getElem? (i := 1963) (by decide +kernel)⟩
theorem lw_p120 : lw_okq (⟨"LoanNamesModel", "doPart", "(II)Z"⟩, 93) := ⟨⟨by decide +kernel, by decide +kernel⟩, List.mem_of_getElem? (i := 1267) (by decide +kernel), List.mem_of_getElem? (i := 1970) (by decide +kernel), List.mem_of_getElem? (i := 1971) (by decide +kernel)⟩
theorem lw_p121 : lw_okq (⟨"LoanNamesModel", "findGroups", "(I)V"⟩, 93) := ⟨⟨by decide +kernel, by decide +kernel⟩, List.mem_of_getElem? (i := 1267) (by decide +kernel), List.mem_of_getElem? (i := 1982) (by decide +kernel), List.mem_of_getElem? (i := 1983) (by decide +kernel)⟩
theorem lw_p122 : lw_okq (⟨"LoanNamesModel", "doHang", "(III)Z"⟩, 93) := ⟨⟨by decide +kernel, by decide +kernel⟩, List.mem_of_getElem? (i := 1267) (by decide +kernel), List.mem_of_getElem? (i := 1986) (by decide +kernel), List.mem_of_getElem? (i := 1987) (by decide +kernel)⟩
theorem lw_p123 : lw_okq (⟨"LoanNamesModel", "leavesTold", "()I"⟩, 93) := ⟨⟨by decide +kernel, by decide +kernel⟩, List.mem_of_getElem? (i := 1267) (by decide +kernel), List.mem_of_getElem? (i := 1999) (by decide +kernel), List.mem_of_getElem? (i := 2000) (by decide +kernel)⟩
theorem lw_p124 : lw_okq (⟨"LoanNamesModel", "choicesTold", "()I"⟩, 93) := ⟨⟨by decide +kernel, by decide +kernel⟩, List.mem_of_getElem? (i := 1267) (by decide +kernel), List.mem_of_getElem? (i := 2003) (by decide +kernel), List.mem_of_getElem? (i := 2004) (by decide +kernel)⟩
def lw_privs_8 : List (MethodName × Nat) := [(⟨"LoanNamesModel", "findLeaves", "()V"⟩, 93), (⟨"LoanNamesModel", "doesBar", "(I)Z"⟩, 93), (⟨"LoanNamesModel", "isOf", "(III)Z"⟩, 93), (⟨"LoanNamesModel", "isPair", "(III)Z"⟩, 93), (⟨"LoanNamesModel", "doesWordBar", "(I)Z"⟩, 93), (⟨"LoanNamesModel", "findSly", "(I)V"⟩, 93), (⟨"LoanNamesModel", "wordsThatBar", "()I"⟩, 93), (⟨"LoanNamesModel", "honestAtHand", "(I)V"⟩, 93), (⟨"LoanNamesModel", "doPart", "(II)Z"⟩, 93), (⟨"LoanNamesModel", "findGroups", "(I)V"⟩, 93), (⟨"LoanNamesModel", "doHang", "(III)Z"⟩, 93), (⟨"LoanNamesModel", "leavesTold", "()I"⟩, 93), (⟨"LoanNamesModel", "choicesTold", "()I"⟩, 93)]
theorem lw_r8 : ∀ q ∈ lw_privs_8, lw_okq q := List.forall_mem_cons.mpr ⟨lw_p112, List.forall_mem_cons.mpr ⟨lw_p113, List.forall_mem_cons.mpr ⟨lw_p114, List.forall_mem_cons.mpr ⟨lw_p115, List.forall_mem_cons.mpr ⟨lw_p116, List.forall_mem_cons.mpr ⟨lw_p117, List.forall_mem_cons.mpr ⟨lw_p118, List.forall_mem_cons.mpr ⟨lw_p119, List.forall_mem_cons.mpr ⟨lw_p120, List.forall_mem_cons.mpr ⟨lw_p121, List.forall_mem_cons.mpr ⟨lw_p122, List.forall_mem_cons.mpr ⟨lw_p123, List.forall_mem_cons.mpr ⟨lw_p124, fun _ h => absurd h List.not_mem_nil⟩⟩⟩⟩⟩⟩⟩⟩⟩⟩⟩⟩⟩
def lw_privs : List (MethodName × Nat) := lw_privs_1 ++ (lw_privs_2 ++ (lw_privs_3 ++ (lw_privs_4 ++ (lw_privs_5 ++ (lw_privs_6 ++ (lw_privs_7 ++ (lw_privs_8)))))))
def lw_tbl : List Cond := k2_sels lw_privs ++ tables_1
theorem lw_privs_ok : ∀ q ∈ lw_privs, lw_okq q := by
  show ∀ q ∈ lw_privs_1 ++ (lw_privs_2 ++ (lw_privs_3 ++ (lw_privs_4 ++ (lw_privs_5 ++ (lw_privs_6 ++ (lw_privs_7 ++ (lw_privs_8))))))), lw_okq q
  exact List.forall_mem_append.mpr ⟨lw_r1, List.forall_mem_append.mpr ⟨lw_r2, List.forall_mem_append.mpr ⟨lw_r3, List.forall_mem_append.mpr ⟨lw_r4, List.forall_mem_append.mpr ⟨lw_r5, List.forall_mem_append.mpr ⟨lw_r6, List.forall_mem_append.mpr ⟨lw_r7, lw_r8⟩⟩⟩⟩⟩⟩⟩
def RX0 : String := "LoanNames$Bundle"
def TX0 : u_T := fun k => match k with
  | 0 => ("LoanNames$Bundle", "deals", "[LLoanNames$Deal;", true)
  | _ => ("LoanNames$Bundle", "many", "I", false)
def tyX0 : Nat → FieldType := fun k => match k with
  | 0 => .array (.object "LoanNames$Deal")
  | _ => .int
theorem nmX0 : ∀ a, a < 2 → ∀ b, b < 2 → a ≠ b → (TX0 a).2.1 ≠ (TX0 b).2.1 := by decide +kernel
theorem tyX0_ok : ∀ k, k < 2 → parseFieldDescriptor (TX0 k).2.2.1 = some (tyX0 k) := by decide +kernel
abbrev cX0_init : ByteArray := prog_2_method_1_code
def yX0_init : MethodName := ⟨RX0, "<init>", "()V"⟩
abbrev cX0_push : ByteArray := prog_2_method_2_code
def yX0_push : MethodName := ⟨RX0, "push", "(LLoanNames$Deal;)V"⟩
abbrev cX0_copyFrom : ByteArray := prog_2_method_3_code
def yX0_copyFrom : MethodName := ⟨RX0, "copyFrom", "(LLoanNames$Bundle;)V"⟩
abbrev cX0_holds : ByteArray := prog_2_method_4_code
def yX0_holds : MethodName := ⟨RX0, "holds", "(LLoanNames$Deal;)Z"⟩
abbrev cX0_choicesBefore : ByteArray := prog_2_method_5_code
def yX0_choicesBefore : MethodName := ⟨RX0, "choicesBefore", "(I)I"⟩
abbrev cX0_allLeaves : ByteArray := prog_2_method_6_code
def yX0_allLeaves : MethodName := ⟨RX0, "allLeaves", "()I"⟩
abbrev cX0_allChoices : ByteArray := prog_2_method_7_code
def yX0_allChoices : MethodName := ⟨RX0, "allChoices", "()I"⟩
abbrev cX0_namedBits : ByteArray := prog_2_method_8_code
def yX0_namedBits : MethodName := ⟨RX0, "namedBits", "()I"⟩
abbrev cX0_isLooked : ByteArray := prog_2_method_9_code
def yX0_isLooked : MethodName := ⟨RX0, "isLooked", "()Z"⟩
abbrev cX0_codesLooked : ByteArray := prog_2_method_10_code
def yX0_codesLooked : MethodName := ⟨RX0, "codesLooked", "()I"⟩
abbrev cX0_hasCode : ByteArray := prog_2_method_11_code
def yX0_hasCode : MethodName := ⟨RX0, "hasCode", "(I)Z"⟩
abbrev cX0_codeFor : ByteArray := prog_2_method_12_code
def yX0_codeFor : MethodName := ⟨RX0, "codeFor", "(II)I"⟩
abbrev cX0_rowsBy : ByteArray := prog_2_method_13_code
def yX0_rowsBy : MethodName := ⟨RX0, "rowsBy", "(I)I"⟩
abbrev cX0_toldOfRow : ByteArray := prog_2_method_14_code
def yX0_toldOfRow : MethodName := ⟨RX0, "toldOfRow", "(III)J"⟩
def RX1 : String := "LoanNames$Deal"
def TX1 : u_T := fun k => match k with
  | 0 => ("LoanNames$Deal", "number", "I", true)
  | 1 => ("LoanNames$Deal", "signed", "I", false)
  | 2 => ("LoanNames$Deal", "leaves", "I", false)
  | 3 => ("LoanNames$Deal", "choices", "I", false)
  | 4 => ("LoanNames$Deal", "events", "I", false)
  | 5 => ("LoanNames$Deal", "things", "I", false)
  | 6 => ("LoanNames$Deal", "rows", "I", false)
  | 7 => ("LoanNames$Deal", "plainSteps", "I", false)
  | 8 => ("LoanNames$Deal", "plainLeaves", "I", false)
  | 9 => ("LoanNames$Deal", "leaf", "[I", true)
  | 10 => ("LoanNames$Deal", "row", "[I", true)
  | 11 => ("LoanNames$Deal", "much", "[J", true)
  | _ => ("LoanNames$Deal", "byDay", "[I", true)
def tyX1 : Nat → FieldType := fun k => match k with
  | 0 => .int
  | 1 => .int
  | 2 => .int
  | 3 => .int
  | 4 => .int
  | 5 => .int
  | 6 => .int
  | 7 => .int
  | 8 => .int
  | 9 => .array .int
  | 10 => .array .int
  | 11 => .array .long
  | _ => .array .int
theorem nmX1 : ∀ a, a < 13 → ∀ b, b < 13 → a ≠ b → (TX1 a).2.1 ≠ (TX1 b).2.1 := by decide +kernel
theorem tyX1_ok : ∀ k, k < 13 → parseFieldDescriptor (TX1 k).2.2.1 = some (tyX1 k) := by decide +kernel
abbrev cX1_init : ByteArray := prog_3_method_1_code
def yX1_init : MethodName := ⟨RX1, "<init>", "(I)V"⟩
abbrev cX1_empty : ByteArray := prog_3_method_2_code
def yX1_empty : MethodName := ⟨RX1, "empty", "()V"⟩
abbrev cX1_putLeaf : ByteArray := prog_3_method_3_code
def yX1_putLeaf : MethodName := ⟨RX1, "putLeaf", "([II)V"⟩
abbrev cX1_putRows : ByteArray := prog_3_method_4_code
def yX1_putRows : MethodName := ⟨RX1, "putRows", "(III)V"⟩
abbrev cX1_putRow : ByteArray := prog_3_method_5_code
def yX1_putRow : MethodName := ⟨RX1, "putRow", "(IZIJII)V"⟩
abbrev cX1_sortByDay : ByteArray := prog_3_method_6_code
def yX1_sortByDay : MethodName := ⟨RX1, "sortByDay", "()V"⟩
abbrev cX1_dayOf : ByteArray := prog_3_method_7_code
def yX1_dayOf : MethodName := ⟨RX1, "dayOf", "(I)I"⟩
abbrev cX1_isPassing : ByteArray := prog_3_method_8_code
def yX1_isPassing : MethodName := ⟨RX1, "isPassing", "(II)Z"⟩
abbrev cX1_familiesIn : ByteArray := prog_3_method_9_code
def yX1_familiesIn : MethodName := ⟨RX1, "familiesIn", "([I)I"⟩
def RX2 : String := "LoanNames$DealReader"
def TX2 : u_T := fun k => match k with
  | 0 => ("LoanNames$DealReader", "tape", "LLoanNames$Tape;", true)
  | 1 => ("LoanNames$DealReader", "shape", "LLoanNames$Shape;", true)
  | 2 => ("LoanNames$DealReader", "said", "[I", true)
  | 3 => ("LoanNames$DealReader", "into", "LLoanNames$Deal;", false)
  | 4 => ("LoanNames$DealReader", "later", "I", false)
  | 5 => ("LoanNames$DealReader", "times", "I", false)
  | 6 => ("LoanNames$DealReader", "mask", "I", false)
  | _ => ("LoanNames$DealReader", "value", "I", false)
def tyX2 : Nat → FieldType := fun k => match k with
  | 0 => .object "LoanNames$Tape"
  | 1 => .object "LoanNames$Shape"
  | 2 => .array .int
  | 3 => .object "LoanNames$Deal"
  | 4 => .int
  | 5 => .int
  | 6 => .int
  | _ => .int
theorem nmX2 : ∀ a, a < 8 → ∀ b, b < 8 → a ≠ b → (TX2 a).2.1 ≠ (TX2 b).2.1 := by decide +kernel
theorem tyX2_ok : ∀ k, k < 8 → parseFieldDescriptor (TX2 k).2.2.1 = some (tyX2 k) := by decide +kernel
abbrev cX2_init : ByteArray := prog_4_method_1_code
def yX2_init : MethodName := ⟨RX2, "<init>", "(LLoanNames$Tape;)V"⟩
abbrev cX2_readDeal : ByteArray := prog_4_method_2_code
def yX2_readDeal : MethodName := ⟨RX2, "readDeal", "(LLoanNames$Deal;)Z"⟩
abbrev cX2_readAll : ByteArray := prog_4_method_3_code
def yX2_readAll : MethodName := ⟨RX2, "readAll", "(I)Z"⟩
abbrev cX2_readPart : ByteArray := prog_4_method_4_code
def yX2_readPart : MethodName := ⟨RX2, "readPart", "(I)Z"⟩
abbrev cX2_readLeaf : ByteArray := prog_4_method_5_code
def yX2_readLeaf : MethodName := ⟨RX2, "readLeaf", "(I)Z"⟩
abbrev cX2_readTwo : ByteArray := prog_4_method_6_code
def yX2_readTwo : MethodName := ⟨RX2, "readTwo", "()Z"⟩
abbrev cX2_readSo : ByteArray := prog_4_method_7_code
def yX2_readSo : MethodName := ⟨RX2, "readSo", "()Z"⟩
abbrev cX2_readPay : ByteArray := prog_4_method_8_code
def yX2_readPay : MethodName := ⟨RX2, "readPay", "(I)Z"⟩
abbrev cX2_readDays : ByteArray := prog_4_method_9_code
def yX2_readDays : MethodName := ⟨RX2, "readDays", "(I)Z"⟩
abbrev cX2_readAfter : ByteArray := prog_4_method_10_code
def yX2_readAfter : MethodName := ⟨RX2, "readAfter", "(I)Z"⟩
abbrev cX2_readTimes : ByteArray := prog_4_method_11_code
def yX2_readTimes : MethodName := ⟨RX2, "readTimes", "(I)Z"⟩
abbrev cX2_readIf : ByteArray := prog_4_method_12_code
def yX2_readIf : MethodName := ⟨RX2, "readIf", "(I)Z"⟩
abbrev cX2_readChoice : ByteArray := prog_4_method_13_code
def yX2_readChoice : MethodName := ⟨RX2, "readChoice", "(I)Z"⟩
abbrev cX2_readBranches : ByteArray := prog_4_method_14_code
def yX2_readBranches : MethodName := ⟨RX2, "readBranches", "(IIIILjava/lang/String;)Z"⟩
abbrev cX2_readBranch : ByteArray := prog_4_method_15_code
def yX2_readBranch : MethodName := ⟨RX2, "readBranch", "(III)Z"⟩
abbrev cX2_readBlock : ByteArray := prog_4_method_16_code
def yX2_readBlock : MethodName := ⟨RX2, "readBlock", "(I)Z"⟩
def RX3 : String := "LoanNames$Judge"
def TX3 : u_T := fun k => match k with
  | 0 => ("LoanNames$Judge", "familyOf", "[I", true)
  | 1 => ("LoanNames$Judge", "leaf", "[I", true)
  | 2 => ("LoanNames$Judge", "leaves", "I", false)
  | 3 => ("LoanNames$Judge", "firstLeaf", "I", false)
  | _ => ("LoanNames$Judge", "secondLeaf", "I", false)
def tyX3 : Nat → FieldType := fun k => match k with
  | 0 => .array .int
  | 1 => .array .int
  | 2 => .int
  | 3 => .int
  | _ => .int
theorem nmX3 : ∀ a, a < 5 → ∀ b, b < 5 → a ≠ b → (TX3 a).2.1 ≠ (TX3 b).2.1 := by decide +kernel
theorem tyX3_ok : ∀ k, k < 5 → parseFieldDescriptor (TX3 k).2.2.1 = some (tyX3 k) := by decide +kernel
abbrev cX3_init : ByteArray := prog_5_method_1_code
def yX3_init : MethodName := ⟨RX3, "<init>", "([I)V"⟩
abbrev cX3_hear : ByteArray := prog_5_method_2_code
def yX3_hear : MethodName := ⟨RX3, "hear", "(LLoanNames$Bundle;)V"⟩
abbrev cX3_hearPair : ByteArray := prog_5_method_3_code
def yX3_hearPair : MethodName := ⟨RX3, "hearPair", "(LLoanNames$Deal;LLoanNames$Deal;)V"⟩
abbrev cX3_hearAlso : ByteArray := prog_5_method_4_code
def yX3_hearAlso : MethodName := ⟨RX3, "hearAlso", "(LLoanNames$Deal;)V"⟩
abbrev cX3_firstThatBars : ByteArray := prog_5_method_5_code
def yX3_firstThatBars : MethodName := ⟨RX3, "firstThatBars", "(LLoanNames$Rules;)I"⟩
abbrev cX3_findLeaves : ByteArray := prog_5_method_6_code
def yX3_findLeaves : MethodName := ⟨RX3, "findLeaves", "([II)Z"⟩
abbrev cX3_findSecond : ByteArray := prog_5_method_7_code
def yX3_findSecond : MethodName := ⟨RX3, "findSecond", "([III)I"⟩
abbrev cX3_isOf : ByteArray := prog_5_method_8_code
def yX3_isOf : MethodName := ⟨RX3, "isOf", "(III)Z"⟩
abbrev cX3_isLater : ByteArray := prog_5_method_9_code
def yX3_isLater : MethodName := ⟨RX3, "isLater", "(III)Z"⟩
abbrev cX3_isTied : ByteArray := prog_5_method_10_code
def yX3_isTied : MethodName := ⟨RX3, "isTied", "(III)Z"⟩
def RX4 : String := "LoanNames$Kinship"
def TX4 : u_T := fun k => match k with
  | 0 => ("LoanNames$Kinship", "keys", "[I", true)
  | 1 => ("LoanNames$Kinship", "slots", "[I", true)
  | 2 => ("LoanNames$Kinship", "sums", "[J", true)
  | 3 => ("LoanNames$Kinship", "keysMany", "I", false)
  | 4 => ("LoanNames$Kinship", "leastOf", "[I", true)
  | 5 => ("LoanNames$Kinship", "together", "LLoanNames$Bundle;", true)
  | _ => ("LoanNames$Kinship", "families", "[I", true)
def tyX4 : Nat → FieldType := fun k => match k with
  | 0 => .array .int
  | 1 => .array .int
  | 2 => .array .long
  | 3 => .int
  | 4 => .array .int
  | 5 => .object "LoanNames$Bundle"
  | _ => .array .int
theorem nmX4 : ∀ a, a < 7 → ∀ b, b < 7 → a ≠ b → (TX4 a).2.1 ≠ (TX4 b).2.1 := by decide +kernel
theorem tyX4_ok : ∀ k, k < 7 → parseFieldDescriptor (TX4 k).2.2.1 = some (tyX4 k) := by decide +kernel
abbrev cX4_init : ByteArray := prog_6_method_1_code
def yX4_init : MethodName := ⟨RX4, "<init>", "()V"⟩
abbrev cX4_firstApart : ByteArray := prog_6_method_2_code
def yX4_firstApart : MethodName := ⟨RX4, "firstApart", "(LLoanNames$Deal;LLoanNames$Deal;)I"⟩
abbrev cX4_giveSlots : ByteArray := prog_6_method_3_code
def yX4_giveSlots : MethodName := ⟨RX4, "giveSlots", "(LLoanNames$Deal;I)V"⟩
abbrev cX4_pour : ByteArray := prog_6_method_4_code
def yX4_pour : MethodName := ⟨RX4, "pour", "(LLoanNames$Deal;III)V"⟩
abbrev cX4_isLevel : ByteArray := prog_6_method_5_code
def yX4_isLevel : MethodName := ⟨RX4, "isLevel", "()Z"⟩
abbrev cX4_gather : ByteArray := prog_6_method_6_code
def yX4_gather : MethodName := ⟨RX4, "gather", "([LLoanNames$Deal;II[I)V"⟩
abbrev cX4_hangTogether : ByteArray := prog_6_method_7_code
def yX4_hangTogether : MethodName := ⟨RX4, "hangTogether", "(LLoanNames$Deal;LLoanNames$Deal;I)Z"⟩
abbrev cX4_join : ByteArray := prog_6_method_8_code
def yX4_join : MethodName := ⟨RX4, "join", "(III)V"⟩
abbrev cX4_heaps : ByteArray := prog_6_method_9_code
def yX4_heaps : MethodName := ⟨RX4, "heaps", "(I)I"⟩
abbrev cX4_fillBundle : ByteArray := prog_6_method_10_code
def yX4_fillBundle : MethodName := ⟨RX4, "fillBundle", "([LLoanNames$Deal;II)Z"⟩
def RX5 : String := "LoanNames$Ledger"
def TX5 : u_T := fun k => match k with
  | 0 => ("LoanNames$Ledger", "familyOf", "[I", true)
  | 1 => ("LoanNames$Ledger", "entry", "[I", true)
  | 2 => ("LoanNames$Ledger", "much", "[J", true)
  | 3 => ("LoanNames$Ledger", "entries", "I", false)
  | 4 => ("LoanNames$Ledger", "bitsThatTell", "I", false)
  | 5 => ("LoanNames$Ledger", "present", "[I", true)
  | 6 => ("LoanNames$Ledger", "presentMany", "I", false)
  | 7 => ("LoanNames$Ledger", "head", "[I", true)
  | 8 => ("LoanNames$Ledger", "totals", "[J", true)
  | 9 => ("LoanNames$Ledger", "lendsTo", "[I", true)
  | 10 => ("LoanNames$Ledger", "held", "[J", true)
  | 11 => ("LoanNames$Ledger", "outDays", "[J", true)
  | 12 => ("LoanNames$Ledger", "today", "[J", true)
  | 13 => ("LoanNames$Ledger", "lastDay", "[I", true)
  | 14 => ("LoanNames$Ledger", "paidAtFirst", "[I", true)
  | 15 => ("LoanNames$Ledger", "begun", "I", false)
  | 16 => ("LoanNames$Ledger", "risen", "I", false)
  | 17 => ("LoanNames$Ledger", "spoilt", "I", false)
  | 18 => ("LoanNames$Ledger", "uneven", "I", false)
  | _ => ("LoanNames$Ledger", "below", "I", false)
def tyX5 : Nat → FieldType := fun k => match k with
  | 0 => .array .int
  | 1 => .array .int
  | 2 => .array .long
  | 3 => .int
  | 4 => .int
  | 5 => .array .int
  | 6 => .int
  | 7 => .array .int
  | 8 => .array .long
  | 9 => .array .int
  | 10 => .array .long
  | 11 => .array .long
  | 12 => .array .long
  | 13 => .array .int
  | 14 => .array .int
  | 15 => .int
  | 16 => .int
  | 17 => .int
  | 18 => .int
  | _ => .int
theorem nmX5 : ∀ a, a < 20 → ∀ b, b < 20 → a ≠ b → (TX5 a).2.1 ≠ (TX5 b).2.1 := by decide +kernel
theorem tyX5_ok : ∀ k, k < 20 → parseFieldDescriptor (TX5 k).2.2.1 = some (tyX5 k) := by decide +kernel
abbrev cX5_init : ByteArray := prog_7_method_1_code
def yX5_init : MethodName := ⟨RX5, "<init>", "([I)V"⟩
abbrev cX5_sumOf : ByteArray := prog_7_method_2_code
def yX5_sumOf : MethodName := ⟨RX5, "sumOf", "(LLoanNames$Bundle;IIII)J"⟩
abbrev cX5_shareOf : ByteArray := prog_7_method_3_code
def yX5_shareOf : MethodName := ⟨RX5, "shareOf", "(LLoanNames$Deal;II)J"⟩
abbrev cX5_isEven : ByteArray := prog_7_method_4_code
def yX5_isEven : MethodName := ⟨RX5, "isEven", "(LLoanNames$Bundle;LLoanNames$Bundle;I)Z"⟩
abbrev cX5_sumInto : ByteArray := prog_7_method_5_code
def yX5_sumInto : MethodName := ⟨RX5, "sumInto", "(LLoanNames$Deal;II[JI)V"⟩
abbrev cX5_findLoan : ByteArray := prog_7_method_6_code
def yX5_findLoan : MethodName := ⟨RX5, "findLoan", "(LLoanNames$Bundle;)I"⟩
abbrev cX5_take : ByteArray := prog_7_method_7_code
def yX5_take : MethodName := ⟨RX5, "take", "(LLoanNames$Bundle;)V"⟩
abbrev cX5_earliestHead : ByteArray := prog_7_method_8_code
def yX5_earliestHead : MethodName := ⟨RX5, "earliestHead", "(LLoanNames$Bundle;)I"⟩
abbrev cX5_putEntry : ByteArray := prog_7_method_9_code
def yX5_putEntry : MethodName := ⟨RX5, "putEntry", "(LLoanNames$Deal;II)I"⟩
abbrev cX5_bitsBehind : ByteArray := prog_7_method_10_code
def yX5_bitsBehind : MethodName := ⟨RX5, "bitsBehind", "(II)I"⟩
abbrev cX5_weigh : ByteArray := prog_7_method_11_code
def yX5_weigh : MethodName := ⟨RX5, "weigh", "(I)V"⟩
abbrev cX5_endDay : ByteArray := prog_7_method_12_code
def yX5_endDay : MethodName := ⟨RX5, "endDay", "(I)V"⟩
abbrev cX5_book : ByteArray := prog_7_method_13_code
def yX5_book : MethodName := ⟨RX5, "book", "(III)V"⟩
abbrev cX5_findUneven : ByteArray := prog_7_method_14_code
def yX5_findUneven : MethodName := ⟨RX5, "findUneven", "()V"⟩
abbrev cX5_borrowersOf : ByteArray := prog_7_method_15_code
def yX5_borrowersOf : MethodName := ⟨RX5, "borrowersOf", "(I)I"⟩
def RX6 : String := "LoanNames$Rules"
def TX6 : u_T := fun k => match k with
  | 0 => ("LoanNames$Rules", "said", "[I", true)
  | _ => ("LoanNames$Rules", "many", "I", false)
def tyX6 : Nat → FieldType := fun k => match k with
  | 0 => .array .int
  | _ => .int
theorem nmX6 : ∀ a, a < 2 → ∀ b, b < 2 → a ≠ b → (TX6 a).2.1 ≠ (TX6 b).2.1 := by decide +kernel
theorem tyX6_ok : ∀ k, k < 2 → parseFieldDescriptor (TX6 k).2.2.1 = some (tyX6 k) := by decide +kernel
abbrev cX6_init : ByteArray := prog_8_method_1_code
def yX6_init : MethodName := ⟨RX6, "<init>", "()V"⟩
abbrev cX6_readRules : ByteArray := prog_8_method_2_code
def yX6_readRules : MethodName := ⟨RX6, "readRules", "(LLoanNames$Tape;II)Z"⟩
abbrev cX6_readStatement : ByteArray := prog_8_method_3_code
def yX6_readStatement : MethodName := ⟨RX6, "readStatement", "(LLoanNames$Tape;I)Z"⟩
abbrev cX6_readForm : ByteArray := prog_8_method_4_code
def yX6_readForm : MethodName := ⟨RX6, "readForm", "(LLoanNames$Tape;I)Z"⟩
abbrev cX6_readTies : ByteArray := prog_8_method_5_code
def yX6_readTies : MethodName := ⟨RX6, "readTies", "(LLoanNames$Tape;I)V"⟩
abbrev cX6_readWithin : ByteArray := prog_8_method_6_code
def yX6_readWithin : MethodName := ⟨RX6, "readWithin", "(LLoanNames$Tape;I)Z"⟩
def RX7 : String := "LoanNames$Search"
def TX7 : u_T := fun k => match k with
  | 0 => ("LoanNames$Search", "ledger", "LLoanNames$Ledger;", true)
  | 1 => ("LoanNames$Search", "judge", "LLoanNames$Judge;", true)
  | 2 => ("LoanNames$Search", "offered", "[LLoanNames$Deal;", true)
  | 3 => ("LoanNames$Search", "offeredMany", "I", false)
  | 4 => ("LoanNames$Search", "found", "[I", true)
  | 5 => ("LoanNames$Search", "foundMany", "I", false)
  | 6 => ("LoanNames$Search", "reach", "I", false)
  | 7 => ("LoanNames$Search", "weighed", "[I", true)
  | 8 => ("LoanNames$Search", "barred", "[I", true)
  | 9 => ("LoanNames$Search", "wordBars", "[I", true)
  | 10 => ("LoanNames$Search", "needs", "[I", true)
  | 11 => ("LoanNames$Search", "needsMany", "I", false)
  | 12 => ("LoanNames$Search", "picked", "LLoanNames$Bundle;", true)
  | 13 => ("LoanNames$Search", "own", "[J", true)
  | _ => ("LoanNames$Search", "sums", "[J", true)
def tyX7 : Nat → FieldType := fun k => match k with
  | 0 => .object "LoanNames$Ledger"
  | 1 => .object "LoanNames$Judge"
  | 2 => .array (.object "LoanNames$Deal")
  | 3 => .int
  | 4 => .array .int
  | 5 => .int
  | 6 => .int
  | 7 => .array .int
  | 8 => .array .int
  | 9 => .array .int
  | 10 => .array .int
  | 11 => .int
  | 12 => .object "LoanNames$Bundle"
  | 13 => .array .long
  | _ => .array .long
theorem nmX7 : ∀ a, a < 15 → ∀ b, b < 15 → a ≠ b → (TX7 a).2.1 ≠ (TX7 b).2.1 := by decide +kernel
theorem tyX7_ok : ∀ k, k < 15 → parseFieldDescriptor (TX7 k).2.2.1 = some (tyX7 k) := by decide +kernel
abbrev cX7_init : ByteArray := prog_9_method_1_code
def yX7_init : MethodName := ⟨RX7, "<init>", "(LLoanNames$Ledger;LLoanNames$Judge;)V"⟩
abbrev cX7_forget : ByteArray := prog_9_method_2_code
def yX7_forget : MethodName := ⟨RX7, "forget", "()V"⟩
abbrev cX7_forgetAll : ByteArray := prog_9_method_3_code
def yX7_forgetAll : MethodName := ⟨RX7, "forgetAll", "()V"⟩
abbrev cX7_putOffered : ByteArray := prog_9_method_4_code
def yX7_putOffered : MethodName := ⟨RX7, "putOffered", "(LLoanNames$Deal;)Z"⟩
abbrev cX7_look : ByteArray := prog_9_method_5_code
def yX7_look : MethodName := ⟨RX7, "look", "(ILLoanNames$Rules;)V"⟩
abbrev cX7_findBarred : ByteArray := prog_9_method_6_code
def yX7_findBarred : MethodName := ⟨RX7, "findBarred", "(LLoanNames$Rules;[II)V"⟩
abbrev cX7_grow : ByteArray := prog_9_method_7_code
def yX7_grow : MethodName := ⟨RX7, "grow", "(III)V"⟩
abbrev cX7_isLoan : ByteArray := prog_9_method_8_code
def yX7_isLoan : MethodName := ⟨RX7, "isLoan", "(I)Z"⟩
abbrev cX7_mayLend : ByteArray := prog_9_method_9_code
def yX7_mayLend : MethodName := ⟨RX7, "mayLend", "(I)Z"⟩
abbrev cX7_howMany : ByteArray := prog_9_method_10_code
def yX7_howMany : MethodName := ⟨RX7, "howMany", "(I)I"⟩
abbrev cX7_fewest : ByteArray := prog_9_method_11_code
def yX7_fewest : MethodName := ⟨RX7, "fewest", "(I)I"⟩
abbrev cX7_isLess : ByteArray := prog_9_method_12_code
def yX7_isLess : MethodName := ⟨RX7, "isLess", "(II)Z"⟩
abbrev cX7_fewestWords : ByteArray := prog_9_method_13_code
def yX7_fewestWords : MethodName := ⟨RX7, "fewestWords", "(I[LLoanNames$Rules;I)I"⟩
abbrev cX7_wordsThatBar : ByteArray := prog_9_method_14_code
def yX7_wordsThatBar : MethodName := ⟨RX7, "wordsThatBar", "(II)I"⟩
abbrev cX7_putNeed : ByteArray := prog_9_method_15_code
def yX7_putNeed : MethodName := ⟨RX7, "putNeed", "(I)V"⟩
abbrev cX7_meetsNeeds : ByteArray := prog_9_method_16_code
def yX7_meetsNeeds : MethodName := ⟨RX7, "meetsNeeds", "(I)Z"⟩
def RX8 : String := "LoanNames$Shape"
def TX8 : u_T := fun k => match k with
  | 0 => ("LoanNames$Shape", "steps", "I", false)
  | 1 => ("LoanNames$Shape", "cells", "[I", true)
  | _ => ("LoanNames$Shape", "filled", "I", false)
def tyX8 : Nat → FieldType := fun k => match k with
  | 0 => .int
  | 1 => .array .int
  | _ => .int
theorem nmX8 : ∀ a, a < 3 → ∀ b, b < 3 → a ≠ b → (TX8 a).2.1 ≠ (TX8 b).2.1 := by decide +kernel
theorem tyX8_ok : ∀ k, k < 3 → parseFieldDescriptor (TX8 k).2.2.1 = some (tyX8 k) := by decide +kernel
abbrev cX8_init : ByteArray := prog_10_method_1_code
def yX8_init : MethodName := ⟨RX8, "<init>", "()V"⟩
abbrev cX8_empty : ByteArray := prog_10_method_2_code
def yX8_empty : MethodName := ⟨RX8, "empty", "()V"⟩
abbrev cX8_hasRoom : ByteArray := prog_10_method_3_code
def yX8_hasRoom : MethodName := ⟨RX8, "hasRoom", "(I)Z"⟩
abbrev cX8_putLeaf : ByteArray := prog_10_method_4_code
def yX8_putLeaf : MethodName := ⟨RX8, "putLeaf", "([I)V"⟩
abbrev cX8_begin : ByteArray := prog_10_method_5_code
def yX8_begin : MethodName := ⟨RX8, "begin", "(II)I"⟩
abbrev cX8_isBegun : ByteArray := prog_10_method_6_code
def yX8_isBegun : MethodName := ⟨RX8, "isBegun", "(I)Z"⟩
abbrev cX8_endOne : ByteArray := prog_10_method_7_code
def yX8_endOne : MethodName := ⟨RX8, "endOne", "(I)V"⟩
abbrev cX8_isJustAfter : ByteArray := prog_10_method_8_code
def yX8_isJustAfter : MethodName := ⟨RX8, "isJustAfter", "(II)Z"⟩
abbrev cX8_turn : ByteArray := prog_10_method_9_code
def yX8_turn : MethodName := ⟨RX8, "turn", "(I)V"⟩
abbrev cX8_endTwo : ByteArray := prog_10_method_10_code
def yX8_endTwo : MethodName := ⟨RX8, "endTwo", "(I)V"⟩
abbrev cX8_isAlike : ByteArray := prog_10_method_11_code
def yX8_isAlike : MethodName := ⟨RX8, "isAlike", "(III)Z"⟩
abbrev cX8_lift : ByteArray := prog_10_method_12_code
def yX8_lift : MethodName := ⟨RX8, "lift", "(III)V"⟩
abbrev cX8_leavesLeft : ByteArray := prog_10_method_13_code
def yX8_leavesLeft : MethodName := ⟨RX8, "leavesLeft", "()I"⟩
def RX9 : String := "LoanNames$Tally"
def TX9 : u_T := fun k => match k with
  | 0 => ("LoanNames$Tally", "known", "Z", false)
  | 1 => ("LoanNames$Tally", "loanFound", "I", false)
  | 2 => ("LoanNames$Tally", "times", "[I", true)
  | 3 => ("LoanNames$Tally", "prices", "[J", true)
  | _ => ("LoanNames$Tally", "least", "[J", true)
def tyX9 : Nat → FieldType := fun k => match k with
  | 0 => .boolean
  | 1 => .int
  | 2 => .array .int
  | 3 => .array .long
  | _ => .array .long
theorem nmX9 : ∀ a, a < 5 → ∀ b, b < 5 → a ≠ b → (TX9 a).2.1 ≠ (TX9 b).2.1 := by decide +kernel
theorem tyX9_ok : ∀ k, k < 5 → parseFieldDescriptor (TX9 k).2.2.1 = some (tyX9 k) := by decide +kernel
abbrev cX9_init : ByteArray := prog_11_method_1_code
def yX9_init : MethodName := ⟨RX9, "<init>", "()V"⟩
abbrev cX9_learn : ByteArray := prog_11_method_2_code
def yX9_learn : MethodName := ⟨RX9, "learn", "(LLoanNames$Bundle;LLoanNames$Ledger;)V"⟩
abbrev cX9_noteLender : ByteArray := prog_11_method_3_code
def yX9_noteLender : MethodName := ⟨RX9, "noteLender", "(LLoanNames$Ledger;I)V"⟩
abbrev cX9_notePrice : ByteArray := prog_11_method_4_code
def yX9_notePrice : MethodName := ⟨RX9, "notePrice", "(IJJ)V"⟩
abbrev cX9_leastPair : ByteArray := prog_11_method_5_code
def yX9_leastPair : MethodName := ⟨RX9, "leastPair", "(I)I"⟩
abbrev cX9_commonDivisor : ByteArray := prog_11_method_6_code
def yX9_commonDivisor : MethodName := ⟨RX9, "commonDivisor", "(JJ)J"⟩
abbrev cX9_compareShares : ByteArray := prog_11_method_7_code
def yX9_compareShares : MethodName := ⟨RX9, "compareShares", "(JJJJ)I"⟩
def RX10 : String := "LoanNames$Tape"
def TX10 : u_T := fun k => match k with
  | 0 => ("LoanNames$Tape", "bytes", "[I", true)
  | 1 => ("LoanNames$Tape", "length", "I", false)
  | 2 => ("LoanNames$Tape", "wrong", "I", false)
  | 3 => ("LoanNames$Tape", "end", "I", false)
  | 4 => ("LoanNames$Tape", "kind", "I", false)
  | 5 => ("LoanNames$Tape", "from", "I", false)
  | _ => ("LoanNames$Tape", "past", "I", false)
def tyX10 : Nat → FieldType := fun k => match k with
  | 0 => .array .int
  | 1 => .int
  | 2 => .int
  | 3 => .int
  | 4 => .int
  | 5 => .int
  | _ => .int
theorem nmX10 : ∀ a, a < 7 → ∀ b, b < 7 → a ≠ b → (TX10 a).2.1 ≠ (TX10 b).2.1 := by decide +kernel
theorem tyX10_ok : ∀ k, k < 7 → parseFieldDescriptor (TX10 k).2.2.1 = some (tyX10 k) := by decide +kernel
abbrev cX10_init : ByteArray := prog_12_method_1_code
def yX10_init : MethodName := ⟨RX10, "<init>", "()V"⟩
abbrev cX10_putFour : ByteArray := prog_12_method_2_code
def yX10_putFour : MethodName := ⟨RX10, "putFour", "(I)V"⟩
abbrev cX10_open : ByteArray := prog_12_method_3_code
def yX10_open : MethodName := ⟨RX10, "open", "(I)V"⟩
abbrev cX10_advance : ByteArray := prog_12_method_4_code
def yX10_advance : MethodName := ⟨RX10, "advance", "()V"⟩
abbrev cX10_refuse : ByteArray := prog_12_method_5_code
def yX10_refuse : MethodName := ⟨RX10, "refuse", "()Z"⟩
abbrev cX10_isAtEnd : ByteArray := prog_12_method_6_code
def yX10_isAtEnd : MethodName := ⟨RX10, "isAtEnd", "()Z"⟩
abbrev cX10_isSign : ByteArray := prog_12_method_7_code
def yX10_isSign : MethodName := ⟨RX10, "isSign", "(C)Z"⟩
abbrev cX10_takeSign : ByteArray := prog_12_method_8_code
def yX10_takeSign : MethodName := ⟨RX10, "takeSign", "(C)Z"⟩
abbrev cX10_placeIn : ByteArray := prog_12_method_9_code
def yX10_placeIn : MethodName := ⟨RX10, "placeIn", "(Ljava/lang/String;)I"⟩
abbrev cX10_isWord : ByteArray := prog_12_method_10_code
def yX10_isWord : MethodName := ⟨RX10, "isWord", "(Ljava/lang/String;)Z"⟩
abbrev cX10_takeWord : ByteArray := prog_12_method_11_code
def yX10_takeWord : MethodName := ⟨RX10, "takeWord", "(Ljava/lang/String;)Z"⟩
abbrev cX10_takeOneOf : ByteArray := prog_12_method_12_code
def yX10_takeOneOf : MethodName := ⟨RX10, "takeOneOf", "(Ljava/lang/String;)I"⟩
abbrev cX10_takeNumber : ByteArray := prog_12_method_13_code
def yX10_takeNumber : MethodName := ⟨RX10, "takeNumber", "(II)I"⟩
def RX11 : String := "LoanNames"
def TX11 : u_T := fun k => match k with
  | 0 => ("LoanNames", "familyOf", "[I", true)
  | 1 => ("LoanNames", "tape", "LLoanNames$Tape;", true)
  | 2 => ("LoanNames", "dealReader", "LLoanNames$DealReader;", true)
  | 3 => ("LoanNames", "deals", "[LLoanNames$Deal;", true)
  | 4 => ("LoanNames", "dealsTold", "I", false)
  | 5 => ("LoanNames", "laws", "[LLoanNames$Rules;", true)
  | 6 => ("LoanNames", "lawsTold", "I", false)
  | 7 => ("LoanNames", "words", "[LLoanNames$Rules;", true)
  | 8 => ("LoanNames", "wordsTold", "I", false)
  | 9 => ("LoanNames", "faultPlace", "I", false)
  | 10 => ("LoanNames", "bundle", "LLoanNames$Bundle;", true)
  | 11 => ("LoanNames", "honestOnes", "[LLoanNames$Bundle;", true)
  | 12 => ("LoanNames", "honestTold", "I", false)
  | 13 => ("LoanNames", "ledger", "LLoanNames$Ledger;", true)
  | 14 => ("LoanNames", "tally", "LLoanNames$Tally;", true)
  | 15 => ("LoanNames", "judge", "LLoanNames$Judge;", true)
  | 16 => ("LoanNames", "search", "LLoanNames$Search;", true)
  | _ => ("LoanNames", "kinship", "LLoanNames$Kinship;", true)
def tyX11 : Nat → FieldType := fun k => match k with
  | 0 => .array .int
  | 1 => .object "LoanNames$Tape"
  | 2 => .object "LoanNames$DealReader"
  | 3 => .array (.object "LoanNames$Deal")
  | 4 => .int
  | 5 => .array (.object "LoanNames$Rules")
  | 6 => .int
  | 7 => .array (.object "LoanNames$Rules")
  | 8 => .int
  | 9 => .int
  | 10 => .object "LoanNames$Bundle"
  | 11 => .array (.object "LoanNames$Bundle")
  | 12 => .int
  | 13 => .object "LoanNames$Ledger"
  | 14 => .object "LoanNames$Tally"
  | 15 => .object "LoanNames$Judge"
  | 16 => .object "LoanNames$Search"
  | _ => .object "LoanNames$Kinship"
theorem nmX11 : ∀ a, a < 18 → ∀ b, b < 18 → a ≠ b → (TX11 a).2.1 ≠ (TX11 b).2.1 := by decide +kernel
theorem tyX11_ok : ∀ k, k < 18 → parseFieldDescriptor (TX11 k).2.2.1 = some (tyX11 k) := by decide +kernel
abbrev cX11_init : ByteArray := prog_1_method_1_code
def yX11_init : MethodName := ⟨RX11, "<init>", "()V"⟩
abbrev cX11_family : ByteArray := prog_1_method_2_code
def yX11_family : MethodName := ⟨RX11, "family", "(II)Z"⟩
abbrev cX11_feed : ByteArray := prog_1_method_3_code
def yX11_feed : MethodName := ⟨RX11, "feed", "(IIIII)I"⟩
abbrev cX11_deal : ByteArray := prog_1_method_4_code
def yX11_deal : MethodName := ⟨RX11, "deal", "(II)I"⟩
abbrev cX11_law : ByteArray := prog_1_method_5_code
def yX11_law : MethodName := ⟨RX11, "law", "(I)I"⟩
abbrev cX11_word : ByteArray := prog_1_method_6_code
def yX11_word : MethodName := ⟨RX11, "word", "(I)I"⟩
abbrev cX11_fault : ByteArray := prog_1_method_7_code
def yX11_fault : MethodName := ⟨RX11, "fault", "()I"⟩
abbrev cX11_size : ByteArray := prog_1_method_8_code
def yX11_size : MethodName := ⟨RX11, "size", "(II)I"⟩
abbrev cX11_leaf : ByteArray := prog_1_method_9_code
def yX11_leaf : MethodName := ⟨RX11, "leaf", "(III)I"⟩
abbrev cX11_plain : ByteArray := prog_1_method_10_code
def yX11_plain : MethodName := ⟨RX11, "plain", "(II)I"⟩
abbrev cX11_same : ByteArray := prog_1_method_11_code
def yX11_same : MethodName := ⟨RX11, "same", "(II)I"⟩
abbrev cX11_add : ByteArray := prog_1_method_12_code
def yX11_add : MethodName := ⟨RX11, "add", "(I)I"⟩
abbrev cX11_clear : ByteArray := prog_1_method_13_code
def yX11_clear : MethodName := ⟨RX11, "clear", "()I"⟩
abbrev cX11_passed : ByteArray := prog_1_method_14_code
def yX11_passed : MethodName := ⟨RX11, "passed", "(III)J"⟩
abbrev cX11_net : ByteArray := prog_1_method_15_code
def yX11_net : MethodName := ⟨RX11, "net", "(IIII)J"⟩
abbrev cX11_codes : ByteArray := prog_1_method_16_code
def yX11_codes : MethodName := ⟨RX11, "codes", "()I"⟩
abbrev cX11_lends : ByteArray := prog_1_method_17_code
def yX11_lends : MethodName := ⟨RX11, "lends", "(II)I"⟩
abbrev cX11_price : ByteArray := prog_1_method_18_code
def yX11_price : MethodName := ⟨RX11, "price", "(III)J"⟩
abbrev cX11_loan : ByteArray := prog_1_method_19_code
def yX11_loan : MethodName := ⟨RX11, "loan", "()I"⟩
abbrev cX11_step : ByteArray := prog_1_method_20_code
def yX11_step : MethodName := ⟨RX11, "step", "()J"⟩
abbrev cX11_bears : ByteArray := prog_1_method_21_code
def yX11_bears : MethodName := ⟨RX11, "bears", "(II)J"⟩
abbrev cX11_cost : ByteArray := prog_1_method_22_code
def yX11_cost : MethodName := ⟨RX11, "cost", "(III)J"⟩
abbrev cX11_breach : ByteArray := prog_1_method_23_code
def yX11_breach : MethodName := ⟨RX11, "breach", "(I)I"⟩
abbrev cX11_bars : ByteArray := prog_1_method_24_code
def yX11_bars : MethodName := ⟨RX11, "bars", "(I)I"⟩
abbrev cX11_offer : ByteArray := prog_1_method_25_code
def yX11_offer : MethodName := ⟨RX11, "offer", "(I)I"⟩
abbrev cX11_sly : ByteArray := prog_1_method_26_code
def yX11_sly : MethodName := ⟨RX11, "sly", "(II)I"⟩
abbrev cX11_honest : ByteArray := prog_1_method_27_code
def yX11_honest : MethodName := ⟨RX11, "honest", "()I"⟩
abbrev cX11_innocent : ByteArray := prog_1_method_28_code
def yX11_innocent : MethodName := ⟨RX11, "innocent", "(II)I"⟩
abbrev cX11_parts : ByteArray := prog_1_method_29_code
def yX11_parts : MethodName := ⟨RX11, "parts", "(I)I"⟩
abbrev cX11_stop : ByteArray := prog_1_method_30_code
def yX11_stop : MethodName := ⟨RX11, "stop", "(I)I"⟩
abbrev cX11_heap : ByteArray := prog_1_method_31_code
def yX11_heap : MethodName := ⟨RX11, "heap", "(II)I"⟩
abbrev cX11_group : ByteArray := prog_1_method_32_code
def yX11_group : MethodName := ⟨RX11, "group", "(II)I"⟩
abbrev cX11_count : ByteArray := prog_1_method_33_code
def yX11_count : MethodName := ⟨RX11, "count", "(I)I"⟩
abbrev cX11_isWithin : ByteArray := prog_1_method_34_code
def yX11_isWithin : MethodName := ⟨RX11, "isWithin", "(II)Z"⟩
abbrev cX11_isPair : ByteArray := prog_1_method_35_code
def yX11_isPair : MethodName := ⟨RX11, "isPair", "(II)Z"⟩
abbrev cX11_refusalOf : ByteArray := prog_1_method_36_code
def yX11_refusalOf : MethodName := ⟨RX11, "refusalOf", "(III)I"⟩
abbrev cX11_tellRules : ByteArray := prog_1_method_37_code
def yX11_tellRules : MethodName := ⟨RX11, "tellRules", "(I[LLoanNames$Rules;III)I"⟩
abbrev cX11_closeText : ByteArray := prog_1_method_38_code
def yX11_closeText : MethodName := ⟨RX11, "closeText", "(ZI)I"⟩
abbrev cX11_lawInForce : ByteArray := prog_1_method_39_code
def yX11_lawInForce : MethodName := ⟨RX11, "lawInForce", "()LLoanNames$Rules;"⟩
abbrev cX11_isLet : ByteArray := prog_1_method_40_code
def yX11_isLet : MethodName := ⟨RX11, "isLet", "(LLoanNames$Bundle;)Z"⟩
abbrev cX11_sparesHonest : ByteArray := prog_1_method_41_code
def yX11_sparesHonest : MethodName := ⟨RX11, "sparesHonest", "(LLoanNames$Rules;)Z"⟩
def RX12 : String := "LoanNamesModel"
def TX12 : u_T := fun k => match k with
  | 0 => ("LoanNamesModel", "families", "[I", true)
  | 1 => ("LoanNamesModel", "deals", "I", false)
  | 2 => ("LoanNamesModel", "many", "[I", true)
  | 3 => ("LoanNamesModel", "signed", "[I", true)
  | 4 => ("LoanNamesModel", "leaves", "[I", true)
  | 5 => ("LoanNamesModel", "choices", "[I", true)
  | 6 => ("LoanNamesModel", "events", "[I", true)
  | 7 => ("LoanNamesModel", "kind", "[I", true)
  | 8 => ("LoanNamesModel", "number", "[I", true)
  | 9 => ("LoanNamesModel", "up", "[I", true)
  | 10 => ("LoanNamesModel", "part", "[I", true)
  | 11 => ("LoanNamesModel", "end", "[I", true)
  | 12 => ("LoanNamesModel", "mid", "[I", true)
  | 13 => ("LoanNamesModel", "handA", "[I", true)
  | 14 => ("LoanNamesModel", "handB", "[I", true)
  | 15 => ("LoanNamesModel", "thing", "[I", true)
  | 16 => ("LoanNamesModel", "much", "[I", true)
  | 17 => ("LoanNamesModel", "price", "[I", true)
  | 18 => ("LoanNamesModel", "at", "[I", true)
  | 19 => ("LoanNamesModel", "till", "[I", true)
  | 20 => ("LoanNamesModel", "tape", "[B", true)
  | 21 => ("LoanNamesModel", "taped", "I", false)
  | 22 => ("LoanNamesModel", "faultAt", "I", false)
  | 23 => ("LoanNamesModel", "limit", "I", false)
  | 24 => ("LoanNamesModel", "point", "I", false)
  | 25 => ("LoanNamesModel", "from", "I", false)
  | 26 => ("LoanNamesModel", "token", "I", false)
  | 27 => ("LoanNamesModel", "value", "I", false)
  | 28 => ("LoanNamesModel", "text", "J", false)
  | 29 => ("LoanNamesModel", "isWrong", "Z", false)
  | 30 => ("LoanNamesModel", "openNode", "[I", true)
  | 31 => ("LoanNamesModel", "openPart", "[I", true)
  | 32 => ("LoanNamesModel", "open", "I", false)
  | 33 => ("LoanNamesModel", "nodes", "I", false)
  | 34 => ("LoanNamesModel", "leafCount", "I", false)
  | 35 => ("LoanNamesModel", "choiceCount", "I", false)
  | 36 => ("LoanNamesModel", "eventBits", "I", false)
  | 37 => ("LoanNamesModel", "base", "I", false)
  | 38 => ("LoanNamesModel", "isNothing", "[Z", true)
  | 39 => ("LoanNamesModel", "isThrough", "[Z", true)
  | 40 => ("LoanNamesModel", "days", "[I", true)
  | 41 => ("LoanNamesModel", "steps", "I", false)
  | 42 => ("LoanNamesModel", "visible", "I", false)
  | 43 => ("LoanNamesModel", "only", "I", false)
  | 44 => ("LoanNamesModel", "signs", "[I", true)
  | 45 => ("LoanNamesModel", "signed0", "I", false)
  | 46 => ("LoanNamesModel", "closing", "[I", true)
  | 47 => ("LoanNamesModel", "closings", "I", false)
  | 48 => ("LoanNamesModel", "flows", "I", false)
  | 49 => ("LoanNamesModel", "flowDay", "[I", true)
  | 50 => ("LoanNamesModel", "flowA", "[I", true)
  | 51 => ("LoanNamesModel", "flowB", "[I", true)
  | 52 => ("LoanNamesModel", "flowThing", "[I", true)
  | 53 => ("LoanNamesModel", "flowMuch", "[J", true)
  | 54 => ("LoanNamesModel", "bundled", "I", false)
  | 55 => ("LoanNamesModel", "listed", "I", false)
  | 56 => ("LoanNamesModel", "bundle", "[I", true)
  | 57 => ("LoanNamesModel", "list", "[I", true)
  | 58 => ("LoanNamesModel", "rowLeaf", "I", false)
  | 59 => ("LoanNamesModel", "rowPart", "I", false)
  | 60 => ("LoanNamesModel", "rowTimes", "J", false)
  | 61 => ("LoanNamesModel", "dayCount", "I", false)
  | 62 => ("LoanNamesModel", "coinDays", "[I", true)
  | 63 => ("LoanNamesModel", "isClean", "[Z", true)
  | 64 => ("LoanNamesModel", "coinNet", "[J", true)
  | 65 => ("LoanNamesModel", "lentTo", "[I", true)
  | 66 => ("LoanNamesModel", "lentAll", "[I", true)
  | 67 => ("LoanNamesModel", "laws", "I", false)
  | 68 => ("LoanNamesModel", "words", "I", false)
  | 69 => ("LoanNamesModel", "lawMany", "[I", true)
  | 70 => ("LoanNamesModel", "wordMany", "[I", true)
  | 71 => ("LoanNamesModel", "form", "[I", true)
  | 72 => ("LoanNamesModel", "ofThing", "[I", true)
  | 73 => ("LoanNamesModel", "formThen", "[I", true)
  | 74 => ("LoanNamesModel", "thingThen", "[I", true)
  | 75 => ("LoanNamesModel", "asked", "[I", true)
  | 76 => ("LoanNamesModel", "most", "[I", true)
  | 77 => ("LoanNamesModel", "isTwo", "[Z", true)
  | 78 => ("LoanNamesModel", "leavesAtHand", "I", false)
  | 79 => ("LoanNamesModel", "firstHit", "I", false)
  | 80 => ("LoanNamesModel", "secondHit", "I", false)
  | 81 => ("LoanNamesModel", "leafNode", "[I", true)
  | 82 => ("LoanNamesModel", "leafDay", "[I", true)
  | 83 => ("LoanNamesModel", "offered", "I", false)
  | 84 => ("LoanNamesModel", "slyCount", "I", false)
  | 85 => ("LoanNamesModel", "slyBits", "I", false)
  | 86 => ("LoanNamesModel", "offers", "[I", true)
  | 87 => ("LoanNamesModel", "slyWords", "[I", true)
  | 88 => ("LoanNamesModel", "honests", "I", false)
  | 89 => ("LoanNamesModel", "honestMany", "[I", true)
  | 90 => ("LoanNamesModel", "honestDeals", "[I", true)
  | 91 => ("LoanNamesModel", "nets", "[J", true)
  | _ => ("LoanNamesModel", "group", "[I", true)
def tyX12 : Nat → FieldType := fun k => match k with
  | 0 => .array .int
  | 1 => .int
  | 2 => .array .int
  | 3 => .array .int
  | 4 => .array .int
  | 5 => .array .int
  | 6 => .array .int
  | 7 => .array .int
  | 8 => .array .int
  | 9 => .array .int
  | 10 => .array .int
  | 11 => .array .int
  | 12 => .array .int
  | 13 => .array .int
  | 14 => .array .int
  | 15 => .array .int
  | 16 => .array .int
  | 17 => .array .int
  | 18 => .array .int
  | 19 => .array .int
  | 20 => .array .byte
  | 21 => .int
  | 22 => .int
  | 23 => .int
  | 24 => .int
  | 25 => .int
  | 26 => .int
  | 27 => .int
  | 28 => .long
  | 29 => .boolean
  | 30 => .array .int
  | 31 => .array .int
  | 32 => .int
  | 33 => .int
  | 34 => .int
  | 35 => .int
  | 36 => .int
  | 37 => .int
  | 38 => .array .boolean
  | 39 => .array .boolean
  | 40 => .array .int
  | 41 => .int
  | 42 => .int
  | 43 => .int
  | 44 => .array .int
  | 45 => .int
  | 46 => .array .int
  | 47 => .int
  | 48 => .int
  | 49 => .array .int
  | 50 => .array .int
  | 51 => .array .int
  | 52 => .array .int
  | 53 => .array .long
  | 54 => .int
  | 55 => .int
  | 56 => .array .int
  | 57 => .array .int
  | 58 => .int
  | 59 => .int
  | 60 => .long
  | 61 => .int
  | 62 => .array .int
  | 63 => .array .boolean
  | 64 => .array .long
  | 65 => .array .int
  | 66 => .array .int
  | 67 => .int
  | 68 => .int
  | 69 => .array .int
  | 70 => .array .int
  | 71 => .array .int
  | 72 => .array .int
  | 73 => .array .int
  | 74 => .array .int
  | 75 => .array .int
  | 76 => .array .int
  | 77 => .array .boolean
  | 78 => .int
  | 79 => .int
  | 80 => .int
  | 81 => .array .int
  | 82 => .array .int
  | 83 => .int
  | 84 => .int
  | 85 => .int
  | 86 => .array .int
  | 87 => .array .int
  | 88 => .int
  | 89 => .array .int
  | 90 => .array .int
  | 91 => .array .long
  | _ => .array .int
theorem nmX12 : ∀ a, a < 93 → ∀ b, b < 93 → a ≠ b → (TX12 a).2.1 ≠ (TX12 b).2.1 := by decide +kernel
theorem tyX12_ok : ∀ k, k < 93 → parseFieldDescriptor (TX12 k).2.2.1 = some (tyX12 k) := by decide +kernel
abbrev cX12_init : ByteArray := prog_14_method_1_code
def yX12_init : MethodName := ⟨RX12, "<init>", "()V"⟩
abbrev cX12_within : ByteArray := prog_14_method_3_code
def yX12_within : MethodName := ⟨RX12, "within", "(III)Z"⟩
abbrev cX12_family : ByteArray := prog_14_method_4_code
def yX12_family : MethodName := ⟨RX12, "family", "(II)Z"⟩
abbrev cX12_feed : ByteArray := prog_14_method_5_code
def yX12_feed : MethodName := ⟨RX12, "feed", "(IIIII)I"⟩
abbrev cX12_here : ByteArray := prog_14_method_6_code
def yX12_here : MethodName := ⟨RX12, "here", "()I"⟩
abbrev cX12_next : ByteArray := prog_14_method_7_code
def yX12_next : MethodName := ⟨RX12, "next", "()V"⟩
abbrev cX12_errs : ByteArray := prog_14_method_8_code
def yX12_errs : MethodName := ⟨RX12, "errs", "()V"⟩
abbrev cX12_is : ByteArray := prog_14_method_9_code
def yX12_is : MethodName := ⟨RX12, "is", "(J)Z"⟩
abbrev cX12_mustBe : ByteArray := prog_14_method_10_code
def yX12_mustBe : MethodName := ⟨RX12, "mustBe", "(J)V"⟩
abbrev cX12_numeral : ByteArray := prog_14_method_11_code
def yX12_numeral : MethodName := ⟨RX12, "numeral", "(II)I"⟩
abbrev cX12_thingHere : ByteArray := prog_14_method_12_code
def yX12_thingHere : MethodName := ⟨RX12, "thingHere", "()I"⟩
abbrev cX12_eventHere : ByteArray := prog_14_method_13_code
def yX12_eventHere : MethodName := ⟨RX12, "eventHere", "()I"⟩
abbrev cX12_kindHere : ByteArray := prog_14_method_14_code
def yX12_kindHere : MethodName := ⟨RX12, "kindHere", "()I"⟩
abbrev cX12_hand : ByteArray := prog_14_method_15_code
def yX12_hand : MethodName := ⟨RX12, "hand", "(I)I"⟩
abbrev cX12_thingOf : ByteArray := prog_14_method_16_code
def yX12_thingOf : MethodName := ⟨RX12, "thingOf", "()I"⟩
abbrev cX12_beginsText : ByteArray := prog_14_method_17_code
def yX12_beginsText : MethodName := ⟨RX12, "beginsText", "(I)V"⟩
abbrev cX12_newNode : ByteArray := prog_14_method_18_code
def yX12_newNode : MethodName := ⟨RX12, "newNode", "(I)I"⟩
abbrev cX12_readLeaf : ByteArray := prog_14_method_19_code
def yX12_readLeaf : MethodName := ⟨RX12, "readLeaf", "(I)V"⟩
abbrev cX12_opens : ByteArray := prog_14_method_20_code
def yX12_opens : MethodName := ⟨RX12, "opens", "(II)V"⟩
abbrev cX12_readGroup : ByteArray := prog_14_method_21_code
def yX12_readGroup : MethodName := ⟨RX12, "readGroup", "(I)V"⟩
abbrev cX12_closes : ByteArray := prog_14_method_22_code
def yX12_closes : MethodName := ⟨RX12, "closes", "()Z"⟩
abbrev cX12_deal : ByteArray := prog_14_method_23_code
def yX12_deal : MethodName := ⟨RX12, "deal", "(II)I"⟩
abbrev cX12_fault : ByteArray := prog_14_method_24_code
def yX12_fault : MethodName := ⟨RX12, "fault", "()I"⟩
abbrev cX12_isDeal : ByteArray := prog_14_method_25_code
def yX12_isDeal : MethodName := ⟨RX12, "isDeal", "(I)Z"⟩
abbrev cX12_isLeaf : ByteArray := prog_14_method_26_code
def yX12_isLeaf : MethodName := ⟨RX12, "isLeaf", "(I)Z"⟩
abbrev cX12_later : ByteArray := prog_14_method_27_code
def yX12_later : MethodName := ⟨RX12, "later", "(I)I"⟩
abbrev cX12_size : ByteArray := prog_14_method_28_code
def yX12_size : MethodName := ⟨RX12, "size", "(II)I"⟩
abbrev cX12_leaf : ByteArray := prog_14_method_29_code
def yX12_leaf : MethodName := ⟨RX12, "leaf", "(III)I"⟩
abbrev cX12_told : ByteArray := prog_14_method_30_code
def yX12_told : MethodName := ⟨RX12, "told", "(II)I"⟩
abbrev cX12_times : ByteArray := prog_14_method_31_code
def yX12_times : MethodName := ⟨RX12, "times", "(III)J"⟩
abbrev cX12_rowsOf : ByteArray := prog_14_method_32_code
def yX12_rowsOf : MethodName := ⟨RX12, "rowsOf", "(I)I"⟩
abbrev cX12_partsLeft : ByteArray := prog_14_method_33_code
def yX12_partsLeft : MethodName := ⟨RX12, "partsLeft", "(III)I"⟩
abbrev cX12_sign : ByteArray := prog_14_method_34_code
def yX12_sign : MethodName := ⟨RX12, "sign", "(II)V"⟩
abbrev cX12_partLeft : ByteArray := prog_14_method_35_code
def yX12_partLeft : MethodName := ⟨RX12, "partLeft", "(III)I"⟩
abbrev cX12_closesUp : ByteArray := prog_14_method_36_code
def yX12_closesUp : MethodName := ⟨RX12, "closesUp", "(II)V"⟩
abbrev cX12_laysOut : ByteArray := prog_14_method_37_code
def yX12_laysOut : MethodName := ⟨RX12, "laysOut", "(IIII)I"⟩
abbrev cX12_areAlike : ByteArray := prog_14_method_38_code
def yX12_areAlike : MethodName := ⟨RX12, "areAlike", "(II)Z"⟩
abbrev cX12_simplifies : ByteArray := prog_14_method_39_code
def yX12_simplifies : MethodName := ⟨RX12, "simplifies", "(II)V"⟩
abbrev cX12_plain : ByteArray := prog_14_method_40_code
def yX12_plain : MethodName := ⟨RX12, "plain", "(II)I"⟩
abbrev cX12_flow : ByteArray := prog_14_method_41_code
def yX12_flow : MethodName := ⟨RX12, "flow", "(IIIIJ)V"⟩
abbrev cX12_passes : ByteArray := prog_14_method_42_code
def yX12_passes : MethodName := ⟨RX12, "passes", "(III)V"⟩
abbrev cX12_among : ByteArray := prog_14_method_43_code
def yX12_among : MethodName := ⟨RX12, "among", "(III)J"⟩
abbrev cX12_same : ByteArray := prog_14_method_44_code
def yX12_same : MethodName := ⟨RX12, "same", "(II)I"⟩
abbrev cX12_add : ByteArray := prog_14_method_45_code
def yX12_add : MethodName := ⟨RX12, "add", "(I)I"⟩
abbrev cX12_clear : ByteArray := prog_14_method_46_code
def yX12_clear : MethodName := ⟨RX12, "clear", "()I"⟩
abbrev cX12_bundleAtHand : ByteArray := prog_14_method_47_code
def yX12_bundleAtHand : MethodName := ⟨RX12, "bundleAtHand", "()V"⟩
abbrev cX12_choicesAtHand : ByteArray := prog_14_method_48_code
def yX12_choicesAtHand : MethodName := ⟨RX12, "choicesAtHand", "()I"⟩
abbrev cX12_eventsAtHand : ByteArray := prog_14_method_49_code
def yX12_eventsAtHand : MethodName := ⟨RX12, "eventsAtHand", "()I"⟩
abbrev cX12_bitsOf : ByteArray := prog_14_method_50_code
def yX12_bitsOf : MethodName := ⟨RX12, "bitsOf", "(I)I"⟩
abbrev cX12_isLookedAt : ByteArray := prog_14_method_51_code
def yX12_isLookedAt : MethodName := ⟨RX12, "isLookedAt", "()Z"⟩
abbrev cX12_codesAtHand : ByteArray := prog_14_method_52_code
def yX12_codesAtHand : MethodName := ⟨RX12, "codesAtHand", "()I"⟩
abbrev cX12_codeFrom : ByteArray := prog_14_method_53_code
def yX12_codeFrom : MethodName := ⟨RX12, "codeFrom", "(I)I"⟩
abbrev cX12_passesAll : ByteArray := prog_14_method_54_code
def yX12_passesAll : MethodName := ⟨RX12, "passesAll", "(I)V"⟩
abbrev cX12_netOf : ByteArray := prog_14_method_55_code
def yX12_netOf : MethodName := ⟨RX12, "netOf", "(III)J"⟩
abbrev cX12_findRow : ByteArray := prog_14_method_56_code
def yX12_findRow : MethodName := ⟨RX12, "findRow", "(IIII)V"⟩
abbrev cX12_rowTold : ByteArray := prog_14_method_57_code
def yX12_rowTold : MethodName := ⟨RX12, "rowTold", "(I)J"⟩
abbrev cX12_rowsOfDeal : ByteArray := prog_14_method_58_code
def yX12_rowsOfDeal : MethodName := ⟨RX12, "rowsOfDeal", "(III)I"⟩
abbrev cX12_passed : ByteArray := prog_14_method_59_code
def yX12_passed : MethodName := ⟨RX12, "passed", "(III)J"⟩
abbrev cX12_net : ByteArray := prog_14_method_60_code
def yX12_net : MethodName := ⟨RX12, "net", "(IIII)J"⟩
abbrev cX12_codes : ByteArray := prog_14_method_61_code
def yX12_codes : MethodName := ⟨RX12, "codes", "()I"⟩
abbrev cX12_findDays : ByteArray := prog_14_method_62_code
def yX12_findDays : MethodName := ⟨RX12, "findDays", "()V"⟩
abbrev cX12_lendingDay : ByteArray := prog_14_method_63_code
def yX12_lendingDay : MethodName := ⟨RX12, "lendingDay", "(I)I"⟩
abbrev cX12_findLending : ByteArray := prog_14_method_64_code
def yX12_findLending : MethodName := ⟨RX12, "findLending", "(I)V"⟩
abbrev cX12_areTwo : ByteArray := prog_14_method_65_code
def yX12_areTwo : MethodName := ⟨RX12, "areTwo", "(II)Z"⟩
abbrev cX12_lends : ByteArray := prog_14_method_66_code
def yX12_lends : MethodName := ⟨RX12, "lends", "(II)I"⟩
abbrev cX12_divisor : ByteArray := prog_14_method_67_code
def yX12_divisor : MethodName := ⟨RX12, "divisor", "(JJ)J"⟩
abbrev cX12_isLess : ByteArray := prog_14_method_68_code
def yX12_isLess : MethodName := ⟨RX12, "isLess", "(JJJJ)Z"⟩
abbrev cX12_outOf : ByteArray := prog_14_method_69_code
def yX12_outOf : MethodName := ⟨RX12, "outOf", "(I)J"⟩
abbrev cX12_price : ByteArray := prog_14_method_70_code
def yX12_price : MethodName := ⟨RX12, "price", "(III)J"⟩
abbrev cX12_loanAtHand : ByteArray := prog_14_method_71_code
def yX12_loanAtHand : MethodName := ⟨RX12, "loanAtHand", "()I"⟩
abbrev cX12_loan : ByteArray := prog_14_method_72_code
def yX12_loan : MethodName := ⟨RX12, "loan", "()I"⟩
abbrev cX12_step : ByteArray := prog_14_method_73_code
def yX12_step : MethodName := ⟨RX12, "step", "()J"⟩
abbrev cX12_bears : ByteArray := prog_14_method_74_code
def yX12_bears : MethodName := ⟨RX12, "bears", "(II)J"⟩
abbrev cX12_cost : ByteArray := prog_14_method_75_code
def yX12_cost : MethodName := ⟨RX12, "cost", "(III)J"⟩
abbrev cX12_formHere : ByteArray := prog_14_method_76_code
def yX12_formHere : MethodName := ⟨RX12, "formHere", "()I"⟩
abbrev cX12_ofHere : ByteArray := prog_14_method_77_code
def yX12_ofHere : MethodName := ⟨RX12, "ofHere", "()I"⟩
abbrev cX12_askedHere : ByteArray := prog_14_method_78_code
def yX12_askedHere : MethodName := ⟨RX12, "askedHere", "()I"⟩
abbrev cX12_readBar : ByteArray := prog_14_method_79_code
def yX12_readBar : MethodName := ⟨RX12, "readBar", "(I)V"⟩
abbrev cX12_readBars : ByteArray := prog_14_method_80_code
def yX12_readBars : MethodName := ⟨RX12, "readBars", "(II)I"⟩
abbrev cX12_law : ByteArray := prog_14_method_81_code
def yX12_law : MethodName := ⟨RX12, "law", "(I)I"⟩
abbrev cX12_word : ByteArray := prog_14_method_82_code
def yX12_word : MethodName := ⟨RX12, "word", "(I)I"⟩
abbrev cX12_findLeaves : ByteArray := prog_14_method_83_code
def yX12_findLeaves : MethodName := ⟨RX12, "findLeaves", "()V"⟩
abbrev cX12_isOf : ByteArray := prog_14_method_84_code
def yX12_isOf : MethodName := ⟨RX12, "isOf", "(III)Z"⟩
abbrev cX12_isPair : ByteArray := prog_14_method_85_code
def yX12_isPair : MethodName := ⟨RX12, "isPair", "(III)Z"⟩
abbrev cX12_doesBar : ByteArray := prog_14_method_86_code
def yX12_doesBar : MethodName := ⟨RX12, "doesBar", "(I)Z"⟩
abbrev cX12_breachNow : ByteArray := prog_14_method_87_code
def yX12_breachNow : MethodName := ⟨RX12, "breachNow", "()I"⟩
abbrev cX12_breach : ByteArray := prog_14_method_88_code
def yX12_breach : MethodName := ⟨RX12, "breach", "(I)I"⟩
abbrev cX12_doesWordBar : ByteArray := prog_14_method_89_code
def yX12_doesWordBar : MethodName := ⟨RX12, "doesWordBar", "(I)Z"⟩
abbrev cX12_bars : ByteArray := prog_14_method_90_code
def yX12_bars : MethodName := ⟨RX12, "bars", "(I)I"⟩
abbrev cX12_offer : ByteArray := prog_14_method_91_code
def yX12_offer : MethodName := ⟨RX12, "offer", "(I)I"⟩
abbrev cX12_findSly : ByteArray := prog_14_method_92_code
def yX12_findSly : MethodName := ⟨RX12, "findSly", "(I)V"⟩
abbrev cX12_wordsThatBar : ByteArray := prog_14_method_93_code
def yX12_wordsThatBar : MethodName := ⟨RX12, "wordsThatBar", "()I"⟩
abbrev cX12_sly : ByteArray := prog_14_method_94_code
def yX12_sly : MethodName := ⟨RX12, "sly", "(II)I"⟩
abbrev cX12_honest : ByteArray := prog_14_method_95_code
def yX12_honest : MethodName := ⟨RX12, "honest", "()I"⟩
abbrev cX12_honestAtHand : ByteArray := prog_14_method_96_code
def yX12_honestAtHand : MethodName := ⟨RX12, "honestAtHand", "(I)V"⟩
abbrev cX12_innocent : ByteArray := prog_14_method_97_code
def yX12_innocent : MethodName := ⟨RX12, "innocent", "(II)I"⟩
abbrev cX12_doPart : ByteArray := prog_14_method_98_code
def yX12_doPart : MethodName := ⟨RX12, "doPart", "(II)Z"⟩
abbrev cX12_parts : ByteArray := prog_14_method_99_code
def yX12_parts : MethodName := ⟨RX12, "parts", "(I)I"⟩
abbrev cX12_stop : ByteArray := prog_14_method_100_code
def yX12_stop : MethodName := ⟨RX12, "stop", "(I)I"⟩
abbrev cX12_doHang : ByteArray := prog_14_method_101_code
def yX12_doHang : MethodName := ⟨RX12, "doHang", "(III)Z"⟩
abbrev cX12_findGroups : ByteArray := prog_14_method_102_code
def yX12_findGroups : MethodName := ⟨RX12, "findGroups", "(I)V"⟩
abbrev cX12_heap : ByteArray := prog_14_method_103_code
def yX12_heap : MethodName := ⟨RX12, "heap", "(II)I"⟩
abbrev cX12_group : ByteArray := prog_14_method_104_code
def yX12_group : MethodName := ⟨RX12, "group", "(II)I"⟩
abbrev cX12_count : ByteArray := prog_14_method_105_code
def yX12_count : MethodName := ⟨RX12, "count", "(I)I"⟩
abbrev cX12_leavesTold : ByteArray := prog_14_method_106_code
def yX12_leavesTold : MethodName := ⟨RX12, "leavesTold", "()I"⟩
abbrev cX12_choicesTold : ByteArray := prog_14_method_107_code
def yX12_choicesTold : MethodName := ⟨RX12, "choicesTold", "()I"⟩
def RJ6 : String := "java/lang/Integer"
abbrev cJ6_numberOfTrailingZeros_0f7a4 : ByteArray := prog_15_method_48_code
def yJ6_numberOfTrailingZeros_0f7a4 : MethodName := ⟨RJ6, "numberOfTrailingZeros", "(I)I"⟩
abbrev cJ6_bitCount_0f7a4 : ByteArray := prog_15_method_49_code
def yJ6_bitCount_0f7a4 : MethodName := ⟨RJ6, "bitCount", "(I)I"⟩
def RJ13 : String := "java/lang/Long"
abbrev cJ13_compare_74951 : ByteArray := prog_16_method_42_code
def yJ13_compare_74951 : MethodName := ⟨RJ13, "compare", "(JJ)I"⟩
def RJ9 : String := "java/lang/Math"
abbrev cJ9_abs_0f7a4 : ByteArray := prog_17_method_59_code
def yJ9_abs_0f7a4 : MethodName := ⟨RJ9, "abs", "(I)I"⟩
abbrev cJ9_max_7cf53 : ByteArray := prog_17_method_65_code
def yJ9_max_7cf53 : MethodName := ⟨RJ9, "max", "(II)I"⟩
abbrev cJ9_min_7cf53 : ByteArray := prog_17_method_69_code
def yJ9_min_7cf53 : MethodName := ⟨RJ9, "min", "(II)I"⟩
abbrev cJ9_min_f86c9 : ByteArray := prog_17_method_70_code
def yJ9_min_f86c9 : MethodName := ⟨RJ9, "min", "(JJ)J"⟩
def RJ0 : String := "java/lang/String"
abbrev cJ0_length_8abf5 : ByteArray := prog_18_method_54_code
def yJ0_length_8abf5 : MethodName := ⟨RJ0, "length", "()I"⟩
abbrev cJ0_charAt_5068e : ByteArray := prog_18_method_56_code
def yJ0_charAt_5068e : MethodName := ⟨RJ0, "charAt", "(I)C"⟩
abbrev cJ0_coder_7d493 : ByteArray := prog_18_method_152_code
def yJ0_coder_7d493 : MethodName := ⟨RJ0, "coder", "()B"⟩
abbrev cJ0_isLatin1_aae02 : ByteArray := prog_18_method_154_code
def yJ0_isLatin1_aae02 : MethodName := ⟨RJ0, "isLatin1", "()Z"⟩
abbrev cJ0_checkIndex_df160 : ByteArray := prog_18_method_155_code
def yJ0_checkIndex_df160 : MethodName := ⟨RJ0, "checkIndex", "(II)V"⟩
def RJ1 : String := "java/lang/StringLatin1"
abbrev cJ1_charAt_3b067 : ByteArray := prog_19_method_2_code
def yJ1_charAt_3b067 : MethodName := ⟨RJ1, "charAt", "([BI)C"⟩
def RJ2 : String := "java/lang/StringUTF16"
abbrev cJ2_getChar_3b067 : ByteArray := prog_20_method_5_code
def yJ2_getChar_3b067 : MethodName := ⟨RJ2, "getChar", "([BI)C"⟩
abbrev cJ2_length_9d52b : ByteArray := prog_20_method_6_code
def yJ2_length_9d52b : MethodName := ⟨RJ2, "length", "([B)I"⟩
abbrev cJ2_charAt_3b067 : ByteArray := prog_20_method_83_code
def yJ2_charAt_3b067 : MethodName := ⟨RJ2, "charAt", "([BI)C"⟩
abbrev cJ2_checkIndex_2214a : ByteArray := prog_20_method_91_code
def yJ2_checkIndex_2214a : MethodName := ⟨RJ2, "checkIndex", "(I[B)V"⟩
def RJ10 : String := "java/lang/System"
def RJ7 : String := "java/util/Arrays"
abbrev cJ7_fill_d0a16 : ByteArray := prog_22_method_101_code
def yJ7_fill_d0a16 : MethodName := ⟨RJ7, "fill", "([JJ)V"⟩
abbrev cJ7_fill_53178 : ByteArray := prog_22_method_103_code
def yJ7_fill_53178 : MethodName := ⟨RJ7, "fill", "([II)V"⟩
def RJ3 : String := "jdk/internal/util/Preconditions"
abbrev cJ3_checkIndex_8e157 : ByteArray := prog_23_method_11_code
def yJ3_checkIndex_8e157 : MethodName := ⟨RJ3, "checkIndex", "(IILjava/util/function/BiFunction;)I"⟩
def RL : String := "LoanNamesLaw"
abbrev cL_law : ByteArray := code
def yL_law : MethodName := ⟨RL, "law", "([I)Z"⟩
end
section
/-! the fields: 0 int, 1 long, 2 a reference, 3 boolean; the kind of what a reference field holds; where a field holds one and the same reference for good -/
def ftyL : List (List Nat) := [[2, 0], [0, 0, 0, 0, 0, 0, 0, 0, 0, 2, 2, 2, 2], [2, 2, 2, 2, 0, 0, 0, 0], [2, 2, 0, 0, 0], [2, 2, 2, 0, 2, 2, 2], [2, 2, 2, 0, 0, 2, 0, 2, 2, 2, 2, 2, 2, 2, 2, 0, 0, 0, 0, 0], [2, 0], [2, 2, 2, 0, 2, 0, 0, 2, 2, 2, 2, 0, 2, 2, 2], [0, 2, 0], [3, 0, 2, 2, 2], [2, 0, 0, 0, 0, 0, 0], [2, 2, 2, 2, 0, 2, 0, 2, 0, 0, 2, 2, 0, 2, 2, 2, 2, 2], [2, 0, 2, 2, 2, 2, 2, 2, 2, 2, 2, 2, 2, 2, 2, 2, 2, 2, 2, 2, 2, 0, 0, 0, 0, 0, 0, 0, 1, 3, 2, 2, 0, 0, 0, 0, 0, 0, 2, 2, 2, 0, 0, 0, 2, 0, 2, 0, 0, 2, 2, 2, 2, 2, 0, 0, 2, 2, 0, 0, 1, 0, 2, 2, 2, 2, 2, 0, 0, 2, 2, 2, 2, 2, 2, 2, 2, 2, 0, 0, 0, 2, 2, 0, 0, 0, 2, 2, 0, 2, 2, 2, 2]]
def frefL : List (List Nat) := [[51, 0], [0, 0, 0, 0, 0, 0, 0, 0, 0, 40, 40, 43, 40], [10, 8, 40, 1, 0, 0, 0, 0], [40, 40, 0, 0, 0], [40, 40, 43, 0, 40, 0, 40], [40, 40, 43, 0, 0, 40, 0, 40, 43, 40, 43, 43, 43, 40, 40, 0, 0, 0, 0, 0], [40, 0], [5, 3, 51, 0, 40, 0, 0, 40, 40, 40, 40, 0, 0, 43, 43], [0, 40, 0], [0, 0, 40, 43, 43], [40, 0, 0, 0, 0, 0, 0], [40, 10, 2, 51, 0, 56, 0, 56, 0, 0, 0, 50, 0, 5, 9, 3, 7, 4], [40, 0, 40, 40, 40, 40, 40, 40, 40, 40, 40, 40, 40, 40, 40, 40, 40, 40, 40, 40, 41, 0, 0, 0, 0, 0, 0, 0, 0, 0, 40, 40, 0, 0, 0, 0, 0, 0, 42, 42, 40, 0, 0, 0, 40, 0, 40, 0, 0, 40, 40, 40, 40, 43, 0, 0, 40, 40, 0, 0, 0, 0, 40, 42, 43, 40, 40, 0, 0, 40, 40, 40, 40, 40, 40, 40, 40, 42, 0, 0, 0, 40, 40, 0, 0, 0, 40, 40, 0, 40, 40, 43, 40]]
def fconL : List (List (Nat × Nat × Nat)) := [[(2, 1, 6), (0, 0, 0)], [(0, 0, 0), (0, 0, 0), (0, 0, 0), (0, 0, 0), (0, 0, 0), (0, 0, 0), (0, 0, 0), (0, 0, 0), (0, 0, 0), (2, 1, 96), (2, 2, 216), (2, 3, 36), (2, 4, 36)], [(1, 2, 0), (1, 5, 0), (1, 7, 8), (0, 0, 0), (0, 0, 0), (0, 0, 0), (0, 0, 0), (0, 0, 0)], [(1, 1, 8), (1, 31, 576), (0, 0, 0), (0, 0, 0), (0, 0, 0)], [(1, 44, 72), (1, 45, 72), (1, 46, 72), (0, 0, 0), (1, 47, 24), (1, 48, 0), (1, 50, 24)], [(1, 1, 8), (1, 15, 1296), (1, 16, 216), (0, 0, 0), (0, 0, 0), (1, 17, 8), (0, 0, 0), (1, 18, 6), (1, 19, 48), (1, 20, 8), (1, 21, 8), (1, 22, 8), (1, 23, 8), (1, 24, 8), (1, 25, 8), (0, 0, 0), (0, 0, 0), (0, 0, 0), (0, 0, 0), (0, 0, 0)], [(2, 1, 96), (0, 0, 0)], [(1, 14, 0), (1, 30, 0), (1, 33, 10), (0, 0, 0), (1, 34, 1024), (0, 0, 0), (0, 0, 0), (1, 35, 1024), (1, 36, 10), (1, 37, 120), (1, 38, 1024), (0, 0, 0), (1, 39, 0), (1, 41, 480), (1, 42, 336)], [(0, 0, 0), (1, 6, 512), (0, 0, 0)], [(0, 0, 0), (0, 0, 0), (1, 27, 64), (1, 28, 256), (1, 29, 8)], [(1, 3, 600), (0, 0, 0), (0, 0, 0), (0, 0, 0), (0, 0, 0), (0, 0, 0), (0, 0, 0)], [(1, 1, 8), (1, 2, 0), (1, 4, 0), (1, 8, 24), (0, 0, 0), (1, 9, 6), (0, 0, 0), (1, 10, 12), (0, 0, 0), (0, 0, 0), (1, 11, 0), (1, 13, 6), (0, 0, 0), (1, 14, 0), (1, 26, 0), (1, 30, 0), (1, 32, 0), (1, 43, 0)], [(1, 52, 8), (0, 0, 0), (1, 53, 24), (1, 54, 24), (1, 55, 24), (1, 56, 24), (1, 57, 24), (1, 58, 2304), (1, 59, 2304), (1, 60, 2304), (1, 61, 2304), (1, 62, 2304), (1, 63, 2304), (1, 64, 2304), (1, 65, 2304), (1, 66, 2304), (1, 67, 2304), (1, 68, 2304), (1, 69, 2304), (1, 70, 2304), (1, 71, 600), (0, 0, 0), (0, 0, 0), (0, 0, 0), (0, 0, 0), (0, 0, 0), (0, 0, 0), (0, 0, 0), (0, 0, 0), (0, 0, 0), (1, 72, 6), (1, 73, 6), (0, 0, 0), (0, 0, 0), (0, 0, 0), (0, 0, 0), (0, 0, 0), (0, 0, 0), (1, 74, 96), (1, 75, 96), (1, 76, 96), (0, 0, 0), (0, 0, 0), (0, 0, 0), (1, 77, 1600), (0, 0, 0), (1, 78, 8), (0, 0, 0), (0, 0, 0), (1, 79, 256), (1, 80, 256), (1, 81, 256), (1, 82, 256), (1, 83, 256), (0, 0, 0), (0, 0, 0), (1, 84, 6), (1, 85, 6), (0, 0, 0), (0, 0, 0), (0, 0, 0), (0, 0, 0), (1, 86, 256), (1, 87, 8), (1, 88, 8), (1, 89, 8), (1, 90, 8), (0, 0, 0), (0, 0, 0), (1, 91, 6), (1, 92, 12), (1, 93, 240), (1, 94, 240), (1, 95, 240), (1, 96, 240), (1, 97, 240), (1, 98, 240), (1, 99, 240), (0, 0, 0), (0, 0, 0), (0, 0, 0), (1, 100, 72), (1, 101, 72), (0, 0, 0), (0, 0, 0), (0, 0, 0), (1, 102, 10), (1, 103, 1024), (0, 0, 0), (1, 104, 6), (1, 105, 36), (1, 106, 48), (1, 107, 24)]]
def fty (ci k : Nat) : Nat := (ftyL.getD ci []).getD k 9
def fref (ci k : Nat) : Nat := (frefL.getD ci []).getD k 0
def fnum (ci : Nat) : Nat := (ftyL.getD ci []).length
def fconT (q : Nat × Nat × Nat) (a : Nat) : Option (Nat × Nat) := match q with
  | (0, _, _) => none
  | (1, b, n) => some (b, n)
  | (_, b, n) => some (a + b, n)
def fcon (ci k a : Nat) : Option (Nat × Nat) := fconT ((fconL.getD ci []).getD k (0, 0, 0)) a
abbrev vwC : List vw_C := [(RX0, TX0, 2), (RX1, TX1, 13), (RX2, TX2, 8), (RX3, TX3, 5), (RX4, TX4, 7), (RX5, TX5, 20), (RX6, TX6, 2), (RX7, TX7, 15), (RX8, TX8, 3), (RX9, TX9, 5), (RX10, TX10, 7), (RX11, TX11, 18), (RX12, TX12, 93)]
def GW : List Cond := lw_tbl.filter goodWord
theorem GW_good : ∀ w ∈ GW, (w.onTables && w.keeps) = true ∨ ∃ ty, w = .arrayClass ty := fun w h => good_of_word (List.mem_filter.mp h).2
theorem GWi (i : Nat) {w : Cond} (h : tables_1[i]? = some w) (hg : goodWord w = true) : w ∈ GW := List.mem_filter.mpr ⟨List.mem_append_right _ (List.mem_of_getElem? h), hg⟩
theorem GWs (i : Nat) {w : Cond} (h : (k2_sels lw_privs)[i]? = some w) (hg : goodWord w = true) : w ∈ GW := List.mem_filter.mpr ⟨List.mem_append_left _ (List.mem_of_getElem? h), hg⟩
theorem cw_0 : ∀ w ∈ u_ws RX0 TX0 2, w ∈ GW := by
  intro w h
  refine List.mem_filter.mpr ⟨List.mem_append_right _ ?_, ?_⟩
  · exact (List.all_eq_true.mp (show (u_ws RX0 TX0 2).all (fun w => decide (w ∈ tables_1)) = true by decide +kernel) w h |> of_decide_eq_true)
  · exact List.all_eq_true.mp (show (u_ws RX0 TX0 2).all goodWord = true by decide +kernel) w h
theorem cw_1 : ∀ w ∈ u_ws RX1 TX1 13, w ∈ GW := by
  intro w h
  refine List.mem_filter.mpr ⟨List.mem_append_right _ ?_, ?_⟩
  · exact (List.all_eq_true.mp (show (u_ws RX1 TX1 13).all (fun w => decide (w ∈ tables_1)) = true by decide +kernel) w h |> of_decide_eq_true)
  · exact List.all_eq_true.mp (show (u_ws RX1 TX1 13).all goodWord = true by decide +kernel) w h
theorem cw_2 : ∀ w ∈ u_ws RX2 TX2 8, w ∈ GW := by
  intro w h
  refine List.mem_filter.mpr ⟨List.mem_append_right _ ?_, ?_⟩
  · exact (List.all_eq_true.mp (show (u_ws RX2 TX2 8).all (fun w => decide (w ∈ tables_1)) = true by decide +kernel) w h |> of_decide_eq_true)
  · exact List.all_eq_true.mp (show (u_ws RX2 TX2 8).all goodWord = true by decide +kernel) w h
theorem cw_3 : ∀ w ∈ u_ws RX3 TX3 5, w ∈ GW := by
  intro w h
  refine List.mem_filter.mpr ⟨List.mem_append_right _ ?_, ?_⟩
  · exact (List.all_eq_true.mp (show (u_ws RX3 TX3 5).all (fun w => decide (w ∈ tables_1)) = true by decide +kernel) w h |> of_decide_eq_true)
  · exact List.all_eq_true.mp (show (u_ws RX3 TX3 5).all goodWord = true by decide +kernel) w h
theorem cw_4 : ∀ w ∈ u_ws RX4 TX4 7, w ∈ GW := by
  intro w h
  refine List.mem_filter.mpr ⟨List.mem_append_right _ ?_, ?_⟩
  · exact (List.all_eq_true.mp (show (u_ws RX4 TX4 7).all (fun w => decide (w ∈ tables_1)) = true by decide +kernel) w h |> of_decide_eq_true)
  · exact List.all_eq_true.mp (show (u_ws RX4 TX4 7).all goodWord = true by decide +kernel) w h
theorem cw_5 : ∀ w ∈ u_ws RX5 TX5 20, w ∈ GW := by
  intro w h
  refine List.mem_filter.mpr ⟨List.mem_append_right _ ?_, ?_⟩
  · exact (List.all_eq_true.mp (show (u_ws RX5 TX5 20).all (fun w => decide (w ∈ tables_1)) = true by decide +kernel) w h |> of_decide_eq_true)
  · exact List.all_eq_true.mp (show (u_ws RX5 TX5 20).all goodWord = true by decide +kernel) w h
theorem cw_6 : ∀ w ∈ u_ws RX6 TX6 2, w ∈ GW := by
  intro w h
  refine List.mem_filter.mpr ⟨List.mem_append_right _ ?_, ?_⟩
  · exact (List.all_eq_true.mp (show (u_ws RX6 TX6 2).all (fun w => decide (w ∈ tables_1)) = true by decide +kernel) w h |> of_decide_eq_true)
  · exact List.all_eq_true.mp (show (u_ws RX6 TX6 2).all goodWord = true by decide +kernel) w h
theorem cw_7 : ∀ w ∈ u_ws RX7 TX7 15, w ∈ GW := by
  intro w h
  refine List.mem_filter.mpr ⟨List.mem_append_right _ ?_, ?_⟩
  · exact (List.all_eq_true.mp (show (u_ws RX7 TX7 15).all (fun w => decide (w ∈ tables_1)) = true by decide +kernel) w h |> of_decide_eq_true)
  · exact List.all_eq_true.mp (show (u_ws RX7 TX7 15).all goodWord = true by decide +kernel) w h
theorem cw_8 : ∀ w ∈ u_ws RX8 TX8 3, w ∈ GW := by
  intro w h
  refine List.mem_filter.mpr ⟨List.mem_append_right _ ?_, ?_⟩
  · exact (List.all_eq_true.mp (show (u_ws RX8 TX8 3).all (fun w => decide (w ∈ tables_1)) = true by decide +kernel) w h |> of_decide_eq_true)
  · exact List.all_eq_true.mp (show (u_ws RX8 TX8 3).all goodWord = true by decide +kernel) w h
theorem cw_9 : ∀ w ∈ u_ws RX9 TX9 5, w ∈ GW := by
  intro w h
  refine List.mem_filter.mpr ⟨List.mem_append_right _ ?_, ?_⟩
  · exact (List.all_eq_true.mp (show (u_ws RX9 TX9 5).all (fun w => decide (w ∈ tables_1)) = true by decide +kernel) w h |> of_decide_eq_true)
  · exact List.all_eq_true.mp (show (u_ws RX9 TX9 5).all goodWord = true by decide +kernel) w h
theorem cw_10 : ∀ w ∈ u_ws RX10 TX10 7, w ∈ GW := by
  intro w h
  refine List.mem_filter.mpr ⟨List.mem_append_right _ ?_, ?_⟩
  · exact (List.all_eq_true.mp (show (u_ws RX10 TX10 7).all (fun w => decide (w ∈ tables_1)) = true by decide +kernel) w h |> of_decide_eq_true)
  · exact List.all_eq_true.mp (show (u_ws RX10 TX10 7).all goodWord = true by decide +kernel) w h
theorem cw_11 : ∀ w ∈ u_ws RX11 TX11 18, w ∈ GW := by
  intro w h
  refine List.mem_filter.mpr ⟨List.mem_append_right _ ?_, ?_⟩
  · exact (List.all_eq_true.mp (show (u_ws RX11 TX11 18).all (fun w => decide (w ∈ tables_1)) = true by decide +kernel) w h |> of_decide_eq_true)
  · exact List.all_eq_true.mp (show (u_ws RX11 TX11 18).all goodWord = true by decide +kernel) w h
theorem cw_12 : ∀ w ∈ u_ws RX12 TX12 93, w ∈ GW := by
  intro w h
  refine List.mem_filter.mpr ⟨List.mem_append_right _ ?_, ?_⟩
  · exact (List.all_eq_true.mp (show (u_ws RX12 TX12 93).all (fun w => decide (w ∈ tables_1)) = true by decide +kernel) w h |> of_decide_eq_true)
  · exact List.all_eq_true.mp (show (u_ws RX12 TX12 93).all goodWord = true by decide +kernel) w h
end
section
/-! THE PICTURE: a heap as three tables of numbers; typed values; what of the machine's heap it says -/
abbrev TV : Type := Int32 ⊕ Int64 ⊕ ((Nat × Nat) × Option Nat) ⊕ Nat
abbrev tI (x : Int32) : TV := Sum.inl x
abbrev tJ (x : Int64) : TV := Sum.inr (Sum.inl x)
abbrev tR (k n : Nat) (r : Option Nat) : TV := Sum.inr (Sum.inr (Sum.inl ((k, n), r)))
abbrev tS (i : Nat) : TV := Sum.inr (Sum.inr (Sum.inr i))
abbrev Hp : Type := Nat × (Nat → Nat × Nat) × (Nat → Nat → Int32) × (Nat → Nat → Int64) × (Nat → Nat → Option Nat)
def hN (h : Hp) : Nat := h.1
def hT (h : Hp) : Nat → Nat × Nat := h.2.1
def hI (h : Hp) : Nat → Nat → Int32 := h.2.2.1
def hJ (h : Hp) : Nat → Nat → Int64 := h.2.2.2.1
def hR (h : Hp) : Nat → Nat → Option Nat := h.2.2.2.2
def up2 {α : Type} (f : Nat → Nat → α) (a k : Nat) (v : α) : Nat → Nat → α := fun b j => if b = a ∧ j = k then v else f b j
def wI (h : Hp) (a k : Nat) (x : Int32) : Hp := (hN h, hT h, up2 (hI h) a k x, hJ h, hR h)
def wJ (h : Hp) (a k : Nat) (x : Int64) : Hp := (hN h, hT h, hI h, up2 (hJ h) a k x, hR h)
def wR (h : Hp) (a k : Nat) (x : Option Nat) : Hp := (hN h, hT h, hI h, hJ h, up2 (hR h) a k x)
def wT (h : Hp) (a : Nat) (t : Nat × Nat) : Hp := (hN h, va_up (hT h) a t, hI h, hJ h, hR h)
def nw (h : Hp) (t : Nat × Nat) : Hp := (hN h + 1, va_up (hT h) (hN h) t, va_up (hI h) (hN h) (fun _ => 0), va_up (hJ h) (hN h) (fun _ => 0), va_up (hR h) (hN h) (fun _ => none))
def cpI (h : Hp) (a sp b dp n : Nat) : Hp := (hN h, hT h, va_up (hI h) b (va_cpy (hI h a) (hI h b) sp dp n), hJ h, hR h)
/-- where the picture begins; the classes and slots; the array classes by kind; the String constants, their arrays (at 200 the script, at 300 a constant of the JDK's); the script's length and ints -/
abbrev Cx : Type := Nat × va_G × (Nat → ClassId) × (Nat → Nat) × (Nat → Nat) × Nat × (Nat → Int32)
def rb (G : Cx) (r : Option Nat) : Value := va_rf (r.map (fun a => G.1 + a))
def cv (G : Cx) (v : TV) : Value := match v with
  | .inl x => .int x
  | .inr (.inl x) => .long x
  | .inr (.inr (.inl q)) => rb G q.2
  | .inr (.inr (.inr i)) => .ref (if i < 100 then G.2.2.2.1 i else G.2.2.2.2.1 (i - 100))
def fv (G : Cx) (h : Hp) (ci a k : Nat) : Value := if fty ci k = 1 then .long (hJ h a k) else if fty ci k = 2 then rb G (hR h a k) else .int (hI h a k)
def ev (G : Cx) (h : Hp) (kind a j : Nat) : Value := if kind = 43 then .long (hJ h a j) else if kind < 43 then .int (hI h a j) else rb G (hR h a j)
def atO (G : Cx) (h : Hp) (ci a : Nat) (H : Heap) : Prop := t_OB (G.1 + a) (G.2.1.1 ci) (fnum ci) (G.2.1.2 ci) H (fv G h ci a)
def atA (G : Cx) (h : Hp) (kind n a : Nat) (H : Heap) : Prop := H[G.1 + a]? = some (arrV (G.2.2.1 kind) n (ev G h kind a))
def atc (G : Cx) (h : Hp) (a : Nat) (H : Heap) : Prop := if (hT h a).1 < 40 then atO G h ((hT h a).1 % 20) a H else atA G h (hT h a).1 (hT h a).2 a H
def WFa (h : Hp) (a : Nat) : Prop :=
  ((hT h a).1 < 40 → (hT h a).2 = 0) ∧
  ((hT h a).1 < 40 → ∀ k, k < fnum ((hT h a).1 % 20) → fty ((hT h a).1 % 20) k = 2 → ∀ b, hR h a k = some b → b < hN h ∧ (hT h b).1 = fref ((hT h a).1 % 20) k) ∧
  ((hT h a).1 < 20 → ∀ k b n, fcon (hT h a).1 k a = some (b, n) → hR h a k = some b ∧ hT h b = (fref (hT h a).1 k, n) ∧ b < hN h) ∧
  (50 ≤ (hT h a).1 → ∀ j b, hR h a j = some b → b < hN h ∧ hT h b = ((hT h a).1 - 50, 0) ∧ (hT h a).1 - 50 < 20)
def WF (h : Hp) : Prop := ∀ a, a < hN h → WFa h a
def Wd (G : Cx) (h : Hp) (H : Heap) : Prop := H.size = G.1 + hN h ∧ (∀ a, a < hN h → atc G h a H) ∧ WF h
def ty1 (h : Hp) (v : TV) : Prop := match v with
  | .inl _ => True
  | .inr (.inl _) => True
  | .inr (.inr (.inl q)) => ∀ b, q.2 = some b → b < hN h ∧ hT h b = q.1
  | .inr (.inr (.inr i)) => i < 16 ∨ (100 ≤ i ∧ i < 116) ∨ i = 300 ∨ i = 400
def tyL (h : Hp) : List TV → Prop
  | [] => True
  | v :: l => ty1 h v ∧ tyL h l
def tyO (h : Hp) : List (Option TV) → Prop
  | [] => True
  | none :: l => tyO h l
  | some v :: l => ty1 h v ∧ tyO h l
/-- nothing that was there has another kind -/
def ext (h h' : Hp) : Prop := hN h ≤ hN h' ∧ ∀ b, b < hN h → hT h' b = hT h b
theorem ext.rf (h : Hp) : ext h h := ⟨Nat.le_refl _, fun _ _ => rfl⟩
theorem ext.trans {a b c : Hp} (h1 : ext a b) (h2 : ext b c) : ext a c := ⟨Nat.le_trans h1.1 h2.1, fun q hq => (h2.2 q (Nat.lt_of_lt_of_le hq h1.1)).trans (h1.2 q hq)⟩
theorem ty1.ext {h h' : Hp} (e : ext h h') {v : TV} (t : ty1 h v) : ty1 h' v := by
  match v, t with
  | .inl _, _ => trivial
  | .inr (.inl _), _ => trivial
  | .inr (.inr (.inl q)), t => exact fun b hb => ⟨Nat.lt_of_lt_of_le (t b hb).1 e.1, (e.2 b (t b hb).1).trans (t b hb).2⟩
  | .inr (.inr (.inr i)), t => exact t
theorem tyL.ext {h h' : Hp} (e : ext h h') : ∀ {l : List TV}, tyL h l → tyL h' l
  | [], _ => trivial
  | _ :: _, t => ⟨t.1.ext e, tyL.ext e t.2⟩
theorem tyO.ext {h h' : Hp} (e : ext h h') : ∀ {l : List (Option TV)}, tyO h l → tyO h' l
  | [], _ => trivial
  | none :: l, t => tyO.ext (l := l) e (show tyO h l from t)
  | some _ :: l, t => ⟨t.1.ext e, tyO.ext (l := l) e t.2⟩
theorem fref_ok : ∀ ci k, fref ci k < 20 ∨ 40 ≤ fref ci k := by
  intro ci k
  have key : ∀ l ∈ frefL, ∀ x ∈ l, x < 20 ∨ 40 ≤ x := by decide +kernel
  unfold fref
  by_cases h1 : ci < frefL.length
  · have e1 : frefL.getD ci [] ∈ frefL := by
      rw [List.getD_eq_getElem?_getD, List.getElem?_eq_getElem h1]
      exact List.getElem_mem h1
    by_cases h2 : k < (frefL.getD ci []).length
    · refine key _ e1 _ ?_
      rw [List.getD_eq_getElem?_getD (l := frefL.getD ci []), List.getElem?_eq_getElem h2]
      exact List.getElem_mem h2
    · rw [List.getD_eq_getElem?_getD (l := frefL.getD ci []), List.getElem?_eq_none (Nat.not_lt.mp h2)]
      exact Or.inl (by decide)
  · have e1 : frefL.getD ci [] = [] := by
      rw [List.getD_eq_getElem?_getD, List.getElem?_eq_none (Nat.not_lt.mp h1)]
      rfl
    rw [e1]
    exact Or.inl (show 0 < 20 by decide)
theorem fty_lt {ci k : Nat} (h : fty ci k ≠ 9) : k < fnum ci := by
  rcases Nat.lt_or_ge k (fnum ci) with q | q
  · exact q
  · refine absurd ?_ h
    unfold fty
    rw [List.getD_eq_getElem?_getD (l := ftyL.getD ci []), List.getElem?_eq_none q]
    rfl
theorem up2_self {α : Type} (f : Nat → Nat → α) (a k : Nat) (v : α) : up2 f a k v a k = v := by simp [up2]
theorem up2_ne {α : Type} (f : Nat → Nat → α) {a k b j : Nat} (v : α) (h : ¬ (b = a ∧ j = k)) : up2 f a k v b j = f b j := by simp only [up2, if_neg h]
theorem up2_row {α : Type} (f : Nat → Nat → α) {a k b : Nat} (v : α) (h : b ≠ a) : up2 f a k v b = f b := by funext j; exact up2_ne f v (fun q => h q.1)
/-- another cell's picture doesn't change -/
theorem atc_same {G : Cx} {h h' : Hp} {b : Nat} {H H' : Heap} (hb : atc G h b H) (eT : hT h' b = hT h b) (eI : hI h' b = hI h b) (eJ : hJ h' b = hJ h b) (eR : hR h' b = hR h b) (eH : H'[G.1 + b]? = H[G.1 + b]?) : atc G h' b H' := by
  unfold atc at hb ⊢
  rw [eT]
  split
  · rename_i q
    rw [if_pos q] at hb
    unfold atO at hb ⊢
    have e : fv G h' ((hT h b).1 % 20) b = fv G h ((hT h b).1 % 20) b := by funext k; simp only [fv, eI, eJ, eR]
    rw [e]
    exact hb.kept eH
  · rename_i q
    rw [if_neg q] at hb
    unfold atA at hb ⊢
    have e : ev G h' (hT h b).1 b = ev G h (hT h b).1 b := by funext k; simp only [ev, eI, eJ, eR]
    rw [e, eH]
    exact hb
theorem atc_O {G : Cx} {h : Hp} {a ci : Nat} {H : Heap} (hk : (hT h a).1 = ci ∨ (hT h a).1 = 20 + ci) (hc : ci < 20) : atc G h a H ↔ atO G h ci a H := by
  unfold atc
  have h1 : (hT h a).1 < 40 := by omega
  have h2 : (hT h a).1 % 20 = ci := by omega
  rw [if_pos h1, h2]
theorem atc_A {G : Cx} {h : Hp} {a kind n : Nat} {H : Heap} (hk : hT h a = (kind, n)) (hc : 40 ≤ kind) : atc G h a H ↔ atA G h kind n a H := by
  unfold atc
  rw [hk]
  have h1 : ¬ kind < 40 := by omega
  simp only [if_neg h1]
theorem wd_set {G : Cx} {h h' : Hp} {a : Nat} {H H' : Heap} (hW : Wd G h H) (ez : H'.size = H.size) (eo : ∀ q : Nat, q ≠ G.1 + a → H'[q]? = H[q]?) (eN : hN h' = hN h) (eT : hT h' = hT h) (ho : ∀ b, b ≠ a → hI h' b = hI h b ∧ hJ h' b = hJ h b ∧ hR h' b = hR h b) (hF : WF h') (ha : a < hN h → atc G h' a H') : Wd G h' H' := by
  refine ⟨by rw [ez, eN]; exact hW.1, fun b hb => ?_, hF⟩
  by_cases hab : b = a
  · subst hab
    exact ha (by rw [← eN]; exact hb)
  · obtain ⟨e1, e2, e3⟩ := ho b hab
    exact atc_same (hW.2.1 b (by rw [← eN]; exact hb)) (by rw [eT]) e1 e2 e3 (eo _ (by omega))
theorem WF_of {h h' : Hp} (hF : WF h) (eN : hN h' = hN h) (eT : hT h' = hT h) (eR : hR h' = hR h) : WF h' := by
  intro a ha
  have q := hF a (by rw [← eN]; exact ha)
  unfold WFa at q ⊢
  rw [eN, eT, eR]
  exact q
end
section
/-! THE JUDGEMENT: from a place in a method, with typed locals and stack, over a picture of the heap, the method comes to its end with Q -/
abbrev Mth : Type := ByteArray × Nat × Option FieldType × String × String
abbrev rmOf (d mc ms : Nat) : Room := { frames := d, cells := mc, slots := ms, locals := 48 * d }
def lenS : List Nat := [42, 16, 33, 4, 3, 5, 5, 25, 5, 3, 4, 24, 3, 5, 15, 7]
def bytS : List (List Int32) := [[112, 97, 115, 115, 32, 103, 105, 102, 116, 32, 115, 97, 108, 101, 32, 104, 105, 114, 101, 32, 97, 102, 116, 101, 114, 32, 116, 105, 109, 101, 115, 32, 105, 102, 32, 99, 104, 111, 105, 99, 101, 32], [97, 32, 98, 32, 99, 32, 100, 32, 101, 32, 102, 32, 103, 32, 104, 32], [99, 111, 105, 110, 32, 109, 117, 108, 101, 32, 99, 108, 111, 116, 104, 32, 104, 111, 117, 115, 101, 32, 119, 111, 114, 107, 32, 103, 114, 97, 105, 110, 32], [102, 111, 114, 32], [97, 116, 32], [112, 97, 105, 100, 32], [98, 97, 99, 107, 32], [100, 105, 101, 115, 32, 114, 97, 105, 110, 32, 119, 97, 114, 32, 100, 101, 97, 114, 32, 102, 108, 111, 111, 100, 32], [101, 108, 115, 101, 32], [111, 114, 32], [98, 97, 114, 32], [112, 97, 115, 115, 32, 103, 105, 102, 116, 32, 115, 97, 108, 101, 32, 104, 105, 114, 101, 32, 97, 110, 121, 32], [111, 102, 32], [116, 104, 101, 110, 32], [98, 97, 99, 107, 32, 115, 97, 109, 101, 32, 109, 111, 114, 101, 32], [119, 105, 116, 104, 105, 110, 32]]
def strT : List (String × Nat × String × Nat) := [("LoanNames$DealReader", 88, "pass gift sale hire after times if choice ", 0), ("LoanNames$DealReader", 135, "a b c d e f g h ", 1), ("LoanNames$DealReader", 140, "coin mule cloth house work grain ", 2), ("LoanNames$DealReader", 146, "for ", 3), ("LoanNames$DealReader", 152, "at ", 4), ("LoanNames$DealReader", 154, "paid ", 5), ("LoanNames$DealReader", 159, "back ", 6), ("LoanNames$DealReader", 171, "dies rain war dear flood ", 7), ("LoanNames$DealReader", 176, "else ", 8), ("LoanNames$DealReader", 185, "or ", 9), ("LoanNames$Rules", 32, "bar ", 10), ("LoanNames$Rules", 60, "pass gift sale hire any ", 11), ("LoanNames$Rules", 66, "of ", 12), ("LoanNames$Rules", 68, "coin mule cloth house work grain ", 2), ("LoanNames$Rules", 41, "then ", 13), ("LoanNames$Rules", 70, "back same more ", 14), ("LoanNames$Rules", 75, "within ", 15)]
abbrev tysG (G : Cx) : List (ClassId × FieldType) := [(G.2.2.1 40, .int), (G.2.2.1 41, .byte), (G.2.2.1 42, .boolean), (G.2.2.1 43, .long), (G.2.2.1 50, .object RX0), (G.2.2.1 51, .object RX1), (G.2.2.1 56, .object RX6)]
abbrev Ag (G : Cx) : Nat → Prop := fun q => G.1 ≤ q
def ZF (G : Cx) (U : State) (H : Heap) : Prop := va_Z "jdk/internal/util/Preconditions" "SIOOBE_FORMATTER" "Ljava/util/function/BiFunction;" .null (Ag G) U H ∨ va_Z "jdk/internal/util/Preconditions" "SIOOBE_FORMATTER" "Ljava/util/function/BiFunction;" (.ref (G.2.2.2.2.1 300)) (Ag G) U H
def Kx (G : Cx) (U : State) : Prop := va_K G.2.1 vwC (tysG G) U ∧ vk_S 16 lenS bytS G.2.2.2.1 G.2.2.2.2.1 (Ag G) U U.heap ∧ (∀ q ∈ strT, vk_R q.1 q.2.1 q.2.2.1 (G.2.2.2.1 q.2.2.2) U) ∧ va_Z "java/lang/String" "COMPACT_STRINGS" "Z" (.int 1) (Ag G) U U.heap ∧ ZF G U U.heap ∧ va_X (G.2.2.2.2.1 200) G.2.2.2.2.2.1 G.2.2.2.2.2.2 U U.heap ∧ G.2.2.2.2.1 200 < G.1
theorem ZF.mv {G : Cx} {u U : State} {H H1 : Heap} (hvm : u.vm.Alike U.vm) (hq : ∀ a : Nat, a < H.size → ¬ Ag G a → H1[a]? = H[a]?) (h : ZF G u H) : ZF G U H1 := by
  rcases h with h | h
  · exact Or.inl ((va_Z.moved hvm h).kept hq)
  · exact Or.inr ((va_Z.moved hvm h).kept hq)
theorem va_X.lt {b L : Nat} {xs : Nat → Int32} {U : State} {H : Heap} (h : va_X b L xs U H) : b < H.size := by
  obtain ⟨scr, h1, -⟩ := h
  exact (Array.getElem?_eq_some_iff.mp h1).1
theorem Kx.to {G : Cx} {s U : State} (hW : s.WarmedH U.vm) (hq : ∀ a : Nat, a < s.heap.size → ¬ Ag G a → U.heap[a]? = s.heap[a]?) (h : Kx G s) : Kx G U :=
  ⟨va_K.moved hW.alike h.1, (vk_S.moved hW.alike h.2.1).kept hq, fun q hm => vk_R.warm hW (h.2.2.1 q hm), (va_Z.moved hW.alike h.2.2.2.1).kept hq, h.2.2.2.2.1.mv hW.alike hq, (va_X.moved hW.alike h.2.2.2.2.2.1).kept (hq _ h.2.2.2.2.2.1.lt (Nat.not_le.mpr h.2.2.2.2.2.2)), h.2.2.2.2.2.2⟩
theorem Kx.call {G : Cx} {U : State} {g : JFrame} {mk : MethodId} {a : Array Value} (h : Kx G U) : Kx G (U.calling g mk a) :=
  ⟨va_K.moved (u := U) (U := U.calling g mk a) (Vm.Alike.refl U.vm) h.1, vk_S.moved (u := U) (U := U.calling g mk a) (Vm.Alike.refl U.vm) h.2.1, fun q hm => vk_R.same (u := U) (U := U.calling g mk a) rfl (h.2.2.1 q hm), va_Z.moved (u := U) (U := U.calling g mk a) (Vm.Alike.refl U.vm) h.2.2.2.1, ZF.mv (u := U) (U := U.calling g mk a) (Vm.Alike.refl U.vm) (fun _ _ _ => rfl) h.2.2.2.2.1, va_X.moved (u := U) (U := U.calling g mk a) (Vm.Alike.refl U.vm) h.2.2.2.2.2.1, h.2.2.2.2.2.2⟩
def Cm (G : Cx) (M : Mth) (p : Program) (s : State) (m : MethodId) (args : Array Value) (meth : Method) (c : Code) : Prop :=
  p.tables.exec = Jvm.exec ∧ c.code = M.1 ∧ c.maxLocals = M.2.1 ∧ meth.sig.returnType = M.2.2.1 ∧ s.vm.findClass M.2.2.2.1 = some m.cls ∧ (∀ w ∈ GW, w.before args s = true) ∧ Kx G s ∧ meth.locks = false ∧ meth.name = M.2.2.2.2
def asc (G : Cx) : Nat → List (Option TV) → List (Nat × Value)
  | _, [] => []
  | i, none :: l => asc G (i + 1) l
  | i, some v :: l => (i, cv G v) :: asc G (i + 1) l
def PostU (G : Cx) (h0 : Hp) (Q : Option TV → Hp → Prop) : Array Value → State → Outcome → State → Prop := fun _ st oc t =>
  (∃ (r : Option TV) (h' : Hp), oc = .returned (r.map (cv G)) ∧ Q r h' ∧ ext h0 h' ∧ (∀ v, r = some v → ty1 h' v) ∧ Wd G h' t.heap) ∧ va_F (Ag G) st t
def Rn (l : Launch) (G : Cx) (d mc ms : Nat) (M : Mth) (h0 : Hp) (Q : Option TV → Hp → Prop) (pc : Nat) (L : List (Option TV)) (st : List TV) (h : Hp) (cu su : Nat) : Prop :=
  ∀ (p : Program) (e : Env) (s : State) (m : MethodId) (args : Array Value) (below : List Frame) (meth : Method) (c : Code) (H : Heap) (locs : List Loc) (ls : Array Slot),
    Cm G M p s m args meth c → Wd G h H → ext h0 h → va_S (Ag G) s.heap H locs → lv_has ls M.2.1 (asc G 0 L) → tyO h L → tyL h st →
    W p l e (rmOf d mc ms) s m args below meth c H locs cu su (MQ below (PostU G h0 Q) args s mc ms (Ag G)) (F0 m pc ls (st.map (cv G)))
theorem asc_mem {G : Cx} : ∀ {L : List (Option TV)} {i j : Nat} {v : TV}, L[i]? = some (some v) → (j + i, cv G v) ∈ asc G j L
  | [], i, j, v, h => by simp at h
  | none :: L, 0, j, v, h => by simp at h
  | some w :: L, 0, j, v, h => by
    have e : w = v := by simpa using h
    subst e
    exact List.mem_cons_self
  | none :: L, i + 1, j, v, h => by
    have e := asc_mem (G := G) (L := L) (i := i) (j := j + 1) (v := v) (by simpa using h)
    rw [show j + (i + 1) = j + 1 + i by omega]
    exact e
  | some w :: L, i + 1, j, v, h => by
    have e := asc_mem (G := G) (L := L) (i := i) (j := j + 1) (v := v) (by simpa using h)
    rw [show j + (i + 1) = j + 1 + i by omega]
    exact List.mem_cons_of_mem _ e
theorem asc_ge {G : Cx} : ∀ {L : List (Option TV)} {j : Nat} {q : Nat × Value}, q ∈ asc G j L → j ≤ q.1
  | [], j, q, h => by cases h
  | none :: L, j, q, h => Nat.le_of_succ_le (asc_ge (G := G) (L := L) (j := j + 1) h)
  | some w :: L, j, q, h => by
    rcases List.mem_cons.mp h with e | e
    · rw [e]; exact Nat.le_refl _
    · exact Nat.le_of_succ_le (asc_ge (G := G) (L := L) (j := j + 1) e)
theorem ls_at {G : Cx} {ls : Array Slot} {n : Nat} {L : List (Option TV)} {i : Nat} {v : TV} (hl : lv_has ls n (asc G 0 L)) (h : L[i]? = some (some v)) : ls[i]? = some (.val (cv G v)) := by
  have e := hl.2.2 _ (asc_mem (G := G) (j := 0) h)
  rw [Nat.zero_add] at e
  exact e
theorem tyO_at {h : Hp} : ∀ {L : List (Option TV)} {i : Nat} {v : TV}, tyO h L → L[i]? = some (some v) → ty1 h v
  | [], i, v, _, e => by simp at e
  | none :: L, 0, v, _, e => by simp at e
  | some w :: L, 0, v, t, e => by
    have e : w = v := by simpa using e
    subst e
    exact t.1
  | none :: L, i + 1, v, t, e => tyO_at (L := L) (i := i) (show tyO h L from t) (by simpa using e)
  | some w :: L, i + 1, v, t, e => tyO_at (L := L) (i := i) t.2 (by simpa using e)
def dr2 (x : Option TV) : Option TV := match x with
  | some (.inr (.inl _)) => none
  | x => x
def stL1 : List (Option TV) → Nat → TV → List (Option TV)
  | [], 0, v => [some v]
  | [], i + 1, v => none :: stL1 [] i v
  | _ :: L, 0, v => some v :: L
  | x :: L, 1, v => dr2 x :: stL1 L 0 v
  | x :: L, i + 2, v => x :: stL1 L (i + 1) v
def stL2 : List (Option TV) → Nat → TV → List (Option TV)
  | [], 0, v => [some v, none]
  | [], i + 1, v => none :: stL2 [] i v
  | [_], 0, v => [some v, none]
  | _ :: _ :: L, 0, v => some v :: none :: L
  | x :: L, 1, v => dr2 x :: stL2 L 0 v
  | x :: L, i + 2, v => x :: stL2 L (i + 1) v
theorem cv_cat2 {G : Cx} {v : TV} (h : (cv G v).category = 2) : ∃ x, v = tJ x := by
  match v, h with
  | .inl _, h => simp [cv, Value.category] at h
  | .inr (.inl x), _ => exact ⟨x, rfl⟩
  | .inr (.inr (.inl (_, none))), h => simp [cv, rb, va_rf, Value.category] at h
  | .inr (.inr (.inl (_, some _))), h => simp [cv, rb, va_rf, Value.category] at h
  | .inr (.inr (.inr i)), h => simp [cv, Value.category] at h
theorem dr2_eq {x : Option TV} {w : TV} (h : dr2 x = some w) : x = some w ∧ ∀ z, w ≠ tJ z := by
  match x, h with
  | some (.inl _), h => exact ⟨h, fun z e => by cases h; cases e⟩
  | some (.inr (.inl _)), h => simp [dr2] at h
  | some (.inr (.inr (.inl _))), h => exact ⟨h, fun z e => by cases h; cases e⟩
  | some (.inr (.inr (.inr _))), h => exact ⟨h, fun z e => by cases h; cases e⟩
  | none, h => simp [dr2] at h
theorem asc_cons {G : Cx} {x : Option TV} {L : List (Option TV)} {j : Nat} {q : Nat × Value} : q ∈ asc G j (x :: L) ↔ (∃ w, x = some w ∧ q = (j, cv G w)) ∨ q ∈ asc G (j + 1) L := by
  cases x with
  | none => simp [asc]
  | some w => simp [asc, eq_comm]
theorem asc_st1 {G : Cx} : ∀ {L : List (Option TV)} {i j : Nat} {v : TV} {q : Nat × Value}, q ∈ asc G j (stL1 L i v) → q = (j + i, cv G v) ∨ (q ∈ asc G j L ∧ q.1 ≠ j + i ∧ ¬ (q.1 + 1 = j + i ∧ q.2.category = 2))
  | [], 0, j, v, q, h => by
    rw [stL1, asc_cons] at h
    rcases h with ⟨w, hw, e⟩ | h
    · cases hw; exact Or.inl e
    · cases h
  | [], i + 1, j, v, q, h => by
    rw [stL1, asc_cons] at h
    rcases h with ⟨w, hw, e⟩ | h
    · cases hw
    · rcases asc_st1 (L := []) (i := i) (j := j + 1) h with e | ⟨e, -⟩
      · exact Or.inl (by rw [e, show j + 1 + i = j + (i + 1) by omega])
      · cases e
  | x :: L, 0, j, v, q, h => by
    rw [stL1, asc_cons] at h
    rcases h with ⟨w, hw, e⟩ | h
    · cases hw; exact Or.inl e
    · have g := asc_ge h
      exact Or.inr ⟨asc_cons.mpr (Or.inr h), by omega, by omega⟩
  | x :: L, 1, j, v, q, h => by
    rw [stL1, asc_cons] at h
    rcases h with ⟨w, hw, e⟩ | h
    · obtain ⟨h1, h2⟩ := dr2_eq hw
      refine Or.inr ⟨asc_cons.mpr (Or.inl ⟨w, h1, e⟩), by rw [e]; show j ≠ j + 1; omega, fun z => ?_⟩
      rw [e] at z
      obtain ⟨x, hx⟩ := cv_cat2 z.2
      exact h2 x hx
    · rcases asc_st1 (L := L) (i := 0) (j := j + 1) h with e | ⟨e, g1, g2⟩
      · exact Or.inl e
      · exact Or.inr ⟨asc_cons.mpr (Or.inr e), by omega, fun z => g2 ⟨by omega, z.2⟩⟩
  | x :: L, i + 2, j, v, q, h => by
    rw [stL1, asc_cons] at h
    rcases h with ⟨w, hw, e⟩ | h
    · refine Or.inr ⟨asc_cons.mpr (Or.inl ⟨w, hw, e⟩), by rw [e]; show j ≠ _; omega, by rw [e]; show ¬ (j + 1 = _ ∧ _); omega⟩
    · rcases asc_st1 (L := L) (i := i + 1) (j := j + 1) h with e | ⟨e, g1, g2⟩
      · exact Or.inl (by rw [e, show j + 1 + (i + 1) = j + (i + 2) by omega])
      · exact Or.inr ⟨asc_cons.mpr (Or.inr e), by omega, fun z => g2 ⟨by omega, z.2⟩⟩
theorem asc_st2 {G : Cx} : ∀ {L : List (Option TV)} {i j : Nat} {v : TV} {q : Nat × Value}, q ∈ asc G j (stL2 L i v) → q = (j + i, cv G v) ∨ (q ∈ asc G j L ∧ q.1 ≠ j + i ∧ q.1 ≠ j + i + 1 ∧ ¬ (q.1 + 1 = j + i ∧ q.2.category = 2))
  | [], 0, j, v, q, h => by
    rw [stL2, asc_cons, asc_cons] at h
    rcases h with ⟨w, hw, e⟩ | ⟨w, hw, e⟩ | h
    · cases hw; exact Or.inl e
    · cases hw
    · cases h
  | [], i + 1, j, v, q, h => by
    rw [stL2, asc_cons] at h
    rcases h with ⟨w, hw, e⟩ | h
    · cases hw
    · rcases asc_st2 (L := []) (i := i) (j := j + 1) h with e | ⟨e, -⟩
      · exact Or.inl (by rw [e, show j + 1 + i = j + (i + 1) by omega])
      · cases e
  | [x], 0, j, v, q, h => by
    rw [stL2, asc_cons, asc_cons] at h
    rcases h with ⟨w, hw, e⟩ | ⟨w, hw, e⟩ | h
    · cases hw; exact Or.inl e
    · cases hw
    · cases h
  | x :: y :: L, 0, j, v, q, h => by
    rw [stL2, asc_cons, asc_cons] at h
    rcases h with ⟨w, hw, e⟩ | ⟨w, hw, e⟩ | h
    · cases hw; exact Or.inl e
    · cases hw
    · have g := asc_ge h
      exact Or.inr ⟨asc_cons.mpr (Or.inr (asc_cons.mpr (Or.inr h))), by omega, by omega, by omega⟩
  | x :: L, 1, j, v, q, h => by
    rw [stL2] at h
    rw [asc_cons] at h
    rcases h with ⟨w, hw, e⟩ | h
    · obtain ⟨h1, h2⟩ := dr2_eq hw
      refine Or.inr ⟨asc_cons.mpr (Or.inl ⟨w, h1, e⟩), by rw [e]; show j ≠ j + 1; omega, by rw [e]; show j ≠ j + 1 + 1; omega, fun z => ?_⟩
      rw [e] at z
      obtain ⟨x, hx⟩ := cv_cat2 z.2
      exact h2 x hx
    · rcases asc_st2 (L := L) (i := 0) (j := j + 1) h with e | ⟨e, g1, g3, g2⟩
      · exact Or.inl e
      · exact Or.inr ⟨asc_cons.mpr (Or.inr e), by omega, by omega, fun z => g2 ⟨by omega, z.2⟩⟩
  | x :: L, i + 2, j, v, q, h => by
    rw [stL2, asc_cons] at h
    rcases h with ⟨w, hw, e⟩ | h
    · refine Or.inr ⟨asc_cons.mpr (Or.inl ⟨w, hw, e⟩), by rw [e]; show j ≠ _; omega, by rw [e]; show j ≠ _; omega, by rw [e]; show ¬ (j + 1 = _ ∧ _); omega⟩
    · rcases asc_st2 (L := L) (i := i + 1) (j := j + 1) h with e | ⟨e, g1, g3, g2⟩
      · exact Or.inl (by rw [e, show j + 1 + (i + 1) = j + (i + 2) by omega])
      · exact Or.inr ⟨asc_cons.mpr (Or.inr e), by omega, by omega, fun z => g2 ⟨by omega, z.2⟩⟩
theorem tyO_mem {h : Hp} : ∀ {L : List (Option TV)}, tyO h L ↔ ∀ v, some v ∈ L → ty1 h v
  | [] => by simp [tyO]
  | none :: L => by
    show tyO h L ↔ _
    rw [tyO_mem (L := L)]
    simp
  | some w :: L => by
    show ty1 h w ∧ tyO h L ↔ _
    rw [tyO_mem (L := L)]
    simp
theorem st1_mem : ∀ {L : List (Option TV)} {i : Nat} {v w : TV}, some w ∈ stL1 L i v → w = v ∨ some w ∈ L
  | [], 0, v, w, h => by simp [stL1] at h; exact Or.inl h
  | [], i + 1, v, w, h => by
    simp [stL1] at h
    rcases st1_mem (L := []) (i := i) h with e | e
    · exact Or.inl e
    · cases e
  | x :: L, 0, v, w, h => by
    simp [stL1] at h
    rcases h with e | e
    · exact Or.inl e
    · exact Or.inr (List.mem_cons_of_mem _ e)
  | x :: L, 1, v, w, h => by
    rw [stL1] at h
    rcases List.mem_cons.mp h with e | e
    · exact Or.inr (by rw [(dr2_eq e.symm).1]; exact List.mem_cons_self)
    · rcases st1_mem (L := L) (i := 0) e with e | e
      · exact Or.inl e
      · exact Or.inr (List.mem_cons_of_mem _ e)
  | x :: L, i + 2, v, w, h => by
    rw [stL1] at h
    rcases List.mem_cons.mp h with e | e
    · exact Or.inr (by rw [e]; exact List.mem_cons_self)
    · rcases st1_mem (L := L) (i := i + 1) e with e | e
      · exact Or.inl e
      · exact Or.inr (List.mem_cons_of_mem _ e)
theorem st2_mem : ∀ {L : List (Option TV)} {i : Nat} {v w : TV}, some w ∈ stL2 L i v → w = v ∨ some w ∈ L
  | [], 0, v, w, h => by simp [stL2] at h; exact Or.inl h
  | [], i + 1, v, w, h => by
    simp [stL2] at h
    rcases st2_mem (L := []) (i := i) h with e | e
    · exact Or.inl e
    · cases e
  | [x], 0, v, w, h => by simp [stL2] at h; exact Or.inl h
  | x :: y :: L, 0, v, w, h => by
    simp [stL2] at h
    rcases h with e | e
    · exact Or.inl e
    · exact Or.inr (List.mem_cons_of_mem _ (List.mem_cons_of_mem _ e))
  | x :: L, 1, v, w, h => by
    rw [stL2] at h
    rcases List.mem_cons.mp h with e | e
    · exact Or.inr (by rw [(dr2_eq e.symm).1]; exact List.mem_cons_self)
    · rcases st2_mem (L := L) (i := 0) e with e | e
      · exact Or.inl e
      · exact Or.inr (List.mem_cons_of_mem _ e)
  | x :: L, i + 2, v, w, h => by
    rw [stL2] at h
    rcases List.mem_cons.mp h with e | e
    · exact Or.inr (by rw [e]; exact List.mem_cons_self)
    · rcases st2_mem (L := L) (i := i + 1) e with e | e
      · exact Or.inl e
      · exact Or.inr (List.mem_cons_of_mem _ e)
/-- some of the locals are forgotten -/
def kp : List Bool → List (Option TV) → List (Option TV)
  | true :: bs, x :: L => x :: kp bs L
  | false :: bs, _ :: L => none :: kp bs L
  | _, _ => []
theorem kp_asc {G : Cx} : ∀ {bs : List Bool} {L : List (Option TV)} {j : Nat} {q : Nat × Value}, q ∈ asc G j (kp bs L) → q ∈ asc G j L
  | true :: bs, x :: L, j, q, h => by
    rw [kp, asc_cons] at h
    rw [asc_cons]
    exact h.imp id (kp_asc (bs := bs) (L := L))
  | false :: bs, x :: L, j, q, h => by
    rw [kp, asc_cons] at h
    rw [asc_cons]
    rcases h with ⟨w, hw, -⟩ | h
    · cases hw
    · exact Or.inr (kp_asc (bs := bs) (L := L) h)
  | [], L, j, q, h => by
    have e : kp [] L = [] := by cases L <;> rfl
    rw [e] at h; cases h
  | true :: bs, [], j, q, h => by cases h
  | false :: bs, [], j, q, h => by cases h
theorem kp_mem : ∀ {bs : List Bool} {L : List (Option TV)} {w : TV}, some w ∈ kp bs L → some w ∈ L
  | true :: bs, x :: L, w, h => by
    rw [kp] at h
    rcases List.mem_cons.mp h with e | e
    · rw [e]; exact List.mem_cons_self
    · exact List.mem_cons_of_mem _ (kp_mem (bs := bs) e)
  | false :: bs, x :: L, w, h => by
    rw [kp] at h
    rcases List.mem_cons.mp h with e | e
    · cases e
    · exact List.mem_cons_of_mem _ (kp_mem (bs := bs) e)
  | [], L, w, h => by
    have e : kp [] L = [] := by cases L <;> rfl
    rw [e] at h; cases h
  | true :: bs, [], w, h => by cases h
  | false :: bs, [], w, h => by cases h
section RN
variable {l : Launch} {G : Cx} {d mc ms : Nat} {M : Mth} {h0 : Hp} {Q : Option TV → Hp → Prop} {pc : Nat} {L : List (Option TV)} {st : List TV} {h : Hp} {cu su : Nat}
theorem r_keep (bs : List Bool) {L' : List (Option TV)} (hk : kp bs L = L') (k : Rn l G d mc ms M h0 Q pc L' st h cu su) : Rn l G d mc ms M h0 Q pc L st h cu su := by
  subst hk
  intro p e s m args below meth c H locs ls C hW hE hS hl hL hst
  exact k p e s m args below meth c H locs ls C hW hE hS ⟨hl.1, hl.2.1, fun q hq => hl.2.2 q (kp_asc hq)⟩ (tyO_mem.mpr fun v hv => tyO_mem.mp hL v (kp_mem hv)) hst
theorem r_iconst {n : Int} {v : Int32} (hd : decode M.1 pc = .ok (.iconst n, 1)) (hv : Int32.ofInt n = v) (k : Rn l G d mc ms M h0 Q (pc + 1) L (tI v :: st) h cu su) : Rn l G d mc ms M h0 Q pc L (st) h cu su := by
  intro p e s m args below meth c H locs ls C hW hE hS hl hL hst
  exact lv_iconst C.1 C.2.1 hd hv (k p e s m args below meth c H locs ls C hW hE hS hl hL ⟨trivial, hst⟩)
theorem r_bipush {n : Int} {v : Int32} (hd : decode M.1 pc = .ok (.bipush n, 2)) (hv : (Int8.ofInt n).toInt32 = v) (k : Rn l G d mc ms M h0 Q (pc + 2) L (tI v :: st) h cu su) : Rn l G d mc ms M h0 Q pc L (st) h cu su := by
  intro p e s m args below meth c H locs ls C hW hE hS hl hL hst
  exact lv_bipush C.1 C.2.1 hd hv (k p e s m args below meth c H locs ls C hW hE hS hl hL ⟨trivial, hst⟩)
theorem r_sipush {n : Int} {v : Int32} (hd : decode M.1 pc = .ok (.sipush n, 3)) (hv : (Int16.ofInt n).toInt32 = v) (k : Rn l G d mc ms M h0 Q (pc + 3) L (tI v :: st) h cu su) : Rn l G d mc ms M h0 Q pc L (st) h cu su := by
  intro p e s m args below meth c H locs ls C hW hE hS hl hL hst
  exact lv_sipush C.1 C.2.1 hd hv (k p e s m args below meth c H locs ls C hW hE hS hl hL ⟨trivial, hst⟩)
theorem r_lconst {n : Fin 2} {v : Int64} (hd : decode M.1 pc = .ok (.lconst n, 1)) (hv : Int64.ofNat (n : Nat) = v) (k : Rn l G d mc ms M h0 Q (pc + 1) L (tJ v :: st) h cu su) : Rn l G d mc ms M h0 Q pc L (st) h cu su := by
  intro p e s m args below meth c H locs ls C hW hE hS hl hL hst
  exact lv_lconst C.1 C.2.1 hd hv (k p e s m args below meth c H locs ls C hW hE hS hl hL ⟨trivial, hst⟩)
theorem r_iadd {x y : Int32} (hd : decode M.1 pc = .ok (.iadd, 1)) (k : Rn l G d mc ms M h0 Q (pc + 1) L (tI (x + y) :: st) h cu su) : Rn l G d mc ms M h0 Q pc L (tI y :: tI x :: st) h cu su := by
  intro p e s m args below meth c H locs ls C hW hE hS hl hL hst
  exact lv_iadd C.1 C.2.1 hd (k p e s m args below meth c H locs ls C hW hE hS hl hL ⟨trivial, hst.2.2⟩)
theorem r_isub {x y : Int32} (hd : decode M.1 pc = .ok (.isub, 1)) (k : Rn l G d mc ms M h0 Q (pc + 1) L (tI (x - y) :: st) h cu su) : Rn l G d mc ms M h0 Q pc L (tI y :: tI x :: st) h cu su := by
  intro p e s m args below meth c H locs ls C hW hE hS hl hL hst
  exact lv_isub C.1 C.2.1 hd (k p e s m args below meth c H locs ls C hW hE hS hl hL ⟨trivial, hst.2.2⟩)
theorem r_imul {x y : Int32} (hd : decode M.1 pc = .ok (.imul, 1)) (k : Rn l G d mc ms M h0 Q (pc + 1) L (tI (x * y) :: st) h cu su) : Rn l G d mc ms M h0 Q pc L (tI y :: tI x :: st) h cu su := by
  intro p e s m args below meth c H locs ls C hW hE hS hl hL hst
  exact lv_imul C.1 C.2.1 hd (k p e s m args below meth c H locs ls C hW hE hS hl hL ⟨trivial, hst.2.2⟩)
theorem r_iand {x y : Int32} (hd : decode M.1 pc = .ok (.iand, 1)) (k : Rn l G d mc ms M h0 Q (pc + 1) L (tI (x &&& y) :: st) h cu su) : Rn l G d mc ms M h0 Q pc L (tI y :: tI x :: st) h cu su := by
  intro p e s m args below meth c H locs ls C hW hE hS hl hL hst
  exact lv_iand C.1 C.2.1 hd (k p e s m args below meth c H locs ls C hW hE hS hl hL ⟨trivial, hst.2.2⟩)
theorem r_ior {x y : Int32} (hd : decode M.1 pc = .ok (.ior, 1)) (k : Rn l G d mc ms M h0 Q (pc + 1) L (tI (x ||| y) :: st) h cu su) : Rn l G d mc ms M h0 Q pc L (tI y :: tI x :: st) h cu su := by
  intro p e s m args below meth c H locs ls C hW hE hS hl hL hst
  exact lv_ior C.1 C.2.1 hd (k p e s m args below meth c H locs ls C hW hE hS hl hL ⟨trivial, hst.2.2⟩)
theorem r_ixor {x y : Int32} (hd : decode M.1 pc = .ok (.ixor, 1)) (k : Rn l G d mc ms M h0 Q (pc + 1) L (tI (x ^^^ y) :: st) h cu su) : Rn l G d mc ms M h0 Q pc L (tI y :: tI x :: st) h cu su := by
  intro p e s m args below meth c H locs ls C hW hE hS hl hL hst
  exact lv_ixor C.1 C.2.1 hd (k p e s m args below meth c H locs ls C hW hE hS hl hL ⟨trivial, hst.2.2⟩)
theorem r_ishl {x y : Int32} (hd : decode M.1 pc = .ok (.ishl, 1)) (k : Rn l G d mc ms M h0 Q (pc + 1) L (tI (x <<< (y &&& 31)) :: st) h cu su) : Rn l G d mc ms M h0 Q pc L (tI y :: tI x :: st) h cu su := by
  intro p e s m args below meth c H locs ls C hW hE hS hl hL hst
  exact lv_ishl C.1 C.2.1 hd (k p e s m args below meth c H locs ls C hW hE hS hl hL ⟨trivial, hst.2.2⟩)
theorem r_ishr {x y : Int32} (hd : decode M.1 pc = .ok (.ishr, 1)) (k : Rn l G d mc ms M h0 Q (pc + 1) L (tI (x >>> (y &&& 31)) :: st) h cu su) : Rn l G d mc ms M h0 Q pc L (tI y :: tI x :: st) h cu su := by
  intro p e s m args below meth c H locs ls C hW hE hS hl hL hst
  exact lv_ishr C.1 C.2.1 hd (k p e s m args below meth c H locs ls C hW hE hS hl hL ⟨trivial, hst.2.2⟩)
theorem r_idiv {x y : Int32} (hd : decode M.1 pc = .ok (.idiv, 1)) (hne : ¬ y = 0) (k : Rn l G d mc ms M h0 Q (pc + 1) L (tI (x / y) :: st) h cu su) : Rn l G d mc ms M h0 Q pc L (tI y :: tI x :: st) h cu su := by
  intro p e s m args below meth c H locs ls C hW hE hS hl hL hst
  exact lv_idiv C.1 C.2.1 hd hne (k p e s m args below meth c H locs ls C hW hE hS hl hL ⟨trivial, hst.2.2⟩)
theorem r_irem {x y : Int32} (hd : decode M.1 pc = .ok (.irem, 1)) (hne : ¬ y = 0) (k : Rn l G d mc ms M h0 Q (pc + 1) L (tI (x - x / y * y) :: st) h cu su) : Rn l G d mc ms M h0 Q pc L (tI y :: tI x :: st) h cu su := by
  intro p e s m args below meth c H locs ls C hW hE hS hl hL hst
  exact lv_irem C.1 C.2.1 hd hne (k p e s m args below meth c H locs ls C hW hE hS hl hL ⟨trivial, hst.2.2⟩)
theorem r_ineg {x : Int32} (hd : decode M.1 pc = .ok (.ineg, 1)) (k : Rn l G d mc ms M h0 Q (pc + 1) L (tI (-x) :: st) h cu su) : Rn l G d mc ms M h0 Q pc L (tI x :: st) h cu su := by
  intro p e s m args below meth c H locs ls C hW hE hS hl hL hst
  exact lv_ineg C.1 C.2.1 hd (k p e s m args below meth c H locs ls C hW hE hS hl hL ⟨trivial, hst.2⟩)
theorem r_ladd {x y : Int64} (hd : decode M.1 pc = .ok (.ladd, 1)) (k : Rn l G d mc ms M h0 Q (pc + 1) L (tJ (x + y) :: st) h cu su) : Rn l G d mc ms M h0 Q pc L (tJ y :: tJ x :: st) h cu su := by
  intro p e s m args below meth c H locs ls C hW hE hS hl hL hst
  exact lv_ladd C.1 C.2.1 hd (k p e s m args below meth c H locs ls C hW hE hS hl hL ⟨trivial, hst.2.2⟩)
theorem r_lsub {x y : Int64} (hd : decode M.1 pc = .ok (.lsub, 1)) (k : Rn l G d mc ms M h0 Q (pc + 1) L (tJ (x - y) :: st) h cu su) : Rn l G d mc ms M h0 Q pc L (tJ y :: tJ x :: st) h cu su := by
  intro p e s m args below meth c H locs ls C hW hE hS hl hL hst
  exact lv_lsub C.1 C.2.1 hd (k p e s m args below meth c H locs ls C hW hE hS hl hL ⟨trivial, hst.2.2⟩)
theorem r_lmul {x y : Int64} (hd : decode M.1 pc = .ok (.lmul, 1)) (k : Rn l G d mc ms M h0 Q (pc + 1) L (tJ (x * y) :: st) h cu su) : Rn l G d mc ms M h0 Q pc L (tJ y :: tJ x :: st) h cu su := by
  intro p e s m args below meth c H locs ls C hW hE hS hl hL hst
  exact lv_lmul C.1 C.2.1 hd (k p e s m args below meth c H locs ls C hW hE hS hl hL ⟨trivial, hst.2.2⟩)
theorem r_ldiv {x y : Int64} (hd : decode M.1 pc = .ok (.ldiv, 1)) (hne : ¬ y = 0) (k : Rn l G d mc ms M h0 Q (pc + 1) L (tJ (x / y) :: st) h cu su) : Rn l G d mc ms M h0 Q pc L (tJ y :: tJ x :: st) h cu su := by
  intro p e s m args below meth c H locs ls C hW hE hS hl hL hst
  exact lv_ldiv C.1 C.2.1 hd hne (k p e s m args below meth c H locs ls C hW hE hS hl hL ⟨trivial, hst.2.2⟩)
theorem r_lrem {x y : Int64} (hd : decode M.1 pc = .ok (.lrem, 1)) (hne : ¬ y = 0) (k : Rn l G d mc ms M h0 Q (pc + 1) L (tJ (x - x / y * y) :: st) h cu su) : Rn l G d mc ms M h0 Q pc L (tJ y :: tJ x :: st) h cu su := by
  intro p e s m args below meth c H locs ls C hW hE hS hl hL hst
  exact lv_lrem C.1 C.2.1 hd hne (k p e s m args below meth c H locs ls C hW hE hS hl hL ⟨trivial, hst.2.2⟩)
theorem r_iushr {x y : Int32} (hd : decode M.1 pc = .ok (.iushr, 1)) (k : Rn l G d mc ms M h0 Q (pc + 1) L (tI (x.toUInt32 >>> (y.toUInt32 &&& Int32.toUInt32 31)).toInt32 :: st) h cu su) : Rn l G d mc ms M h0 Q pc L (tI y :: tI x :: st) h cu su := by
  intro p e s m args below meth c H locs ls C hW hE hS hl hL hst
  exact lv_iushr C.1 C.2.1 hd rfl (k p e s m args below meth c H locs ls C hW hE hS hl hL ⟨trivial, hst.2.2⟩)
theorem r_i2l {x : Int32} (hd : decode M.1 pc = .ok (.i2l, 1)) (k : Rn l G d mc ms M h0 Q (pc + 1) L (tJ x.toInt64 :: st) h cu su) : Rn l G d mc ms M h0 Q pc L (tI x :: st) h cu su := by
  intro p e s m args below meth c H locs ls C hW hE hS hl hL hst
  exact lv_i2l C.1 C.2.1 hd rfl (k p e s m args below meth c H locs ls C hW hE hS hl hL ⟨trivial, hst.2⟩)
theorem r_l2i {x : Int64} (hd : decode M.1 pc = .ok (.l2i, 1)) (k : Rn l G d mc ms M h0 Q (pc + 1) L (tI x.toInt32 :: st) h cu su) : Rn l G d mc ms M h0 Q pc L (tJ x :: st) h cu su := by
  intro p e s m args below meth c H locs ls C hW hE hS hl hL hst
  exact lv_l2i C.1 C.2.1 hd rfl (k p e s m args below meth c H locs ls C hW hE hS hl hL ⟨trivial, hst.2⟩)
theorem r_i2b {x : Int32} (hd : decode M.1 pc = .ok (.i2b, 1)) (k : Rn l G d mc ms M h0 Q (pc + 1) L (tI x.toInt8.toInt32 :: st) h cu su) : Rn l G d mc ms M h0 Q pc L (tI x :: st) h cu su := by
  intro p e s m args below meth c H locs ls C hW hE hS hl hL hst
  exact lv_i2b C.1 C.2.1 hd rfl (k p e s m args below meth c H locs ls C hW hE hS hl hL ⟨trivial, hst.2⟩)
theorem r_i2c {x : Int32} (hd : decode M.1 pc = .ok (.i2c, 1)) (k : Rn l G d mc ms M h0 Q (pc + 1) L (tI (x.toUInt32 % 65536).toInt32 :: st) h cu su) : Rn l G d mc ms M h0 Q pc L (tI x :: st) h cu su := by
  intro p e s m args below meth c H locs ls C hW hE hS hl hL hst
  exact lv_i2c C.1 C.2.1 hd rfl (k p e s m args below meth c H locs ls C hW hE hS hl hL ⟨trivial, hst.2⟩)
theorem r_lcmp {x y : Int64} (hd : decode M.1 pc = .ok (.lcmp, 1)) (k : Rn l G d mc ms M h0 Q (pc + 1) L (tI (lg_cmp x y) :: st) h cu su) : Rn l G d mc ms M h0 Q pc L (tJ y :: tJ x :: st) h cu su := by
  intro p e s m args below meth c H locs ls C hW hE hS hl hL hst
  exact W.lcmp C.1 C.2.1 hd (k p e s m args below meth c H locs ls C hW hE hS hl hL ⟨trivial, hst.2.2⟩)
theorem r_if_eq {x : Int32} {off : Int} {tgt : Nat} (hd : decode M.1 pc = .ok (.ifCond .eq off, 3)) (ht : (pc : Int) + off = (tgt : Int)) (kt : x = 0 → Rn l G d mc ms M h0 Q tgt L st h cu su) (kf : ¬ x = 0 → Rn l G d mc ms M h0 Q (pc + 3) L st h cu su) : Rn l G d mc ms M h0 Q pc L (tI x :: st) h cu su := by
  intro p e s m args below meth c H locs ls C hW hE hS hl hL hst
  exact lv_if_eq C.1 C.2.1 hd ht (fun q => kt q p e s m args below meth c H locs ls C hW hE hS hl hL hst.2) (fun q => kf q p e s m args below meth c H locs ls C hW hE hS hl hL hst.2)
theorem r_icmp_eq {x y : Int32} {off : Int} {tgt : Nat} (hd : decode M.1 pc = .ok (.if_icmp .eq off, 3)) (ht : (pc : Int) + off = (tgt : Int)) (kt : x = y → Rn l G d mc ms M h0 Q tgt L st h cu su) (kf : ¬ x = y → Rn l G d mc ms M h0 Q (pc + 3) L st h cu su) : Rn l G d mc ms M h0 Q pc L (tI y :: tI x :: st) h cu su := by
  intro p e s m args below meth c H locs ls C hW hE hS hl hL hst
  exact lv_icmp_eq C.1 C.2.1 hd ht (fun q => kt q p e s m args below meth c H locs ls C hW hE hS hl hL hst.2.2) (fun q => kf q p e s m args below meth c H locs ls C hW hE hS hl hL hst.2.2)
theorem r_if_ne {x : Int32} {off : Int} {tgt : Nat} (hd : decode M.1 pc = .ok (.ifCond .ne off, 3)) (ht : (pc : Int) + off = (tgt : Int)) (kt : ¬ x = 0 → Rn l G d mc ms M h0 Q tgt L st h cu su) (kf : x = 0 → Rn l G d mc ms M h0 Q (pc + 3) L st h cu su) : Rn l G d mc ms M h0 Q pc L (tI x :: st) h cu su := by
  intro p e s m args below meth c H locs ls C hW hE hS hl hL hst
  exact lv_if_ne C.1 C.2.1 hd ht (fun q => kt q p e s m args below meth c H locs ls C hW hE hS hl hL hst.2) (fun q => kf q p e s m args below meth c H locs ls C hW hE hS hl hL hst.2)
theorem r_icmp_ne {x y : Int32} {off : Int} {tgt : Nat} (hd : decode M.1 pc = .ok (.if_icmp .ne off, 3)) (ht : (pc : Int) + off = (tgt : Int)) (kt : ¬ x = y → Rn l G d mc ms M h0 Q tgt L st h cu su) (kf : x = y → Rn l G d mc ms M h0 Q (pc + 3) L st h cu su) : Rn l G d mc ms M h0 Q pc L (tI y :: tI x :: st) h cu su := by
  intro p e s m args below meth c H locs ls C hW hE hS hl hL hst
  exact lv_icmp_ne C.1 C.2.1 hd ht (fun q => kt q p e s m args below meth c H locs ls C hW hE hS hl hL hst.2.2) (fun q => kf q p e s m args below meth c H locs ls C hW hE hS hl hL hst.2.2)
theorem r_if_lt {x : Int32} {off : Int} {tgt : Nat} (hd : decode M.1 pc = .ok (.ifCond .lt off, 3)) (ht : (pc : Int) + off = (tgt : Int)) (kt : x < 0 → Rn l G d mc ms M h0 Q tgt L st h cu su) (kf : ¬ x < 0 → Rn l G d mc ms M h0 Q (pc + 3) L st h cu su) : Rn l G d mc ms M h0 Q pc L (tI x :: st) h cu su := by
  intro p e s m args below meth c H locs ls C hW hE hS hl hL hst
  exact lv_if_lt C.1 C.2.1 hd ht (fun q => kt q p e s m args below meth c H locs ls C hW hE hS hl hL hst.2) (fun q => kf q p e s m args below meth c H locs ls C hW hE hS hl hL hst.2)
theorem r_icmp_lt {x y : Int32} {off : Int} {tgt : Nat} (hd : decode M.1 pc = .ok (.if_icmp .lt off, 3)) (ht : (pc : Int) + off = (tgt : Int)) (kt : x < y → Rn l G d mc ms M h0 Q tgt L st h cu su) (kf : ¬ x < y → Rn l G d mc ms M h0 Q (pc + 3) L st h cu su) : Rn l G d mc ms M h0 Q pc L (tI y :: tI x :: st) h cu su := by
  intro p e s m args below meth c H locs ls C hW hE hS hl hL hst
  exact lv_icmp_lt C.1 C.2.1 hd ht (fun q => kt q p e s m args below meth c H locs ls C hW hE hS hl hL hst.2.2) (fun q => kf q p e s m args below meth c H locs ls C hW hE hS hl hL hst.2.2)
theorem r_if_ge {x : Int32} {off : Int} {tgt : Nat} (hd : decode M.1 pc = .ok (.ifCond .ge off, 3)) (ht : (pc : Int) + off = (tgt : Int)) (kt : 0 ≤ x → Rn l G d mc ms M h0 Q tgt L st h cu su) (kf : ¬ 0 ≤ x → Rn l G d mc ms M h0 Q (pc + 3) L st h cu su) : Rn l G d mc ms M h0 Q pc L (tI x :: st) h cu su := by
  intro p e s m args below meth c H locs ls C hW hE hS hl hL hst
  exact lv_if_ge C.1 C.2.1 hd ht (fun q => kt q p e s m args below meth c H locs ls C hW hE hS hl hL hst.2) (fun q => kf q p e s m args below meth c H locs ls C hW hE hS hl hL hst.2)
theorem r_icmp_ge {x y : Int32} {off : Int} {tgt : Nat} (hd : decode M.1 pc = .ok (.if_icmp .ge off, 3)) (ht : (pc : Int) + off = (tgt : Int)) (kt : y ≤ x → Rn l G d mc ms M h0 Q tgt L st h cu su) (kf : ¬ y ≤ x → Rn l G d mc ms M h0 Q (pc + 3) L st h cu su) : Rn l G d mc ms M h0 Q pc L (tI y :: tI x :: st) h cu su := by
  intro p e s m args below meth c H locs ls C hW hE hS hl hL hst
  exact lv_icmp_ge C.1 C.2.1 hd ht (fun q => kt q p e s m args below meth c H locs ls C hW hE hS hl hL hst.2.2) (fun q => kf q p e s m args below meth c H locs ls C hW hE hS hl hL hst.2.2)
theorem r_if_gt {x : Int32} {off : Int} {tgt : Nat} (hd : decode M.1 pc = .ok (.ifCond .gt off, 3)) (ht : (pc : Int) + off = (tgt : Int)) (kt : 0 < x → Rn l G d mc ms M h0 Q tgt L st h cu su) (kf : ¬ 0 < x → Rn l G d mc ms M h0 Q (pc + 3) L st h cu su) : Rn l G d mc ms M h0 Q pc L (tI x :: st) h cu su := by
  intro p e s m args below meth c H locs ls C hW hE hS hl hL hst
  exact lv_if_gt C.1 C.2.1 hd ht (fun q => kt q p e s m args below meth c H locs ls C hW hE hS hl hL hst.2) (fun q => kf q p e s m args below meth c H locs ls C hW hE hS hl hL hst.2)
theorem r_icmp_gt {x y : Int32} {off : Int} {tgt : Nat} (hd : decode M.1 pc = .ok (.if_icmp .gt off, 3)) (ht : (pc : Int) + off = (tgt : Int)) (kt : y < x → Rn l G d mc ms M h0 Q tgt L st h cu su) (kf : ¬ y < x → Rn l G d mc ms M h0 Q (pc + 3) L st h cu su) : Rn l G d mc ms M h0 Q pc L (tI y :: tI x :: st) h cu su := by
  intro p e s m args below meth c H locs ls C hW hE hS hl hL hst
  exact lv_icmp_gt C.1 C.2.1 hd ht (fun q => kt q p e s m args below meth c H locs ls C hW hE hS hl hL hst.2.2) (fun q => kf q p e s m args below meth c H locs ls C hW hE hS hl hL hst.2.2)
theorem r_if_le {x : Int32} {off : Int} {tgt : Nat} (hd : decode M.1 pc = .ok (.ifCond .le off, 3)) (ht : (pc : Int) + off = (tgt : Int)) (kt : x ≤ 0 → Rn l G d mc ms M h0 Q tgt L st h cu su) (kf : ¬ x ≤ 0 → Rn l G d mc ms M h0 Q (pc + 3) L st h cu su) : Rn l G d mc ms M h0 Q pc L (tI x :: st) h cu su := by
  intro p e s m args below meth c H locs ls C hW hE hS hl hL hst
  exact lv_if_le C.1 C.2.1 hd ht (fun q => kt q p e s m args below meth c H locs ls C hW hE hS hl hL hst.2) (fun q => kf q p e s m args below meth c H locs ls C hW hE hS hl hL hst.2)
theorem r_icmp_le {x y : Int32} {off : Int} {tgt : Nat} (hd : decode M.1 pc = .ok (.if_icmp .le off, 3)) (ht : (pc : Int) + off = (tgt : Int)) (kt : x ≤ y → Rn l G d mc ms M h0 Q tgt L st h cu su) (kf : ¬ x ≤ y → Rn l G d mc ms M h0 Q (pc + 3) L st h cu su) : Rn l G d mc ms M h0 Q pc L (tI y :: tI x :: st) h cu su := by
  intro p e s m args below meth c H locs ls C hW hE hS hl hL hst
  exact lv_icmp_le C.1 C.2.1 hd ht (fun q => kt q p e s m args below meth c H locs ls C hW hE hS hl hL hst.2.2) (fun q => kf q p e s m args below meth c H locs ls C hW hE hS hl hL hst.2.2)
theorem r_goto {off : Int} {tgt : Nat} (hd : decode M.1 pc = .ok (.goto off, 3)) (ht : (pc : Int) + off = (tgt : Int)) (k : Rn l G d mc ms M h0 Q tgt L st h cu su) : Rn l G d mc ms M h0 Q pc L st h cu su := by
  intro p e s m args below meth c H locs ls C hW hE hS hl hL hst
  exact lv_goto C.1 C.2.1 hd ht (k p e s m args below meth c H locs ls C hW hE hS hl hL hst)
theorem r_tableOut {dflt lo hi : Int} {offs : Array Int} {len : Nat} {x : Int32} {tgt : Nat} (hd : decode M.1 pc = .ok (.tableswitch dflt lo hi offs, len)) (hx : x.toInt < lo ∨ hi < x.toInt) (ht : (pc : Int) + dflt = (tgt : Int)) (k : Rn l G d mc ms M h0 Q tgt L st h cu su) : Rn l G d mc ms M h0 Q pc L (tI x :: st) h cu su := by
  intro p e s m args below meth c H locs ls C hW hE hS hl hL hst
  exact lv_tableOut C.1 C.2.1 hd hx ht (k p e s m args below meth c H locs ls C hW hE hS hl hL hst.2)
theorem r_tableIn {dflt lo hi : Int} {offs : Array Int} {len : Nat} {x : Int32} {off : Int} {tgt : Nat} (hd : decode M.1 pc = .ok (.tableswitch dflt lo hi offs, len)) (h1 : ¬ x.toInt < lo) (h2 : ¬ hi < x.toInt) (ho : offs[(x.toInt - lo).toNat]? = some off) (ht : (pc : Int) + off = (tgt : Int)) (k : Rn l G d mc ms M h0 Q tgt L st h cu su) : Rn l G d mc ms M h0 Q pc L (tI x :: st) h cu su := by
  intro p e s m args below meth c H locs ls C hW hE hS hl hL hst
  exact lv_tableIn C.1 C.2.1 hd h1 h2 ho ht (k p e s m args below meth c H locs ls C hW hE hS hl hL hst.2)
theorem r_iload {i : Nat} {x : Int32} (hd : decode M.1 pc = .ok (.iload i, 2)) (hv : L[i]? = some (some (tI x))) (k : Rn l G d mc ms M h0 Q (pc + 2) L (tI x :: st) h cu su) : Rn l G d mc ms M h0 Q pc L st h cu su := by
  intro p e s m args below meth c H locs ls C hW hE hS hl hL hst
  exact lv_iload C.1 C.2.1 hd (ls_at hl hv) (k p e s m args below meth c H locs ls C hW hE hS hl hL ⟨trivial, hst⟩)
theorem r_iload_n {j : Fin 4} {i : Nat} {x : Int32} (hd : decode M.1 pc = .ok (.iload_n j, 1)) (hi : (j : Nat) = i) (hv : L[i]? = some (some (tI x))) (k : Rn l G d mc ms M h0 Q (pc + 1) L (tI x :: st) h cu su) : Rn l G d mc ms M h0 Q pc L st h cu su := by
  intro p e s m args below meth c H locs ls C hW hE hS hl hL hst
  exact lv_iload_n C.1 C.2.1 hd hi (ls_at hl hv) (k p e s m args below meth c H locs ls C hW hE hS hl hL ⟨trivial, hst⟩)
theorem r_lload {i : Nat} {x : Int64} (hd : decode M.1 pc = .ok (.lload i, 2)) (hv : L[i]? = some (some (tJ x))) (k : Rn l G d mc ms M h0 Q (pc + 2) L (tJ x :: st) h cu su) : Rn l G d mc ms M h0 Q pc L st h cu su := by
  intro p e s m args below meth c H locs ls C hW hE hS hl hL hst
  exact lv_lload C.1 C.2.1 hd (ls_at hl hv) (k p e s m args below meth c H locs ls C hW hE hS hl hL ⟨trivial, hst⟩)
theorem r_lload_n {j : Fin 4} {i : Nat} {x : Int64} (hd : decode M.1 pc = .ok (.lload_n j, 1)) (hi : (j : Nat) = i) (hv : L[i]? = some (some (tJ x))) (k : Rn l G d mc ms M h0 Q (pc + 1) L (tJ x :: st) h cu su) : Rn l G d mc ms M h0 Q pc L st h cu su := by
  intro p e s m args below meth c H locs ls C hW hE hS hl hL hst
  exact lv_lload_n C.1 C.2.1 hd hi (ls_at hl hv) (k p e s m args below meth c H locs ls C hW hE hS hl hL ⟨trivial, hst⟩)
theorem r_aload {i k n : Nat} {r : Option Nat} (hd : decode M.1 pc = .ok (.aload i, 2)) (hv : L[i]? = some (some (tR k n r))) (kk : Rn l G d mc ms M h0 Q (pc + 2) L (tR k n r :: st) h cu su) : Rn l G d mc ms M h0 Q pc L st h cu su := by
  intro p e s m args below meth c H locs ls C hW hE hS hl hL hst
  have q := kk p e s m args below meth c H locs ls C hW hE hS hl hL ⟨tyO_at hL hv, hst⟩
  have z := ls_at hl hv
  cases r with
  | none => exact lv_aloadN C.1 C.2.1 hd z q
  | some a => exact lv_aload C.1 C.2.1 hd z q
theorem r_aloadS {i k : Nat} (hd : decode M.1 pc = .ok (.aload i, 2)) (hv : L[i]? = some (some (tS k))) (kk : Rn l G d mc ms M h0 Q (pc + 2) L (tS k :: st) h cu su) : Rn l G d mc ms M h0 Q pc L st h cu su := by
  intro p e s m args below meth c H locs ls C hW hE hS hl hL hst
  exact lv_aload C.1 C.2.1 hd (ls_at hl hv) (kk p e s m args below meth c H locs ls C hW hE hS hl hL ⟨tyO_at hL hv, hst⟩)
theorem r_aload_n {i k n : Nat} {r : Option Nat} {j : Fin 4} (hd : decode M.1 pc = .ok (.aload_n j, 1)) (hi : (j : Nat) = i) (hv : L[i]? = some (some (tR k n r))) (kk : Rn l G d mc ms M h0 Q (pc + 1) L (tR k n r :: st) h cu su) : Rn l G d mc ms M h0 Q pc L st h cu su := by
  intro p e s m args below meth c H locs ls C hW hE hS hl hL hst
  have q := kk p e s m args below meth c H locs ls C hW hE hS hl hL ⟨tyO_at hL hv, hst⟩
  have z := ls_at hl hv
  cases r with
  | none => exact lv_aload_nN C.1 C.2.1 hd hi z q
  | some a => exact lv_aload_n C.1 C.2.1 hd hi z q
theorem r_aload_nS {i k : Nat} {j : Fin 4} (hd : decode M.1 pc = .ok (.aload_n j, 1)) (hi : (j : Nat) = i) (hv : L[i]? = some (some (tS k))) (kk : Rn l G d mc ms M h0 Q (pc + 1) L (tS k :: st) h cu su) : Rn l G d mc ms M h0 Q pc L st h cu su := by
  intro p e s m args below meth c H locs ls C hW hE hS hl hL hst
  exact lv_aload_n C.1 C.2.1 hd hi (ls_at hl hv) (kk p e s m args below meth c H locs ls C hW hE hS hl hL ⟨tyO_at hL hv, hst⟩)
theorem has1 {G : Cx} {ls : Array Slot} {n i : Nat} {L : List (Option TV)} {v : TV} (h : lv_has ls n ((i, cv G v) :: (asc G 0 L).filter (fun q => !(q.1 == i) && !(q.1 + 1 == i && q.2.category == 2)))) : lv_has ls n (asc G 0 (stL1 L i v)) := by
  refine ⟨h.1, h.2.1, fun q hq => h.2.2 q ?_⟩
  rcases asc_st1 hq with e | ⟨e, g1, g2⟩
  · rw [e, Nat.zero_add]; exact List.mem_cons_self
  · refine List.mem_cons_of_mem _ (List.mem_filter.mpr ⟨e, ?_⟩)
    rw [Nat.zero_add] at g1 g2
    simp only [Bool.and_eq_true, Bool.not_eq_true', beq_eq_false_iff_ne, ne_eq, Bool.and_eq_false_iff, beq_iff_eq]
    refine ⟨g1, ?_⟩
    by_cases z : q.1 + 1 = i
    · exact Or.inr (fun y => g2 ⟨z, y⟩)
    · exact Or.inl z
theorem has2 {G : Cx} {ls : Array Slot} {n i : Nat} {L : List (Option TV)} {v : TV} (h : lv_has ls n ((i, cv G v) :: (asc G 0 L).filter (fun q => !(q.1 == i) && (!(q.1 == i + 1) && !(q.1 + 1 == i && q.2.category == 2))))) : lv_has ls n (asc G 0 (stL2 L i v)) := by
  refine ⟨h.1, h.2.1, fun q hq => h.2.2 q ?_⟩
  rcases asc_st2 hq with e | ⟨e, g1, g3, g2⟩
  · rw [e, Nat.zero_add]; exact List.mem_cons_self
  · refine List.mem_cons_of_mem _ (List.mem_filter.mpr ⟨e, ?_⟩)
    rw [Nat.zero_add] at g1 g2 g3
    simp only [Bool.and_eq_true, Bool.not_eq_true', beq_eq_false_iff_ne, ne_eq, Bool.and_eq_false_iff, beq_iff_eq]
    refine ⟨g1, g3, ?_⟩
    by_cases z : q.1 + 1 = i
    · exact Or.inr (fun y => g2 ⟨z, y⟩)
    · exact Or.inl z
theorem ty_st1 {h : Hp} {L : List (Option TV)} {i : Nat} {v : TV} (hL : tyO h L) (hv : ty1 h v) : tyO h (stL1 L i v) := tyO_mem.mpr fun w hw => (st1_mem hw).elim (fun e => by rw [e]; exact hv) (tyO_mem.mp hL w)
theorem ty_st2 {h : Hp} {L : List (Option TV)} {i : Nat} {v : TV} (hL : tyO h L) (hv : ty1 h v) : tyO h (stL2 L i v) := tyO_mem.mpr fun w hw => (st2_mem hw).elim (fun e => by rw [e]; exact hv) (tyO_mem.mp hL w)
theorem r_istore {i : Nat} {x : Int32} {L' : List (Option TV)} (hd : decode M.1 pc = .ok (.istore i, 2)) (hn : i + 0 < M.2.1) (hL' : stL1 L i (tI x) = L') (k : Rn l G d mc ms M h0 Q (pc + 2) L' st h cu su) : Rn l G d mc ms M h0 Q pc L (tI x :: st) h cu su := by
  subst hL'
  intro p e s m args below meth c H locs ls C hW hE hS hl hL hst
  exact lv_istore C.1 C.2.1 hd hl hn rfl (fun ls' hl' => k p e s m args below meth c H locs ls' C hW hE hS (has1 (v := tI x) hl') (ty_st1 hL trivial) hst.2)
theorem r_istore_n {i : Nat} {x : Int32} {L' : List (Option TV)} {j : Fin 4} (hd : decode M.1 pc = .ok (.istore_n j, 1)) (hi : (j : Nat) = i) (hn : i + 0 < M.2.1) (hL' : stL1 L i (tI x) = L') (k : Rn l G d mc ms M h0 Q (pc + 1) L' st h cu su) : Rn l G d mc ms M h0 Q pc L (tI x :: st) h cu su := by
  subst hL'
  intro p e s m args below meth c H locs ls C hW hE hS hl hL hst
  exact lv_istore_n C.1 C.2.1 hd hi hl hn rfl (fun ls' hl' => k p e s m args below meth c H locs ls' C hW hE hS (has1 (v := tI x) hl') (ty_st1 hL trivial) hst.2)
theorem r_lstore {i : Nat} {x : Int64} {L' : List (Option TV)} (hd : decode M.1 pc = .ok (.lstore i, 2)) (hn : i + 1 < M.2.1) (hL' : stL2 L i (tJ x) = L') (k : Rn l G d mc ms M h0 Q (pc + 2) L' st h cu su) : Rn l G d mc ms M h0 Q pc L (tJ x :: st) h cu su := by
  subst hL'
  intro p e s m args below meth c H locs ls C hW hE hS hl hL hst
  exact lv_lstore C.1 C.2.1 hd hl hn rfl (fun ls' hl' => k p e s m args below meth c H locs ls' C hW hE hS (has2 (v := tJ x) hl') (ty_st2 hL trivial) hst.2)
theorem r_lstore_n {i : Nat} {x : Int64} {L' : List (Option TV)} {j : Fin 4} (hd : decode M.1 pc = .ok (.lstore_n j, 1)) (hi : (j : Nat) = i) (hn : i + 1 < M.2.1) (hL' : stL2 L i (tJ x) = L') (k : Rn l G d mc ms M h0 Q (pc + 1) L' st h cu su) : Rn l G d mc ms M h0 Q pc L (tJ x :: st) h cu su := by
  subst hL'
  intro p e s m args below meth c H locs ls C hW hE hS hl hL hst
  exact lv_lstore_n C.1 C.2.1 hd hi hl hn rfl (fun ls' hl' => k p e s m args below meth c H locs ls' C hW hE hS (has2 (v := tJ x) hl') (ty_st2 hL trivial) hst.2)
theorem r_astore {i k n : Nat} {r : Option Nat} {L' : List (Option TV)} (hd : decode M.1 pc = .ok (.astore i, 2)) (hn : i < M.2.1) (hL' : stL1 L i (tR k n r) = L') (kk : Rn l G d mc ms M h0 Q (pc + 2) L' st h cu su) : Rn l G d mc ms M h0 Q pc L (tR k n r :: st) h cu su := by
  subst hL'
  intro p e s m args below meth c H locs ls C hW hE hS hl hL hst
  have q := fun ls' hl' => kk p e s m args below meth c H locs ls' C hW hE hS (has1 (v := tR k n r) hl') (ty_st1 hL hst.1) hst.2
  cases r with
  | none => exact lv_astoreN C.1 C.2.1 hd hl hn rfl q
  | some a => exact lv_astore C.1 C.2.1 hd hl hn rfl q
theorem r_astoreS {i k : Nat} {L' : List (Option TV)} (hd : decode M.1 pc = .ok (.astore i, 2)) (hn : i < M.2.1) (hL' : stL1 L i (tS k) = L') (kk : Rn l G d mc ms M h0 Q (pc + 2) L' st h cu su) : Rn l G d mc ms M h0 Q pc L (tS k :: st) h cu su := by
  subst hL'
  intro p e s m args below meth c H locs ls C hW hE hS hl hL hst
  exact lv_astore C.1 C.2.1 hd hl hn rfl (fun ls' hl' => kk p e s m args below meth c H locs ls' C hW hE hS (has1 (v := tS k) hl') (ty_st1 hL hst.1) hst.2)
theorem r_astore_n {i k n : Nat} {r : Option Nat} {L' : List (Option TV)} {j : Fin 4} (hd : decode M.1 pc = .ok (.astore_n j, 1)) (hi : (j : Nat) = i) (hn : i < M.2.1) (hL' : stL1 L i (tR k n r) = L') (kk : Rn l G d mc ms M h0 Q (pc + 1) L' st h cu su) : Rn l G d mc ms M h0 Q pc L (tR k n r :: st) h cu su := by
  subst hL'
  intro p e s m args below meth c H locs ls C hW hE hS hl hL hst
  have q := fun ls' hl' => kk p e s m args below meth c H locs ls' C hW hE hS (has1 (v := tR k n r) hl') (ty_st1 hL hst.1) hst.2
  cases r with
  | none => exact lv_astore_nN C.1 C.2.1 hd hi hl hn rfl q
  | some a => exact lv_astore_n C.1 C.2.1 hd hi hl hn rfl q
theorem r_astore_nS {i k : Nat} {L' : List (Option TV)} {j : Fin 4} (hd : decode M.1 pc = .ok (.astore_n j, 1)) (hi : (j : Nat) = i) (hn : i < M.2.1) (hL' : stL1 L i (tS k) = L') (kk : Rn l G d mc ms M h0 Q (pc + 1) L' st h cu su) : Rn l G d mc ms M h0 Q pc L (tS k :: st) h cu su := by
  subst hL'
  intro p e s m args below meth c H locs ls C hW hE hS hl hL hst
  exact lv_astore_n C.1 C.2.1 hd hi hl hn rfl (fun ls' hl' => kk p e s m args below meth c H locs ls' C hW hE hS (has1 (v := tS k) hl') (ty_st1 hL hst.1) hst.2)
theorem r_iinc {i : Nat} {n : Int} {x v : Int32} {L' : List (Option TV)} (hd : decode M.1 pc = .ok (.iinc i n, 3)) (hv : L[i]? = some (some (tI x))) (hx : x + Int32.ofInt n = v) (hn : i < M.2.1) (hL' : stL1 L i (tI v) = L') (k : Rn l G d mc ms M h0 Q (pc + 3) L' st h cu su) : Rn l G d mc ms M h0 Q pc L st h cu su := by
  subst hL'
  intro p e s m args below meth c H locs ls C hW hE hS hl hL hst
  have z := asc_mem (G := G) (j := 0) hv
  rw [Nat.zero_add] at z
  obtain ⟨q, hq⟩ := List.getElem?_of_mem z
  exact lv_iinc C.1 C.2.1 hd hl hq hx hn rfl (fun ls' hl' => k p e s m args below meth c H locs ls' C hW hE hS (has1 (v := tI v) hl') (ty_st1 hL trivial) hst)
theorem cv_cat1R {G : Cx} {k n : Nat} {r : Option Nat} : (cv G (tR k n r)).category = 1 := by cases r <;> rfl
theorem r_dup {v : TV} (hd : decode M.1 pc = .ok (.dup, 1)) (hc : (cv G v).category = 1) (k : Rn l G d mc ms M h0 Q (pc + 1) L (v :: v :: st) h cu su) : Rn l G d mc ms M h0 Q pc L (v :: st) h cu su := by
  intro p e s m args below meth c H locs ls C hW hE hS hl hL hst
  exact lv_dup C.1 C.2.1 hd hc (k p e s m args below meth c H locs ls C hW hE hS hl hL ⟨hst.1, hst⟩)
theorem r_dup2 {v w : TV} (hd : decode M.1 pc = .ok (.dup2, 1)) (hc : (cv G v).category = 1) (hc2 : (cv G w).category = 1) (k : Rn l G d mc ms M h0 Q (pc + 1) L (v :: w :: v :: w :: st) h cu su) : Rn l G d mc ms M h0 Q pc L (v :: w :: st) h cu su := by
  intro p e s m args below meth c H locs ls C hW hE hS hl hL hst
  exact lv_dup2_11 C.1 C.2.1 hd hc hc2 (k p e s m args below meth c H locs ls C hW hE hS hl hL ⟨hst.1, hst.2.1, hst⟩)
theorem r_pop {v : TV} (hd : decode M.1 pc = .ok (.pop, 1)) (hc : (cv G v).category = 1) (k : Rn l G d mc ms M h0 Q (pc + 1) L st h cu su) : Rn l G d mc ms M h0 Q pc L (v :: st) h cu su := by
  intro p e s m args below meth c H locs ls C hW hE hS hl hL hst
  exact lv_pop C.1 C.2.1 hd hc (k p e s m args below meth c H locs ls C hW hE hS hl hL hst.2)
theorem r_null {k n : Nat} (hd : decode M.1 pc = .ok (.aconst_null, 1)) (kk : Rn l G d mc ms M h0 Q (pc + 1) L (tR k n none :: st) h cu su) : Rn l G d mc ms M h0 Q pc L st h cu su := by
  intro p e s m args below meth c H locs ls C hW hE hS hl hL hst
  exact lv_null C.1 C.2.1 hd (kk p e s m args below meth c H locs ls C hW hE hS hl hL ⟨fun b hb => (by cases hb), hst⟩)
theorem r_ifnull {k n : Nat} {r : Option Nat} {off : Int} {tgt : Nat} (hd : decode M.1 pc = .ok (.ifnull off, 3)) (ht : (pc : Int) + off = (tgt : Int)) (kt : r = none → Rn l G d mc ms M h0 Q tgt L st h cu su) (kf : ¬ r = none → Rn l G d mc ms M h0 Q (pc + 3) L st h cu su) : Rn l G d mc ms M h0 Q pc L (tR k n r :: st) h cu su := by
  intro p e s m args below meth c H locs ls C hW hE hS hl hL hst
  cases r with
  | none => exact lv_ifnullN C.1 C.2.1 hd ht (kt rfl p e s m args below meth c H locs ls C hW hE hS hl hL hst.2)
  | some a => exact lv_ifnull C.1 C.2.1 hd (kf (fun z => by cases z) p e s m args below meth c H locs ls C hW hE hS hl hL hst.2)
theorem r_ifnonnull {k n : Nat} {r : Option Nat} {off : Int} {tgt : Nat} (hd : decode M.1 pc = .ok (.ifnonnull off, 3)) (ht : (pc : Int) + off = (tgt : Int)) (kt : ¬ r = none → Rn l G d mc ms M h0 Q tgt L st h cu su) (kf : r = none → Rn l G d mc ms M h0 Q (pc + 3) L st h cu su) : Rn l G d mc ms M h0 Q pc L (tR k n r :: st) h cu su := by
  intro p e s m args below meth c H locs ls C hW hE hS hl hL hst
  cases r with
  | none => exact lv_ifnonnullN C.1 C.2.1 hd (kf rfl p e s m args below meth c H locs ls C hW hE hS hl hL hst.2)
  | some a => exact lv_ifnonnull C.1 C.2.1 hd ht (kt (fun z => by cases z) p e s m args below meth c H locs ls C hW hE hS hl hL hst.2)
theorem rb_inj {G : Cx} {x y : Option Nat} : x.map (fun a => G.1 + a) = y.map (fun a => G.1 + a) ↔ x = y := by
  cases x <;> cases y <;> simp
theorem r_acmp_eq {k n k' n' : Nat} {x y : Option Nat} {off : Int} {tgt : Nat} (hd : decode M.1 pc = .ok (.if_acmp .eq off, 3)) (ht : (pc : Int) + off = (tgt : Int)) (kt : x = y → Rn l G d mc ms M h0 Q tgt L st h cu su) (kf : ¬ x = y → Rn l G d mc ms M h0 Q (pc + 3) L st h cu su) : Rn l G d mc ms M h0 Q pc L (tR k n y :: tR k' n' x :: st) h cu su := by
  intro p e s m args below meth c H locs ls C hW hE hS hl hL hst
  exact lv_acmp_eq C.1 C.2.1 hd ht (fun q => kt (rb_inj.mp q) p e s m args below meth c H locs ls C hW hE hS hl hL hst.2.2) (fun q => kf (fun z => q (rb_inj.mpr z)) p e s m args below meth c H locs ls C hW hE hS hl hL hst.2.2)
theorem r_acmp_ne {k n k' n' : Nat} {x y : Option Nat} {off : Int} {tgt : Nat} (hd : decode M.1 pc = .ok (.if_acmp .ne off, 3)) (ht : (pc : Int) + off = (tgt : Int)) (kt : ¬ x = y → Rn l G d mc ms M h0 Q tgt L st h cu su) (kf : x = y → Rn l G d mc ms M h0 Q (pc + 3) L st h cu su) : Rn l G d mc ms M h0 Q pc L (tR k n y :: tR k' n' x :: st) h cu su := by
  intro p e s m args below meth c H locs ls C hW hE hS hl hL hst
  exact lv_acmp_ne C.1 C.2.1 hd ht (fun q => kt (fun z => q (rb_inj.mpr z)) p e s m args below meth c H locs ls C hW hE hS hl hL hst.2.2) (fun q => kf (rb_inj.mp q) p e s m args below meth c H locs ls C hW hE hS hl hL hst.2.2)
theorem r_ldc {v : Int32} {idx : Nat} (hd : decode M.1 pc = .ok (.ldc idx, 2)) (hc : Cond.constant M.2.2.2.1 idx v ∈ GW) (k : Rn l G d mc ms M h0 Q (pc + 2) L (tI v :: st) h cu su) : Rn l G d mc ms M h0 Q pc L st h cu su := by
  intro p e s m args below meth c H locs ls C hW hE hS hl hL hst
  exact lv_ldc C.1 C.2.1 C.2.2.2.2.1 (C.2.2.2.2.2.1 _ hc) hd (k p e s m args below meth c H locs ls C hW hE hS hl hL ⟨trivial, hst⟩)
theorem r_ldc_w {v : Int32} {idx : Nat} (hd : decode M.1 pc = .ok (.ldc_w idx, 3)) (hc : Cond.constant M.2.2.2.1 idx v ∈ GW) (k : Rn l G d mc ms M h0 Q (pc + 3) L (tI v :: st) h cu su) : Rn l G d mc ms M h0 Q pc L st h cu su := by
  intro p e s m args below meth c H locs ls C hW hE hS hl hL hst
  exact lv_ldcw C.1 C.2.1 C.2.2.2.2.1 (C.2.2.2.2.2.1 _ hc) hd (k p e s m args below meth c H locs ls C hW hE hS hl hL ⟨trivial, hst⟩)
theorem r_ldc2_w {v : Int64} {idx : Nat} (hd : decode M.1 pc = .ok (.ldc2_w idx, 3)) (hc : Cond.constantLong M.2.2.2.1 idx v ∈ GW) (k : Rn l G d mc ms M h0 Q (pc + 3) L (tJ v :: st) h cu su) : Rn l G d mc ms M h0 Q pc L st h cu su := by
  intro p e s m args below meth c H locs ls C hW hE hS hl hL hst
  exact lv_ldc2 C.1 C.2.1 C.2.2.2.2.1 (C.2.2.2.2.2.1 _ hc) hd (k p e s m args below meth c H locs ls C hW hE hS hl hL ⟨trivial, hst⟩)
theorem r_ldcS {tx : String} {idx i : Nat} (hd : decode M.1 pc = .ok (.ldc idx, 2)) (hc : (M.2.2.2.1, idx, tx, i) ∈ strT) (hi : i < 16) (k : Rn l G d mc ms M h0 Q (pc + 2) L (tS i :: st) h cu su) : Rn l G d mc ms M h0 Q pc L st h cu su := by
  intro p e s m args below meth c H locs ls C hW hE hS hl hL hst
  refine va_ldcS C.1 C.2.1 C.2.2.2.2.1 (C.2.2.2.2.2.2.1.2.2.1 _ hc) hd ?_
  have q := k p e s m args below meth c H locs ls C hW hE hS hl hL ⟨Or.inl hi, hst⟩
  have e1 : (tS i :: st).map (cv G) = Value.ref (G.2.2.2.1 i) :: st.map (cv G) := by simp [cv, show i < 100 by omega]
  rw [e1] at q
  exact q
theorem fin {p : Program} {s t : State} {H : Heap} {locs : List Loc} {r : Option TV} (args : Array Value) (hq : Q r h) (hW : Wd G h H) (hE : ext h0 h) (hS : va_S (Ag G) s.heap H locs) (hr : ∀ v, r = some v → ty1 h v) (ht : t.heap = H) : PostU G h0 Q args s (.returned (r.map (cv G))) t :=
  ⟨⟨r, h, rfl, hq, hE, hr, by rw [ht]; exact hW⟩, hS.F ht⟩
theorem r_ireturn {v : Int32} (hd : decode M.1 pc = .ok (.ireturn, 1)) (hr : M.2.2.1 = some .int) (hc : cu ≤ mc ∧ su ≤ ms) (hq : Q (some (tI v)) h) : Rn l G d mc ms M h0 Q pc L [tI v] h cu su := by
  intro p e s m args below meth c H locs ls C hW hE hS hl hL hst
  have hlk := C.2.2.2.2.2.2.2.1
  exact W.widen hc.1 hc.2 (W.iret C.1 C.2.1 (C.2.2.2.1.trans hr) (fun t ht _ => fin (p := p) (r := some (tI v)) args hq hW hE hS (fun w e => by cases e; trivial) ht) hS.2.2 hd hlk)
def bz (v : Int32) : Prop := v = 0 ∨ v = 1
theorem r_zreturn {v : Int32} {ty : FieldType} (hd : decode M.1 pc = .ok (.ireturn, 1)) (hr : M.2.2.1 = some ty) (hn : narrow ty (.int v) = .int v) (hc : cu ≤ mc ∧ su ≤ ms) (hq : Q (some (tI v)) h) : Rn l G d mc ms M h0 Q pc L [tI v] h cu su := by
  intro p e s m args below meth c H locs ls C hW hE hS hl hL hst
  have hlk := C.2.2.2.2.2.2.2.1
  exact W.widen hc.1 hc.2 (W.zret C.1 C.2.1 (C.2.2.2.1.trans hr) hn (fun t ht _ => fin (p := p) (r := some (tI v)) args hq hW hE hS (fun w e => by cases e; trivial) ht) hS.2.2 hd hlk)
theorem bz_nar {v : Int32} (h : bz v) : narrow .boolean (.int v) = .int v := by
  rcases h with rfl | rfl <;> rfl
theorem r_lreturn {v : Int64} (hd : decode M.1 pc = .ok (.lreturn, 1)) (hr : M.2.2.1 = some .long) (hc : cu ≤ mc ∧ su ≤ ms) (hq : Q (some (tJ v)) h) : Rn l G d mc ms M h0 Q pc L [tJ v] h cu su := by
  intro p e s m args below meth c H locs ls C hW hE hS hl hL hst
  have hlk := C.2.2.2.2.2.2.2.1
  exact W.widen hc.1 hc.2 (W.lret C.1 C.2.1 (C.2.2.2.1.trans hr) (fun t ht _ => fin (p := p) (r := some (tJ v)) args hq hW hE hS (fun w e => by cases e; trivial) ht) hS.2.2 hd hlk)
theorem r_return (hd : decode M.1 pc = .ok (.return_, 1)) (hr : M.2.2.1 = none) (hc : cu ≤ mc ∧ su ≤ ms) (hq : Q none h) : Rn l G d mc ms M h0 Q pc L [] h cu su := by
  intro p e s m args below meth c H locs ls C hW hE hS hl hL hst
  have hlk := C.2.2.2.2.2.2.2.1
  exact W.widen hc.1 hc.2 (W.vret C.1 C.2.1 (C.2.2.2.1.trans hr) (fun t ht _ => fin (p := p) (r := none) args hq hW hE hS (fun w e => by cases e) ht) hS.2.2 hd hlk)
theorem r_areturn {k n : Nat} {r : Option Nat} {cn : String} (hd : decode M.1 pc = .ok (.areturn, 1)) (hr : M.2.2.1 = some (.object cn)) (hc : cu ≤ mc ∧ su ≤ ms) (hq : Q (some (tR k n r)) h) : Rn l G d mc ms M h0 Q pc L [tR k n r] h cu su := by
  intro p e s m args below meth c H locs ls C hW hE hS hl hL hst
  have hlk := C.2.2.2.2.2.2.2.1
  exact W.widen hc.1 hc.2 (W.aret C.1 C.2.1 (C.2.2.2.1.trans hr) (Or.inl ⟨cn, rfl⟩) (by cases r with
    | none => exact Or.inl rfl
    | some a => exact Or.inr ⟨_, rfl⟩) (fun t ht _ => fin (p := p) (r := some (tR k n r)) args hq hW hE hS (fun w e => by cases e; exact hst.1) ht) hS.2.2 hd hlk)
end RN
end
section
/-! ROWS THAT TOUCH THE HEAP -/
def Cl (ci : Nat) (C : String) (T : u_T) (ty0 : Nat → FieldType) : Prop := vwC[ci]? = some (C, T, fnum ci) ∧ ci < 20 ∧ (∀ w ∈ u_ws C T (fnum ci), w ∈ GW) ∧ (∀ k, k < fnum ci → parseFieldDescriptor (T k).2.2.1 = some (ty0 k)) ∧ (∀ a, a < fnum ci → ∀ b, b < fnum ci → a ≠ b → (T a).2.1 ≠ (T b).2.1) ∧ (∀ k, k < fnum ci → (T k).1 = C) ∧ (∀ k, k < fnum ci → defaultValue (ty0 k) = if fty ci k = 1 then .long 0 else if fty ci k = 2 then .null else .int 0)
theorem cl_0 : Cl 0 RX0 TX0 tyX0 := ⟨rfl, by decide, cw_0, tyX0_ok, nmX0, by decide +kernel, by decide +kernel⟩
theorem cl_1 : Cl 1 RX1 TX1 tyX1 := ⟨rfl, by decide, cw_1, tyX1_ok, nmX1, by decide +kernel, by decide +kernel⟩
theorem cl_2 : Cl 2 RX2 TX2 tyX2 := ⟨rfl, by decide, cw_2, tyX2_ok, nmX2, by decide +kernel, by decide +kernel⟩
theorem cl_3 : Cl 3 RX3 TX3 tyX3 := ⟨rfl, by decide, cw_3, tyX3_ok, nmX3, by decide +kernel, by decide +kernel⟩
theorem cl_4 : Cl 4 RX4 TX4 tyX4 := ⟨rfl, by decide, cw_4, tyX4_ok, nmX4, by decide +kernel, by decide +kernel⟩
theorem cl_5 : Cl 5 RX5 TX5 tyX5 := ⟨rfl, by decide, cw_5, tyX5_ok, nmX5, by decide +kernel, by decide +kernel⟩
theorem cl_6 : Cl 6 RX6 TX6 tyX6 := ⟨rfl, by decide, cw_6, tyX6_ok, nmX6, by decide +kernel, by decide +kernel⟩
theorem cl_7 : Cl 7 RX7 TX7 tyX7 := ⟨rfl, by decide, cw_7, tyX7_ok, nmX7, by decide +kernel, by decide +kernel⟩
theorem cl_8 : Cl 8 RX8 TX8 tyX8 := ⟨rfl, by decide, cw_8, tyX8_ok, nmX8, by decide +kernel, by decide +kernel⟩
theorem cl_9 : Cl 9 RX9 TX9 tyX9 := ⟨rfl, by decide, cw_9, tyX9_ok, nmX9, by decide +kernel, by decide +kernel⟩
theorem cl_10 : Cl 10 RX10 TX10 tyX10 := ⟨rfl, by decide, cw_10, tyX10_ok, nmX10, by decide +kernel, by decide +kernel⟩
theorem cl_11 : Cl 11 RX11 TX11 tyX11 := ⟨rfl, by decide, cw_11, tyX11_ok, nmX11, by decide +kernel, by decide +kernel⟩
theorem cl_12 : Cl 12 RX12 TX12 tyX12 := ⟨rfl, by decide, cw_12, tyX12_ok, nmX12, by decide +kernel, by decide +kernel⟩
theorem ext_of {h h' : Hp} (eN : hN h' = hN h) (eT : hT h' = hT h) : ext h h' := ⟨by rw [eN]; exact Nat.le_refl _, fun b _ => by rw [eT]⟩
theorem WF_wR {h : Hp} {a k ci : Nat} {r : Option Nat} (hF : WF h) (hk : (hT h a).1 < 40) (hc : (hT h a).1 % 20 = ci) (hr : ∀ b, r = some b → b < hN h ∧ (hT h b).1 = fref ci k) (hs : (hT h a).1 < 20 → fcon (hT h a).1 k a = none) : WF (wR h a k r) := by
  intro b hb
  obtain ⟨g1, g2, g3, g4⟩ := hF b hb
  refine ⟨g1, ?_, ?_, ?_⟩
  · intro hb4 j hj hty q hq
    have hq : up2 (hR h) a k r b j = some q := hq
    by_cases hab : b = a ∧ j = k
    · obtain ⟨rfl, rfl⟩ := hab
      rw [up2_self] at hq
      have z := hr q hq
      rw [← hc] at z
      exact z
    · rw [up2_ne _ _ hab] at hq
      exact g2 hb4 j hj hty q hq
  · intro hb4 j q n hq
    have z := g3 hb4 j q n hq
    refine ⟨?_, z.2⟩
    show up2 (hR h) a k r b j = some q
    by_cases hab : b = a ∧ j = k
    · obtain ⟨rfl, rfl⟩ := hab
      have e := hs hb4
      have hq : fcon (hT h b).1 j b = some (q, n) := hq
      rw [e] at hq
      cases hq
    · rw [up2_ne _ _ hab]
      exact z.1
  · intro hb4 j q hq
    have hb5 : 50 ≤ (hT h b).1 := hb4
    have hq : up2 (hR h) a k r b j = some q := hq
    by_cases hab : b = a ∧ j = k
    · rw [hab.1] at hb5
      omega
    · rw [up2_ne _ _ hab] at hq
      exact g4 hb4 j q hq
theorem WF_wA {h : Hp} {a k kd n : Nat} {r : Option Nat} (hF : WF h) (hkd : kd < 20) (hk : hT h a = (50 + kd, n)) (hr : ∀ b, r = some b → b < hN h ∧ hT h b = (kd, 0)) : WF (wR h a k r) := by
  intro b hb
  obtain ⟨g1, g2, g3, g4⟩ := hF b hb
  refine ⟨g1, ?_, ?_, ?_⟩
  · intro hb4 j hj hty q hq
    have hb5 : (hT h b).1 < 40 := hb4
    have hq : up2 (hR h) a k r b j = some q := hq
    by_cases hab : b = a ∧ j = k
    · have e5 : (hT h b).1 = 50 + kd := by rw [hab.1, hk]
      omega
    · rw [up2_ne _ _ hab] at hq
      exact g2 hb4 j hj hty q hq
  · intro hb4 j q n' hq
    have hb5 : (hT h b).1 < 20 := hb4
    have z := g3 hb4 j q n' hq
    refine ⟨?_, z.2⟩
    show up2 (hR h) a k r b j = some q
    by_cases hab : b = a ∧ j = k
    · have e5 : (hT h b).1 = 50 + kd := by rw [hab.1, hk]
      omega
    · rw [up2_ne _ _ hab]
      exact z.1
  · intro hb4 j q hq
    have hb4 : 50 ≤ (hT h b).1 := hb4
    have hq : up2 (hR h) a k r b j = some q := hq
    show q < hN h ∧ hT h q = ((hT h b).1 - 50, 0) ∧ (hT h b).1 - 50 < 20
    by_cases hab : b = a ∧ j = k
    · obtain ⟨rfl, rfl⟩ := hab
      rw [up2_self] at hq
      have z := hr q hq
      rw [hk]
      refine ⟨z.1, z.2.trans ?_, by show 50 + kd - 50 < 20; omega⟩
      show (kd, 0) = (50 + kd - 50, 0)
      rw [Nat.add_sub_cancel_left]
    · rw [up2_ne _ _ hab] at hq
      exact g4 hb4 j q hq
theorem WF_nw {h : Hp} {t : Nat × Nat} (hF : WF h) (ht : t.1 < 40 → t.2 = 0 ∧ 20 ≤ t.1) : WF (nw h t) := by
  intro a ha
  have ha : a < hN h + 1 := ha
  have eN : hN (nw h t) = hN h + 1 := rfl
  have eT : ∀ b, b < hN h → hT (nw h t) b = hT h b := fun b hb => va_up_ne _ _ (Nat.ne_of_lt hb)
  by_cases hab : a = hN h
  · subst hab
    have e1 : hT (nw h t) (hN h) = t := va_up_self _ _ _
    have e2 : hR (nw h t) (hN h) = fun _ => none := va_up_self _ _ _
    refine ⟨fun z => ?_, fun z k hk hty b hb => ?_, fun z k b n hb => ?_, fun z j b hb => ?_⟩
    · rw [e1] at z ⊢; exact (ht z).1
    · rw [e2] at hb; cases hb
    · rw [e1] at z; have := (ht (by omega)).2; omega
    · rw [e2] at hb; cases hb
  · have hlt : a < hN h := by omega
    obtain ⟨g1, g2, g3, g4⟩ := hF a hlt
    have e2 : hR (nw h t) a = hR h a := va_up_ne _ _ hab
    unfold WFa
    rw [eT a hlt, e2, eN]
    refine ⟨g1, fun z k hk hty b hb => ?_, fun z k b n hb => ?_, fun z j b hb => ?_⟩
    · have q := g2 z k hk hty b hb
      exact ⟨by omega, by rw [eT b q.1]; exact q.2⟩
    · have q := g3 z k b n hb
      exact ⟨q.1, by rw [eT b q.2.2]; exact q.2.1, by omega⟩
    · have q := g4 z j b hb
      exact ⟨by omega, by rw [eT b q.1]; exact q.2.1, q.2.2⟩
theorem ext_nw {h : Hp} {t : Nat × Nat} : ext h (nw h t) := ⟨Nat.le_succ _, fun b hb => va_up_ne _ _ (Nat.ne_of_lt hb)⟩
theorem wd_nw {G : Cx} {h : Hp} {t : Nat × Nat} {H H' : Heap} (hW : Wd G h H) (ht : t.1 < 40 → t.2 = 0 ∧ 20 ≤ t.1) (ez : H'.size = H.size + 1) (eo : ∀ q : Nat, q < H.size → H'[q]? = H[q]?) (ha : atc G (nw h t) (hN h) H') : Wd G (nw h t) H' := by
  refine ⟨by rw [ez, hW.1]; rfl, fun b hb => ?_, WF_nw hW.2.2 ht⟩
  have hb : b < hN h + 1 := hb
  by_cases hab : b = hN h
  · subst hab; exact ha
  · have hlt : b < hN h := by omega
    exact atc_same (hW.2.1 b hlt) (va_up_ne _ _ hab) (va_up_ne _ _ hab) (va_up_ne _ _ hab) (va_up_ne _ _ hab) (eo _ (by rw [hW.1]; omega))
section RH
variable {l : Launch} {G : Cx} {d mc ms : Nat} {M : Mth} {h0 : Hp} {Q : Option TV → Hp → Prop} {pc : Nat} {L : List (Option TV)} {st : List TV} {h : Hp} {cu su : Nat}
theorem r_getG {ci kd a k idx : Nat} {C : String} {T : u_T} {ty0 : Nat → FieldType} {w : TV} (cl : Cl ci C T ty0) (hd : decode M.1 pc = .ok (.getfield idx, 3)) (hl : Cond.fieldLink M.2.2.2.1 idx (T k).1 (T k).2.1 (T k).2.2.1 ∈ GW) (hk : k < fnum ci) (hkd : kd = ci ∨ kd = 20 + ci)
    (hw : WF h → hT h a = (kd, 0) → a < hN h → cv G w = fv G h ci a k ∧ ty1 h w) (kk : Rn l G d mc ms M h0 Q (pc + 3) L (w :: st) h cu su) : Rn l G d mc ms M h0 Q pc L (tR kd 0 (some a) :: st) h cu su := by
  intro p e s m args below meth c H locs ls C0 hW hE hS hl0 hL hst
  obtain ⟨ha, hta⟩ := hst.1 a rfl
  obtain ⟨e1, e2⟩ := hw hW.2.2 hta ha
  have hat : atO G h ci a H := (atc_O (by rw [hta]; exact hkd) cl.2.1).mp (hW.2.1 a ha)
  obtain ⟨cell, q1, q2, q3, q4⟩ := hat
  obtain ⟨hSl, hfc, kC, hkC, hkind⟩ := C0.2.2.2.2.2.2.1.1.1 ci _ cl.1
  obtain ⟨cf, kf, fi, f, hi, hsl⟩ := hSl k hk
  have hts := C0.2.2.2.2.2.1
  refine W.getf C0.1 C0.2.1 C0.2.2.2.2.1 (hts _ hl) hi (u_facts hfc hkC (u_lays hts cl.2.2.1 hk) hi).1 q1 (by rw [q3]; exact fun z => by cases z) (v := cv G w) ?_ rfl rfl hd (kk p e s m args below meth c H locs ls C0 hW hE hS hl0 hL ⟨e2, hst.2⟩)
  rw [hsl, q4 k hk, e1]
theorem r_getI {ci kd a k idx : Nat} {C : String} {T : u_T} {ty0 : Nat → FieldType} (cl : Cl ci C T ty0) (hd : decode M.1 pc = .ok (.getfield idx, 3)) (hl : Cond.fieldLink M.2.2.2.1 idx (T k).1 (T k).2.1 (T k).2.2.1 ∈ GW) (hkd : kd = ci ∨ kd = 20 + ci) (hf : fty ci k = 0 ∨ fty ci k = 3) (kk : Rn l G d mc ms M h0 Q (pc + 3) L (tI (hI h a k) :: st) h cu su) : Rn l G d mc ms M h0 Q pc L (tR kd 0 (some a) :: st) h cu su :=
  r_getG (w := tI (hI h a k)) cl hd hl (fty_lt (by omega)) hkd (fun _ _ _ => ⟨by
    have h1 : ¬ fty ci k = 1 := by omega
    have h2 : ¬ fty ci k = 2 := by omega
    simp only [fv, if_neg h1, if_neg h2]; rfl, trivial⟩) kk
theorem r_getJ {ci kd a k idx : Nat} {C : String} {T : u_T} {ty0 : Nat → FieldType} (cl : Cl ci C T ty0) (hd : decode M.1 pc = .ok (.getfield idx, 3)) (hl : Cond.fieldLink M.2.2.2.1 idx (T k).1 (T k).2.1 (T k).2.2.1 ∈ GW) (hkd : kd = ci ∨ kd = 20 + ci) (hf : fty ci k = 1) (kk : Rn l G d mc ms M h0 Q (pc + 3) L (tJ (hJ h a k) :: st) h cu su) : Rn l G d mc ms M h0 Q pc L (tR kd 0 (some a) :: st) h cu su :=
  r_getG (w := tJ (hJ h a k)) cl hd hl (fty_lt (by omega)) hkd (fun _ _ _ => ⟨by simp only [fv, if_pos hf]; rfl, trivial⟩) kk
/-- a field that holds one reference for good -/
theorem r_getC {ci a k idx b n rk : Nat} {C : String} {T : u_T} {ty0 : Nat → FieldType} (cl : Cl ci C T ty0) (hd : decode M.1 pc = .ok (.getfield idx, 3)) (hl : Cond.fieldLink M.2.2.2.1 idx (T k).1 (T k).2.1 (T k).2.2.1 ∈ GW) (hf : fty ci k = 2) (hr : fref ci k = rk) (hc : fcon ci k a = some (b, n)) (kk : Rn l G d mc ms M h0 Q (pc + 3) L (tR rk n (some b) :: st) h cu su) : Rn l G d mc ms M h0 Q pc L (tR ci 0 (some a) :: st) h cu su :=
  r_getG (w := tR rk n (some b)) cl hd hl (fty_lt (by omega)) (Or.inl rfl) (fun hF hta ha => by
    have z := (hF a ha).2.2.1 (by rw [hta]; exact cl.2.1) k b n (by rw [hta]; exact hc)
    have h1 : ¬ fty ci k = 1 := by omega
    refine ⟨?_, fun q hq => ?_⟩
    · simp only [fv, if_neg h1, if_pos hf, z.1]; rfl
    · cases hq
      refine ⟨z.2.2, z.2.1.trans ?_⟩
      rw [hta]
      show (fref ci k, n) = (rk, n)
      rw [hr]) kk
/-- any other reference field: an object, or null -/
theorem r_getR {ci kd a k idx rk : Nat} {C : String} {T : u_T} {ty0 : Nat → FieldType} (cl : Cl ci C T ty0) (hd : decode M.1 pc = .ok (.getfield idx, 3)) (hl : Cond.fieldLink M.2.2.2.1 idx (T k).1 (T k).2.1 (T k).2.2.1 ∈ GW) (hkd : kd = ci ∨ kd = 20 + ci) (hf : fty ci k = 2) (hr : fref ci k = rk) (hk : rk < 40) (kk : Rn l G d mc ms M h0 Q (pc + 3) L (tR rk 0 (hR h a k) :: st) h cu su) : Rn l G d mc ms M h0 Q pc L (tR kd 0 (some a) :: st) h cu su :=
  r_getG (w := tR rk 0 (hR h a k)) cl hd hl (fty_lt (by omega)) hkd (fun hF hta ha => by
    have h1 : ¬ fty ci k = 1 := by omega
    have hci := cl.2.1
    refine ⟨?_, fun q hq => ?_⟩
    · simp only [fv, if_neg h1, if_pos hf]; rfl
    · have e : (hT h a).1 % 20 = ci := by rw [hta]; show kd % 20 = ci; omega
      have z := (hF a ha).2.1 (by rw [hta]; show kd < 40; omega) k (by rw [e]; exact fty_lt (by omega)) (by rw [e]; exact hf) q hq
      rw [e, hr] at z
      refine ⟨z.1, Prod.ext z.2 ?_⟩
      exact (hF q z.1).1 (by rw [z.2]; exact hk)) kk
/-- a reference field of an object that is being made -/
theorem r_getW {ci kd a k idx b n rk : Nat} {C : String} {T : u_T} {ty0 : Nat → FieldType} (cl : Cl ci C T ty0) (hd : decode M.1 pc = .ok (.getfield idx, 3)) (hl : Cond.fieldLink M.2.2.2.1 idx (T k).1 (T k).2.1 (T k).2.2.1 ∈ GW) (hkd : kd = ci ∨ kd = 20 + ci) (hf : fty ci k = 2) (hv : hR h a k = some b) (ht : hT h b = (rk, n)) (kk : Rn l G d mc ms M h0 Q (pc + 3) L (tR rk n (some b) :: st) h cu su) : Rn l G d mc ms M h0 Q pc L (tR kd 0 (some a) :: st) h cu su :=
  r_getG (w := tR rk n (some b)) cl hd hl (fty_lt (by omega)) hkd (fun hF hta ha => by
    have h1 : ¬ fty ci k = 1 := by omega
    have hci := cl.2.1
    refine ⟨?_, fun q hq => ?_⟩
    · simp only [fv, if_neg h1, if_pos hf, hv]; rfl
    · have e : (hT h a).1 % 20 = ci := by rw [hta]; show kd % 20 = ci; omega
      cases hq
      have z := (hF a ha).2.1 (by rw [hta]; show kd < 40; omega) k (by rw [e]; exact fty_lt (by omega)) (by rw [e]; exact hf) b hv
      exact ⟨z.1, ht⟩) kk
theorem r_putG {ci kd a k idx : Nat} {C : String} {T : u_T} {ty0 : Nat → FieldType} {v : TV} {h' : Hp} (cl : Cl ci C T ty0) (hd : decode M.1 pc = .ok (.putfield idx, 3)) (hl : Cond.fieldLink M.2.2.2.1 idx (T k).1 (T k).2.1 (T k).2.2.1 ∈ GW) (hk : k < fnum ci) (hkd : kd = ci ∨ kd = 20 + ci)
    (hfin : (T k).2.2.2 = false ∨ ((T k).2.2.2 = true ∧ M.2.2.2.2 = "<init>" ∧ C = M.2.2.2.1)) (hn : narrow (ty0 k) (cv G v) = cv G v) (hfit : fits (ty0 k) (cv G v) = true) (eN : hN h' = hN h) (eT : hT h' = hT h) (ho : ∀ b, b ≠ a → hI h' b = hI h b ∧ hJ h' b = hJ h b ∧ hR h' b = hR h b)
    (hfv : ∀ j, j < fnum ci → updV (fv G h ci a) k (cv G v) j = fv G h' ci a j) (hF : WF h → ty1 h v → a < hN h → hT h a = (kd, 0) → WF h') (kk : Rn l G d mc ms M h0 Q (pc + 3) L st h' cu su) : Rn l G d mc ms M h0 Q pc L (v :: tR kd 0 (some a) :: st) h cu su := by
  intro p e s m args below meth c H locs ls C0 hW hE hS hl0 hL hst
  obtain ⟨ha, hta⟩ := hst.2.1 a rfl
  have hat : atO G h ci a H := (atc_O (by rw [hta]; exact hkd) cl.2.1).mp (hW.2.1 a ha)
  obtain ⟨cell, q1, q2, q3, q4⟩ := hat
  have hK := C0.2.2.2.2.2.2.1.1
  have hts := C0.2.2.2.2.2.1
  have hown := C0.2.2.2.2.1
  obtain ⟨hcl1, hcl2, hin, hty, hnm, hdc, -⟩ := cl
  have hap := va_apart (own := M.2.2.2.1) hts hin ty0 hty hnm hK hcl1
  obtain ⟨hSl, hfc, kC, hkC, hkind⟩ := hK.1 ci _ hcl1
  obtain ⟨cf, kf, fi, f, hi, hsl⟩ := hSl k hk
  have hst' := (u_facts hfc hkC (u_lays hts hin hk) hi).1
  have hlay := hts _ (hin _ (u_in_lay hk))
  unfold u_lay at hlay
  have hee : ext h h' := ext_of eN eT
  have fin : ∀ H' : Heap, H'[G.1 + a]? = some (cell.setSlot (G.2.1.2 ci k) (cv G v)) → H'.size = H.size → (∀ q, q ≠ G.1 + a → H'[q]? = H[q]?) → W p l e (rmOf d mc ms) s m args below meth c H' (locs ++ [⟨G.1 + a, G.2.1.2 ci k⟩]) cu su (MQ below (PostU G h0 Q) args s mc ms (Ag G)) (F0 m (pc + 3) ls (st.map (cv G))) := by
    intro H' e1 e2 e3
    refine kk p e s m args below meth c H' _ ls C0 (wd_set hW e2 e3 eN eT ho (hF hW.2.2 hst.1 ha hta) (fun _ => ?_)) (hE.trans hee) (hS.put e2 e3 (Nat.le_add_right _ _)) hl0 (hL.ext hee) (hst.2.2.ext hee)
    refine (atc_O (by rw [eT, hta]; exact hkd) hcl2).mpr ?_
    exact t_OB.to (V := updV (fv G h ci a) k (cv G v)) ⟨_, e1, q2, q3, t_set q4 hap hk _⟩ hfv
  rcases hfin with hfn | ⟨hfn, hin2, hCo⟩
  · rw [if_neg (by rw [hfn]; decide)] at hlay
    have h6 := u_store hfc hkC hkind hlay hi (hty k hk) hn hfit
    refine W.putK C0.1 C0.2.1 (f := f) ⟨hown, hts _ hl, ⟨_, _, _, hi⟩, hst'⟩ (by rw [q2]; exact h6) q1 q3 (by rw [hsl]; exact k2_hasslot (q4 k hk)) rfl rfl hd fun H' e1 e2 e3 => ?_
    rw [hsl] at e1 ⊢
    exact fin H' e1 e2 e3
  · rw [if_pos hfn] at hlay
    have hcf : m.cls = cf := by
      obtain ⟨_, _, c', _, _, _, -, -, hf', -, -, -, hown2, -⟩ := Cond.laysFinal_spec hlay
      have e1 : c' = cf := by have := hi.symm.trans hf'; simp at this; exact this.1.symm
      rw [hdc k hk, hCo] at hown2
      rw [← e1]; exact Option.some.inj (hown.symm.trans hown2)
    have h6 := u_fits hfc hkC hkind (Or.inr hlay) hi (hty k hk) hn hfit
    refine W.putFinK C0.1 C0.2.1 hown (hts _ hl) hi hst' hcf (C0.2.2.2.2.2.2.2.2.trans hin2) (by rw [q2]; exact h6) q1 q3 (by rw [hsl]; exact k2_hasslot (q4 k hk)) rfl rfl hd fun H' e1 e2 e3 => ?_
    rw [hsl] at e1 ⊢
    exact fin H' e1 e2 e3
theorem r_putI {ci kd a k idx : Nat} {C : String} {T : u_T} {ty0 : Nat → FieldType} {x : Int32} (cl : Cl ci C T ty0) (hd : decode M.1 pc = .ok (.putfield idx, 3)) (hl : Cond.fieldLink M.2.2.2.1 idx (T k).1 (T k).2.1 (T k).2.2.1 ∈ GW) (hkd : kd = ci ∨ kd = 20 + ci) (hf : fty ci k = 0 ∨ fty ci k = 3)
    (hfin : (T k).2.2.2 = false ∨ ((T k).2.2.2 = true ∧ M.2.2.2.2 = "<init>" ∧ C = M.2.2.2.1)) (hn : narrow (ty0 k) (.int x) = .int x) (hfit : fits (ty0 k) (.int x) = true) (kk : Rn l G d mc ms M h0 Q (pc + 3) L st (wI h a k x) cu su) : Rn l G d mc ms M h0 Q pc L (tI x :: tR kd 0 (some a) :: st) h cu su := by
  refine r_putG (v := tI x) (h' := wI h a k x) cl hd hl (fty_lt (by omega)) hkd hfin hn hfit rfl rfl (fun b hb => ⟨up2_row _ _ hb, rfl, rfl⟩) (fun j hj => ?_) (fun hF _ _ _ => WF_of hF rfl rfl rfl) kk
  by_cases hjk : j = k
  · subst hjk
    have h1 : ¬ fty ci j = 1 := by omega
    have h2 : ¬ fty ci j = 2 := by omega
    simp only [updV, fv, if_neg h1, if_neg h2, if_true]
    show Value.int x = .int (up2 (hI h) a j x a j)
    rw [up2_self]
  · simp only [updV, if_neg hjk]
    show fv G h ci a j = _
    simp only [fv]
    show _ = if fty ci j = 1 then Value.long (hJ h a j) else if fty ci j = 2 then rb G (hR h a j) else .int (up2 (hI h) a k x a j)
    rw [up2_ne _ _ (fun z => hjk z.2)]
theorem r_putJ {ci kd a k idx : Nat} {C : String} {T : u_T} {ty0 : Nat → FieldType} {x : Int64} (cl : Cl ci C T ty0) (hd : decode M.1 pc = .ok (.putfield idx, 3)) (hl : Cond.fieldLink M.2.2.2.1 idx (T k).1 (T k).2.1 (T k).2.2.1 ∈ GW) (hkd : kd = ci ∨ kd = 20 + ci) (hf : fty ci k = 1)
    (hfin : (T k).2.2.2 = false ∨ ((T k).2.2.2 = true ∧ M.2.2.2.2 = "<init>" ∧ C = M.2.2.2.1)) (hn : narrow (ty0 k) (.long x) = .long x) (hfit : fits (ty0 k) (.long x) = true) (kk : Rn l G d mc ms M h0 Q (pc + 3) L st (wJ h a k x) cu su) : Rn l G d mc ms M h0 Q pc L (tJ x :: tR kd 0 (some a) :: st) h cu su := by
  refine r_putG (v := tJ x) (h' := wJ h a k x) cl hd hl (fty_lt (by omega)) hkd hfin hn hfit rfl rfl (fun b hb => ⟨rfl, up2_row _ _ hb, rfl⟩) (fun j hj => ?_) (fun hF _ _ _ => WF_of hF rfl rfl rfl) kk
  by_cases hjk : j = k
  · subst hjk
    simp only [updV, fv, if_pos hf, if_true]
    show Value.long x = .long (up2 (hJ h) a j x a j)
    rw [up2_self]
  · simp only [updV, if_neg hjk]
    show fv G h ci a j = _
    simp only [fv]
    show _ = if fty ci j = 1 then Value.long (up2 (hJ h) a k x a j) else if fty ci j = 2 then rb G (hR h a j) else .int (hI h a j)
    rw [up2_ne _ _ (fun z => hjk z.2)]
theorem r_putR {ci kd a k idx rk n : Nat} {C : String} {T : u_T} {ty0 : Nat → FieldType} {r : Option Nat} (cl : Cl ci C T ty0) (hd : decode M.1 pc = .ok (.putfield idx, 3)) (hl : Cond.fieldLink M.2.2.2.1 idx (T k).1 (T k).2.1 (T k).2.2.1 ∈ GW) (hkd : kd = ci ∨ kd = 20 + ci) (hf : fty ci k = 2) (hr : fref ci k = rk) (hs : kd < 20 → fcon kd k a = none)
    (hfin : (T k).2.2.2 = false ∨ ((T k).2.2.2 = true ∧ M.2.2.2.2 = "<init>" ∧ C = M.2.2.2.1)) (hn : ∀ q, narrow (ty0 k) (.ref q) = .ref q ∧ fits (ty0 k) (.ref q) = true) (hn0 : narrow (ty0 k) .null = .null ∧ fits (ty0 k) .null = true) (kk : Rn l G d mc ms M h0 Q (pc + 3) L st (wR h a k r) cu su) : Rn l G d mc ms M h0 Q pc L (tR rk n r :: tR kd 0 (some a) :: st) h cu su := by
  have hci := cl.2.1
  refine r_putG (v := tR rk n r) (h' := wR h a k r) cl hd hl (fty_lt (by omega)) hkd hfin (by cases r with
    | none => exact hn0.1
    | some q => exact (hn _).1) (by cases r with
    | none => exact hn0.2
    | some q => exact (hn _).2) rfl rfl (fun b hb => ⟨rfl, rfl, up2_row _ _ hb⟩) (fun j hj => ?_) (fun hF ht ha hta => ?_) kk
  · have h1 : ¬ fty ci k = 1 := by omega
    by_cases hjk : j = k
    · subst hjk
      simp only [updV, fv, if_neg h1, if_pos hf, if_true]
      show rb G r = rb G (up2 (hR h) a j r a j)
      rw [up2_self]
    · simp only [updV, if_neg hjk]
      show fv G h ci a j = _
      simp only [fv]
      show _ = if fty ci j = 1 then Value.long (hJ h a j) else if fty ci j = 2 then rb G (up2 (hR h) a k r a j) else .int (hI h a j)
      rw [up2_ne _ _ (fun z => hjk z.2)]
  · refine WF_wR (ci := ci) hF (by rw [hta]; show kd < 40; omega) (by rw [hta]; show kd % 20 = ci; omega) (fun b hb => ?_) (by rw [hta]; exact hs)
    have z := ht b hb
    exact ⟨z.1, by rw [z.2]; exact hr.symm⟩
theorem r_iald {n a : Nat} {i : Int32} (hd : decode M.1 pc = .ok (.iaload, 1)) (hin : vp_in i n) (kk : Rn l G d mc ms M h0 Q (pc + 1) L (tI (hI h a i.toNatClampNeg) :: st) h cu su) : Rn l G d mc ms M h0 Q pc L (tI i :: tR 40 n (some a) :: st) h cu su := by
  intro p e s m args below meth c H locs ls C0 hW hE hS hl0 hL hst
  obtain ⟨ha, hta⟩ := hst.2.1 a rfl
  have hat : atA G h 40 n a H := (atc_A hta (by decide)).mp (hW.2.1 a ha)
  have hK := C0.2.2.2.2.2.2.1.1
  have hlt : i.toNatClampNeg < n := Nat.not_le.mp fun q => hin (Or.inr q)
  exact W.iald C0.1 C0.2.1 hat ((hK.2 0 _ rfl).1 n _) (fun q => by cases q) (by rw [arrV_size]; exact hin) (v := .int (hI h a i.toNatClampNeg)) (by rw [arrV_read _ _ hlt]; rfl) rfl rfl hd (kk p e s m args below meth c H locs ls C0 hW hE hS hl0 hL ⟨trivial, hst.2.2⟩)
theorem r_bald {n a : Nat} {i : Int32} (hd : decode M.1 pc = .ok (.baload, 1)) (hin : vp_in i n) (kk : Rn l G d mc ms M h0 Q (pc + 1) L (tI (hI h a i.toNatClampNeg) :: st) h cu su) : Rn l G d mc ms M h0 Q pc L (tI i :: tR 41 n (some a) :: st) h cu su := by
  intro p e s m args below meth c H locs ls C0 hW hE hS hl0 hL hst
  obtain ⟨ha, hta⟩ := hst.2.1 a rfl
  have hat : atA G h 41 n a H := (atc_A hta (by decide)).mp (hW.2.1 a ha)
  have hK := C0.2.2.2.2.2.2.1.1
  have hlt : i.toNatClampNeg < n := Nat.not_le.mp fun q => hin (Or.inr q)
  exact W.bald C0.1 C0.2.1 hat ((hK.2 1 _ rfl).1 n _) (fun q => by cases q) (by rw [arrV_size]; exact hin) (v := .int (hI h a i.toNatClampNeg)) (by rw [arrV_read _ _ hlt]; rfl) rfl rfl hd (kk p e s m args below meth c H locs ls C0 hW hE hS hl0 hL ⟨trivial, hst.2.2⟩)
theorem r_zald {n a : Nat} {i : Int32} (hd : decode M.1 pc = .ok (.baload, 1)) (hin : vp_in i n) (kk : Rn l G d mc ms M h0 Q (pc + 1) L (tI (hI h a i.toNatClampNeg) :: st) h cu su) : Rn l G d mc ms M h0 Q pc L (tI i :: tR 42 n (some a) :: st) h cu su := by
  intro p e s m args below meth c H locs ls C0 hW hE hS hl0 hL hst
  obtain ⟨ha, hta⟩ := hst.2.1 a rfl
  have hat : atA G h 42 n a H := (atc_A hta (by decide)).mp (hW.2.1 a ha)
  have hK := C0.2.2.2.2.2.2.1.1
  have hlt : i.toNatClampNeg < n := Nat.not_le.mp fun q => hin (Or.inr q)
  exact W.zald C0.1 C0.2.1 hat ((hK.2 2 _ rfl).1 n _) (fun q => by cases q) (by rw [arrV_size]; exact hin) (v := .int (hI h a i.toNatClampNeg)) (by rw [arrV_read _ _ hlt]; rfl) rfl rfl hd (kk p e s m args below meth c H locs ls C0 hW hE hS hl0 hL ⟨trivial, hst.2.2⟩)
theorem r_lald {n a : Nat} {i : Int32} (hd : decode M.1 pc = .ok (.laload, 1)) (hin : vp_in i n) (kk : Rn l G d mc ms M h0 Q (pc + 1) L (tJ (hJ h a i.toNatClampNeg) :: st) h cu su) : Rn l G d mc ms M h0 Q pc L (tI i :: tR 43 n (some a) :: st) h cu su := by
  intro p e s m args below meth c H locs ls C0 hW hE hS hl0 hL hst
  obtain ⟨ha, hta⟩ := hst.2.1 a rfl
  have hat : atA G h 43 n a H := (atc_A hta (by decide)).mp (hW.2.1 a ha)
  have hK := C0.2.2.2.2.2.2.1.1
  have hlt : i.toNatClampNeg < n := Nat.not_le.mp fun q => hin (Or.inr q)
  exact W.lald C0.1 C0.2.1 hat ((hK.2 3 _ rfl).1 n _) (fun q => by cases q) (by rw [arrV_size]; exact hin) (v := .long (hJ h a i.toNatClampNeg)) (by rw [arrV_read _ _ hlt]; rfl) rfl rfl hd (kk p e s m args below meth c H locs ls C0 hW hE hS hl0 hL ⟨trivial, hst.2.2⟩)
theorem r_iast {n a : Nat} {i : Int32} {x : Int32} (hd : decode M.1 pc = .ok (.iastore, 1)) (hin : vp_in i n) (kk : Rn l G d mc ms M h0 Q (pc + 1) L st (wI h a i.toNatClampNeg x) cu su) : Rn l G d mc ms M h0 Q pc L (tI x :: tI i :: tR 40 n (some a) :: st) h cu su := by
  intro p e s m args below meth c H locs ls C0 hW hE hS hl0 hL hst
  obtain ⟨ha, hta⟩ := hst.2.2.1 a rfl
  have hat : atA G h 40 n a H := (atc_A hta (by decide)).mp (hW.2.1 a ha)
  have hK := C0.2.2.2.2.2.2.1.1
  refine W.iast C0.1 C0.2.1 hat ((hK.2 0 _ rfl).1 n _) (fun q => by cases q) (by rw [arrV_size]; exact hin) rfl rfl hd fun H1 e1 z oq => ?_
  have hee : ext h (wI h a i.toNatClampNeg x) := ext_of rfl rfl
  refine kk p e s m args below meth c H1 _ ls C0 (wd_set hW z oq rfl rfl (fun b hb => ⟨up2_row _ _ hb, rfl, rfl⟩) (WF_of hW.2.2 rfl rfl rfl) (fun _ => ?_)) (hE.trans hee) (hS.put z oq (Nat.le_add_right _ _)) hl0 (hL.ext hee) (hst.2.2.2.ext hee)
  refine (atc_A (kind := 40) (n := n) (show hT (wI h a i.toNatClampNeg x) a = _ from hta) (by decide)).mpr ?_
  unfold atA
  rw [e1, arrV_store]
  congr 2
  funext q
  by_cases hq : q = i.toNatClampNeg
  · subst hq
    simp only [updV, if_true]
    show _ = ev G (wI h a i.toNatClampNeg x) 40 a i.toNatClampNeg
    simp only [ev, wI]
    first | rfl | (simp [hI, hJ, up2]; rfl) | simp [hI, hJ, up2] | (simp [hI, hJ, up2, narrow])
  · simp only [updV, if_neg hq]
    show ev G h 40 a q = ev G (wI h a i.toNatClampNeg x) 40 a q
    simp only [ev, wI, hI, hJ, hR, up2_ne _ _ (fun z : a = a ∧ q = i.toNatClampNeg => hq z.2)]
theorem r_bast {n a : Nat} {i : Int32} {x : Int32} (hd : decode M.1 pc = .ok (.bastore, 1)) (hin : vp_in i n) (kk : Rn l G d mc ms M h0 Q (pc + 1) L st (wI h a i.toNatClampNeg x.toInt8.toInt32) cu su) : Rn l G d mc ms M h0 Q pc L (tI x :: tI i :: tR 41 n (some a) :: st) h cu su := by
  intro p e s m args below meth c H locs ls C0 hW hE hS hl0 hL hst
  obtain ⟨ha, hta⟩ := hst.2.2.1 a rfl
  have hat : atA G h 41 n a H := (atc_A hta (by decide)).mp (hW.2.1 a ha)
  have hK := C0.2.2.2.2.2.2.1.1
  refine W.bast C0.1 C0.2.1 hat ((hK.2 1 _ rfl).1 n _) (fun q => by cases q) (by rw [arrV_size]; exact hin) rfl rfl hd fun H1 e1 z oq => ?_
  have hee : ext h (wI h a i.toNatClampNeg x.toInt8.toInt32) := ext_of rfl rfl
  refine kk p e s m args below meth c H1 _ ls C0 (wd_set hW z oq rfl rfl (fun b hb => ⟨up2_row _ _ hb, rfl, rfl⟩) (WF_of hW.2.2 rfl rfl rfl) (fun _ => ?_)) (hE.trans hee) (hS.put z oq (Nat.le_add_right _ _)) hl0 (hL.ext hee) (hst.2.2.2.ext hee)
  refine (atc_A (kind := 41) (n := n) (show hT (wI h a i.toNatClampNeg x.toInt8.toInt32) a = _ from hta) (by decide)).mpr ?_
  unfold atA
  rw [e1, arrV_store]
  congr 2
  funext q
  by_cases hq : q = i.toNatClampNeg
  · subst hq
    simp only [updV, if_true]
    show _ = ev G (wI h a i.toNatClampNeg x.toInt8.toInt32) 41 a i.toNatClampNeg
    simp only [ev, wI]
    first | rfl | (simp [hI, hJ, up2]; rfl) | simp [hI, hJ, up2] | (simp [hI, hJ, up2, narrow])
  · simp only [updV, if_neg hq]
    show ev G h 41 a q = ev G (wI h a i.toNatClampNeg x.toInt8.toInt32) 41 a q
    simp only [ev, wI, hI, hJ, hR, up2_ne _ _ (fun z : a = a ∧ q = i.toNatClampNeg => hq z.2)]
theorem r_zast {n a : Nat} {i : Int32} {x : Int32} (hd : decode M.1 pc = .ok (.bastore, 1)) (hin : vp_in i n) (kk : Rn l G d mc ms M h0 Q (pc + 1) L st (wI h a i.toNatClampNeg (x &&& 1)) cu su) : Rn l G d mc ms M h0 Q pc L (tI x :: tI i :: tR 42 n (some a) :: st) h cu su := by
  intro p e s m args below meth c H locs ls C0 hW hE hS hl0 hL hst
  obtain ⟨ha, hta⟩ := hst.2.2.1 a rfl
  have hat : atA G h 42 n a H := (atc_A hta (by decide)).mp (hW.2.1 a ha)
  have hK := C0.2.2.2.2.2.2.1.1
  refine W.zast C0.1 C0.2.1 hat ((hK.2 2 _ rfl).1 n _) (fun q => by cases q) (by rw [arrV_size]; exact hin) rfl rfl hd fun H1 e1 z oq => ?_
  have hee : ext h (wI h a i.toNatClampNeg (x &&& 1)) := ext_of rfl rfl
  refine kk p e s m args below meth c H1 _ ls C0 (wd_set hW z oq rfl rfl (fun b hb => ⟨up2_row _ _ hb, rfl, rfl⟩) (WF_of hW.2.2 rfl rfl rfl) (fun _ => ?_)) (hE.trans hee) (hS.put z oq (Nat.le_add_right _ _)) hl0 (hL.ext hee) (hst.2.2.2.ext hee)
  refine (atc_A (kind := 42) (n := n) (show hT (wI h a i.toNatClampNeg (x &&& 1)) a = _ from hta) (by decide)).mpr ?_
  unfold atA
  rw [e1, arrV_store]
  congr 2
  funext q
  by_cases hq : q = i.toNatClampNeg
  · subst hq
    simp only [updV, if_true]
    show _ = ev G (wI h a i.toNatClampNeg (x &&& 1)) 42 a i.toNatClampNeg
    simp only [ev, wI]
    first | rfl | (simp [hI, hJ, up2]; rfl) | simp [hI, hJ, up2] | (simp [hI, hJ, up2, narrow])
  · simp only [updV, if_neg hq]
    show ev G h 42 a q = ev G (wI h a i.toNatClampNeg (x &&& 1)) 42 a q
    simp only [ev, wI, hI, hJ, hR, up2_ne _ _ (fun z : a = a ∧ q = i.toNatClampNeg => hq z.2)]
theorem r_last {n a : Nat} {i : Int32} {x : Int64} (hd : decode M.1 pc = .ok (.lastore, 1)) (hin : vp_in i n) (kk : Rn l G d mc ms M h0 Q (pc + 1) L st (wJ h a i.toNatClampNeg x) cu su) : Rn l G d mc ms M h0 Q pc L (tJ x :: tI i :: tR 43 n (some a) :: st) h cu su := by
  intro p e s m args below meth c H locs ls C0 hW hE hS hl0 hL hst
  obtain ⟨ha, hta⟩ := hst.2.2.1 a rfl
  have hat : atA G h 43 n a H := (atc_A hta (by decide)).mp (hW.2.1 a ha)
  have hK := C0.2.2.2.2.2.2.1.1
  refine W.last C0.1 C0.2.1 hat ((hK.2 3 _ rfl).1 n _) (fun q => by cases q) (by rw [arrV_size]; exact hin) rfl rfl hd fun H1 e1 z oq => ?_
  have hee : ext h (wJ h a i.toNatClampNeg x) := ext_of rfl rfl
  refine kk p e s m args below meth c H1 _ ls C0 (wd_set hW z oq rfl rfl (fun b hb => ⟨rfl, up2_row _ _ hb, rfl⟩) (WF_of hW.2.2 rfl rfl rfl) (fun _ => ?_)) (hE.trans hee) (hS.put z oq (Nat.le_add_right _ _)) hl0 (hL.ext hee) (hst.2.2.2.ext hee)
  refine (atc_A (kind := 43) (n := n) (show hT (wJ h a i.toNatClampNeg x) a = _ from hta) (by decide)).mpr ?_
  unfold atA
  rw [e1, arrV_store]
  congr 2
  funext q
  by_cases hq : q = i.toNatClampNeg
  · subst hq
    simp only [updV, if_true]
    show _ = ev G (wJ h a i.toNatClampNeg x) 43 a i.toNatClampNeg
    simp only [ev, wJ]
    first | rfl | (simp [hI, hJ, up2]; rfl) | simp [hI, hJ, up2] | (simp [hI, hJ, up2, narrow])
  · simp only [updV, if_neg hq]
    show ev G h 43 a q = ev G (wJ h a i.toNatClampNeg x) 43 a q
    simp only [ev, wJ, hI, hJ, hR, up2_ne _ _ (fun z : a = a ∧ q = i.toNatClampNeg => hq z.2)]
theorem r_alen {kd ti n a : Nat} {ty : FieldType} {v : Int32} (hd : decode M.1 pc = .ok (.arraylength, 1)) (ht : (tysG G)[ti]? = some (G.2.2.1 kd, ty)) (hk : 40 ≤ kd) (hv : Int32.ofNat n = v) (kk : Rn l G d mc ms M h0 Q (pc + 1) L (tI v :: st) h cu su) : Rn l G d mc ms M h0 Q pc L (tR kd n (some a) :: st) h cu su := by
  intro p e s m args below meth c H locs ls C0 hW hE hS hl0 hL hst
  obtain ⟨ha, hta⟩ := hst.1 a rfl
  have hat : atA G h kd n a H := (atc_A hta hk).mp (hW.2.1 a ha)
  have hK := C0.2.2.2.2.2.2.1.1
  exact W.alen C0.1 C0.2.1 hat ((hK.2 ti _ ht).1 n _) (by rw [arrV_size]; exact hv) rfl rfl hd (kk p e s m args below meth c H locs ls C0 hW hE hS hl0 hL ⟨trivial, hst.2⟩)
theorem r_aald {kd ti n a : Nat} {cn : String} {i : Int32} (hd : decode M.1 pc = .ok (.aaload, 1)) (ht : (tysG G)[ti]? = some (G.2.2.1 (50 + kd), .object cn)) (hin : vp_in i n) (kk : Rn l G d mc ms M h0 Q (pc + 1) L (tR kd 0 (hR h a i.toNatClampNeg) :: st) h cu su) : Rn l G d mc ms M h0 Q pc L (tI i :: tR (50 + kd) n (some a) :: st) h cu su := by
  intro p e s m args below meth c H locs ls C0 hW hE hS hl0 hL hst
  obtain ⟨ha, hta⟩ := hst.2.1 a rfl
  have hat : atA G h (50 + kd) n a H := (atc_A hta (by omega)).mp (hW.2.1 a ha)
  have hK := C0.2.2.2.2.2.2.1.1
  have hlt : i.toNatClampNeg < n := Nat.not_le.mp fun q => hin (Or.inr q)
  have e1 : ev G h (50 + kd) a i.toNatClampNeg = rb G (hR h a i.toNatClampNeg) := by
    have g1 : ¬ 50 + kd = 43 := by omega
    have g2 : ¬ 50 + kd < 43 := by omega
    simp only [ev, if_neg g1, if_neg g2]
  refine W.aald C0.1 C0.2.1 hat ((hK.2 ti _ ht).1 n _) rfl (fun q => by cases q) (by rw [arrV_size]; exact hin) (v := rb G (hR h a i.toNatClampNeg)) (by rw [arrV_read _ _ hlt, e1]) rfl rfl hd (kk p e s m args below meth c H locs ls C0 hW hE hS hl0 hL ⟨fun b hb => ?_, hst.2.2⟩)
  have z := (hW.2.2 a ha).2.2.2 (by rw [hta]; show 50 ≤ 50 + kd; omega) _ b hb
  rw [hta] at z
  refine ⟨z.1, z.2.1.trans ?_⟩
  show (50 + kd - 50, 0) = (kd, 0)
  rw [Nat.add_sub_cancel_left]
theorem r_aast {kd ti n a : Nat} {C : String} {T : u_T} {ty0 : Nat → FieldType} {v : Nat} {i : Int32} (cl : Cl kd C T ty0) (hd : decode M.1 pc = .ok (.aastore, 1)) (ht : (tysG G)[ti]? = some (G.2.2.1 (50 + kd), .object C)) (hin : vp_in i n) (kk : Rn l G d mc ms M h0 Q (pc + 1) L st (wR h a i.toNatClampNeg (some v)) cu su) : Rn l G d mc ms M h0 Q pc L (tR kd 0 (some v) :: tI i :: tR (50 + kd) n (some a) :: st) h cu su := by
  intro p e s m args below meth c H locs ls C0 hW hE hS hl0 hL hst
  obtain ⟨ha, hta⟩ := hst.2.2.1 a rfl
  obtain ⟨hv, htv⟩ := hst.1 v rfl
  have hat : atA G h (50 + kd) n a H := (atc_A hta (by omega)).mp (hW.2.1 a ha)
  have hatv : atO G h kd v H := (atc_O (by rw [htv]; exact Or.inl rfl) cl.2.1).mp (hW.2.1 v hv)
  have hK := C0.2.2.2.2.2.2.1.1
  have hlt : i.toNatClampNeg < n := Nat.not_le.mp fun q => hin (Or.inr q)
  have hi0 : ¬ i < 0 := fun q => hin (Or.inl q)
  obtain ⟨cellV, g1, g2, g3, -⟩ := hatv
  have hcls := (hK.1 kd _ cl.1).2
  obtain ⟨kA, comp, k1, k2, k3, -⟩ := (hK.2 ti _ ht).2
  have hcomp : comp = G.2.1.1 kd := Option.some.inj (k3.symm.trans hcls.1)
  subst hcomp
  obtain ⟨kC, hkC, -⟩ := hcls.2
  refine W.aast C0.1 C0.2.1 hat (fun q z => by cases z) (fun z => by cases z) k1 k2 rfl hkC ⟨hi0, by rw [arrV_size]; exact hlt⟩ g1 (fun q z => by rw [g3] at z; cases z) (by rw [g2]; exact hkC) (by rw [g2]; exact va_assign hcls) rfl rfl hd fun H1 e1 z oq => ?_
  have hee : ext h (wR h a i.toNatClampNeg (some v)) := ext_of rfl rfl
  refine kk p e s m args below meth c H1 _ ls C0 (wd_set hW z oq rfl rfl (fun b hb => ⟨rfl, rfl, up2_row _ _ hb⟩) (WF_wA hW.2.2 cl.2.1 hta (fun b hb => by cases hb; exact ⟨hv, htv⟩)) (fun _ => ?_)) (hE.trans hee) (hS.put z oq (Nat.le_add_right _ _)) hl0 (hL.ext hee) (hst.2.2.2.ext hee)
  refine (atc_A (kind := 50 + kd) (n := n) (show hT (wR h a i.toNatClampNeg (some v)) a = _ from hta) (by omega)).mpr ?_
  unfold atA
  rw [e1, arrV_store]
  congr 2
  funext q
  have w1 : ¬ 50 + kd = 43 := by omega
  have w2 : ¬ 50 + kd < 43 := by omega
  by_cases hq : q = i.toNatClampNeg
  · subst hq
    simp only [updV, if_true, ev, if_neg w1, if_neg w2]
    show Value.ref (G.1 + v) = rb G (up2 (hR h) a i.toNatClampNeg (some v) a i.toNatClampNeg)
    rw [up2_self]; rfl
  · simp only [updV, if_neg hq, ev, if_neg w1, if_neg w2]
    show _ = rb G (up2 (hR h) a i.toNatClampNeg (some v) a q)
    rw [up2_ne _ _ (fun z => hq z.2)]
theorem S_grow {s : State} {H H1 : Heap} {locs : List Loc} (hS : va_S (Ag G) s.heap H locs) (z : H1.size = H.size + 1) (o : ∀ q, q < H.size → H1[q]? = H[q]?) : va_S (Ag G) s.heap H1 locs :=
  ⟨Nat.le_trans hS.1 (by omega), fun x h1 h2 => (o x (Nat.lt_of_lt_of_le h1 hS.1)).trans (hS.2.1 x h1 h2), hS.2.2⟩
theorem r_new {ci idx N : Nat} {C : String} {T : u_T} {ty0 : Nat → FieldType} (cl : Cl ci C T ty0) (hd : decode M.1 pc = .ok (.new idx, 3)) (hcl : Cond.classLink M.2.2.2.1 idx C ∈ GW) (hN' : N = fnum ci) (hins : Cond.instantiable C N ∈ GW) (hini : Cond.initialized C ∈ GW) (hc : cu + 1 ≤ mc ∧ su + N ≤ ms)
    (kk : Rn l G d mc ms M h0 Q (pc + 3) L (tR (20 + ci) 0 (some (hN h)) :: st) (nw h (20 + ci, 0)) (cu + 1) (su + N)) : Rn l G d mc ms M h0 Q pc L st h cu su := by
  intro p e s m args below meth c H locs ls C0 hW hE hS hl0 hL hst
  have hK := C0.2.2.2.2.2.2.1.1
  have hts := C0.2.2.2.2.2.1
  have hKn := hK.1 ci _ cl.1
  subst hN'
  refine W.newcK C0.1 C0.2.1 C0.2.2.2.2.1 (hts _ hcl) (hts _ hins) (hts _ hini) rfl hd hc.1 hc.2 hKn.2.1 rfl fun H1 kC hkC e1 z1 o1 => ?_
  have hee : ext h (nw h (20 + ci, 0)) := ext_nw
  have hci := cl.2.1
  have eT : hT (nw h (20 + ci, 0)) (hN h) = (20 + ci, 0) := va_up_self _ _ _
  have q := kk p e s m args below meth c H1 locs ls C0 (wd_nw hW (fun _ => ⟨rfl, Nat.le_add_right _ _⟩) z1 o1 ((atc_O (by rw [eT]; exact Or.inr rfl) hci).mpr ?_)) (hE.trans hee) (S_grow hS z1 o1) hl0 (hL.ext hee) ⟨fun b hb => by cases hb; exact ⟨Nat.lt_succ_self _, eT⟩, hst.ext hee⟩
  · rw [show (tR (20 + ci) 0 (some (hN h)) :: st).map (cv G) = Value.ref H.size :: st.map (cv G) by rw [hW.1]; rfl] at q
    exact q
  · have b := u_born (o := G.1 + hN h) ty0 hts cl.2.2.1 hKn hkC (by rw [← hW.1]; exact e1) cl.2.2.2.1
    refine t_OB.to b (fun k hk => ?_)
    rw [cl.2.2.2.2.2.2 k hk]
    have eI : hI (nw h (20 + ci, 0)) (hN h) = fun _ => 0 := va_up_self _ _ _
    have eJ : hJ (nw h (20 + ci, 0)) (hN h) = fun _ => 0 := va_up_self _ _ _
    have eR : hR (nw h (20 + ci, 0)) (hN h) = fun _ => none := va_up_self _ _ _
    simp only [fv, eI, eJ, eR]
    rfl
theorem r_newI {n : Int32} {N : Nat} (hd : decode M.1 pc = .ok (.newarray .int, 2)) (harr : Cond.arrayClass .int ∈ GW) (hn : ¬ n < 0) (hN' : n.toNatClampNeg = N) (hbytes : N * 8 ≤ 536870912) (hc : cu + 1 ≤ mc ∧ su + N ≤ ms)
    (kk : Rn l G d mc ms M h0 Q (pc + 2) L (tR 40 N (some (hN h)) :: st) (nw h (40, N)) (cu + 1) (su + N)) : Rn l G d mc ms M h0 Q pc L (tI n :: st) h cu su := by
  intro p e s m args below meth c H locs ls C0 hW hE hS hl0 hL hst
  have hK := C0.2.2.2.2.2.2.1.1
  have hts := C0.2.2.2.2.2.1
  refine va_newaK C0.1 C0.2.1 (atype := .int) (hts _ harr) rfl hd rfl hn hN' (Nat.le_trans (Nat.mul_le_mul_left _ (by decide)) hbytes) hc.1 hc.2 rfl fun H1 cA e1 z1 o1 hAr hNm => ?_
  have hcA : cA = G.2.2.1 40 := Option.some.inj (hNm.symm.trans (hK.2 0 _ rfl).2)
  subst hcA
  have hee : ext h (nw h (40, N)) := ext_nw
  have eT : hT (nw h (40, N)) (hN h) = (40, N) := va_up_self _ _ _
  have q := kk p e s m args below meth c H1 locs ls C0 (wd_nw hW (fun z => by simp at z) z1 o1 ((atc_A eT (by decide)).mpr ?_)) (hE.trans hee) (S_grow hS z1 o1) hl0 (hL.ext hee) ⟨fun b hb => by cases hb; exact ⟨Nat.lt_succ_self _, eT⟩, hst.2.ext hee⟩
  · rw [show (tR 40 N (some (hN h)) :: st).map (cv G) = Value.ref H.size :: st.map (cv G) by rw [hW.1]; rfl] at q
    exact q
  · unfold atA
    rw [← hW.1, e1]
    congr 2
    funext j
    have eI : hI (nw h (40, N)) (hN h) = fun _ => 0 := va_up_self _ _ _
    have eJ : hJ (nw h (40, N)) (hN h) = fun _ => 0 := va_up_self _ _ _
    simp only [ev, eI, eJ]
    rfl
theorem r_newB {n : Int32} {N : Nat} (hd : decode M.1 pc = .ok (.newarray .byte, 2)) (harr : Cond.arrayClass .byte ∈ GW) (hn : ¬ n < 0) (hN' : n.toNatClampNeg = N) (hbytes : N * 8 ≤ 536870912) (hc : cu + 1 ≤ mc ∧ su + N ≤ ms)
    (kk : Rn l G d mc ms M h0 Q (pc + 2) L (tR 41 N (some (hN h)) :: st) (nw h (41, N)) (cu + 1) (su + N)) : Rn l G d mc ms M h0 Q pc L (tI n :: st) h cu su := by
  intro p e s m args below meth c H locs ls C0 hW hE hS hl0 hL hst
  have hK := C0.2.2.2.2.2.2.1.1
  have hts := C0.2.2.2.2.2.1
  refine va_newaK C0.1 C0.2.1 (atype := .byte) (hts _ harr) rfl hd rfl hn hN' (Nat.le_trans (Nat.mul_le_mul_left _ (by decide)) hbytes) hc.1 hc.2 rfl fun H1 cA e1 z1 o1 hAr hNm => ?_
  have hcA : cA = G.2.2.1 41 := Option.some.inj (hNm.symm.trans (hK.2 1 _ rfl).2)
  subst hcA
  have hee : ext h (nw h (41, N)) := ext_nw
  have eT : hT (nw h (41, N)) (hN h) = (41, N) := va_up_self _ _ _
  have q := kk p e s m args below meth c H1 locs ls C0 (wd_nw hW (fun z => by simp at z) z1 o1 ((atc_A eT (by decide)).mpr ?_)) (hE.trans hee) (S_grow hS z1 o1) hl0 (hL.ext hee) ⟨fun b hb => by cases hb; exact ⟨Nat.lt_succ_self _, eT⟩, hst.2.ext hee⟩
  · rw [show (tR 41 N (some (hN h)) :: st).map (cv G) = Value.ref H.size :: st.map (cv G) by rw [hW.1]; rfl] at q
    exact q
  · unfold atA
    rw [← hW.1, e1]
    congr 2
    funext j
    have eI : hI (nw h (41, N)) (hN h) = fun _ => 0 := va_up_self _ _ _
    have eJ : hJ (nw h (41, N)) (hN h) = fun _ => 0 := va_up_self _ _ _
    simp only [ev, eI, eJ]
    rfl
theorem r_newZ {n : Int32} {N : Nat} (hd : decode M.1 pc = .ok (.newarray .boolean, 2)) (harr : Cond.arrayClass .boolean ∈ GW) (hn : ¬ n < 0) (hN' : n.toNatClampNeg = N) (hbytes : N * 8 ≤ 536870912) (hc : cu + 1 ≤ mc ∧ su + N ≤ ms)
    (kk : Rn l G d mc ms M h0 Q (pc + 2) L (tR 42 N (some (hN h)) :: st) (nw h (42, N)) (cu + 1) (su + N)) : Rn l G d mc ms M h0 Q pc L (tI n :: st) h cu su := by
  intro p e s m args below meth c H locs ls C0 hW hE hS hl0 hL hst
  have hK := C0.2.2.2.2.2.2.1.1
  have hts := C0.2.2.2.2.2.1
  refine va_newaK C0.1 C0.2.1 (atype := .boolean) (hts _ harr) rfl hd rfl hn hN' (Nat.le_trans (Nat.mul_le_mul_left _ (by decide)) hbytes) hc.1 hc.2 rfl fun H1 cA e1 z1 o1 hAr hNm => ?_
  have hcA : cA = G.2.2.1 42 := Option.some.inj (hNm.symm.trans (hK.2 2 _ rfl).2)
  subst hcA
  have hee : ext h (nw h (42, N)) := ext_nw
  have eT : hT (nw h (42, N)) (hN h) = (42, N) := va_up_self _ _ _
  have q := kk p e s m args below meth c H1 locs ls C0 (wd_nw hW (fun z => by simp at z) z1 o1 ((atc_A eT (by decide)).mpr ?_)) (hE.trans hee) (S_grow hS z1 o1) hl0 (hL.ext hee) ⟨fun b hb => by cases hb; exact ⟨Nat.lt_succ_self _, eT⟩, hst.2.ext hee⟩
  · rw [show (tR 42 N (some (hN h)) :: st).map (cv G) = Value.ref H.size :: st.map (cv G) by rw [hW.1]; rfl] at q
    exact q
  · unfold atA
    rw [← hW.1, e1]
    congr 2
    funext j
    have eI : hI (nw h (42, N)) (hN h) = fun _ => 0 := va_up_self _ _ _
    have eJ : hJ (nw h (42, N)) (hN h) = fun _ => 0 := va_up_self _ _ _
    simp only [ev, eI, eJ]
    rfl
theorem r_newJ {n : Int32} {N : Nat} (hd : decode M.1 pc = .ok (.newarray .long, 2)) (harr : Cond.arrayClass .long ∈ GW) (hn : ¬ n < 0) (hN' : n.toNatClampNeg = N) (hbytes : N * 8 ≤ 536870912) (hc : cu + 1 ≤ mc ∧ su + N ≤ ms)
    (kk : Rn l G d mc ms M h0 Q (pc + 2) L (tR 43 N (some (hN h)) :: st) (nw h (43, N)) (cu + 1) (su + N)) : Rn l G d mc ms M h0 Q pc L (tI n :: st) h cu su := by
  intro p e s m args below meth c H locs ls C0 hW hE hS hl0 hL hst
  have hK := C0.2.2.2.2.2.2.1.1
  have hts := C0.2.2.2.2.2.1
  refine va_newaK C0.1 C0.2.1 (atype := .long) (hts _ harr) rfl hd rfl hn hN' (Nat.le_trans (Nat.mul_le_mul_left _ (by decide)) hbytes) hc.1 hc.2 rfl fun H1 cA e1 z1 o1 hAr hNm => ?_
  have hcA : cA = G.2.2.1 43 := Option.some.inj (hNm.symm.trans (hK.2 3 _ rfl).2)
  subst hcA
  have hee : ext h (nw h (43, N)) := ext_nw
  have eT : hT (nw h (43, N)) (hN h) = (43, N) := va_up_self _ _ _
  have q := kk p e s m args below meth c H1 locs ls C0 (wd_nw hW (fun z => by simp at z) z1 o1 ((atc_A eT (by decide)).mpr ?_)) (hE.trans hee) (S_grow hS z1 o1) hl0 (hL.ext hee) ⟨fun b hb => by cases hb; exact ⟨Nat.lt_succ_self _, eT⟩, hst.2.ext hee⟩
  · rw [show (tR 43 N (some (hN h)) :: st).map (cv G) = Value.ref H.size :: st.map (cv G) by rw [hW.1]; rfl] at q
    exact q
  · unfold atA
    rw [← hW.1, e1]
    congr 2
    funext j
    have eI : hI (nw h (43, N)) (hN h) = fun _ => 0 := va_up_self _ _ _
    have eJ : hJ (nw h (43, N)) (hN h) = fun _ => 0 := va_up_self _ _ _
    simp only [ev, eI, eJ]
    rfl
theorem r_newA {kd ti idx : Nat} {C : String} {n : Int32} {N : Nat} (hd : decode M.1 pc = .ok (.anewarray idx, 3)) (ht : (tysG G)[ti]? = some (G.2.2.1 (50 + kd), .object C)) (hcl : Cond.classLink M.2.2.2.1 idx C ∈ GW) (hov : Cond.arrayOver (.object C) ∈ GW) (hn : ¬ n < 0) (hN' : n.toNatClampNeg = N) (hbytes : N * 4 ≤ 536870912) (hc : cu + 1 ≤ mc ∧ su + N ≤ ms)
    (kk : Rn l G d mc ms M h0 Q (pc + 3) L (tR (50 + kd) N (some (hN h)) :: st) (nw h (50 + kd, N)) (cu + 1) (su + N)) : Rn l G d mc ms M h0 Q pc L (tI n :: st) h cu su := by
  intro p e s m args below meth c H locs ls C0 hW hE hS hl0 hL hst
  have hK := C0.2.2.2.2.2.2.1.1
  have hts := C0.2.2.2.2.2.1
  subst hN'
  refine W.anew C0.1 C0.2.1 C0.2.2.2.2.1 (hts _ hcl) (hts _ hov) rfl hd rfl hn hbytes hc.1 hc.2 fun cA kA comp f1 f2 f3 f4 => ?_
  generalize hH1 : H.push ({ cls := cA, slots := Array.replicate n.toNatClampNeg .null, vm := .none } : Cell) = H1
  have z1 : H1.size = H.size + 1 := by rw [← hH1, Array.size_push]
  have e1 : H1[H.size]? = some (arrV cA n.toNatClampNeg (fun _ => .null)) := by rw [← hH1, Array.getElem?_push_size, ← arrV_new]
  have o1 : ∀ q : Nat, q < H.size → H1[q]? = H[q]? := fun q hq => by rw [← hH1, Array.getElem?_push, if_neg (Nat.ne_of_lt hq)]
  have hcA : cA = G.2.2.1 (50 + kd) := by
    obtain ⟨_, _, _, _, _, z⟩ := (hK.2 ti _ ht).2
    exact Option.some.inj (f1.symm.trans z)
  subst hcA
  have hee : ext h (nw h (50 + kd, n.toNatClampNeg)) := ext_nw
  have eT : hT (nw h (50 + kd, n.toNatClampNeg)) (hN h) = (50 + kd, n.toNatClampNeg) := va_up_self _ _ _
  have q := kk p e s m args below meth c H1 locs ls C0 (wd_nw hW (fun z => absurd z (by show ¬ 50 + kd < 40; omega)) z1 o1 ((atc_A eT (by omega)).mpr ?_)) (hE.trans hee) (S_grow hS z1 o1) hl0 (hL.ext hee) ⟨fun b hb => by cases hb; exact ⟨Nat.lt_succ_self _, eT⟩, hst.2.ext hee⟩
  · rw [show (tR (50 + kd) n.toNatClampNeg (some (hN h)) :: st).map (cv G) = Value.ref H.size :: st.map (cv G) by rw [hW.1]; rfl] at q
    exact q
  · unfold atA
    rw [← hW.1, e1]
    congr 2
    funext j
    have eR : hR (nw h (50 + kd, n.toNatClampNeg)) (hN h) = fun _ => none := va_up_self _ _ _
    have w1 : ¬ 50 + kd = 43 := by omega
    have w2 : ¬ 50 + kd < 43 := by omega
    simp only [ev, if_neg w1, if_neg w2, eR]
    rfl
end RH
end
section
/-! CONTRACTS AND CALLS -/
def Ct (l : Launch) (G : Cx) (d mc ms : Nat) (y : MethodName) (M : Mth) (as : List TV) (h : Hp) (Q : Option TV → Hp → Prop) : Prop :=
  Met l y (Cond.code y M.1 M.2.1 M.2.2.1 :: GW) (rmOf d mc ms) (va_Pc (as.map (cv G)) (fun U => Wd G h U.heap ∧ Kx G U ∧ tyL h as)) (PostU G h Q) mc ms (Ag G)
def entL : List TV → List (Option TV)
  | [] => []
  | .inl x :: l => some (.inl x) :: entL l
  | .inr (.inl x) :: l => some (tJ x) :: none :: entL l
  | .inr (.inr (.inl x)) :: l => some (.inr (.inr (.inl x))) :: entL l
  | .inr (.inr (.inr x)) :: l => some (tS x) :: entL l
def wrds : List TV → Nat
  | [] => 0
  | .inr (.inl _) :: l => 2 + wrds l
  | _ :: l => 1 + wrds l
theorem cat_I (G : Cx) (x : Int32) : (cv G (.inl x)).category = 1 := rfl
theorem cat_J (G : Cx) (x : Int64) : (cv G (.inr (.inl x))).category = 2 := rfl
theorem cat_R (G : Cx) (q : (Nat × Nat) × Option Nat) : (cv G (.inr (.inr (.inl q)))).category = 1 := by
  obtain ⟨⟨k, n⟩, r⟩ := q
  exact cv_cat1R
theorem cat_S (G : Cx) (x : Nat) : (cv G (.inr (.inr (.inr x)))).category = 1 := rfl
theorem entL_asc {G : Cx} : ∀ {as : List TV} {i : Nat} {q : Nat × Value}, q ∈ asc G i (entL as) → q ∈ lv_args i (as.map (cv G))
  | [], i, q, h => by cases h
  | .inl x :: l, i, q, h => by
    rw [entL, asc_cons] at h
    rw [List.map_cons, lv_args, if_neg (by rw [cat_I]; decide)]
    rcases h with ⟨w, hw, e⟩ | h
    · cases hw; rw [e]; exact List.mem_cons_self
    · exact List.mem_cons_of_mem _ (entL_asc h)
  | .inr (.inl x) :: l, i, q, h => by
    rw [entL, asc_cons, asc_cons] at h
    rw [List.map_cons, lv_args, if_pos (cat_J G x)]
    rcases h with ⟨w, hw, e⟩ | ⟨w, hw, e⟩ | h
    · cases hw; rw [e]; exact List.mem_cons_self
    · cases hw
    · exact List.mem_cons_of_mem _ (entL_asc h)
  | .inr (.inr (.inl x)) :: l, i, q, h => by
    rw [entL, asc_cons] at h
    rw [List.map_cons, lv_args, if_neg (by rw [cat_R]; decide)]
    rcases h with ⟨w, hw, e⟩ | h
    · cases hw; rw [e]; exact List.mem_cons_self
    · exact List.mem_cons_of_mem _ (entL_asc h)
  | .inr (.inr (.inr x)) :: l, i, q, h => by
    rw [entL, asc_cons] at h
    rw [List.map_cons, lv_args, if_neg (by rw [cat_S]; decide)]
    rcases h with ⟨w, hw, e⟩ | h
    · cases hw; rw [e]; exact List.mem_cons_self
    · exact List.mem_cons_of_mem _ (entL_asc h)
theorem wrds_eq {G : Cx} : ∀ {as : List TV}, (lg_sl (as.map (cv G))).length = wrds as
  | [] => rfl
  | .inl x :: l => by
    have e := wrds_eq (G := G) (as := l)
    simp only [lg_sl, List.map_cons, List.flatMap_cons, List.length_append] at e ⊢
    rw [e]; simp [cat_I, wrds]
  | .inr (.inl x) :: l => by
    have e := wrds_eq (G := G) (as := l)
    simp only [lg_sl, List.map_cons, List.flatMap_cons, List.length_append] at e ⊢
    rw [e]; simp [cat_J, wrds]
  | .inr (.inr (.inl x)) :: l => by
    have e := wrds_eq (G := G) (as := l)
    simp only [lg_sl, List.map_cons, List.flatMap_cons, List.length_append] at e ⊢
    rw [e]; simp [cat_R, wrds]
  | .inr (.inr (.inr x)) :: l => by
    have e := wrds_eq (G := G) (as := l)
    simp only [lg_sl, List.map_cons, List.flatMap_cons, List.length_append] at e ⊢
    rw [e]; simp [cat_S, wrds]
theorem entL_ty {h : Hp} : ∀ {as : List TV}, tyL h as → tyO h (entL as)
  | [], _ => trivial
  | .inl x :: l, t => ⟨t.1, entL_ty t.2⟩
  | .inr (.inl x) :: l, t => ⟨t.1, entL_ty (as := l) t.2⟩
  | .inr (.inr (.inl x)) :: l, t => ⟨t.1, entL_ty t.2⟩
  | .inr (.inr (.inr x)) :: l, t => ⟨t.1, entL_ty t.2⟩
/-- a contract out of its body -/
theorem Ct.of {l : Launch} {G : Cx} {d mc ms : Nat} {y : MethodName} {M : Mth} {as : List TV} {h : Hp} {Q : Option TV → Hp → Prop} {L : List (Option TV)} (hy : plainName y.cls = true) (hyc : y.cls = M.2.2.2.1) (hyn : y.name = M.2.2.2.2) (hw : wrds as ≤ M.2.1) (hL : entL as = L)
    (body : Rn l G d mc ms M h Q 0 L [] h 0 0) : Ct l G d mc ms y M as h Q := by
  subst hL
  refine Met.ofW (cc := M.1) (maxL := M.2.1) (ret := M.2.2.1) hy rfl ?_
  intro p e s m args below meth c s₁ B hml hv
  obtain ⟨rfl, hW, hK, hty⟩ := hv
  have hts := atoms_spec (ws := Cond.code y M.1 M.2.1 M.2.2.1 :: GW) B.pre
  have hown : s.vm.findClass M.2.2.2.1 = some m.cls := by rw [← hyc]; exact findClass_of_methodNamed B.named
  have hin : meth.name = M.2.2.2.2 := by rw [← hyn]; exact (name_of_methodNamed B.named B.method).1
  have hl := lv_entry (as.map (cv G)) (n := M.2.1) (by rw [wrds_eq]; exact hw)
  rw [lg_entry_eq]
  exact body p e s m _ below meth c s.heap [] _ ⟨B.exec, B.bytes, hml, B.returns, hown, fun w h => hts w (List.mem_cons_of_mem _ h), hK, B.notSynchronized, hin⟩ hW (ext.rf _) va_S.rf ⟨hl.1, hl.2.1, fun q hq => hl.2.2 q (entL_asc hq)⟩ (entL_ty hty) trivial
theorem Ct.mono {l : Launch} {G : Cx} {d mc ms : Nat} {y : MethodName} {M : Mth} {as : List TV} {h : Hp} {Q Q' : Option TV → Hp → Prop} (hQ : ∀ r h', Q r h' → Q' r h') (c : Ct l G d mc ms y M as h Q) : Ct l G d mc ms y M as h Q' := by
  intro p e a1 a2 a3 s m args below b1 b2 b3 b4
  obtain ⟨k, o, c1, c2, c3, ⟨⟨r, h', c4, c5, c6⟩, c7⟩, c8⟩ := c p e a1 a2 a3 s m args below b1 b2 b3 b4
  exact ⟨k, o, c1, c2, c3, ⟨⟨r, h', c4, hQ r h' c5, c6⟩, c7⟩, c8⟩
/-- what a call of a method needs of the tables, wherever it stands -/
def MI (y : MethodName) (M : Mth) (n : Nat) : Prop := Cond.code y M.1 M.2.1 M.2.2.1 ∈ GW ∧ Cond.initialized y.cls ∈ GW ∧ y.cls ≠ "java/lang/invoke/MethodHandle" ∧ y.cls ≠ "java/lang/invoke/VarHandle" ∧ (parseMethodDescriptor y.desc).map (fun d => d.parameters.length) = some n ∧ M.2.1 ≤ 29
section RC
variable {l : Launch} {G : Cx} {d mc ms : Nat} {M : Mth} {h0 : Hp} {Q : Option TV → Hp → Prop} {pc : Nat} {L : List (Option TV)} {st : List TV} {h : Hp} {cu su : Nat}
theorem blindC {as : List TV} : FrameBlind (va_Pc (as.map (cv G)) (fun U => Wd G h U.heap ∧ Kx G U ∧ tyL h as)) := by
  intro a U g mk q
  exact ⟨q.1, q.2.1, q.2.2.1.call, q.2.2.2⟩
theorem goodC {y : MethodName} {My : Mth} {n : Nat} (mi : MI y My n) : GoodIn GW (Cond.code y My.1 My.2.1 My.2.2.1 :: GW) := by
  intro w hw
  rcases List.mem_cons.mp hw with e | e
  · rw [e]; exact ⟨mi.1, GW_good _ mi.1⟩
  · exact ⟨e, GW_good _ e⟩
/-- behind a call -/
theorem r_go {p : Program} {e : Env} {s : State} {m : MethodId} {args a : Array Value} {below : List Frame} {meth : Method} {c : Code} {H : Heap} {locs : List Loc} {ls : Array Slot} {mc' ms' : Nat} {Q' : Option TV → Hp → Prop} {st0 : List Value} (C0 : Cm G M p s m args meth c) (hE : ext h0 h) (hS : va_S (Ag G) s.heap H locs) (hl0 : lv_has ls M.2.1 (asc G 0 L)) (hL : tyO h L) (hst : tyL h st)
    (hr : va_Run p l e (rmOf d mc ms) s m args below meth c H locs cu su mc' ms' (F0 m pc ls st0) (st.map (cv G)) (PostU G h Q' a) (Ag G))
    (kk : ∀ r h', Q' r h' → ext h h' → Rn l G d mc ms M h0 Q (pc + 3) L (r.toList ++ st) h' (cu + mc') (su + ms')) : W p l e (rmOf d mc ms) s m args below meth c H locs cu su (MQ below (PostU G h0 Q) args s mc ms (Ag G)) (F0 m pc ls st0) := by
  intro T hT' X
  obtain ⟨v, st₀, t, T', L1, g0, X', hL1, e1, e2, ⟨⟨r, h', hv, hq, he, ht, hw⟩, hz, hk⟩, stp⟩ := hr T hT' X
  have hv : v = r.map (cv G) := Outcome.returned.inj hv
  rw [g0] at hz hk
  have hS' : va_S (Ag G) s.heap T'.heap (locs ++ L1) := ⟨Nat.le_trans hS.1 (by rw [e1]; exact hz), fun q h1 h2 => by rw [e1, hk q (Nat.lt_of_lt_of_le h1 hS.1) h2]; exact hS.2.1 q h1 h2, fun q hq => by
      rcases List.mem_append.mp hq with h | h
      · exact hS.2.2 q h
      · exact hL1 q h⟩
  have hst' : tyL h' (r.toList ++ st) := by
    cases r with
    | none => exact hst.ext he
    | some w => exact ⟨ht w rfl, hst.ext he⟩
  obtain ⟨t2, a1, b1⟩ := kk r h' hq he p e s m args below meth c T'.heap (locs ++ L1) ls C0 (by rw [e1]; exact hw) (hE.trans he) hS' hl0 (hL.ext he) hst' T' rfl X'
  refine ⟨t2, stp t2 ?_, b1⟩
  have e3 : (r.toList ++ st).map (cv G) = v.toList ++ st.map (cv G) := by rw [hv]; cases r <;> rfl
  rw [e3] at a1
  exact a1
theorem rest_ok {m : MethodId} {ls : Array Slot} {s0 : List Value} (h : (st.map fun v => (cv G v).category).sum ≤ 8) : 2 * (F0 m pc ls s0).monitorRoom + ((st.map (cv G)).map fun v => v.category).sum ≤ 8 := by
  refine lv_room ?_
  rw [List.map_map]
  exact h
def cats : List TV → Nat
  | [] => 0
  | .inr (.inl _) :: l => 2 + cats l
  | _ :: l => 1 + cats l
theorem cats_eq : ∀ {l : List TV}, (l.map fun v => (cv G v).category).sum = cats l
  | [] => rfl
  | .inl x :: l => by rw [List.map_cons, List.sum_cons, cats_eq (l := l), cat_I]; rfl
  | .inr (.inl x) :: l => by rw [List.map_cons, List.sum_cons, cats_eq (l := l), cat_J]; rfl
  | .inr (.inr (.inl x)) :: l => by rw [List.map_cons, List.sum_cons, cats_eq (l := l), cat_R]; rfl
  | .inr (.inr (.inr x)) :: l => by rw [List.map_cons, List.sum_cons, cats_eq (l := l), cat_S]; rfl
theorem r_callV {ci d' mc' ms' idx n b : Nat} {C : String} {T : u_T} {ty0 : Nat → FieldType} {y : MethodName} {My : Mth} {as : List TV} {s0 : List TV} {Q' : Option TV → Hp → Prop} (cl : Cl ci C T ty0) (hd : decode M.1 pc = .ok (.invokevirtual idx, 3)) (mi : MI y My n) (hlk : Cond.methodLink M.2.2.2.1 idx y ∈ GW) (hin : Cond.instanceMethod y ∈ GW) (hsel : Cond.selects C y y ∈ GW)
    (hn : as.length = n) (hs0 : s0 = as.reverse ++ tR ci 0 (some b) :: st) (hr : cats st ≤ 8) (hdd : d' + 1 ≤ d) (hc : cu + mc' ≤ mc ∧ su + ms' ≤ ms) (hct : Ct l G d' mc' ms' y My (tR ci 0 (some b) :: as) h Q') (kk : ∀ r h', Q' r h' → ext h h' → Rn l G d mc ms M h0 Q (pc + 3) L (r.toList ++ st) h' (cu + mc') (su + ms')) : Rn l G d mc ms M h0 Q pc L s0 h cu su := by
  subst hs0
  intro p e s m args below meth c H locs ls C0 hW hE hS hl0 hL hst
  have hsp : tyL h as ∧ ty1 h (tR ci 0 (some b)) ∧ tyL h st := by
    have key : ∀ {a1 a2 : List TV}, tyL h (a1 ++ a2) ↔ tyL h a1 ∧ tyL h a2 := by
      intro a1 a2
      induction a1 with
      | nil => simp [tyL]
      | cons x l ih => simp only [List.cons_append, tyL, ih, and_assoc]
    have key2 : ∀ {a1 : List TV}, tyL h a1.reverse → tyL h a1 := by
      intro a1
      induction a1 with
      | nil => exact id
      | cons x l ih => intro q; rw [List.reverse_cons, key] at q; exact ⟨q.2.1, ih q.1⟩
    have q := key.mp hst
    exact ⟨key2 q.1, q.2.1, q.2.2⟩
  obtain ⟨hb, htb⟩ := hsp.2.1 b rfl
  have hts := C0.2.2.2.2.2.1
  have hK := C0.2.2.2.2.2.2.1
  have hat : atO G h ci b H := (atc_O (by rw [htb]; exact Or.inl rfl) cl.2.1).mp (hW.2.1 b hb)
  obtain ⟨cellB, g1, g2, g3, -⟩ := hat
  have cb : CallB (rmOf d mc ms) s args M.2.2.2.1 idx y My.1 My.2.1 My.2.2.1 (Cond.code y My.1 My.2.1 My.2.2.1 :: GW) (rmOf d' mc' ms') mc' ms' n :=
    callB_of n hts (goodC mi) rfl rfl rfl (hts _ mi.2.1) (hts _ hlk) ⟨mi.2.2.1, mi.2.2.2.1, mi.2.2.2.2.1⟩ ⟨hdd, by show 8 + (My.2.1 + 11) + 48 * d' ≤ 48 * d; have := mi.2.2.2.2.2; omega⟩
  refine r_go (st0 := (as.reverse ++ tR ci 0 (some b) :: st).map (cv G)) C0 hE hS hl0 hL hsp.2.2 (va_runV (As := as.map (cv G)) (b := G.1 + b) (C := C) ⟨C0.1, C0.2.1, C0.2.2.1, C0.2.2.2.2.1, hts⟩ hct ⟨cb, hts _ hin, hts _ hsel⟩ ⟨blindC, ⟨cellB, g1, by rw [g3]; rfl, by rw [g2]; exact (hK.1.1 ci _ cl.1).2.1⟩, fun U hU hWm => ⟨rfl, by rw [hU]; exact hW, hK.to hWm (fun a ha hna => by rw [hU]; exact hS.2.1 a ha hna), hsp.2.1, hsp.1⟩⟩ rfl (by rw [List.length_map]; exact hn) hl0.1 ?_ (rest_ok (by rw [cats_eq]; exact hr)) hd hc) kk
  show List.map (cv G) (as.reverse ++ tR ci 0 (some b) :: st) = _
  rw [List.map_append, List.map_reverse, List.map_cons]
  rfl
theorem tyL_app {h : Hp} : ∀ {a1 a2 : List TV}, tyL h (a1 ++ a2) ↔ tyL h a1 ∧ tyL h a2
  | [], a2 => by simp [tyL]
  | x :: l, a2 => by simp only [List.cons_append, tyL, tyL_app (a1 := l), and_assoc]
theorem tyL_rev {h : Hp} : ∀ {a1 : List TV}, tyL h a1.reverse → tyL h a1
  | [], q => q
  | x :: l, q => by rw [List.reverse_cons, tyL_app] at q; exact ⟨q.2.1, tyL_rev q.1⟩
theorem r_callS {d' mc' ms' idx n : Nat} {y : MethodName} {My : Mth} {as : List TV} {s0 : List TV} {Q' : Option TV → Hp → Prop} (hd : decode M.1 pc = .ok (.invokestatic idx, 3)) (mi : MI y My n) (hlk : Cond.methodLink M.2.2.2.1 idx y ∈ GW) (hstt : Cond.static y ∈ GW)
    (hn : as.length = n) (hs0 : s0 = as.reverse ++ st) (hr : cats st ≤ 8) (hdd : d' + 1 ≤ d) (hc : cu + mc' ≤ mc ∧ su + ms' ≤ ms) (hct : Ct l G d' mc' ms' y My as h Q') (kk : ∀ r h', Q' r h' → ext h h' → Rn l G d mc ms M h0 Q (pc + 3) L (r.toList ++ st) h' (cu + mc') (su + ms')) : Rn l G d mc ms M h0 Q pc L s0 h cu su := by
  subst hs0
  intro p e s m args below meth c H locs ls C0 hW hE hS hl0 hL hst
  have q0 := tyL_app.mp hst
  have hts := C0.2.2.2.2.2.1
  have hK := C0.2.2.2.2.2.2.1
  have cb : CallB (rmOf d mc ms) s args M.2.2.2.1 idx y My.1 My.2.1 My.2.2.1 (Cond.code y My.1 My.2.1 My.2.2.1 :: GW) (rmOf d' mc' ms') mc' ms' n :=
    callB_of n hts (goodC mi) rfl rfl rfl (hts _ mi.2.1) (hts _ hlk) ⟨mi.2.2.1, mi.2.2.2.1, mi.2.2.2.2.1⟩ ⟨hdd, by show 8 + (My.2.1 + 11) + 48 * d' ≤ 48 * d; have := mi.2.2.2.2.2; omega⟩
  refine r_go (st0 := (as.reverse ++ st).map (cv G)) C0 hE hS hl0 hL q0.2 (va_runS (As := as.map (cv G)) ⟨C0.1, C0.2.1, C0.2.2.1, C0.2.2.2.2.1, hts⟩ hct ⟨cb, hts _ hstt⟩ ⟨blindC, fun U hU hWm => ⟨rfl, by rw [hU]; exact hW, hK.to hWm (fun a ha hna => by rw [hU]; exact hS.2.1 a ha hna), tyL_rev q0.1⟩⟩ rfl (by rw [List.length_map]; exact hn) hl0.1 ?_ (rest_ok (by rw [cats_eq]; exact hr)) hd hc) kk
  show List.map (cv G) (as.reverse ++ st) = _
  rw [List.map_append, List.map_reverse]
/-- an object is made: from now on its fields that hold one reference for good do so -/
def sealOK (h : Hp) (a ci : Nat) : Prop := ∀ k b n, fcon ci k a = some (b, n) → hR h a k = some b ∧ hT h b = (fref ci k, n) ∧ b < hN h
theorem WF_seal {h : Hp} {a ci : Nat} (hF : WF h) (ha : a < hN h) (hc : ci < 20) (hta : hT h a = (20 + ci, 0)) (hs : sealOK h a ci) : WF (wT h a (ci, 0)) := by
  have eT : ∀ b, b ≠ a → hT (wT h a (ci, 0)) b = hT h b := fun b hb => va_up_ne _ _ hb
  have eTa : hT (wT h a (ci, 0)) a = (ci, 0) := va_up_self _ _ _
  have no : ∀ b kd, (hT h b).1 = kd → (kd < 20 ∨ 40 ≤ kd) → b ≠ a := by
    intro b kd hb hk e
    rw [e, hta] at hb
    dsimp only at hb
    omega
  intro b hb
  have hb : b < hN h := hb
  obtain ⟨g1, g2, g3, g4⟩ := hF b hb
  by_cases hab : b = a
  · subst hab
    unfold WFa
    rw [eTa]
    rw [hta] at g1 g2 g3 g4
    refine ⟨fun _ => rfl, fun _ k hk hty q hq => ?_, fun _ k q n hq => ?_, fun z => ?_⟩
    · have e : (20 + ci) % 20 = ci % 20 := by omega
      have z := g2 (by show 20 + ci < 40; omega) k (by show k < fnum ((20 + ci) % 20); rw [e]; exact hk) (by show fty ((20 + ci) % 20) k = 2; rw [e]; exact hty) q hq
      have z2 : (hT h q).1 = fref ((20 + ci) % 20) k := z.2
      rw [e] at z2
      refine ⟨z.1, ?_⟩
      rw [eT q (no q _ z2 (fref_ok _ _))]
      exact z2
    · have z := hs k q n hq
      refine ⟨z.1, ?_, z.2.2⟩
      have z2 : (hT h q).1 = fref ci k := by rw [z.2.1]
      rw [eT q (no q _ z2 (fref_ok _ _))]
      exact z.2.1
    · exfalso
      have z : 50 ≤ ci := z
      omega
  · unfold WFa
    rw [eT b hab]
    refine ⟨g1, fun z k hk hty q hq => ?_, fun z k q n hq => ?_, fun z j q hq => ?_⟩
    · have w := g2 z k hk hty q hq
      exact ⟨w.1, by rw [eT q (no q _ w.2 (fref_ok _ _))]; exact w.2⟩
    · have w := g3 z k q n hq
      have w2 : (hT h q).1 = fref (hT h b).1 k := by rw [w.2.1]
      exact ⟨w.1, by rw [eT q (no q _ w2 (fref_ok _ _))]; exact w.2.1, w.2.2⟩
    · have w := g4 z j q hq
      refine ⟨w.1, ?_⟩
      by_cases hqa : q = a
      · exfalso
        have w2 := w.2
        rw [hqa, hta] at w2
        have w3 : 20 + ci = (hT h b).1 - 50 := congrArg Prod.fst w2.1
        have w4 := w2.2
        omega
      · rw [eT q hqa]; exact w.2
/-- no entry of this kind -/
def noK (k : Nat) : TV → Prop
  | .inr (.inr (.inl q)) => q.1.1 ≠ k
  | _ => True
theorem ty_seal {h : Hp} {a ci : Nat} {v : TV} (hta : hT h a = (20 + ci, 0)) (hv : ty1 h v) (hk : noK (20 + ci) v) : ty1 (wT h a (ci, 0)) v := by
  match v, hv, hk with
  | .inl _, _, _ => trivial
  | .inr (.inl _), _, _ => trivial
  | .inr (.inr (.inr i)), hv, _ => exact hv
  | .inr (.inr (.inl q)), hv, hk =>
    intro b hb
    have z := hv b hb
    refine ⟨z.1, ?_⟩
    have hba : b ≠ a := by
      intro e
      rw [e, hta] at z
      exact hk (by rw [← z.2])
    exact (va_up_ne _ _ hba).trans z.2
/-- the constructor is over: the object is of its kind; nothing else in this frame speaks of it but the place on the stack -/
theorem r_seal {ci a : Nat} (hc : ci < 20) (hn : hN h0 ≤ a) (hs : sealOK h a ci) (hL' : ∀ v, some v ∈ L → noK (20 + ci) v) (hst' : ∀ v, v ∈ st → noK (20 + ci) v) (kk : Rn l G d mc ms M h0 Q pc L (tR ci 0 (some a) :: st) (wT h a (ci, 0)) cu su) : Rn l G d mc ms M h0 Q pc L (tR (20 + ci) 0 (some a) :: st) h cu su := by
  intro p e s m args below meth c H locs ls C0 hW hE hS hl0 hL hst
  obtain ⟨ha, hta⟩ := hst.1 a rfl
  have eTa : hT (wT h a (ci, 0)) a = (ci, 0) := va_up_self _ _ _
  refine kk p e s m args below meth c H locs ls C0 ⟨hW.1, fun b hb => ?_, WF_seal hW.2.2 ha hc hta hs⟩ ⟨hE.1, fun b hb => ?_⟩ hS hl0 (tyO_mem.mpr fun v hv => ty_seal hta (tyO_mem.mp hL v hv) (hL' v hv)) ⟨fun b hb => by cases hb; exact ⟨ha, eTa⟩, ?_⟩
  · have hb : b < hN h := hb
    by_cases hab : b = a
    · subst hab
      refine (atc_O (by rw [eTa]; exact Or.inl rfl) hc).mpr ?_
      have z : atO G h ci b H := (atc_O (h := h) (by rw [hta]; exact Or.inr rfl) hc).mp (hW.2.1 b hb)
      exact z
    · exact atc_same (hW.2.1 b hb) (va_up_ne _ _ hab) rfl rfl rfl rfl
  · exact (va_up_ne _ _ (by omega)).trans (hE.2 b hb)
  · have key : ∀ {l : List TV}, tyL h l → (∀ v, v ∈ l → noK (20 + ci) v) → tyL (wT h a (ci, 0)) l := by
      intro l
      induction l with
      | nil => intro _ _; trivial
      | cons x l ih => intro t n; exact ⟨ty_seal hta t.1 (n x List.mem_cons_self), ih t.2 (fun v hv => n v (List.mem_cons_of_mem _ hv))⟩
    exact key hst.2 hst'
theorem r_objInit {kd idx a : Nat} (hd : decode M.1 pc = .ok (.invokespecial idx, 3)) (hl1 : Cond.methodLink M.2.2.2.1 idx Lib.objectInit ∈ GW) (hi : Cond.instanceMethod Lib.objectInit ∈ GW) (hco : Cond.code Lib.objectInit ⟨#[0xb1]⟩ 1 none ∈ GW) (hdd : 1 ≤ d) (hr : cats st ≤ 8) (kk : Rn l G d mc ms M h0 Q (pc + 3) L st h cu su) : Rn l G d mc ms M h0 Q pc L (tR kd 0 (some a) :: st) h cu su := by
  intro p e s m args below meth c H locs ls C0 hW hE hS hl0 hL hst
  have hts := C0.2.2.2.2.2.1
  refine W.objInit C0.1 C0.2.1 C0.2.2.2.2.1 (hts _ hl1) (hts _ hi) (hts _ hco) rfl (hl0.1.trans C0.2.2.1.symm) rfl hd hdd ?_ (kk p e s m args below meth c H locs ls C0 hW hE hS hl0 hL hst.2)
  have q := rest_ok (G := G) (pc := pc) (m := m) (ls := ls) (s0 := (tR kd 0 (some a) :: st).map (cv G)) (st := st) (by rw [cats_eq]; exact hr)
  show _ ≤ 48 * d
  omega
theorem r_callI {ci d' mc' ms' idx n b : Nat} {y : MethodName} {My : Mth} {as : List TV} {s0 : List TV} {Q' : Option TV → Hp → Prop} (hd : decode M.1 pc = .ok (.invokespecial idx, 3)) (mi : MI y My n) (hrn : My.2.2.1 = none) (hlk : Cond.methodLink M.2.2.2.1 idx y ∈ GW) (hin : Cond.instanceMethod y ∈ GW) (hy1 : y.name = "<init>")
    (hn : as.length = n) (hs0 : s0 = as.reverse ++ tR (20 + ci) 0 (some b) :: st) (hr : cats st ≤ 8) (hdd : d' + 1 ≤ d) (hc : cu + mc' ≤ mc ∧ su + ms' ≤ ms) (hct : Ct l G d' mc' ms' y My (tR (20 + ci) 0 (some b) :: as) h Q') (kk : ∀ r h', Q' r h' → ext h h' → Rn l G d mc ms M h0 Q (pc + 3) L (r.toList ++ st) h' (cu + mc') (su + ms')) : Rn l G d mc ms M h0 Q pc L s0 h cu su := by
  subst hs0
  intro p e s m args below meth c H locs ls C0 hW hE hS hl0 hL hst
  have q0 := tyL_app.mp hst
  have hts := C0.2.2.2.2.2.1
  have hK := C0.2.2.2.2.2.2.1
  have cb : CallB (rmOf d mc ms) s args M.2.2.2.1 idx y My.1 My.2.1 none (Cond.code y My.1 My.2.1 My.2.2.1 :: GW) (rmOf d' mc' ms') mc' ms' n :=
    callB_of n hts (goodC mi) (by rw [hrn]) rfl rfl (hts _ mi.2.1) (hts _ hlk) ⟨mi.2.2.1, mi.2.2.2.1, mi.2.2.2.2.1⟩ ⟨hdd, by show 8 + (My.2.1 + 11) + 48 * d' ≤ 48 * d; have := mi.2.2.2.2.2; omega⟩
  refine r_go (st0 := (as.reverse ++ tR (20 + ci) 0 (some b) :: st).map (cv G)) C0 hE hS hl0 hL q0.2.2 (va_runI (As := as.map (cv G)) (b := G.1 + b) ⟨C0.1, C0.2.1, C0.2.2.1, C0.2.2.2.2.1, hts⟩ hct ⟨cb, hy1, hts _ hin⟩ ⟨blindC, fun U hU hWm => ⟨rfl, by rw [hU]; exact hW, hK.to hWm (fun a ha hna => by rw [hU]; exact hS.2.1 a ha hna), q0.2.1, tyL_rev q0.1⟩⟩ rfl (by rw [List.length_map]; exact hn) hl0.1 ?_ (rest_ok (by rw [cats_eq]; exact hr)) hd hc) kk
  show List.map (cv G) (as.reverse ++ tR (20 + ci) 0 (some b) :: st) = _
  rw [List.map_append, List.map_reverse, List.map_cons]
  rfl
theorem r_callIN {ci d' mc' ms' idx n b : Nat} {host : String} {y : MethodName} {My : Mth} {as : List TV} {s0 : List TV} {Q' : Option TV → Hp → Prop} (hd : decode M.1 pc = .ok (.invokespecial idx, 3)) (mi : MI y My n) (hrn : My.2.2.1 = none) (hlk : Cond.methodLinkNest M.2.2.2.1 idx y host ∈ GW) (hin : Cond.instanceMethod y ∈ GW) (hy1 : y.name = "<init>")
    (hn : as.length = n) (hs0 : s0 = as.reverse ++ tR (20 + ci) 0 (some b) :: st) (hr : cats st ≤ 8) (hdd : d' + 1 ≤ d) (hc : cu + mc' ≤ mc ∧ su + ms' ≤ ms) (hct : Ct l G d' mc' ms' y My (tR (20 + ci) 0 (some b) :: as) h Q') (kk : ∀ r h', Q' r h' → ext h h' → Rn l G d mc ms M h0 Q (pc + 3) L (r.toList ++ st) h' (cu + mc') (su + ms')) : Rn l G d mc ms M h0 Q pc L s0 h cu su := by
  subst hs0
  intro p e s m args below meth c H locs ls C0 hW hE hS hl0 hL hst
  have q0 := tyL_app.mp hst
  have hts := C0.2.2.2.2.2.1
  have hK := C0.2.2.2.2.2.2.1
  have cb : va_CN (rmOf d mc ms) s args M.2.2.2.1 idx y host My.1 My.2.1 none (Cond.code y My.1 My.2.1 My.2.2.1 :: GW) (rmOf d' mc' ms') mc' ms' n := by
    refine ⟨⟨rfl, rfl, hdd, by show 8 + (My.2.1 + 11) + 48 * d' ≤ 48 * d; have := mi.2.2.2.2.2; omega, pay_in hts (goodC mi), by rw [hrn]; exact List.mem_cons_self⟩, by have z := hts _ mi.1; rw [hrn] at z; exact z, hts _ mi.2.1, ⟨mi.2.2.1, mi.2.2.2.1⟩, fun sig h => ?_, hts _ hlk⟩
    have h2 := mi.2.2.2.2.1
    rw [h] at h2
    exact (Option.some.inj h2).symm
  refine r_go (st0 := (as.reverse ++ tR (20 + ci) 0 (some b) :: st).map (cv G)) C0 hE hS hl0 hL q0.2.2 (va_runIN (As := as.map (cv G)) (b := G.1 + b) ⟨C0.1, C0.2.1, C0.2.2.1, C0.2.2.2.2.1, hts⟩ hct ⟨cb, hy1, hts _ hin⟩ ⟨blindC, fun U hU hWm => ⟨rfl, by rw [hU]; exact hW, hK.to hWm (fun a ha hna => by rw [hU]; exact hS.2.1 a ha hna), q0.2.1, tyL_rev q0.1⟩⟩ rfl (by rw [List.length_map]; exact hn) hl0.1 ?_ (rest_ok (by rw [cats_eq]; exact hr)) hd hc) kk
  show List.map (cv G) (as.reverse ++ tR (20 + ci) 0 (some b) :: st) = _
  rw [List.map_append, List.map_reverse, List.map_cons]
  rfl
end RC
end
section
section RJ
variable {l : Launch} {G : Cx} {d mc ms : Nat} {M : Mth} {h0 : Hp} {Q : Option TV → Hp → Prop} {pc : Nat} {L : List (Option TV)} {st : List TV} {h : Hp} {cu su : Nat}
theorem toInt_cl {z : Int32} (hz : ¬ z < 0) : z.toInt = (z.toNatClampNeg : Int) := by
  have hz0 : (0 : Int) ≤ z.toInt := by
    have := Int32.not_lt.mp hz
    simpa using Int32.le_iff_toInt_le.mp this
  show z.toInt = ((z.toInt.toNat : Nat) : Int)
  omega
theorem r_copy {idx a b n0 n1 : Nat} {sp dp n : Int32} (hd : decode M.1 pc = .ok (.invokestatic idx, 3)) (hlk : Cond.methodLink M.2.2.2.1 idx arraycopyName ∈ GW) (hnat : Cond.native arraycopyName ∈ GW) (hstt : Cond.static arraycopyName ∈ GW) (hini : Cond.initialized "java/lang/System" ∈ GW)
    (h1 : ¬ sp < 0) (h2 : ¬ dp < 0) (h3 : ¬ n < 0) (h4 : sp.toNatClampNeg + n.toNatClampNeg ≤ n0) (h5 : dp.toNatClampNeg + n.toNatClampNeg ≤ n1) (hdd : 1 ≤ d) (hr : cats st ≤ 8)
    (kk : Rn l G d mc ms M h0 Q (pc + 3) L st (cpI h a sp.toNatClampNeg b dp.toNatClampNeg n.toNatClampNeg) cu su) : Rn l G d mc ms M h0 Q pc L (tI n :: tI dp :: tR 40 n1 (some b) :: tI sp :: tR 40 n0 (some a) :: st) h cu su := by
  intro p e s m args below meth c H locs ls C0 hW hE hS hl0 hL hst
  obtain ⟨ha, hta⟩ := hst.2.2.2.2.1 a rfl
  obtain ⟨hb, htb⟩ := hst.2.2.1 b rfl
  have hata : atA G h 40 n0 a H := (atc_A hta (by decide)).mp (hW.2.1 a ha)
  have hatb : atA G h 40 n1 b H := (atc_A htb (by decide)).mp (hW.2.1 b hb)
  have hK := C0.2.2.2.2.2.2.1.1
  have hts := C0.2.2.2.2.2.1
  have hfr := rest_ok (G := G) (pc := pc) (m := m) (ls := ls) (s0 := []) (st := st) (by rw [cats_eq]; exact hr)
  have eva : ∀ q, ev G h 40 q = fun j => .int (hI h q j) := fun q => rfl
  unfold atA at hata hatb
  rw [eva] at hata hatb
  intro T hT' X
  obtain ⟨-, k0, hk0, cm0, hkk0⟩ := (hK.2 0 _ rfl).1 n0 (fun j => .int (hI h a j))
  obtain ⟨-, k1, hk1, cm1, hkk1⟩ := (hK.2 0 _ rfl).1 n1 (fun j => .int (hI h b j))
  obtain ⟨vm', X', step⟩ := X.arraycopy C0.1 C0.2.2.2.2.1 (hts _ hlk) (hts _ hnat) (hts _ hstt) (hts _ hini) (src := G.1 + a) (dst := G.1 + b) (srcPos := sp) (destPos := dp) (n := n) (by rw [hT']; exact hata) (by rw [hT']; exact hatb)
    (fun _ z => by cases z) (fun _ z => by cases z) (fun z => by cases z) (fun z => by cases z) hk0 hk1 hkk0 hkk1 rfl h1 h2 h3
    (by rw [toInt_cl h1, toInt_cl h3, arrV_size]; omega) (by rw [toInt_cl h2, toInt_cl h3, arrV_size]; omega)
    (fun vm₁ _ i hi => by
      have e1 : (arrV (G.2.2.1 40) n0 (fun j => .int (hI h a j))).slots.getD (sp.toNatClampNeg + i) .null = .int (hI h a (sp.toNatClampNeg + i)) := by
        rw [Array.getD_eq_getD_getElem?, arrV_read _ _ (by omega)]
        rfl
      rw [e1]
      exact ⟨rfl, trivial⟩)
    (g := F0 m pc ls ((tI n :: tI dp :: tR 40 n1 (some b) :: tI sp :: tR 40 n0 (some a) :: st).map (cv G))) rfl (hl0.1.trans C0.2.2.1.symm) (rest := st.map (cv G)) rfl (by rw [C0.2.1]; exact hd) hdd (by
      have e2 : nativeFrameWords "java/lang/System" "arraycopy" 5 + 11 ≤ 40 := by decide +kernel
      show 2 * 0 + _ + _ ≤ 48 * d
      have e3 : 2 * 0 + ((st.map (cv G)).map fun v => v.category).sum ≤ 8 := hfr
      omega)
  have e1 : copied (arrV (G.2.2.1 40) n0 (fun j => .int (hI h a j))) (arrV (G.2.2.1 40) n1 (fun j => .int (hI h b j))) sp dp n = vp_cell (G.2.2.1 40) (n1, .inl (va_cpy (hI h a) (hI h b) sp.toNatClampNeg dp.toNatClampNeg n.toNatClampNeg)) := va_copied (fun z => .int z) (G.2.2.1 40) (G.2.2.1 40) (hI h a) (hI h b) h4
  rw [e1, vp_cell_i] at X' step
  generalize hX : arrV (G.2.2.1 40) n1 (fun j => .int (va_cpy (hI h a) (hI h b) sp.toNatClampNeg dp.toNatClampNeg n.toNatClampNeg j)) = X1 at X' step
  have hheap : ((T.setVm vm').setCell (G.1 + b) X1).heap = H.setIfInBounds (G.1 + b) X1 := by rw [← hT']; rfl
  have oq : ∀ q : Nat, q ≠ G.1 + b → (H.setIfInBounds (G.1 + b) X1)[q]? = H[q]? := fun q hq => by simp [Array.getElem?_setIfInBounds, Ne.symm hq]
  have hl : G.1 + b < H.size := (Array.getElem?_eq_some_iff.mp hatb).1
  have hee : ext h (cpI h a sp.toNatClampNeg b dp.toNatClampNeg n.toNatClampNeg) := ext_of rfl rfl
  obtain ⟨t, a1, b1⟩ := kk p e s m args below meth c (H.setIfInBounds (G.1 + b) X1) _ ls C0 (wd_set (a := b) hW (by simp) oq rfl rfl (fun q hq => ⟨va_up_ne _ _ hq, rfl, rfl⟩) (WF_of hW.2.2 rfl rfl rfl) (fun _ => by
      refine (atc_A (kind := 40) (n := n1) (show hT (cpI h a sp.toNatClampNeg b dp.toNatClampNeg n.toNatClampNeg) b = _ from htb) (by decide)).mpr ?_
      unfold atA
      have e4 : ev G (cpI h a sp.toNatClampNeg b dp.toNatClampNeg n.toNatClampNeg) 40 b = fun j => .int (va_cpy (hI h a) (hI h b) sp.toNatClampNeg dp.toNatClampNeg n.toNatClampNeg j) := by
        funext j
        show Value.int (va_up (hI h) b _ b j) = _
        rw [va_up_self]
      rw [e4, hX]
      simp [Array.getElem?_setIfInBounds, hl])) (hE.trans hee) ⟨by simp; exact hS.1, fun q g1 g2 => by
      rw [oq q (fun e => g2 (by rw [e]; exact Nat.le_add_right _ _))]
      exact hS.2.1 q g1 g2, fun q hq => by
      rcases List.mem_append.mp hq with z | z
      · exact hS.2.2 q z
      · obtain ⟨w, -, hw⟩ := List.mem_map.mp z
        rw [← hw]
        exact Nat.le_add_right _ _⟩ hl0 (hL.ext hee) (hst.2.2.2.2.2.ext hee) _ hheap X'
  exact ⟨t, step t a1, b1⟩
theorem cvS {i : Nat} (hi : i < 16) : cv G (tS i) = .ref (G.2.2.2.1 i) := by simp [cv, show i < 100 by omega]
theorem cvV {i : Nat} : cv G (tS (100 + i)) = .ref (G.2.2.2.2.1 i) := by simp [cv, show ¬ 100 + i < 100 by omega]
theorem r_strVal {i idx : Nat} (hi : i < 16) (hd : decode M.1 pc = .ok (.getfield idx, 3)) (hlk : Cond.fieldLink M.2.2.2.1 idx "java/lang/String" "value" "[B" ∈ GW) (kk : Rn l G d mc ms M h0 Q (pc + 3) L (tS (100 + i) :: st) h cu su) : Rn l G d mc ms M h0 Q pc L (tS i :: st) h cu su := by
  intro p e s m args below meth c H locs ls C0 hW hE hS hl0 hL hst
  have q := kk p e s m args below meth c H locs ls C0 hW hE hS hl0 hL ⟨Or.inr (Or.inl ⟨by omega, by omega⟩), hst.2⟩
  rw [List.map_cons, cvV] at q
  rw [List.map_cons, cvS hi]
  exact vk_getf C0.1 C0.2.1 (C0.2.2.2.2.2.2.1.2.1.1 i hi).2.2.1 hS C0.2.2.2.2.1 (C0.2.2.2.2.2.1 _ hlk) (fun _ z => z) hd q
theorem r_strCoder {i idx : Nat} (hi : i < 16) (hd : decode M.1 pc = .ok (.getfield idx, 3)) (hlk : Cond.fieldLink M.2.2.2.1 idx "java/lang/String" "coder" "B" ∈ GW) (kk : Rn l G d mc ms M h0 Q (pc + 3) L (tI 0 :: st) h cu su) : Rn l G d mc ms M h0 Q pc L (tS i :: st) h cu su := by
  intro p e s m args below meth c H locs ls C0 hW hE hS hl0 hL hst
  rw [List.map_cons, cvS hi]
  exact vk_getf C0.1 C0.2.1 (C0.2.2.2.2.2.2.1.2.1.1 i hi).2.1 hS C0.2.2.2.2.1 (C0.2.2.2.2.2.1 _ hlk) (fun _ z => z) hd (kk p e s m args below meth c H locs ls C0 hW hE hS hl0 hL ⟨trivial, hst.2⟩)
theorem r_strLen {i : Nat} {v : Int32} (hi : i < 16) (hd : decode M.1 pc = .ok (.arraylength, 1)) (hv : Int32.ofNat (lenS.getD i 0) = v) (kk : Rn l G d mc ms M h0 Q (pc + 1) L (tI v :: st) h cu su) : Rn l G d mc ms M h0 Q pc L (tS (100 + i) :: st) h cu su := by
  intro p e s m args below meth c H locs ls C0 hW hE hS hl0 hL hst
  rw [List.map_cons, cvV]
  exact va_tlen C0.1 C0.2.1 (C0.2.2.2.2.2.2.1.2.1.1 i hi).2.2.2 hS hv hd (kk p e s m args below meth c H locs ls C0 hW hE hS hl0 hL ⟨trivial, hst.2⟩)
theorem r_strLd {i : Nat} {j : Int32} (hi : i < 16) (hd : decode M.1 pc = .ok (.baload, 1)) (hin : vp_in j (lenS.getD i 0)) (kk : Rn l G d mc ms M h0 Q (pc + 1) L (tI ((bytS.getD i []).getD j.toNatClampNeg 0) :: st) h cu su) : Rn l G d mc ms M h0 Q pc L (tI j :: tS (100 + i) :: st) h cu su := by
  intro p e s m args below meth c H locs ls C0 hW hE hS hl0 hL hst
  rw [List.map_cons, List.map_cons, cvV]
  exact va_tb C0.1 C0.2.1 (C0.2.2.2.2.2.2.1.2.1.1 i hi).2.2.2 hS hin rfl hd (kk p e s m args below meth c H locs ls C0 hW hE hS hl0 hL ⟨trivial, hst.2.2⟩)
theorem r_getsC {idx : Nat} (hd : decode M.1 pc = .ok (.getstatic idx, 3)) (hlk : Cond.fieldLink M.2.2.2.1 idx "java/lang/String" "COMPACT_STRINGS" "Z" ∈ GW) (kk : Rn l G d mc ms M h0 Q (pc + 3) L (tI 1 :: st) h cu su) : Rn l G d mc ms M h0 Q pc L st h cu su := by
  intro p e s m args below meth c H locs ls C0 hW hE hS hl0 hL hst
  exact va_gets C0.1 C0.2.1 C0.2.2.2.2.2.2.1.2.2.2.1 hS C0.2.2.2.2.1 (C0.2.2.2.2.2.1 _ hlk) (fun _ z => z) hd (kk p e s m args below meth c H locs ls C0 hW hE hS hl0 hL ⟨trivial, hst⟩)
theorem r_getsF {idx : Nat} (hd : decode M.1 pc = .ok (.getstatic idx, 3)) (hlk : Cond.fieldLink M.2.2.2.1 idx "jdk/internal/util/Preconditions" "SIOOBE_FORMATTER" "Ljava/util/function/BiFunction;" ∈ GW) (k1 : Rn l G d mc ms M h0 Q (pc + 3) L (tR 0 0 none :: st) h cu su) (k2 : Rn l G d mc ms M h0 Q (pc + 3) L (tS 400 :: st) h cu su) : Rn l G d mc ms M h0 Q pc L st h cu su := by
  intro p e s m args below meth c H locs ls C0 hW hE hS hl0 hL hst
  rcases C0.2.2.2.2.2.2.1.2.2.2.2.1 with hZ | hZ
  · exact va_gets C0.1 C0.2.1 hZ hS C0.2.2.2.2.1 (C0.2.2.2.2.2.1 _ hlk) (fun _ z => z) hd (k1 p e s m args below meth c H locs ls C0 hW hE hS hl0 hL ⟨fun b hb => (by cases hb), hst⟩)
  · exact va_gets C0.1 C0.2.1 hZ hS C0.2.2.2.2.1 (C0.2.2.2.2.2.1 _ hlk) (fun _ z => z) hd (k2 p e s m args below meth c H locs ls C0 hW hE hS hl0 hL ⟨Or.inr (Or.inr (Or.inr rfl)), hst⟩)
theorem cvX : cv G (tS 300) = .ref (G.2.2.2.2.1 200) := rfl
theorem Sx {s : State} {H : Heap} {locs : List Loc} (hK : Kx G s) (hS : va_S (Ag G) s.heap H locs) : ∃ scr : Cell, H[G.2.2.2.2.1 200]? = some scr ∧ s.isArrayOf scr .int ∧ scr.vm ≠ .unknown ∧ scr.slots.size = G.2.2.2.2.2.1 ∧ ∀ j : Nat, j < G.2.2.2.2.2.1 → scr.slots[j]? = some (.int (G.2.2.2.2.2.2 j)) :=
  hK.2.2.2.2.2.1.kept (hS.2.1 _ hK.2.2.2.2.2.1.lt (Nat.not_le.mpr hK.2.2.2.2.2.2))
theorem r_sld {i : Int32} (hd : decode M.1 pc = .ok (.iaload, 1)) (hin : vp_in i G.2.2.2.2.2.1) (kk : Rn l G d mc ms M h0 Q (pc + 1) L (tI (G.2.2.2.2.2.2 i.toNatClampNeg) :: st) h cu su) : Rn l G d mc ms M h0 Q pc L (tI i :: tS 300 :: st) h cu su := by
  intro p e s m args below meth c H locs ls C0 hW hE hS hl0 hL hst
  obtain ⟨scr, g1, g2, g3, g4, g5⟩ := Sx C0.2.2.2.2.2.2.1 hS
  have hlt : i.toNatClampNeg < G.2.2.2.2.2.1 := Nat.not_le.mp fun q => hin (Or.inr q)
  rw [List.map_cons, List.map_cons, cvX]
  exact W.iald (v := .int (G.2.2.2.2.2.2 i.toNatClampNeg)) C0.1 C0.2.1 g1 g2 g3 (by rw [g4]; exact hin) (g5 _ hlt) rfl rfl hd (kk p e s m args below meth c H locs ls C0 hW hE hS hl0 hL ⟨trivial, hst.2.2⟩)
theorem r_slen (hd : decode M.1 pc = .ok (.arraylength, 1)) (kk : Rn l G d mc ms M h0 Q (pc + 1) L (tI (Int32.ofNat G.2.2.2.2.2.1) :: st) h cu su) : Rn l G d mc ms M h0 Q pc L (tS 300 :: st) h cu su := by
  intro p e s m args below meth c H locs ls C0 hW hE hS hl0 hL hst
  obtain ⟨scr, g1, g2, g3, g4, g5⟩ := Sx C0.2.2.2.2.2.2.1 hS
  rw [List.map_cons, cvX]
  exact W.alen C0.1 C0.2.1 g1 g2 (by rw [g4]) rfl rfl hd (kk p e s m args below meth c H locs ls C0 hW hE hS hl0 hL ⟨trivial, hst.2⟩)
/-- a method of String's on a String constant -/
theorem r_callStr {d' mc' ms' idx n i : Nat} {y : MethodName} {My : Mth} {as : List TV} {s0 : List TV} {Q' : Option TV → Hp → Prop} (hi : i < 16) (hd : decode M.1 pc = .ok (.invokevirtual idx, 3)) (mi : MI y My n) (hlk : Cond.methodLink M.2.2.2.1 idx y ∈ GW) (hin : Cond.instanceMethod y ∈ GW) (hsel : Cond.selects "java/lang/String" y y ∈ GW)
    (hn : as.length = n) (hs0 : s0 = as.reverse ++ tS i :: st) (hr : cats st ≤ 8) (hdd : d' + 1 ≤ d) (hc : cu + mc' ≤ mc ∧ su + ms' ≤ ms) (hct : Ct l G d' mc' ms' y My (tS i :: as) h Q') (kk : ∀ r h', Q' r h' → ext h h' → Rn l G d mc ms M h0 Q (pc + 3) L (r.toList ++ st) h' (cu + mc') (su + ms')) : Rn l G d mc ms M h0 Q pc L s0 h cu su := by
  subst hs0
  intro p e s m args below meth c H locs ls C0 hW hE hS hl0 hL hst
  have q0 := tyL_app.mp hst
  have hts := C0.2.2.2.2.2.1
  have hK := C0.2.2.2.2.2.2.1
  have cb : CallB (rmOf d mc ms) s args M.2.2.2.1 idx y My.1 My.2.1 My.2.2.1 (Cond.code y My.1 My.2.1 My.2.2.1 :: GW) (rmOf d' mc' ms') mc' ms' n :=
    callB_of n hts (goodC mi) rfl rfl rfl (hts _ mi.2.1) (hts _ hlk) ⟨mi.2.2.1, mi.2.2.2.1, mi.2.2.2.2.1⟩ ⟨hdd, by show 8 + (My.2.1 + 11) + 48 * d' ≤ 48 * d; have := mi.2.2.2.2.2; omega⟩
  refine r_go (st0 := (as.reverse ++ tS i :: st).map (cv G)) C0 hE hS hl0 hL q0.2.2 (va_runV (As := as.map (cv G)) (b := G.2.2.2.1 i) (C := "java/lang/String") ⟨C0.1, C0.2.1, C0.2.2.1, C0.2.2.2.2.1, hts⟩ hct ⟨cb, hts _ hin, hts _ hsel⟩ ⟨blindC, vk_recv hK.2.1 hi hS, fun U hU hWm => ⟨by rw [List.map_cons, cvS hi], by rw [hU]; exact hW, hK.to hWm (fun a ha hna => by rw [hU]; exact hS.2.1 a ha hna), q0.2.1, tyL_rev q0.1⟩⟩ rfl (by rw [List.length_map]; exact hn) hl0.1 ?_ (rest_ok (by rw [cats_eq]; exact hr)) hd hc) kk
  show List.map (cv G) (as.reverse ++ tS i :: st) = _
  rw [List.map_append, List.map_reverse, List.map_cons, cvS hi]
end RJ
end
section
abbrev ix (i : Int32) : Nat := i.toNatClampNeg
def qI (Q : Int32 → Hp → Prop) : Option TV → Hp → Prop := fun r h => ∃ x, r = some (tI x) ∧ Q x h
def qJ (Q : Int64 → Hp → Prop) : Option TV → Hp → Prop := fun r h => ∃ x, r = some (tJ x) ∧ Q x h
def qV (Q : Hp → Prop) : Option TV → Hp → Prop := fun r h => r = none ∧ Q h
def qR (k : Nat) (Q : Option Nat → Hp → Prop) : Option TV → Hp → Prop := fun r h => ∃ x, r = some (tR k 0 x) ∧ Q x h
section RM
variable {l : Launch} {G : Cx} {d mc ms : Nat} {M : Mth} {h0 : Hp} {Q : Option TV → Hp → Prop} {pc : Nat} {L : List (Option TV)} {st : List TV} {h : Hp} {cu su : Nat}
theorem r_nmI {x : Int32} (k : ∀ y, y = x → Rn l G d mc ms M h0 Q pc L (tI y :: st) h cu su) : Rn l G d mc ms M h0 Q pc L (tI x :: st) h cu su := k x rfl
theorem r_nmJ {x : Int64} (k : ∀ y, y = x → Rn l G d mc ms M h0 Q pc L (tJ y :: st) h cu su) : Rn l G d mc ms M h0 Q pc L (tJ x :: st) h cu su := k x rfl
theorem r_nmR {kd n : Nat} {x : Option Nat} (k : ∀ y, y = x → Rn l G d mc ms M h0 Q pc L (tR kd n y :: st) h cu su) : Rn l G d mc ms M h0 Q pc L (tR kd n x :: st) h cu su := k x rfl
/-- an element that is there -/
theorem r_aaldS {kd ti n a b : Nat} {cn : String} {i : Int32} (hd : decode M.1 pc = .ok (.aaload, 1)) (ht : (tysG G)[ti]? = some (G.2.2.1 (50 + kd), .object cn)) (hin : vp_in i n) (hb : hR h a (ix i) = some b) (kk : Rn l G d mc ms M h0 Q (pc + 1) L (tR kd 0 (some b) :: st) h cu su) : Rn l G d mc ms M h0 Q pc L (tI i :: tR (50 + kd) n (some a) :: st) h cu su :=
  r_aald hd ht hin (by rw [hb]; exact kk)
theorem r_getRS {ci kd a k idx rk b : Nat} {C : String} {T : u_T} {ty0 : Nat → FieldType} (cl : Cl ci C T ty0) (hd : decode M.1 pc = .ok (.getfield idx, 3)) (hl : Cond.fieldLink M.2.2.2.1 idx (T k).1 (T k).2.1 (T k).2.2.1 ∈ GW) (hkd : kd = ci ∨ kd = 20 + ci) (hf : fty ci k = 2) (hr : fref ci k = rk) (hk : rk < 40) (hb : hR h a k = some b) (kk : Rn l G d mc ms M h0 Q (pc + 3) L (tR rk 0 (some b) :: st) h cu su) : Rn l G d mc ms M h0 Q pc L (tR kd 0 (some a) :: st) h cu su :=
  r_getR cl hd hl hkd hf hr hk (by rw [hb]; exact kk)
theorem r_putI0 {ci kd a k idx : Nat} {C : String} {T : u_T} {ty0 : Nat → FieldType} {x : Int32} (cl : Cl ci C T ty0) (hd : decode M.1 pc = .ok (.putfield idx, 3)) (hl : Cond.fieldLink M.2.2.2.1 idx (T k).1 (T k).2.1 (T k).2.2.1 ∈ GW) (hkd : kd = ci ∨ kd = 20 + ci) (hf : fty ci k = 0 ∨ fty ci k = 3) (hty : ty0 k = .int) (hfin : (T k).2.2.2 = false ∨ ((T k).2.2.2 = true ∧ M.2.2.2.2 = "<init>" ∧ C = M.2.2.2.1)) (kk : Rn l G d mc ms M h0 Q (pc + 3) L st (wI h a k x) cu su) : Rn l G d mc ms M h0 Q pc L (tI x :: tR kd 0 (some a) :: st) h cu su :=
  r_putI cl hd hl hkd hf hfin (by rw [hty]; rfl) (by rw [hty]; rfl) kk
theorem r_putZ0 {ci kd a k idx : Nat} {C : String} {T : u_T} {ty0 : Nat → FieldType} {x : Int32} (cl : Cl ci C T ty0) (hd : decode M.1 pc = .ok (.putfield idx, 3)) (hl : Cond.fieldLink M.2.2.2.1 idx (T k).1 (T k).2.1 (T k).2.2.1 ∈ GW) (hkd : kd = ci ∨ kd = 20 + ci) (hf : fty ci k = 0 ∨ fty ci k = 3) (hty : ty0 k = .boolean) (hfin : (T k).2.2.2 = false ∨ ((T k).2.2.2 = true ∧ M.2.2.2.2 = "<init>" ∧ C = M.2.2.2.1)) (hb : bz x) (kk : Rn l G d mc ms M h0 Q (pc + 3) L st (wI h a k x) cu su) : Rn l G d mc ms M h0 Q pc L (tI x :: tR kd 0 (some a) :: st) h cu su :=
  r_putI cl hd hl hkd hf hfin (by rw [hty]; exact bz_nar hb) (by rw [hty]; rcases hb with rfl | rfl <;> rfl) kk
theorem r_putJ0 {ci kd a k idx : Nat} {C : String} {T : u_T} {ty0 : Nat → FieldType} {x : Int64} (cl : Cl ci C T ty0) (hd : decode M.1 pc = .ok (.putfield idx, 3)) (hl : Cond.fieldLink M.2.2.2.1 idx (T k).1 (T k).2.1 (T k).2.2.1 ∈ GW) (hkd : kd = ci ∨ kd = 20 + ci) (hf : fty ci k = 1) (hty : ty0 k = .long) (hfin : (T k).2.2.2 = false ∨ ((T k).2.2.2 = true ∧ M.2.2.2.2 = "<init>" ∧ C = M.2.2.2.1)) (kk : Rn l G d mc ms M h0 Q (pc + 3) L st (wJ h a k x) cu su) : Rn l G d mc ms M h0 Q pc L (tJ x :: tR kd 0 (some a) :: st) h cu su :=
  r_putJ cl hd hl hkd hf hfin (by rw [hty]; rfl) (by rw [hty]; rfl) kk
theorem r_putR0 {ci kd a k idx rk n : Nat} {C : String} {T : u_T} {ty0 : Nat → FieldType} {r : Option Nat} (cl : Cl ci C T ty0) (hd : decode M.1 pc = .ok (.putfield idx, 3)) (hl : Cond.fieldLink M.2.2.2.1 idx (T k).1 (T k).2.1 (T k).2.2.1 ∈ GW) (hkd : kd = ci ∨ kd = 20 + ci) (hf : fty ci k = 2) (hr : fref ci k = rk) (hs : kd < 20 → fcon kd k a = none) (hty : (∃ c, ty0 k = .object c) ∨ ∃ c, ty0 k = .array c) (hfin : (T k).2.2.2 = false ∨ ((T k).2.2.2 = true ∧ M.2.2.2.2 = "<init>" ∧ C = M.2.2.2.1)) (kk : Rn l G d mc ms M h0 Q (pc + 3) L st (wR h a k r) cu su) : Rn l G d mc ms M h0 Q pc L (tR rk n r :: tR kd 0 (some a) :: st) h cu su := by
  refine r_putR cl hd hl hkd hf hr hs hfin (fun q => ?_) ?_ kk
  · rcases hty with ⟨c, e⟩ | ⟨c, e⟩ <;> rw [e] <;> exact ⟨rfl, rfl⟩
  · rcases hty with ⟨c, e⟩ | ⟨c, e⟩ <;> rw [e] <;> exact ⟨rfl, rfl⟩
theorem r_bret {v : Int32} (hd : decode M.1 pc = .ok (.ireturn, 1)) (hr : M.2.2.1 = some .boolean) (hc : cu ≤ mc ∧ su ≤ ms) (hb : bz v) (hq : Q (some (tI v)) h) : Rn l G d mc ms M h0 Q pc L [tI v] h cu su := r_zreturn hd hr (bz_nar hb) hc hq
end RM
section RK
variable {l : Launch} {G : Cx} {d mc ms : Nat} {M : Mth} {h0 : Hp} {Q : Option TV → Hp → Prop} {pc : Nat} {L : List (Option TV)} {st : List TV} {h : Hp} {cu su : Nat}
theorem r_callVI {cu' su' : Nat} {Qc : Int32 → Hp → Prop} {ci d' mc' ms' idx n b : Nat} {C : String} {T : u_T} {ty0 : Nat → FieldType} {y : MethodName} {My : Mth} {as : List TV} {s0 : List TV}  (cl : Cl ci C T ty0) (hd : decode M.1 pc = .ok (.invokevirtual idx, 3)) (mi : MI y My n) (hlk : Cond.methodLink M.2.2.2.1 idx y ∈ GW) (hin : Cond.instanceMethod y ∈ GW) (hsel : Cond.selects C y y ∈ GW)
    (hn : as.length = n) (hs0 : s0 = as.reverse ++ tR ci 0 (some b) :: st) (hr : cats st ≤ 8) (hdd : d' + 1 ≤ d) (hc : cu + mc' ≤ mc ∧ su + ms' ≤ ms) (hcu : cu + mc' = cu' ∧ su + ms' = su') (hct : Ct l G d' mc' ms' y My (tR ci 0 (some b) :: as) h (qI Qc)) (kk : ∀ x h', Qc x h' → Rn l G d mc ms M h0 Q (pc + 3) L (tI x :: st) h' cu' su') : Rn l G d mc ms M h0 Q pc L s0 h cu su := by
  obtain ⟨rfl, rfl⟩ := hcu
  exact r_callV cl hd mi hlk hin hsel hn hs0 hr hdd hc hct (fun r h' q _ => by obtain ⟨x, rfl, hq⟩ := q; exact kk x h' hq)
theorem r_callVJ {cu' su' : Nat} {Qc : Int64 → Hp → Prop} {ci d' mc' ms' idx n b : Nat} {C : String} {T : u_T} {ty0 : Nat → FieldType} {y : MethodName} {My : Mth} {as : List TV} {s0 : List TV}  (cl : Cl ci C T ty0) (hd : decode M.1 pc = .ok (.invokevirtual idx, 3)) (mi : MI y My n) (hlk : Cond.methodLink M.2.2.2.1 idx y ∈ GW) (hin : Cond.instanceMethod y ∈ GW) (hsel : Cond.selects C y y ∈ GW)
    (hn : as.length = n) (hs0 : s0 = as.reverse ++ tR ci 0 (some b) :: st) (hr : cats st ≤ 8) (hdd : d' + 1 ≤ d) (hc : cu + mc' ≤ mc ∧ su + ms' ≤ ms) (hcu : cu + mc' = cu' ∧ su + ms' = su') (hct : Ct l G d' mc' ms' y My (tR ci 0 (some b) :: as) h (qJ Qc)) (kk : ∀ x h', Qc x h' → Rn l G d mc ms M h0 Q (pc + 3) L (tJ x :: st) h' cu' su') : Rn l G d mc ms M h0 Q pc L s0 h cu su := by
  obtain ⟨rfl, rfl⟩ := hcu
  exact r_callV cl hd mi hlk hin hsel hn hs0 hr hdd hc hct (fun r h' q _ => by obtain ⟨x, rfl, hq⟩ := q; exact kk x h' hq)
theorem r_callVU {cu' su' : Nat} {Qc : Hp → Prop} {ci d' mc' ms' idx n b : Nat} {C : String} {T : u_T} {ty0 : Nat → FieldType} {y : MethodName} {My : Mth} {as : List TV} {s0 : List TV}  (cl : Cl ci C T ty0) (hd : decode M.1 pc = .ok (.invokevirtual idx, 3)) (mi : MI y My n) (hlk : Cond.methodLink M.2.2.2.1 idx y ∈ GW) (hin : Cond.instanceMethod y ∈ GW) (hsel : Cond.selects C y y ∈ GW)
    (hn : as.length = n) (hs0 : s0 = as.reverse ++ tR ci 0 (some b) :: st) (hr : cats st ≤ 8) (hdd : d' + 1 ≤ d) (hc : cu + mc' ≤ mc ∧ su + ms' ≤ ms) (hcu : cu + mc' = cu' ∧ su + ms' = su') (hct : Ct l G d' mc' ms' y My (tR ci 0 (some b) :: as) h (qV Qc)) (kk : ∀ h', Qc h' → Rn l G d mc ms M h0 Q (pc + 3) L (st) h' cu' su') : Rn l G d mc ms M h0 Q pc L s0 h cu su := by
  obtain ⟨rfl, rfl⟩ := hcu
  exact r_callV cl hd mi hlk hin hsel hn hs0 hr hdd hc hct (fun r h' q _ => by obtain ⟨rfl, hq⟩ := q; exact kk h' hq)
theorem r_callVR {rk : Nat} {cu' su' : Nat} {Qc : Option Nat → Hp → Prop} {ci d' mc' ms' idx n b : Nat} {C : String} {T : u_T} {ty0 : Nat → FieldType} {y : MethodName} {My : Mth} {as : List TV} {s0 : List TV}  (cl : Cl ci C T ty0) (hd : decode M.1 pc = .ok (.invokevirtual idx, 3)) (mi : MI y My n) (hlk : Cond.methodLink M.2.2.2.1 idx y ∈ GW) (hin : Cond.instanceMethod y ∈ GW) (hsel : Cond.selects C y y ∈ GW)
    (hn : as.length = n) (hs0 : s0 = as.reverse ++ tR ci 0 (some b) :: st) (hr : cats st ≤ 8) (hdd : d' + 1 ≤ d) (hc : cu + mc' ≤ mc ∧ su + ms' ≤ ms) (hcu : cu + mc' = cu' ∧ su + ms' = su') (hct : Ct l G d' mc' ms' y My (tR ci 0 (some b) :: as) h (qR rk Qc)) (kk : ∀ x h', Qc x h' → Rn l G d mc ms M h0 Q (pc + 3) L (tR rk 0 x :: st) h' cu' su') : Rn l G d mc ms M h0 Q pc L s0 h cu su := by
  obtain ⟨rfl, rfl⟩ := hcu
  exact r_callV cl hd mi hlk hin hsel hn hs0 hr hdd hc hct (fun r h' q _ => by obtain ⟨x, rfl, hq⟩ := q; exact kk x h' hq)
theorem r_callSI {cu' su' : Nat} {Qc : Int32 → Hp → Prop} {d' mc' ms' idx n : Nat} {y : MethodName} {My : Mth} {as : List TV} {s0 : List TV}  (hd : decode M.1 pc = .ok (.invokestatic idx, 3)) (mi : MI y My n) (hlk : Cond.methodLink M.2.2.2.1 idx y ∈ GW) (hstt : Cond.static y ∈ GW)
    (hn : as.length = n) (hs0 : s0 = as.reverse ++ st) (hr : cats st ≤ 8) (hdd : d' + 1 ≤ d) (hc : cu + mc' ≤ mc ∧ su + ms' ≤ ms) (hcu : cu + mc' = cu' ∧ su + ms' = su') (hct : Ct l G d' mc' ms' y My as h (qI Qc)) (kk : ∀ x h', Qc x h' → Rn l G d mc ms M h0 Q (pc + 3) L (tI x :: st) h' cu' su') : Rn l G d mc ms M h0 Q pc L s0 h cu su := by
  obtain ⟨rfl, rfl⟩ := hcu
  exact r_callS hd mi hlk hstt hn hs0 hr hdd hc hct (fun r h' q _ => by obtain ⟨x, rfl, hq⟩ := q; exact kk x h' hq)
theorem r_callSJ {cu' su' : Nat} {Qc : Int64 → Hp → Prop} {d' mc' ms' idx n : Nat} {y : MethodName} {My : Mth} {as : List TV} {s0 : List TV}  (hd : decode M.1 pc = .ok (.invokestatic idx, 3)) (mi : MI y My n) (hlk : Cond.methodLink M.2.2.2.1 idx y ∈ GW) (hstt : Cond.static y ∈ GW)
    (hn : as.length = n) (hs0 : s0 = as.reverse ++ st) (hr : cats st ≤ 8) (hdd : d' + 1 ≤ d) (hc : cu + mc' ≤ mc ∧ su + ms' ≤ ms) (hcu : cu + mc' = cu' ∧ su + ms' = su') (hct : Ct l G d' mc' ms' y My as h (qJ Qc)) (kk : ∀ x h', Qc x h' → Rn l G d mc ms M h0 Q (pc + 3) L (tJ x :: st) h' cu' su') : Rn l G d mc ms M h0 Q pc L s0 h cu su := by
  obtain ⟨rfl, rfl⟩ := hcu
  exact r_callS hd mi hlk hstt hn hs0 hr hdd hc hct (fun r h' q _ => by obtain ⟨x, rfl, hq⟩ := q; exact kk x h' hq)
theorem r_callSU {cu' su' : Nat} {Qc : Hp → Prop} {d' mc' ms' idx n : Nat} {y : MethodName} {My : Mth} {as : List TV} {s0 : List TV}  (hd : decode M.1 pc = .ok (.invokestatic idx, 3)) (mi : MI y My n) (hlk : Cond.methodLink M.2.2.2.1 idx y ∈ GW) (hstt : Cond.static y ∈ GW)
    (hn : as.length = n) (hs0 : s0 = as.reverse ++ st) (hr : cats st ≤ 8) (hdd : d' + 1 ≤ d) (hc : cu + mc' ≤ mc ∧ su + ms' ≤ ms) (hcu : cu + mc' = cu' ∧ su + ms' = su') (hct : Ct l G d' mc' ms' y My as h (qV Qc)) (kk : ∀ h', Qc h' → Rn l G d mc ms M h0 Q (pc + 3) L (st) h' cu' su') : Rn l G d mc ms M h0 Q pc L s0 h cu su := by
  obtain ⟨rfl, rfl⟩ := hcu
  exact r_callS hd mi hlk hstt hn hs0 hr hdd hc hct (fun r h' q _ => by obtain ⟨rfl, hq⟩ := q; exact kk h' hq)
theorem r_callSR {rk : Nat} {cu' su' : Nat} {Qc : Option Nat → Hp → Prop} {d' mc' ms' idx n : Nat} {y : MethodName} {My : Mth} {as : List TV} {s0 : List TV}  (hd : decode M.1 pc = .ok (.invokestatic idx, 3)) (mi : MI y My n) (hlk : Cond.methodLink M.2.2.2.1 idx y ∈ GW) (hstt : Cond.static y ∈ GW)
    (hn : as.length = n) (hs0 : s0 = as.reverse ++ st) (hr : cats st ≤ 8) (hdd : d' + 1 ≤ d) (hc : cu + mc' ≤ mc ∧ su + ms' ≤ ms) (hcu : cu + mc' = cu' ∧ su + ms' = su') (hct : Ct l G d' mc' ms' y My as h (qR rk Qc)) (kk : ∀ x h', Qc x h' → Rn l G d mc ms M h0 Q (pc + 3) L (tR rk 0 x :: st) h' cu' su') : Rn l G d mc ms M h0 Q pc L s0 h cu su := by
  obtain ⟨rfl, rfl⟩ := hcu
  exact r_callS hd mi hlk hstt hn hs0 hr hdd hc hct (fun r h' q _ => by obtain ⟨x, rfl, hq⟩ := q; exact kk x h' hq)
theorem r_callStrI {cu' su' : Nat} {Qc : Int32 → Hp → Prop} {d' mc' ms' idx n i : Nat} {y : MethodName} {My : Mth} {as : List TV} {s0 : List TV}  (hi : i < 16) (hd : decode M.1 pc = .ok (.invokevirtual idx, 3)) (mi : MI y My n) (hlk : Cond.methodLink M.2.2.2.1 idx y ∈ GW) (hin : Cond.instanceMethod y ∈ GW) (hsel : Cond.selects "java/lang/String" y y ∈ GW)
    (hn : as.length = n) (hs0 : s0 = as.reverse ++ tS i :: st) (hr : cats st ≤ 8) (hdd : d' + 1 ≤ d) (hc : cu + mc' ≤ mc ∧ su + ms' ≤ ms) (hcu : cu + mc' = cu' ∧ su + ms' = su') (hct : Ct l G d' mc' ms' y My (tS i :: as) h (qI Qc)) (kk : ∀ x h', Qc x h' → Rn l G d mc ms M h0 Q (pc + 3) L (tI x :: st) h' cu' su') : Rn l G d mc ms M h0 Q pc L s0 h cu su := by
  obtain ⟨rfl, rfl⟩ := hcu
  exact r_callStr hi hd mi hlk hin hsel hn hs0 hr hdd hc hct (fun r h' q _ => by obtain ⟨x, rfl, hq⟩ := q; exact kk x h' hq)
theorem r_callIU {cu' su' : Nat} {Qc : Hp → Prop} {ci d' mc' ms' idx n b : Nat} {y : MethodName} {My : Mth} {as : List TV} {s0 : List TV}  (hd : decode M.1 pc = .ok (.invokespecial idx, 3)) (mi : MI y My n) (hrn : My.2.2.1 = none) (hlk : Cond.methodLink M.2.2.2.1 idx y ∈ GW) (hin : Cond.instanceMethod y ∈ GW) (hy1 : y.name = "<init>")
    (hn : as.length = n) (hs0 : s0 = as.reverse ++ tR (20 + ci) 0 (some b) :: st) (hr : cats st ≤ 8) (hdd : d' + 1 ≤ d) (hc : cu + mc' ≤ mc ∧ su + ms' ≤ ms) (hcu : cu + mc' = cu' ∧ su + ms' = su') (hct : Ct l G d' mc' ms' y My (tR (20 + ci) 0 (some b) :: as) h (qV Qc)) (kk : ∀ h', Qc h' → Rn l G d mc ms M h0 Q (pc + 3) L (st) h' cu' su') : Rn l G d mc ms M h0 Q pc L s0 h cu su := by
  obtain ⟨rfl, rfl⟩ := hcu
  exact r_callI hd mi hrn hlk hin hy1 hn hs0 hr hdd hc hct (fun r h' q _ => by obtain ⟨rfl, hq⟩ := q; exact kk h' hq)
theorem r_callINU {cu' su' : Nat} {Qc : Hp → Prop} {ci d' mc' ms' idx n b : Nat} {host : String} {y : MethodName} {My : Mth} {as : List TV} {s0 : List TV}  (hd : decode M.1 pc = .ok (.invokespecial idx, 3)) (mi : MI y My n) (hrn : My.2.2.1 = none) (hlk : Cond.methodLinkNest M.2.2.2.1 idx y host ∈ GW) (hin : Cond.instanceMethod y ∈ GW) (hy1 : y.name = "<init>")
    (hn : as.length = n) (hs0 : s0 = as.reverse ++ tR (20 + ci) 0 (some b) :: st) (hr : cats st ≤ 8) (hdd : d' + 1 ≤ d) (hc : cu + mc' ≤ mc ∧ su + ms' ≤ ms) (hcu : cu + mc' = cu' ∧ su + ms' = su') (hct : Ct l G d' mc' ms' y My (tR (20 + ci) 0 (some b) :: as) h (qV Qc)) (kk : ∀ h', Qc h' → Rn l G d mc ms M h0 Q (pc + 3) L (st) h' cu' su') : Rn l G d mc ms M h0 Q pc L s0 h cu su := by
  obtain ⟨rfl, rfl⟩ := hcu
  exact r_callIN hd mi hrn hlk hin hy1 hn hs0 hr hdd hc hct (fun r h' q _ => by obtain ⟨rfl, hq⟩ := q; exact kk h' hq)
end RK
theorem gf_0_0 : fty 0 0 = 2 ∧ fref 0 0 = 51 := by decide +kernel
theorem pf_0_0 : ((∃ c, tyX0 0 = .object c) ∨ ∃ c, tyX0 0 = .array c) ∧ (TX0 0).2.2.2 = true := ⟨Or.inr ⟨_, rfl⟩, by decide +kernel⟩
theorem gc_0_0 : ∀ a, fcon 0 0 a = some (a + 1, 6) := fun _ => rfl
theorem gf_0_1 : fty 0 1 = 0 ∨ fty 0 1 = 3 := by decide +kernel
theorem pf_0_1 : tyX0 1 = .int ∧ (TX0 1).2.2.2 = false := by decide +kernel
theorem gf_1_0 : fty 1 0 = 0 ∨ fty 1 0 = 3 := by decide +kernel
theorem pf_1_0 : tyX1 0 = .int ∧ (TX1 0).2.2.2 = true := by decide +kernel
theorem gf_1_1 : fty 1 1 = 0 ∨ fty 1 1 = 3 := by decide +kernel
theorem pf_1_1 : tyX1 1 = .int ∧ (TX1 1).2.2.2 = false := by decide +kernel
theorem gf_1_2 : fty 1 2 = 0 ∨ fty 1 2 = 3 := by decide +kernel
theorem pf_1_2 : tyX1 2 = .int ∧ (TX1 2).2.2.2 = false := by decide +kernel
theorem gf_1_3 : fty 1 3 = 0 ∨ fty 1 3 = 3 := by decide +kernel
theorem pf_1_3 : tyX1 3 = .int ∧ (TX1 3).2.2.2 = false := by decide +kernel
theorem gf_1_4 : fty 1 4 = 0 ∨ fty 1 4 = 3 := by decide +kernel
theorem pf_1_4 : tyX1 4 = .int ∧ (TX1 4).2.2.2 = false := by decide +kernel
theorem gf_1_5 : fty 1 5 = 0 ∨ fty 1 5 = 3 := by decide +kernel
theorem pf_1_5 : tyX1 5 = .int ∧ (TX1 5).2.2.2 = false := by decide +kernel
theorem gf_1_6 : fty 1 6 = 0 ∨ fty 1 6 = 3 := by decide +kernel
theorem pf_1_6 : tyX1 6 = .int ∧ (TX1 6).2.2.2 = false := by decide +kernel
theorem gf_1_7 : fty 1 7 = 0 ∨ fty 1 7 = 3 := by decide +kernel
theorem pf_1_7 : tyX1 7 = .int ∧ (TX1 7).2.2.2 = false := by decide +kernel
theorem gf_1_8 : fty 1 8 = 0 ∨ fty 1 8 = 3 := by decide +kernel
theorem pf_1_8 : tyX1 8 = .int ∧ (TX1 8).2.2.2 = false := by decide +kernel
theorem gf_1_9 : fty 1 9 = 2 ∧ fref 1 9 = 40 := by decide +kernel
theorem pf_1_9 : ((∃ c, tyX1 9 = .object c) ∨ ∃ c, tyX1 9 = .array c) ∧ (TX1 9).2.2.2 = true := ⟨Or.inr ⟨_, rfl⟩, by decide +kernel⟩
theorem gc_1_9 : ∀ a, fcon 1 9 a = some (a + 1, 96) := fun _ => rfl
theorem gf_1_10 : fty 1 10 = 2 ∧ fref 1 10 = 40 := by decide +kernel
theorem pf_1_10 : ((∃ c, tyX1 10 = .object c) ∨ ∃ c, tyX1 10 = .array c) ∧ (TX1 10).2.2.2 = true := ⟨Or.inr ⟨_, rfl⟩, by decide +kernel⟩
theorem gc_1_10 : ∀ a, fcon 1 10 a = some (a + 2, 216) := fun _ => rfl
theorem gf_1_11 : fty 1 11 = 2 ∧ fref 1 11 = 43 := by decide +kernel
theorem pf_1_11 : ((∃ c, tyX1 11 = .object c) ∨ ∃ c, tyX1 11 = .array c) ∧ (TX1 11).2.2.2 = true := ⟨Or.inr ⟨_, rfl⟩, by decide +kernel⟩
theorem gc_1_11 : ∀ a, fcon 1 11 a = some (a + 3, 36) := fun _ => rfl
theorem gf_1_12 : fty 1 12 = 2 ∧ fref 1 12 = 40 := by decide +kernel
theorem pf_1_12 : ((∃ c, tyX1 12 = .object c) ∨ ∃ c, tyX1 12 = .array c) ∧ (TX1 12).2.2.2 = true := ⟨Or.inr ⟨_, rfl⟩, by decide +kernel⟩
theorem gc_1_12 : ∀ a, fcon 1 12 a = some (a + 4, 36) := fun _ => rfl
theorem gf_2_0 : fty 2 0 = 2 ∧ fref 2 0 = 10 := by decide +kernel
theorem pf_2_0 : ((∃ c, tyX2 0 = .object c) ∨ ∃ c, tyX2 0 = .array c) ∧ (TX2 0).2.2.2 = true := ⟨Or.inl ⟨_, rfl⟩, by decide +kernel⟩
theorem gc_2_0 : ∀ a, fcon 2 0 a = some (2, 0) := fun _ => rfl
theorem gf_2_1 : fty 2 1 = 2 ∧ fref 2 1 = 8 := by decide +kernel
theorem pf_2_1 : ((∃ c, tyX2 1 = .object c) ∨ ∃ c, tyX2 1 = .array c) ∧ (TX2 1).2.2.2 = true := ⟨Or.inl ⟨_, rfl⟩, by decide +kernel⟩
theorem gc_2_1 : ∀ a, fcon 2 1 a = some (5, 0) := fun _ => rfl
theorem gf_2_2 : fty 2 2 = 2 ∧ fref 2 2 = 40 := by decide +kernel
theorem pf_2_2 : ((∃ c, tyX2 2 = .object c) ∨ ∃ c, tyX2 2 = .array c) ∧ (TX2 2).2.2.2 = true := ⟨Or.inr ⟨_, rfl⟩, by decide +kernel⟩
theorem gc_2_2 : ∀ a, fcon 2 2 a = some (7, 8) := fun _ => rfl
theorem gf_2_3 : fty 2 3 = 2 ∧ fref 2 3 = 1 := by decide +kernel
theorem pf_2_3 : ((∃ c, tyX2 3 = .object c) ∨ ∃ c, tyX2 3 = .array c) ∧ (TX2 3).2.2.2 = false := ⟨Or.inl ⟨_, rfl⟩, by decide +kernel⟩
theorem gc_2_3 : ∀ a, fcon 2 3 a = none := fun _ => rfl
theorem gf_2_4 : fty 2 4 = 0 ∨ fty 2 4 = 3 := by decide +kernel
theorem pf_2_4 : tyX2 4 = .int ∧ (TX2 4).2.2.2 = false := by decide +kernel
theorem gf_2_5 : fty 2 5 = 0 ∨ fty 2 5 = 3 := by decide +kernel
theorem pf_2_5 : tyX2 5 = .int ∧ (TX2 5).2.2.2 = false := by decide +kernel
theorem gf_2_6 : fty 2 6 = 0 ∨ fty 2 6 = 3 := by decide +kernel
theorem pf_2_6 : tyX2 6 = .int ∧ (TX2 6).2.2.2 = false := by decide +kernel
theorem gf_2_7 : fty 2 7 = 0 ∨ fty 2 7 = 3 := by decide +kernel
theorem pf_2_7 : tyX2 7 = .int ∧ (TX2 7).2.2.2 = false := by decide +kernel
theorem gf_3_0 : fty 3 0 = 2 ∧ fref 3 0 = 40 := by decide +kernel
theorem pf_3_0 : ((∃ c, tyX3 0 = .object c) ∨ ∃ c, tyX3 0 = .array c) ∧ (TX3 0).2.2.2 = true := ⟨Or.inr ⟨_, rfl⟩, by decide +kernel⟩
theorem gc_3_0 : ∀ a, fcon 3 0 a = some (1, 8) := fun _ => rfl
theorem gf_3_1 : fty 3 1 = 2 ∧ fref 3 1 = 40 := by decide +kernel
theorem pf_3_1 : ((∃ c, tyX3 1 = .object c) ∨ ∃ c, tyX3 1 = .array c) ∧ (TX3 1).2.2.2 = true := ⟨Or.inr ⟨_, rfl⟩, by decide +kernel⟩
theorem gc_3_1 : ∀ a, fcon 3 1 a = some (31, 576) := fun _ => rfl
theorem gf_3_2 : fty 3 2 = 0 ∨ fty 3 2 = 3 := by decide +kernel
theorem pf_3_2 : tyX3 2 = .int ∧ (TX3 2).2.2.2 = false := by decide +kernel
theorem gf_3_3 : fty 3 3 = 0 ∨ fty 3 3 = 3 := by decide +kernel
theorem pf_3_3 : tyX3 3 = .int ∧ (TX3 3).2.2.2 = false := by decide +kernel
theorem gf_3_4 : fty 3 4 = 0 ∨ fty 3 4 = 3 := by decide +kernel
theorem pf_3_4 : tyX3 4 = .int ∧ (TX3 4).2.2.2 = false := by decide +kernel
theorem gf_4_0 : fty 4 0 = 2 ∧ fref 4 0 = 40 := by decide +kernel
theorem pf_4_0 : ((∃ c, tyX4 0 = .object c) ∨ ∃ c, tyX4 0 = .array c) ∧ (TX4 0).2.2.2 = true := ⟨Or.inr ⟨_, rfl⟩, by decide +kernel⟩
theorem gc_4_0 : ∀ a, fcon 4 0 a = some (44, 72) := fun _ => rfl
theorem gf_4_1 : fty 4 1 = 2 ∧ fref 4 1 = 40 := by decide +kernel
theorem pf_4_1 : ((∃ c, tyX4 1 = .object c) ∨ ∃ c, tyX4 1 = .array c) ∧ (TX4 1).2.2.2 = true := ⟨Or.inr ⟨_, rfl⟩, by decide +kernel⟩
theorem gc_4_1 : ∀ a, fcon 4 1 a = some (45, 72) := fun _ => rfl
theorem gf_4_2 : fty 4 2 = 2 ∧ fref 4 2 = 43 := by decide +kernel
theorem pf_4_2 : ((∃ c, tyX4 2 = .object c) ∨ ∃ c, tyX4 2 = .array c) ∧ (TX4 2).2.2.2 = true := ⟨Or.inr ⟨_, rfl⟩, by decide +kernel⟩
theorem gc_4_2 : ∀ a, fcon 4 2 a = some (46, 72) := fun _ => rfl
theorem gf_4_3 : fty 4 3 = 0 ∨ fty 4 3 = 3 := by decide +kernel
theorem pf_4_3 : tyX4 3 = .int ∧ (TX4 3).2.2.2 = false := by decide +kernel
theorem gf_4_4 : fty 4 4 = 2 ∧ fref 4 4 = 40 := by decide +kernel
theorem pf_4_4 : ((∃ c, tyX4 4 = .object c) ∨ ∃ c, tyX4 4 = .array c) ∧ (TX4 4).2.2.2 = true := ⟨Or.inr ⟨_, rfl⟩, by decide +kernel⟩
theorem gc_4_4 : ∀ a, fcon 4 4 a = some (47, 24) := fun _ => rfl
theorem gf_4_5 : fty 4 5 = 2 ∧ fref 4 5 = 0 := by decide +kernel
theorem pf_4_5 : ((∃ c, tyX4 5 = .object c) ∨ ∃ c, tyX4 5 = .array c) ∧ (TX4 5).2.2.2 = true := ⟨Or.inl ⟨_, rfl⟩, by decide +kernel⟩
theorem gc_4_5 : ∀ a, fcon 4 5 a = some (48, 0) := fun _ => rfl
theorem gf_4_6 : fty 4 6 = 2 ∧ fref 4 6 = 40 := by decide +kernel
theorem pf_4_6 : ((∃ c, tyX4 6 = .object c) ∨ ∃ c, tyX4 6 = .array c) ∧ (TX4 6).2.2.2 = true := ⟨Or.inr ⟨_, rfl⟩, by decide +kernel⟩
theorem gc_4_6 : ∀ a, fcon 4 6 a = some (50, 24) := fun _ => rfl
theorem gf_5_0 : fty 5 0 = 2 ∧ fref 5 0 = 40 := by decide +kernel
theorem pf_5_0 : ((∃ c, tyX5 0 = .object c) ∨ ∃ c, tyX5 0 = .array c) ∧ (TX5 0).2.2.2 = true := ⟨Or.inr ⟨_, rfl⟩, by decide +kernel⟩
theorem gc_5_0 : ∀ a, fcon 5 0 a = some (1, 8) := fun _ => rfl
theorem gf_5_1 : fty 5 1 = 2 ∧ fref 5 1 = 40 := by decide +kernel
theorem pf_5_1 : ((∃ c, tyX5 1 = .object c) ∨ ∃ c, tyX5 1 = .array c) ∧ (TX5 1).2.2.2 = true := ⟨Or.inr ⟨_, rfl⟩, by decide +kernel⟩
theorem gc_5_1 : ∀ a, fcon 5 1 a = some (15, 1296) := fun _ => rfl
theorem gf_5_2 : fty 5 2 = 2 ∧ fref 5 2 = 43 := by decide +kernel
theorem pf_5_2 : ((∃ c, tyX5 2 = .object c) ∨ ∃ c, tyX5 2 = .array c) ∧ (TX5 2).2.2.2 = true := ⟨Or.inr ⟨_, rfl⟩, by decide +kernel⟩
theorem gc_5_2 : ∀ a, fcon 5 2 a = some (16, 216) := fun _ => rfl
theorem gf_5_3 : fty 5 3 = 0 ∨ fty 5 3 = 3 := by decide +kernel
theorem pf_5_3 : tyX5 3 = .int ∧ (TX5 3).2.2.2 = false := by decide +kernel
theorem gf_5_4 : fty 5 4 = 0 ∨ fty 5 4 = 3 := by decide +kernel
theorem pf_5_4 : tyX5 4 = .int ∧ (TX5 4).2.2.2 = false := by decide +kernel
theorem gf_5_5 : fty 5 5 = 2 ∧ fref 5 5 = 40 := by decide +kernel
theorem pf_5_5 : ((∃ c, tyX5 5 = .object c) ∨ ∃ c, tyX5 5 = .array c) ∧ (TX5 5).2.2.2 = true := ⟨Or.inr ⟨_, rfl⟩, by decide +kernel⟩
theorem gc_5_5 : ∀ a, fcon 5 5 a = some (17, 8) := fun _ => rfl
theorem gf_5_6 : fty 5 6 = 0 ∨ fty 5 6 = 3 := by decide +kernel
theorem pf_5_6 : tyX5 6 = .int ∧ (TX5 6).2.2.2 = false := by decide +kernel
theorem gf_5_7 : fty 5 7 = 2 ∧ fref 5 7 = 40 := by decide +kernel
theorem pf_5_7 : ((∃ c, tyX5 7 = .object c) ∨ ∃ c, tyX5 7 = .array c) ∧ (TX5 7).2.2.2 = true := ⟨Or.inr ⟨_, rfl⟩, by decide +kernel⟩
theorem gc_5_7 : ∀ a, fcon 5 7 a = some (18, 6) := fun _ => rfl
theorem gf_5_8 : fty 5 8 = 2 ∧ fref 5 8 = 43 := by decide +kernel
theorem pf_5_8 : ((∃ c, tyX5 8 = .object c) ∨ ∃ c, tyX5 8 = .array c) ∧ (TX5 8).2.2.2 = true := ⟨Or.inr ⟨_, rfl⟩, by decide +kernel⟩
theorem gc_5_8 : ∀ a, fcon 5 8 a = some (19, 48) := fun _ => rfl
theorem gf_5_9 : fty 5 9 = 2 ∧ fref 5 9 = 40 := by decide +kernel
theorem pf_5_9 : ((∃ c, tyX5 9 = .object c) ∨ ∃ c, tyX5 9 = .array c) ∧ (TX5 9).2.2.2 = true := ⟨Or.inr ⟨_, rfl⟩, by decide +kernel⟩
theorem gc_5_9 : ∀ a, fcon 5 9 a = some (20, 8) := fun _ => rfl
theorem gf_5_10 : fty 5 10 = 2 ∧ fref 5 10 = 43 := by decide +kernel
theorem pf_5_10 : ((∃ c, tyX5 10 = .object c) ∨ ∃ c, tyX5 10 = .array c) ∧ (TX5 10).2.2.2 = true := ⟨Or.inr ⟨_, rfl⟩, by decide +kernel⟩
theorem gc_5_10 : ∀ a, fcon 5 10 a = some (21, 8) := fun _ => rfl
theorem gf_5_11 : fty 5 11 = 2 ∧ fref 5 11 = 43 := by decide +kernel
theorem pf_5_11 : ((∃ c, tyX5 11 = .object c) ∨ ∃ c, tyX5 11 = .array c) ∧ (TX5 11).2.2.2 = true := ⟨Or.inr ⟨_, rfl⟩, by decide +kernel⟩
theorem gc_5_11 : ∀ a, fcon 5 11 a = some (22, 8) := fun _ => rfl
theorem gf_5_12 : fty 5 12 = 2 ∧ fref 5 12 = 43 := by decide +kernel
theorem pf_5_12 : ((∃ c, tyX5 12 = .object c) ∨ ∃ c, tyX5 12 = .array c) ∧ (TX5 12).2.2.2 = true := ⟨Or.inr ⟨_, rfl⟩, by decide +kernel⟩
theorem gc_5_12 : ∀ a, fcon 5 12 a = some (23, 8) := fun _ => rfl
theorem gf_5_13 : fty 5 13 = 2 ∧ fref 5 13 = 40 := by decide +kernel
theorem pf_5_13 : ((∃ c, tyX5 13 = .object c) ∨ ∃ c, tyX5 13 = .array c) ∧ (TX5 13).2.2.2 = true := ⟨Or.inr ⟨_, rfl⟩, by decide +kernel⟩
theorem gc_5_13 : ∀ a, fcon 5 13 a = some (24, 8) := fun _ => rfl
theorem gf_5_14 : fty 5 14 = 2 ∧ fref 5 14 = 40 := by decide +kernel
theorem pf_5_14 : ((∃ c, tyX5 14 = .object c) ∨ ∃ c, tyX5 14 = .array c) ∧ (TX5 14).2.2.2 = true := ⟨Or.inr ⟨_, rfl⟩, by decide +kernel⟩
theorem gc_5_14 : ∀ a, fcon 5 14 a = some (25, 8) := fun _ => rfl
theorem gf_5_15 : fty 5 15 = 0 ∨ fty 5 15 = 3 := by decide +kernel
theorem pf_5_15 : tyX5 15 = .int ∧ (TX5 15).2.2.2 = false := by decide +kernel
theorem gf_5_16 : fty 5 16 = 0 ∨ fty 5 16 = 3 := by decide +kernel
theorem pf_5_16 : tyX5 16 = .int ∧ (TX5 16).2.2.2 = false := by decide +kernel
theorem gf_5_17 : fty 5 17 = 0 ∨ fty 5 17 = 3 := by decide +kernel
theorem pf_5_17 : tyX5 17 = .int ∧ (TX5 17).2.2.2 = false := by decide +kernel
theorem gf_5_18 : fty 5 18 = 0 ∨ fty 5 18 = 3 := by decide +kernel
theorem pf_5_18 : tyX5 18 = .int ∧ (TX5 18).2.2.2 = false := by decide +kernel
theorem gf_5_19 : fty 5 19 = 0 ∨ fty 5 19 = 3 := by decide +kernel
theorem pf_5_19 : tyX5 19 = .int ∧ (TX5 19).2.2.2 = false := by decide +kernel
theorem gf_6_0 : fty 6 0 = 2 ∧ fref 6 0 = 40 := by decide +kernel
theorem pf_6_0 : ((∃ c, tyX6 0 = .object c) ∨ ∃ c, tyX6 0 = .array c) ∧ (TX6 0).2.2.2 = true := ⟨Or.inr ⟨_, rfl⟩, by decide +kernel⟩
theorem gc_6_0 : ∀ a, fcon 6 0 a = some (a + 1, 96) := fun _ => rfl
theorem gf_6_1 : fty 6 1 = 0 ∨ fty 6 1 = 3 := by decide +kernel
theorem pf_6_1 : tyX6 1 = .int ∧ (TX6 1).2.2.2 = false := by decide +kernel
theorem gf_7_0 : fty 7 0 = 2 ∧ fref 7 0 = 5 := by decide +kernel
theorem pf_7_0 : ((∃ c, tyX7 0 = .object c) ∨ ∃ c, tyX7 0 = .array c) ∧ (TX7 0).2.2.2 = true := ⟨Or.inl ⟨_, rfl⟩, by decide +kernel⟩
theorem gc_7_0 : ∀ a, fcon 7 0 a = some (14, 0) := fun _ => rfl
theorem gf_7_1 : fty 7 1 = 2 ∧ fref 7 1 = 3 := by decide +kernel
theorem pf_7_1 : ((∃ c, tyX7 1 = .object c) ∨ ∃ c, tyX7 1 = .array c) ∧ (TX7 1).2.2.2 = true := ⟨Or.inl ⟨_, rfl⟩, by decide +kernel⟩
theorem gc_7_1 : ∀ a, fcon 7 1 a = some (30, 0) := fun _ => rfl
theorem gf_7_2 : fty 7 2 = 2 ∧ fref 7 2 = 51 := by decide +kernel
theorem pf_7_2 : ((∃ c, tyX7 2 = .object c) ∨ ∃ c, tyX7 2 = .array c) ∧ (TX7 2).2.2.2 = true := ⟨Or.inr ⟨_, rfl⟩, by decide +kernel⟩
theorem gc_7_2 : ∀ a, fcon 7 2 a = some (33, 10) := fun _ => rfl
theorem gf_7_3 : fty 7 3 = 0 ∨ fty 7 3 = 3 := by decide +kernel
theorem pf_7_3 : tyX7 3 = .int ∧ (TX7 3).2.2.2 = false := by decide +kernel
theorem gf_7_4 : fty 7 4 = 2 ∧ fref 7 4 = 40 := by decide +kernel
theorem pf_7_4 : ((∃ c, tyX7 4 = .object c) ∨ ∃ c, tyX7 4 = .array c) ∧ (TX7 4).2.2.2 = true := ⟨Or.inr ⟨_, rfl⟩, by decide +kernel⟩
theorem gc_7_4 : ∀ a, fcon 7 4 a = some (34, 1024) := fun _ => rfl
theorem gf_7_5 : fty 7 5 = 0 ∨ fty 7 5 = 3 := by decide +kernel
theorem pf_7_5 : tyX7 5 = .int ∧ (TX7 5).2.2.2 = false := by decide +kernel
theorem gf_7_6 : fty 7 6 = 0 ∨ fty 7 6 = 3 := by decide +kernel
theorem pf_7_6 : tyX7 6 = .int ∧ (TX7 6).2.2.2 = false := by decide +kernel
theorem gf_7_7 : fty 7 7 = 2 ∧ fref 7 7 = 40 := by decide +kernel
theorem pf_7_7 : ((∃ c, tyX7 7 = .object c) ∨ ∃ c, tyX7 7 = .array c) ∧ (TX7 7).2.2.2 = true := ⟨Or.inr ⟨_, rfl⟩, by decide +kernel⟩
theorem gc_7_7 : ∀ a, fcon 7 7 a = some (35, 1024) := fun _ => rfl
theorem gf_7_8 : fty 7 8 = 2 ∧ fref 7 8 = 40 := by decide +kernel
theorem pf_7_8 : ((∃ c, tyX7 8 = .object c) ∨ ∃ c, tyX7 8 = .array c) ∧ (TX7 8).2.2.2 = true := ⟨Or.inr ⟨_, rfl⟩, by decide +kernel⟩
theorem gc_7_8 : ∀ a, fcon 7 8 a = some (36, 10) := fun _ => rfl
theorem gf_7_9 : fty 7 9 = 2 ∧ fref 7 9 = 40 := by decide +kernel
theorem pf_7_9 : ((∃ c, tyX7 9 = .object c) ∨ ∃ c, tyX7 9 = .array c) ∧ (TX7 9).2.2.2 = true := ⟨Or.inr ⟨_, rfl⟩, by decide +kernel⟩
theorem gc_7_9 : ∀ a, fcon 7 9 a = some (37, 120) := fun _ => rfl
theorem gf_7_10 : fty 7 10 = 2 ∧ fref 7 10 = 40 := by decide +kernel
theorem pf_7_10 : ((∃ c, tyX7 10 = .object c) ∨ ∃ c, tyX7 10 = .array c) ∧ (TX7 10).2.2.2 = true := ⟨Or.inr ⟨_, rfl⟩, by decide +kernel⟩
theorem gc_7_10 : ∀ a, fcon 7 10 a = some (38, 1024) := fun _ => rfl
theorem gf_7_11 : fty 7 11 = 0 ∨ fty 7 11 = 3 := by decide +kernel
theorem pf_7_11 : tyX7 11 = .int ∧ (TX7 11).2.2.2 = false := by decide +kernel
theorem gf_7_12 : fty 7 12 = 2 ∧ fref 7 12 = 0 := by decide +kernel
theorem pf_7_12 : ((∃ c, tyX7 12 = .object c) ∨ ∃ c, tyX7 12 = .array c) ∧ (TX7 12).2.2.2 = true := ⟨Or.inl ⟨_, rfl⟩, by decide +kernel⟩
theorem gc_7_12 : ∀ a, fcon 7 12 a = some (39, 0) := fun _ => rfl
theorem gf_7_13 : fty 7 13 = 2 ∧ fref 7 13 = 43 := by decide +kernel
theorem pf_7_13 : ((∃ c, tyX7 13 = .object c) ∨ ∃ c, tyX7 13 = .array c) ∧ (TX7 13).2.2.2 = true := ⟨Or.inr ⟨_, rfl⟩, by decide +kernel⟩
theorem gc_7_13 : ∀ a, fcon 7 13 a = some (41, 480) := fun _ => rfl
theorem gf_7_14 : fty 7 14 = 2 ∧ fref 7 14 = 43 := by decide +kernel
theorem pf_7_14 : ((∃ c, tyX7 14 = .object c) ∨ ∃ c, tyX7 14 = .array c) ∧ (TX7 14).2.2.2 = true := ⟨Or.inr ⟨_, rfl⟩, by decide +kernel⟩
theorem gc_7_14 : ∀ a, fcon 7 14 a = some (42, 336) := fun _ => rfl
theorem gf_8_0 : fty 8 0 = 0 ∨ fty 8 0 = 3 := by decide +kernel
theorem pf_8_0 : tyX8 0 = .int ∧ (TX8 0).2.2.2 = false := by decide +kernel
theorem gf_8_1 : fty 8 1 = 2 ∧ fref 8 1 = 40 := by decide +kernel
theorem pf_8_1 : ((∃ c, tyX8 1 = .object c) ∨ ∃ c, tyX8 1 = .array c) ∧ (TX8 1).2.2.2 = true := ⟨Or.inr ⟨_, rfl⟩, by decide +kernel⟩
theorem gc_8_1 : ∀ a, fcon 8 1 a = some (6, 512) := fun _ => rfl
theorem gf_8_2 : fty 8 2 = 0 ∨ fty 8 2 = 3 := by decide +kernel
theorem pf_8_2 : tyX8 2 = .int ∧ (TX8 2).2.2.2 = false := by decide +kernel
theorem gf_9_0 : fty 9 0 = 0 ∨ fty 9 0 = 3 := by decide +kernel
theorem pf_9_0 : tyX9 0 = .boolean ∧ (TX9 0).2.2.2 = false := by decide +kernel
theorem gf_9_1 : fty 9 1 = 0 ∨ fty 9 1 = 3 := by decide +kernel
theorem pf_9_1 : tyX9 1 = .int ∧ (TX9 1).2.2.2 = false := by decide +kernel
theorem gf_9_2 : fty 9 2 = 2 ∧ fref 9 2 = 40 := by decide +kernel
theorem pf_9_2 : ((∃ c, tyX9 2 = .object c) ∨ ∃ c, tyX9 2 = .array c) ∧ (TX9 2).2.2.2 = true := ⟨Or.inr ⟨_, rfl⟩, by decide +kernel⟩
theorem gc_9_2 : ∀ a, fcon 9 2 a = some (27, 64) := fun _ => rfl
theorem gf_9_3 : fty 9 3 = 2 ∧ fref 9 3 = 43 := by decide +kernel
theorem pf_9_3 : ((∃ c, tyX9 3 = .object c) ∨ ∃ c, tyX9 3 = .array c) ∧ (TX9 3).2.2.2 = true := ⟨Or.inr ⟨_, rfl⟩, by decide +kernel⟩
theorem gc_9_3 : ∀ a, fcon 9 3 a = some (28, 256) := fun _ => rfl
theorem gf_9_4 : fty 9 4 = 2 ∧ fref 9 4 = 43 := by decide +kernel
theorem pf_9_4 : ((∃ c, tyX9 4 = .object c) ∨ ∃ c, tyX9 4 = .array c) ∧ (TX9 4).2.2.2 = true := ⟨Or.inr ⟨_, rfl⟩, by decide +kernel⟩
theorem gc_9_4 : ∀ a, fcon 9 4 a = some (29, 8) := fun _ => rfl
theorem gf_10_0 : fty 10 0 = 2 ∧ fref 10 0 = 40 := by decide +kernel
theorem pf_10_0 : ((∃ c, tyX10 0 = .object c) ∨ ∃ c, tyX10 0 = .array c) ∧ (TX10 0).2.2.2 = true := ⟨Or.inr ⟨_, rfl⟩, by decide +kernel⟩
theorem gc_10_0 : ∀ a, fcon 10 0 a = some (3, 600) := fun _ => rfl
theorem gf_10_1 : fty 10 1 = 0 ∨ fty 10 1 = 3 := by decide +kernel
theorem pf_10_1 : tyX10 1 = .int ∧ (TX10 1).2.2.2 = false := by decide +kernel
theorem gf_10_2 : fty 10 2 = 0 ∨ fty 10 2 = 3 := by decide +kernel
theorem pf_10_2 : tyX10 2 = .int ∧ (TX10 2).2.2.2 = false := by decide +kernel
theorem gf_10_3 : fty 10 3 = 0 ∨ fty 10 3 = 3 := by decide +kernel
theorem pf_10_3 : tyX10 3 = .int ∧ (TX10 3).2.2.2 = false := by decide +kernel
theorem gf_10_4 : fty 10 4 = 0 ∨ fty 10 4 = 3 := by decide +kernel
theorem pf_10_4 : tyX10 4 = .int ∧ (TX10 4).2.2.2 = false := by decide +kernel
theorem gf_10_5 : fty 10 5 = 0 ∨ fty 10 5 = 3 := by decide +kernel
theorem pf_10_5 : tyX10 5 = .int ∧ (TX10 5).2.2.2 = false := by decide +kernel
theorem gf_10_6 : fty 10 6 = 0 ∨ fty 10 6 = 3 := by decide +kernel
theorem pf_10_6 : tyX10 6 = .int ∧ (TX10 6).2.2.2 = false := by decide +kernel
theorem gf_11_0 : fty 11 0 = 2 ∧ fref 11 0 = 40 := by decide +kernel
theorem pf_11_0 : ((∃ c, tyX11 0 = .object c) ∨ ∃ c, tyX11 0 = .array c) ∧ (TX11 0).2.2.2 = true := ⟨Or.inr ⟨_, rfl⟩, by decide +kernel⟩
theorem gc_11_0 : ∀ a, fcon 11 0 a = some (1, 8) := fun _ => rfl
theorem gf_11_1 : fty 11 1 = 2 ∧ fref 11 1 = 10 := by decide +kernel
theorem pf_11_1 : ((∃ c, tyX11 1 = .object c) ∨ ∃ c, tyX11 1 = .array c) ∧ (TX11 1).2.2.2 = true := ⟨Or.inl ⟨_, rfl⟩, by decide +kernel⟩
theorem gc_11_1 : ∀ a, fcon 11 1 a = some (2, 0) := fun _ => rfl
theorem gf_11_2 : fty 11 2 = 2 ∧ fref 11 2 = 2 := by decide +kernel
theorem pf_11_2 : ((∃ c, tyX11 2 = .object c) ∨ ∃ c, tyX11 2 = .array c) ∧ (TX11 2).2.2.2 = true := ⟨Or.inl ⟨_, rfl⟩, by decide +kernel⟩
theorem gc_11_2 : ∀ a, fcon 11 2 a = some (4, 0) := fun _ => rfl
theorem gf_11_3 : fty 11 3 = 2 ∧ fref 11 3 = 51 := by decide +kernel
theorem pf_11_3 : ((∃ c, tyX11 3 = .object c) ∨ ∃ c, tyX11 3 = .array c) ∧ (TX11 3).2.2.2 = true := ⟨Or.inr ⟨_, rfl⟩, by decide +kernel⟩
theorem gc_11_3 : ∀ a, fcon 11 3 a = some (8, 24) := fun _ => rfl
theorem gf_11_4 : fty 11 4 = 0 ∨ fty 11 4 = 3 := by decide +kernel
theorem pf_11_4 : tyX11 4 = .int ∧ (TX11 4).2.2.2 = false := by decide +kernel
theorem gf_11_5 : fty 11 5 = 2 ∧ fref 11 5 = 56 := by decide +kernel
theorem pf_11_5 : ((∃ c, tyX11 5 = .object c) ∨ ∃ c, tyX11 5 = .array c) ∧ (TX11 5).2.2.2 = true := ⟨Or.inr ⟨_, rfl⟩, by decide +kernel⟩
theorem gc_11_5 : ∀ a, fcon 11 5 a = some (9, 6) := fun _ => rfl
theorem gf_11_6 : fty 11 6 = 0 ∨ fty 11 6 = 3 := by decide +kernel
theorem pf_11_6 : tyX11 6 = .int ∧ (TX11 6).2.2.2 = false := by decide +kernel
theorem gf_11_7 : fty 11 7 = 2 ∧ fref 11 7 = 56 := by decide +kernel
theorem pf_11_7 : ((∃ c, tyX11 7 = .object c) ∨ ∃ c, tyX11 7 = .array c) ∧ (TX11 7).2.2.2 = true := ⟨Or.inr ⟨_, rfl⟩, by decide +kernel⟩
theorem gc_11_7 : ∀ a, fcon 11 7 a = some (10, 12) := fun _ => rfl
theorem gf_11_8 : fty 11 8 = 0 ∨ fty 11 8 = 3 := by decide +kernel
theorem pf_11_8 : tyX11 8 = .int ∧ (TX11 8).2.2.2 = false := by decide +kernel
theorem gf_11_9 : fty 11 9 = 0 ∨ fty 11 9 = 3 := by decide +kernel
theorem pf_11_9 : tyX11 9 = .int ∧ (TX11 9).2.2.2 = false := by decide +kernel
theorem gf_11_10 : fty 11 10 = 2 ∧ fref 11 10 = 0 := by decide +kernel
theorem pf_11_10 : ((∃ c, tyX11 10 = .object c) ∨ ∃ c, tyX11 10 = .array c) ∧ (TX11 10).2.2.2 = true := ⟨Or.inl ⟨_, rfl⟩, by decide +kernel⟩
theorem gc_11_10 : ∀ a, fcon 11 10 a = some (11, 0) := fun _ => rfl
theorem gf_11_11 : fty 11 11 = 2 ∧ fref 11 11 = 50 := by decide +kernel
theorem pf_11_11 : ((∃ c, tyX11 11 = .object c) ∨ ∃ c, tyX11 11 = .array c) ∧ (TX11 11).2.2.2 = true := ⟨Or.inr ⟨_, rfl⟩, by decide +kernel⟩
theorem gc_11_11 : ∀ a, fcon 11 11 a = some (13, 6) := fun _ => rfl
theorem gf_11_12 : fty 11 12 = 0 ∨ fty 11 12 = 3 := by decide +kernel
theorem pf_11_12 : tyX11 12 = .int ∧ (TX11 12).2.2.2 = false := by decide +kernel
theorem gf_11_13 : fty 11 13 = 2 ∧ fref 11 13 = 5 := by decide +kernel
theorem pf_11_13 : ((∃ c, tyX11 13 = .object c) ∨ ∃ c, tyX11 13 = .array c) ∧ (TX11 13).2.2.2 = true := ⟨Or.inl ⟨_, rfl⟩, by decide +kernel⟩
theorem gc_11_13 : ∀ a, fcon 11 13 a = some (14, 0) := fun _ => rfl
theorem gf_11_14 : fty 11 14 = 2 ∧ fref 11 14 = 9 := by decide +kernel
theorem pf_11_14 : ((∃ c, tyX11 14 = .object c) ∨ ∃ c, tyX11 14 = .array c) ∧ (TX11 14).2.2.2 = true := ⟨Or.inl ⟨_, rfl⟩, by decide +kernel⟩
theorem gc_11_14 : ∀ a, fcon 11 14 a = some (26, 0) := fun _ => rfl
theorem gf_11_15 : fty 11 15 = 2 ∧ fref 11 15 = 3 := by decide +kernel
theorem pf_11_15 : ((∃ c, tyX11 15 = .object c) ∨ ∃ c, tyX11 15 = .array c) ∧ (TX11 15).2.2.2 = true := ⟨Or.inl ⟨_, rfl⟩, by decide +kernel⟩
theorem gc_11_15 : ∀ a, fcon 11 15 a = some (30, 0) := fun _ => rfl
theorem gf_11_16 : fty 11 16 = 2 ∧ fref 11 16 = 7 := by decide +kernel
theorem pf_11_16 : ((∃ c, tyX11 16 = .object c) ∨ ∃ c, tyX11 16 = .array c) ∧ (TX11 16).2.2.2 = true := ⟨Or.inl ⟨_, rfl⟩, by decide +kernel⟩
theorem gc_11_16 : ∀ a, fcon 11 16 a = some (32, 0) := fun _ => rfl
theorem gf_11_17 : fty 11 17 = 2 ∧ fref 11 17 = 4 := by decide +kernel
theorem pf_11_17 : ((∃ c, tyX11 17 = .object c) ∨ ∃ c, tyX11 17 = .array c) ∧ (TX11 17).2.2.2 = true := ⟨Or.inl ⟨_, rfl⟩, by decide +kernel⟩
theorem gc_11_17 : ∀ a, fcon 11 17 a = some (43, 0) := fun _ => rfl
theorem gf_12_0 : fty 12 0 = 2 ∧ fref 12 0 = 40 := by decide +kernel
theorem pf_12_0 : ((∃ c, tyX12 0 = .object c) ∨ ∃ c, tyX12 0 = .array c) ∧ (TX12 0).2.2.2 = true := ⟨Or.inr ⟨_, rfl⟩, by decide +kernel⟩
theorem gc_12_0 : ∀ a, fcon 12 0 a = some (52, 8) := fun _ => rfl
theorem gf_12_1 : fty 12 1 = 0 ∨ fty 12 1 = 3 := by decide +kernel
theorem pf_12_1 : tyX12 1 = .int ∧ (TX12 1).2.2.2 = false := by decide +kernel
theorem gf_12_2 : fty 12 2 = 2 ∧ fref 12 2 = 40 := by decide +kernel
theorem pf_12_2 : ((∃ c, tyX12 2 = .object c) ∨ ∃ c, tyX12 2 = .array c) ∧ (TX12 2).2.2.2 = true := ⟨Or.inr ⟨_, rfl⟩, by decide +kernel⟩
theorem gc_12_2 : ∀ a, fcon 12 2 a = some (53, 24) := fun _ => rfl
theorem gf_12_3 : fty 12 3 = 2 ∧ fref 12 3 = 40 := by decide +kernel
theorem pf_12_3 : ((∃ c, tyX12 3 = .object c) ∨ ∃ c, tyX12 3 = .array c) ∧ (TX12 3).2.2.2 = true := ⟨Or.inr ⟨_, rfl⟩, by decide +kernel⟩
theorem gc_12_3 : ∀ a, fcon 12 3 a = some (54, 24) := fun _ => rfl
theorem gf_12_4 : fty 12 4 = 2 ∧ fref 12 4 = 40 := by decide +kernel
theorem pf_12_4 : ((∃ c, tyX12 4 = .object c) ∨ ∃ c, tyX12 4 = .array c) ∧ (TX12 4).2.2.2 = true := ⟨Or.inr ⟨_, rfl⟩, by decide +kernel⟩
theorem gc_12_4 : ∀ a, fcon 12 4 a = some (55, 24) := fun _ => rfl
theorem gf_12_5 : fty 12 5 = 2 ∧ fref 12 5 = 40 := by decide +kernel
theorem pf_12_5 : ((∃ c, tyX12 5 = .object c) ∨ ∃ c, tyX12 5 = .array c) ∧ (TX12 5).2.2.2 = true := ⟨Or.inr ⟨_, rfl⟩, by decide +kernel⟩
theorem gc_12_5 : ∀ a, fcon 12 5 a = some (56, 24) := fun _ => rfl
theorem gf_12_6 : fty 12 6 = 2 ∧ fref 12 6 = 40 := by decide +kernel
theorem pf_12_6 : ((∃ c, tyX12 6 = .object c) ∨ ∃ c, tyX12 6 = .array c) ∧ (TX12 6).2.2.2 = true := ⟨Or.inr ⟨_, rfl⟩, by decide +kernel⟩
theorem gc_12_6 : ∀ a, fcon 12 6 a = some (57, 24) := fun _ => rfl
theorem gf_12_7 : fty 12 7 = 2 ∧ fref 12 7 = 40 := by decide +kernel
theorem pf_12_7 : ((∃ c, tyX12 7 = .object c) ∨ ∃ c, tyX12 7 = .array c) ∧ (TX12 7).2.2.2 = true := ⟨Or.inr ⟨_, rfl⟩, by decide +kernel⟩
theorem gc_12_7 : ∀ a, fcon 12 7 a = some (58, 2304) := fun _ => rfl
theorem gf_12_8 : fty 12 8 = 2 ∧ fref 12 8 = 40 := by decide +kernel
theorem pf_12_8 : ((∃ c, tyX12 8 = .object c) ∨ ∃ c, tyX12 8 = .array c) ∧ (TX12 8).2.2.2 = true := ⟨Or.inr ⟨_, rfl⟩, by decide +kernel⟩
theorem gc_12_8 : ∀ a, fcon 12 8 a = some (59, 2304) := fun _ => rfl
theorem gf_12_9 : fty 12 9 = 2 ∧ fref 12 9 = 40 := by decide +kernel
theorem pf_12_9 : ((∃ c, tyX12 9 = .object c) ∨ ∃ c, tyX12 9 = .array c) ∧ (TX12 9).2.2.2 = true := ⟨Or.inr ⟨_, rfl⟩, by decide +kernel⟩
theorem gc_12_9 : ∀ a, fcon 12 9 a = some (60, 2304) := fun _ => rfl
theorem gf_12_10 : fty 12 10 = 2 ∧ fref 12 10 = 40 := by decide +kernel
theorem pf_12_10 : ((∃ c, tyX12 10 = .object c) ∨ ∃ c, tyX12 10 = .array c) ∧ (TX12 10).2.2.2 = true := ⟨Or.inr ⟨_, rfl⟩, by decide +kernel⟩
theorem gc_12_10 : ∀ a, fcon 12 10 a = some (61, 2304) := fun _ => rfl
theorem gf_12_11 : fty 12 11 = 2 ∧ fref 12 11 = 40 := by decide +kernel
theorem pf_12_11 : ((∃ c, tyX12 11 = .object c) ∨ ∃ c, tyX12 11 = .array c) ∧ (TX12 11).2.2.2 = true := ⟨Or.inr ⟨_, rfl⟩, by decide +kernel⟩
theorem gc_12_11 : ∀ a, fcon 12 11 a = some (62, 2304) := fun _ => rfl
theorem gf_12_12 : fty 12 12 = 2 ∧ fref 12 12 = 40 := by decide +kernel
theorem pf_12_12 : ((∃ c, tyX12 12 = .object c) ∨ ∃ c, tyX12 12 = .array c) ∧ (TX12 12).2.2.2 = true := ⟨Or.inr ⟨_, rfl⟩, by decide +kernel⟩
theorem gc_12_12 : ∀ a, fcon 12 12 a = some (63, 2304) := fun _ => rfl
theorem gf_12_13 : fty 12 13 = 2 ∧ fref 12 13 = 40 := by decide +kernel
theorem pf_12_13 : ((∃ c, tyX12 13 = .object c) ∨ ∃ c, tyX12 13 = .array c) ∧ (TX12 13).2.2.2 = true := ⟨Or.inr ⟨_, rfl⟩, by decide +kernel⟩
theorem gc_12_13 : ∀ a, fcon 12 13 a = some (64, 2304) := fun _ => rfl
theorem gf_12_14 : fty 12 14 = 2 ∧ fref 12 14 = 40 := by decide +kernel
theorem pf_12_14 : ((∃ c, tyX12 14 = .object c) ∨ ∃ c, tyX12 14 = .array c) ∧ (TX12 14).2.2.2 = true := ⟨Or.inr ⟨_, rfl⟩, by decide +kernel⟩
theorem gc_12_14 : ∀ a, fcon 12 14 a = some (65, 2304) := fun _ => rfl
theorem gf_12_15 : fty 12 15 = 2 ∧ fref 12 15 = 40 := by decide +kernel
theorem pf_12_15 : ((∃ c, tyX12 15 = .object c) ∨ ∃ c, tyX12 15 = .array c) ∧ (TX12 15).2.2.2 = true := ⟨Or.inr ⟨_, rfl⟩, by decide +kernel⟩
theorem gc_12_15 : ∀ a, fcon 12 15 a = some (66, 2304) := fun _ => rfl
theorem gf_12_16 : fty 12 16 = 2 ∧ fref 12 16 = 40 := by decide +kernel
theorem pf_12_16 : ((∃ c, tyX12 16 = .object c) ∨ ∃ c, tyX12 16 = .array c) ∧ (TX12 16).2.2.2 = true := ⟨Or.inr ⟨_, rfl⟩, by decide +kernel⟩
theorem gc_12_16 : ∀ a, fcon 12 16 a = some (67, 2304) := fun _ => rfl
theorem gf_12_17 : fty 12 17 = 2 ∧ fref 12 17 = 40 := by decide +kernel
theorem pf_12_17 : ((∃ c, tyX12 17 = .object c) ∨ ∃ c, tyX12 17 = .array c) ∧ (TX12 17).2.2.2 = true := ⟨Or.inr ⟨_, rfl⟩, by decide +kernel⟩
theorem gc_12_17 : ∀ a, fcon 12 17 a = some (68, 2304) := fun _ => rfl
theorem gf_12_18 : fty 12 18 = 2 ∧ fref 12 18 = 40 := by decide +kernel
theorem pf_12_18 : ((∃ c, tyX12 18 = .object c) ∨ ∃ c, tyX12 18 = .array c) ∧ (TX12 18).2.2.2 = true := ⟨Or.inr ⟨_, rfl⟩, by decide +kernel⟩
theorem gc_12_18 : ∀ a, fcon 12 18 a = some (69, 2304) := fun _ => rfl
theorem gf_12_19 : fty 12 19 = 2 ∧ fref 12 19 = 40 := by decide +kernel
theorem pf_12_19 : ((∃ c, tyX12 19 = .object c) ∨ ∃ c, tyX12 19 = .array c) ∧ (TX12 19).2.2.2 = true := ⟨Or.inr ⟨_, rfl⟩, by decide +kernel⟩
theorem gc_12_19 : ∀ a, fcon 12 19 a = some (70, 2304) := fun _ => rfl
theorem gf_12_20 : fty 12 20 = 2 ∧ fref 12 20 = 41 := by decide +kernel
theorem pf_12_20 : ((∃ c, tyX12 20 = .object c) ∨ ∃ c, tyX12 20 = .array c) ∧ (TX12 20).2.2.2 = true := ⟨Or.inr ⟨_, rfl⟩, by decide +kernel⟩
theorem gc_12_20 : ∀ a, fcon 12 20 a = some (71, 600) := fun _ => rfl
theorem gf_12_21 : fty 12 21 = 0 ∨ fty 12 21 = 3 := by decide +kernel
theorem pf_12_21 : tyX12 21 = .int ∧ (TX12 21).2.2.2 = false := by decide +kernel
theorem gf_12_22 : fty 12 22 = 0 ∨ fty 12 22 = 3 := by decide +kernel
theorem pf_12_22 : tyX12 22 = .int ∧ (TX12 22).2.2.2 = false := by decide +kernel
theorem gf_12_23 : fty 12 23 = 0 ∨ fty 12 23 = 3 := by decide +kernel
theorem pf_12_23 : tyX12 23 = .int ∧ (TX12 23).2.2.2 = false := by decide +kernel
theorem gf_12_24 : fty 12 24 = 0 ∨ fty 12 24 = 3 := by decide +kernel
theorem pf_12_24 : tyX12 24 = .int ∧ (TX12 24).2.2.2 = false := by decide +kernel
theorem gf_12_25 : fty 12 25 = 0 ∨ fty 12 25 = 3 := by decide +kernel
theorem pf_12_25 : tyX12 25 = .int ∧ (TX12 25).2.2.2 = false := by decide +kernel
theorem gf_12_26 : fty 12 26 = 0 ∨ fty 12 26 = 3 := by decide +kernel
theorem pf_12_26 : tyX12 26 = .int ∧ (TX12 26).2.2.2 = false := by decide +kernel
theorem gf_12_27 : fty 12 27 = 0 ∨ fty 12 27 = 3 := by decide +kernel
theorem pf_12_27 : tyX12 27 = .int ∧ (TX12 27).2.2.2 = false := by decide +kernel
theorem gf_12_28 : fty 12 28 = 1 := by decide +kernel
theorem pf_12_28 : tyX12 28 = .long ∧ (TX12 28).2.2.2 = false := by decide +kernel
theorem gf_12_29 : fty 12 29 = 0 ∨ fty 12 29 = 3 := by decide +kernel
theorem pf_12_29 : tyX12 29 = .boolean ∧ (TX12 29).2.2.2 = false := by decide +kernel
theorem gf_12_30 : fty 12 30 = 2 ∧ fref 12 30 = 40 := by decide +kernel
theorem pf_12_30 : ((∃ c, tyX12 30 = .object c) ∨ ∃ c, tyX12 30 = .array c) ∧ (TX12 30).2.2.2 = true := ⟨Or.inr ⟨_, rfl⟩, by decide +kernel⟩
theorem gc_12_30 : ∀ a, fcon 12 30 a = some (72, 6) := fun _ => rfl
theorem gf_12_31 : fty 12 31 = 2 ∧ fref 12 31 = 40 := by decide +kernel
theorem pf_12_31 : ((∃ c, tyX12 31 = .object c) ∨ ∃ c, tyX12 31 = .array c) ∧ (TX12 31).2.2.2 = true := ⟨Or.inr ⟨_, rfl⟩, by decide +kernel⟩
theorem gc_12_31 : ∀ a, fcon 12 31 a = some (73, 6) := fun _ => rfl
theorem gf_12_32 : fty 12 32 = 0 ∨ fty 12 32 = 3 := by decide +kernel
theorem pf_12_32 : tyX12 32 = .int ∧ (TX12 32).2.2.2 = false := by decide +kernel
theorem gf_12_33 : fty 12 33 = 0 ∨ fty 12 33 = 3 := by decide +kernel
theorem pf_12_33 : tyX12 33 = .int ∧ (TX12 33).2.2.2 = false := by decide +kernel
theorem gf_12_34 : fty 12 34 = 0 ∨ fty 12 34 = 3 := by decide +kernel
theorem pf_12_34 : tyX12 34 = .int ∧ (TX12 34).2.2.2 = false := by decide +kernel
theorem gf_12_35 : fty 12 35 = 0 ∨ fty 12 35 = 3 := by decide +kernel
theorem pf_12_35 : tyX12 35 = .int ∧ (TX12 35).2.2.2 = false := by decide +kernel
theorem gf_12_36 : fty 12 36 = 0 ∨ fty 12 36 = 3 := by decide +kernel
theorem pf_12_36 : tyX12 36 = .int ∧ (TX12 36).2.2.2 = false := by decide +kernel
theorem gf_12_37 : fty 12 37 = 0 ∨ fty 12 37 = 3 := by decide +kernel
theorem pf_12_37 : tyX12 37 = .int ∧ (TX12 37).2.2.2 = false := by decide +kernel
theorem gf_12_38 : fty 12 38 = 2 ∧ fref 12 38 = 42 := by decide +kernel
theorem pf_12_38 : ((∃ c, tyX12 38 = .object c) ∨ ∃ c, tyX12 38 = .array c) ∧ (TX12 38).2.2.2 = true := ⟨Or.inr ⟨_, rfl⟩, by decide +kernel⟩
theorem gc_12_38 : ∀ a, fcon 12 38 a = some (74, 96) := fun _ => rfl
theorem gf_12_39 : fty 12 39 = 2 ∧ fref 12 39 = 42 := by decide +kernel
theorem pf_12_39 : ((∃ c, tyX12 39 = .object c) ∨ ∃ c, tyX12 39 = .array c) ∧ (TX12 39).2.2.2 = true := ⟨Or.inr ⟨_, rfl⟩, by decide +kernel⟩
theorem gc_12_39 : ∀ a, fcon 12 39 a = some (75, 96) := fun _ => rfl
theorem gf_12_40 : fty 12 40 = 2 ∧ fref 12 40 = 40 := by decide +kernel
theorem pf_12_40 : ((∃ c, tyX12 40 = .object c) ∨ ∃ c, tyX12 40 = .array c) ∧ (TX12 40).2.2.2 = true := ⟨Or.inr ⟨_, rfl⟩, by decide +kernel⟩
theorem gc_12_40 : ∀ a, fcon 12 40 a = some (76, 96) := fun _ => rfl
theorem gf_12_41 : fty 12 41 = 0 ∨ fty 12 41 = 3 := by decide +kernel
theorem pf_12_41 : tyX12 41 = .int ∧ (TX12 41).2.2.2 = false := by decide +kernel
theorem gf_12_42 : fty 12 42 = 0 ∨ fty 12 42 = 3 := by decide +kernel
theorem pf_12_42 : tyX12 42 = .int ∧ (TX12 42).2.2.2 = false := by decide +kernel
theorem gf_12_43 : fty 12 43 = 0 ∨ fty 12 43 = 3 := by decide +kernel
theorem pf_12_43 : tyX12 43 = .int ∧ (TX12 43).2.2.2 = false := by decide +kernel
theorem gf_12_44 : fty 12 44 = 2 ∧ fref 12 44 = 40 := by decide +kernel
theorem pf_12_44 : ((∃ c, tyX12 44 = .object c) ∨ ∃ c, tyX12 44 = .array c) ∧ (TX12 44).2.2.2 = true := ⟨Or.inr ⟨_, rfl⟩, by decide +kernel⟩
theorem gc_12_44 : ∀ a, fcon 12 44 a = some (77, 1600) := fun _ => rfl
theorem gf_12_45 : fty 12 45 = 0 ∨ fty 12 45 = 3 := by decide +kernel
theorem pf_12_45 : tyX12 45 = .int ∧ (TX12 45).2.2.2 = false := by decide +kernel
theorem gf_12_46 : fty 12 46 = 2 ∧ fref 12 46 = 40 := by decide +kernel
theorem pf_12_46 : ((∃ c, tyX12 46 = .object c) ∨ ∃ c, tyX12 46 = .array c) ∧ (TX12 46).2.2.2 = true := ⟨Or.inr ⟨_, rfl⟩, by decide +kernel⟩
theorem gc_12_46 : ∀ a, fcon 12 46 a = some (78, 8) := fun _ => rfl
theorem gf_12_47 : fty 12 47 = 0 ∨ fty 12 47 = 3 := by decide +kernel
theorem pf_12_47 : tyX12 47 = .int ∧ (TX12 47).2.2.2 = false := by decide +kernel
theorem gf_12_48 : fty 12 48 = 0 ∨ fty 12 48 = 3 := by decide +kernel
theorem pf_12_48 : tyX12 48 = .int ∧ (TX12 48).2.2.2 = false := by decide +kernel
theorem gf_12_49 : fty 12 49 = 2 ∧ fref 12 49 = 40 := by decide +kernel
theorem pf_12_49 : ((∃ c, tyX12 49 = .object c) ∨ ∃ c, tyX12 49 = .array c) ∧ (TX12 49).2.2.2 = true := ⟨Or.inr ⟨_, rfl⟩, by decide +kernel⟩
theorem gc_12_49 : ∀ a, fcon 12 49 a = some (79, 256) := fun _ => rfl
theorem gf_12_50 : fty 12 50 = 2 ∧ fref 12 50 = 40 := by decide +kernel
theorem pf_12_50 : ((∃ c, tyX12 50 = .object c) ∨ ∃ c, tyX12 50 = .array c) ∧ (TX12 50).2.2.2 = true := ⟨Or.inr ⟨_, rfl⟩, by decide +kernel⟩
theorem gc_12_50 : ∀ a, fcon 12 50 a = some (80, 256) := fun _ => rfl
theorem gf_12_51 : fty 12 51 = 2 ∧ fref 12 51 = 40 := by decide +kernel
theorem pf_12_51 : ((∃ c, tyX12 51 = .object c) ∨ ∃ c, tyX12 51 = .array c) ∧ (TX12 51).2.2.2 = true := ⟨Or.inr ⟨_, rfl⟩, by decide +kernel⟩
theorem gc_12_51 : ∀ a, fcon 12 51 a = some (81, 256) := fun _ => rfl
theorem gf_12_52 : fty 12 52 = 2 ∧ fref 12 52 = 40 := by decide +kernel
theorem pf_12_52 : ((∃ c, tyX12 52 = .object c) ∨ ∃ c, tyX12 52 = .array c) ∧ (TX12 52).2.2.2 = true := ⟨Or.inr ⟨_, rfl⟩, by decide +kernel⟩
theorem gc_12_52 : ∀ a, fcon 12 52 a = some (82, 256) := fun _ => rfl
theorem gf_12_53 : fty 12 53 = 2 ∧ fref 12 53 = 43 := by decide +kernel
theorem pf_12_53 : ((∃ c, tyX12 53 = .object c) ∨ ∃ c, tyX12 53 = .array c) ∧ (TX12 53).2.2.2 = true := ⟨Or.inr ⟨_, rfl⟩, by decide +kernel⟩
theorem gc_12_53 : ∀ a, fcon 12 53 a = some (83, 256) := fun _ => rfl
theorem gf_12_54 : fty 12 54 = 0 ∨ fty 12 54 = 3 := by decide +kernel
theorem pf_12_54 : tyX12 54 = .int ∧ (TX12 54).2.2.2 = false := by decide +kernel
theorem gf_12_55 : fty 12 55 = 0 ∨ fty 12 55 = 3 := by decide +kernel
theorem pf_12_55 : tyX12 55 = .int ∧ (TX12 55).2.2.2 = false := by decide +kernel
theorem gf_12_56 : fty 12 56 = 2 ∧ fref 12 56 = 40 := by decide +kernel
theorem pf_12_56 : ((∃ c, tyX12 56 = .object c) ∨ ∃ c, tyX12 56 = .array c) ∧ (TX12 56).2.2.2 = true := ⟨Or.inr ⟨_, rfl⟩, by decide +kernel⟩
theorem gc_12_56 : ∀ a, fcon 12 56 a = some (84, 6) := fun _ => rfl
theorem gf_12_57 : fty 12 57 = 2 ∧ fref 12 57 = 40 := by decide +kernel
theorem pf_12_57 : ((∃ c, tyX12 57 = .object c) ∨ ∃ c, tyX12 57 = .array c) ∧ (TX12 57).2.2.2 = true := ⟨Or.inr ⟨_, rfl⟩, by decide +kernel⟩
theorem gc_12_57 : ∀ a, fcon 12 57 a = some (85, 6) := fun _ => rfl
theorem gf_12_58 : fty 12 58 = 0 ∨ fty 12 58 = 3 := by decide +kernel
theorem pf_12_58 : tyX12 58 = .int ∧ (TX12 58).2.2.2 = false := by decide +kernel
theorem gf_12_59 : fty 12 59 = 0 ∨ fty 12 59 = 3 := by decide +kernel
theorem pf_12_59 : tyX12 59 = .int ∧ (TX12 59).2.2.2 = false := by decide +kernel
theorem gf_12_60 : fty 12 60 = 1 := by decide +kernel
theorem pf_12_60 : tyX12 60 = .long ∧ (TX12 60).2.2.2 = false := by decide +kernel
theorem gf_12_61 : fty 12 61 = 0 ∨ fty 12 61 = 3 := by decide +kernel
theorem pf_12_61 : tyX12 61 = .int ∧ (TX12 61).2.2.2 = false := by decide +kernel
theorem gf_12_62 : fty 12 62 = 2 ∧ fref 12 62 = 40 := by decide +kernel
theorem pf_12_62 : ((∃ c, tyX12 62 = .object c) ∨ ∃ c, tyX12 62 = .array c) ∧ (TX12 62).2.2.2 = true := ⟨Or.inr ⟨_, rfl⟩, by decide +kernel⟩
theorem gc_12_62 : ∀ a, fcon 12 62 a = some (86, 256) := fun _ => rfl
theorem gf_12_63 : fty 12 63 = 2 ∧ fref 12 63 = 42 := by decide +kernel
theorem pf_12_63 : ((∃ c, tyX12 63 = .object c) ∨ ∃ c, tyX12 63 = .array c) ∧ (TX12 63).2.2.2 = true := ⟨Or.inr ⟨_, rfl⟩, by decide +kernel⟩
theorem gc_12_63 : ∀ a, fcon 12 63 a = some (87, 8) := fun _ => rfl
theorem gf_12_64 : fty 12 64 = 2 ∧ fref 12 64 = 43 := by decide +kernel
theorem pf_12_64 : ((∃ c, tyX12 64 = .object c) ∨ ∃ c, tyX12 64 = .array c) ∧ (TX12 64).2.2.2 = true := ⟨Or.inr ⟨_, rfl⟩, by decide +kernel⟩
theorem gc_12_64 : ∀ a, fcon 12 64 a = some (88, 8) := fun _ => rfl
theorem gf_12_65 : fty 12 65 = 2 ∧ fref 12 65 = 40 := by decide +kernel
theorem pf_12_65 : ((∃ c, tyX12 65 = .object c) ∨ ∃ c, tyX12 65 = .array c) ∧ (TX12 65).2.2.2 = true := ⟨Or.inr ⟨_, rfl⟩, by decide +kernel⟩
theorem gc_12_65 : ∀ a, fcon 12 65 a = some (89, 8) := fun _ => rfl
theorem gf_12_66 : fty 12 66 = 2 ∧ fref 12 66 = 40 := by decide +kernel
theorem pf_12_66 : ((∃ c, tyX12 66 = .object c) ∨ ∃ c, tyX12 66 = .array c) ∧ (TX12 66).2.2.2 = true := ⟨Or.inr ⟨_, rfl⟩, by decide +kernel⟩
theorem gc_12_66 : ∀ a, fcon 12 66 a = some (90, 8) := fun _ => rfl
theorem gf_12_67 : fty 12 67 = 0 ∨ fty 12 67 = 3 := by decide +kernel
theorem pf_12_67 : tyX12 67 = .int ∧ (TX12 67).2.2.2 = false := by decide +kernel
theorem gf_12_68 : fty 12 68 = 0 ∨ fty 12 68 = 3 := by decide +kernel
theorem pf_12_68 : tyX12 68 = .int ∧ (TX12 68).2.2.2 = false := by decide +kernel
theorem gf_12_69 : fty 12 69 = 2 ∧ fref 12 69 = 40 := by decide +kernel
theorem pf_12_69 : ((∃ c, tyX12 69 = .object c) ∨ ∃ c, tyX12 69 = .array c) ∧ (TX12 69).2.2.2 = true := ⟨Or.inr ⟨_, rfl⟩, by decide +kernel⟩
theorem gc_12_69 : ∀ a, fcon 12 69 a = some (91, 6) := fun _ => rfl
theorem gf_12_70 : fty 12 70 = 2 ∧ fref 12 70 = 40 := by decide +kernel
theorem pf_12_70 : ((∃ c, tyX12 70 = .object c) ∨ ∃ c, tyX12 70 = .array c) ∧ (TX12 70).2.2.2 = true := ⟨Or.inr ⟨_, rfl⟩, by decide +kernel⟩
theorem gc_12_70 : ∀ a, fcon 12 70 a = some (92, 12) := fun _ => rfl
theorem gf_12_71 : fty 12 71 = 2 ∧ fref 12 71 = 40 := by decide +kernel
theorem pf_12_71 : ((∃ c, tyX12 71 = .object c) ∨ ∃ c, tyX12 71 = .array c) ∧ (TX12 71).2.2.2 = true := ⟨Or.inr ⟨_, rfl⟩, by decide +kernel⟩
theorem gc_12_71 : ∀ a, fcon 12 71 a = some (93, 240) := fun _ => rfl
theorem gf_12_72 : fty 12 72 = 2 ∧ fref 12 72 = 40 := by decide +kernel
theorem pf_12_72 : ((∃ c, tyX12 72 = .object c) ∨ ∃ c, tyX12 72 = .array c) ∧ (TX12 72).2.2.2 = true := ⟨Or.inr ⟨_, rfl⟩, by decide +kernel⟩
theorem gc_12_72 : ∀ a, fcon 12 72 a = some (94, 240) := fun _ => rfl
theorem gf_12_73 : fty 12 73 = 2 ∧ fref 12 73 = 40 := by decide +kernel
theorem pf_12_73 : ((∃ c, tyX12 73 = .object c) ∨ ∃ c, tyX12 73 = .array c) ∧ (TX12 73).2.2.2 = true := ⟨Or.inr ⟨_, rfl⟩, by decide +kernel⟩
theorem gc_12_73 : ∀ a, fcon 12 73 a = some (95, 240) := fun _ => rfl
theorem gf_12_74 : fty 12 74 = 2 ∧ fref 12 74 = 40 := by decide +kernel
theorem pf_12_74 : ((∃ c, tyX12 74 = .object c) ∨ ∃ c, tyX12 74 = .array c) ∧ (TX12 74).2.2.2 = true := ⟨Or.inr ⟨_, rfl⟩, by decide +kernel⟩
theorem gc_12_74 : ∀ a, fcon 12 74 a = some (96, 240) := fun _ => rfl
theorem gf_12_75 : fty 12 75 = 2 ∧ fref 12 75 = 40 := by decide +kernel
theorem pf_12_75 : ((∃ c, tyX12 75 = .object c) ∨ ∃ c, tyX12 75 = .array c) ∧ (TX12 75).2.2.2 = true := ⟨Or.inr ⟨_, rfl⟩, by decide +kernel⟩
theorem gc_12_75 : ∀ a, fcon 12 75 a = some (97, 240) := fun _ => rfl
theorem gf_12_76 : fty 12 76 = 2 ∧ fref 12 76 = 40 := by decide +kernel
theorem pf_12_76 : ((∃ c, tyX12 76 = .object c) ∨ ∃ c, tyX12 76 = .array c) ∧ (TX12 76).2.2.2 = true := ⟨Or.inr ⟨_, rfl⟩, by decide +kernel⟩
theorem gc_12_76 : ∀ a, fcon 12 76 a = some (98, 240) := fun _ => rfl
theorem gf_12_77 : fty 12 77 = 2 ∧ fref 12 77 = 42 := by decide +kernel
theorem pf_12_77 : ((∃ c, tyX12 77 = .object c) ∨ ∃ c, tyX12 77 = .array c) ∧ (TX12 77).2.2.2 = true := ⟨Or.inr ⟨_, rfl⟩, by decide +kernel⟩
theorem gc_12_77 : ∀ a, fcon 12 77 a = some (99, 240) := fun _ => rfl
theorem gf_12_78 : fty 12 78 = 0 ∨ fty 12 78 = 3 := by decide +kernel
theorem pf_12_78 : tyX12 78 = .int ∧ (TX12 78).2.2.2 = false := by decide +kernel
theorem gf_12_79 : fty 12 79 = 0 ∨ fty 12 79 = 3 := by decide +kernel
theorem pf_12_79 : tyX12 79 = .int ∧ (TX12 79).2.2.2 = false := by decide +kernel
theorem gf_12_80 : fty 12 80 = 0 ∨ fty 12 80 = 3 := by decide +kernel
theorem pf_12_80 : tyX12 80 = .int ∧ (TX12 80).2.2.2 = false := by decide +kernel
theorem gf_12_81 : fty 12 81 = 2 ∧ fref 12 81 = 40 := by decide +kernel
theorem pf_12_81 : ((∃ c, tyX12 81 = .object c) ∨ ∃ c, tyX12 81 = .array c) ∧ (TX12 81).2.2.2 = true := ⟨Or.inr ⟨_, rfl⟩, by decide +kernel⟩
theorem gc_12_81 : ∀ a, fcon 12 81 a = some (100, 72) := fun _ => rfl
theorem gf_12_82 : fty 12 82 = 2 ∧ fref 12 82 = 40 := by decide +kernel
theorem pf_12_82 : ((∃ c, tyX12 82 = .object c) ∨ ∃ c, tyX12 82 = .array c) ∧ (TX12 82).2.2.2 = true := ⟨Or.inr ⟨_, rfl⟩, by decide +kernel⟩
theorem gc_12_82 : ∀ a, fcon 12 82 a = some (101, 72) := fun _ => rfl
theorem gf_12_83 : fty 12 83 = 0 ∨ fty 12 83 = 3 := by decide +kernel
theorem pf_12_83 : tyX12 83 = .int ∧ (TX12 83).2.2.2 = false := by decide +kernel
theorem gf_12_84 : fty 12 84 = 0 ∨ fty 12 84 = 3 := by decide +kernel
theorem pf_12_84 : tyX12 84 = .int ∧ (TX12 84).2.2.2 = false := by decide +kernel
theorem gf_12_85 : fty 12 85 = 0 ∨ fty 12 85 = 3 := by decide +kernel
theorem pf_12_85 : tyX12 85 = .int ∧ (TX12 85).2.2.2 = false := by decide +kernel
theorem gf_12_86 : fty 12 86 = 2 ∧ fref 12 86 = 40 := by decide +kernel
theorem pf_12_86 : ((∃ c, tyX12 86 = .object c) ∨ ∃ c, tyX12 86 = .array c) ∧ (TX12 86).2.2.2 = true := ⟨Or.inr ⟨_, rfl⟩, by decide +kernel⟩
theorem gc_12_86 : ∀ a, fcon 12 86 a = some (102, 10) := fun _ => rfl
theorem gf_12_87 : fty 12 87 = 2 ∧ fref 12 87 = 40 := by decide +kernel
theorem pf_12_87 : ((∃ c, tyX12 87 = .object c) ∨ ∃ c, tyX12 87 = .array c) ∧ (TX12 87).2.2.2 = true := ⟨Or.inr ⟨_, rfl⟩, by decide +kernel⟩
theorem gc_12_87 : ∀ a, fcon 12 87 a = some (103, 1024) := fun _ => rfl
theorem gf_12_88 : fty 12 88 = 0 ∨ fty 12 88 = 3 := by decide +kernel
theorem pf_12_88 : tyX12 88 = .int ∧ (TX12 88).2.2.2 = false := by decide +kernel
theorem gf_12_89 : fty 12 89 = 2 ∧ fref 12 89 = 40 := by decide +kernel
theorem pf_12_89 : ((∃ c, tyX12 89 = .object c) ∨ ∃ c, tyX12 89 = .array c) ∧ (TX12 89).2.2.2 = true := ⟨Or.inr ⟨_, rfl⟩, by decide +kernel⟩
theorem gc_12_89 : ∀ a, fcon 12 89 a = some (104, 6) := fun _ => rfl
theorem gf_12_90 : fty 12 90 = 2 ∧ fref 12 90 = 40 := by decide +kernel
theorem pf_12_90 : ((∃ c, tyX12 90 = .object c) ∨ ∃ c, tyX12 90 = .array c) ∧ (TX12 90).2.2.2 = true := ⟨Or.inr ⟨_, rfl⟩, by decide +kernel⟩
theorem gc_12_90 : ∀ a, fcon 12 90 a = some (105, 36) := fun _ => rfl
theorem gf_12_91 : fty 12 91 = 2 ∧ fref 12 91 = 43 := by decide +kernel
theorem pf_12_91 : ((∃ c, tyX12 91 = .object c) ∨ ∃ c, tyX12 91 = .array c) ∧ (TX12 91).2.2.2 = true := ⟨Or.inr ⟨_, rfl⟩, by decide +kernel⟩
theorem gc_12_91 : ∀ a, fcon 12 91 a = some (106, 48) := fun _ => rfl
theorem gf_12_92 : fty 12 92 = 2 ∧ fref 12 92 = 40 := by decide +kernel
theorem pf_12_92 : ((∃ c, tyX12 92 = .object c) ∨ ∃ c, tyX12 92 = .array c) ∧ (TX12 92).2.2.2 = true := ⟨Or.inr ⟨_, rfl⟩, by decide +kernel⟩
theorem gc_12_92 : ∀ a, fcon 12 92 a = some (107, 24) := fun _ => rfl
end
