section
-- ===== PART A: goes FIRST, ahead of the names: the tables' words, and 'selects' of the private methods out of them =====
/-- a private method of a class that the tables say can be made, by its rows of tables_1 -/
def lw_okq (q : MethodName × Nat) : Prop := (q.1.cls ≠ "java/lang/invoke/MethodHandle" ∧ q.1.cls ≠ "java/lang/invoke/VarHandle") ∧ Cond.instantiable q.1.cls q.2 ∈ tables_1 ∧ Cond.privateMethod q.1 ∈ tables_1 ∧ Cond.instanceMethod q.1 ∈ tables_1
theorem lw_p0 : lw_okq (⟨"LoanNames", "refusalOf", "(III)I"⟩, 18) := ⟨⟨by decide +kernel, by decide +kernel⟩, List.mem_of_getElem? (i := 24) (by decide +kernel), List.mem_of_getElem? (i := 428) (by decide +kernel), List.mem_of_getElem? (i := 429) (by decide +kernel)⟩
theorem lw_p1 : lw_okq (⟨"LoanNames$DealReader", "readAll", "(I)Z"⟩, 8) := ⟨⟨by decide +kernel, by decide +kernel⟩, List.mem_of_getElem? (i := 63) (by decide +kernel), List.mem_of_getElem? (i := 532) (by decide +kernel), List.mem_of_getElem? (i := 533) (by decide +kernel)⟩
theorem lw_p2 : lw_okq (⟨"LoanNames$DealReader", "readPart", "(I)Z"⟩, 8) := ⟨⟨by decide +kernel, by decide +kernel⟩, List.mem_of_getElem? (i := 63) (by decide +kernel), List.mem_of_getElem? (i := 536) (by decide +kernel), List.mem_of_getElem? (i := 537) (by decide +kernel)⟩
theorem lw_p3 : lw_okq (⟨"LoanNames$DealReader", "readLeaf", "(I)Z"⟩, 8) := ⟨⟨by decide +kernel, by decide +kernel⟩, List.mem_of_getElem? (i := 63) (by decide +kernel), List.mem_of_getElem? (i := 593) (by decide +kernel), List.mem_of_getElem? (i := 594) (by decide +kernel)⟩
theorem lw_p4 : lw_okq (⟨"LoanNames$DealReader", "readTwo", "()Z"⟩, 8) := ⟨⟨by decide +kernel, by decide +kernel⟩, List.mem_of_getElem? (i := 63) (by decide +kernel), List.mem_of_getElem? (i := 602) (by decide +kernel), List.mem_of_getElem? (i := 603) (by decide +kernel)⟩
theorem lw_p5 : lw_okq (⟨"LoanNames$DealReader", "readSo", "()Z"⟩, 8) := ⟨⟨by decide +kernel, by decide +kernel⟩, List.mem_of_getElem? (i := 63) (by decide +kernel), List.mem_of_getElem? (i := 613) (by decide +kernel), List.mem_of_getElem? (i := 614) (by decide +kernel)⟩
theorem lw_p6 : lw_okq (⟨"LoanNames$DealReader", "readPay", "(I)Z"⟩, 8) := ⟨⟨by decide +kernel, by decide +kernel⟩, List.mem_of_getElem? (i := 63) (by decide +kernel), List.mem_of_getElem? (i := 622) (by decide +kernel), List.mem_of_getElem? (i := 623) (by decide +kernel)⟩
theorem lw_p7 : lw_okq (⟨"LoanNames$DealReader", "readDays", "(I)Z"⟩, 8) := ⟨⟨by decide +kernel, by decide +kernel⟩, List.mem_of_getElem? (i := 63) (by decide +kernel), List.mem_of_getElem? (i := 635) (by decide +kernel), List.mem_of_getElem? (i := 636) (by decide +kernel)⟩
theorem lw_p8 : lw_okq (⟨"LoanNames$Shape", "hasRoom", "(I)Z"⟩, 3) := ⟨⟨by decide +kernel, by decide +kernel⟩, List.mem_of_getElem? (i := 69) (by decide +kernel), List.mem_of_getElem? (i := 647) (by decide +kernel), List.mem_of_getElem? (i := 648) (by decide +kernel)⟩
theorem lw_p9 : lw_okq (⟨"LoanNames$Deal", "putRow", "(IZIJII)V"⟩, 13) := ⟨⟨by decide +kernel, by decide +kernel⟩, List.mem_of_getElem? (i := 431) (by decide +kernel), List.mem_of_getElem? (i := 663) (by decide +kernel), List.mem_of_getElem? (i := 664) (by decide +kernel)⟩
theorem lw_p10 : lw_okq (⟨"LoanNames$DealReader", "readAfter", "(I)Z"⟩, 8) := ⟨⟨by decide +kernel, by decide +kernel⟩, List.mem_of_getElem? (i := 63) (by decide +kernel), List.mem_of_getElem? (i := 667) (by decide +kernel), List.mem_of_getElem? (i := 668) (by decide +kernel)⟩
theorem lw_p11 : lw_okq (⟨"LoanNames$DealReader", "readBlock", "(I)Z"⟩, 8) := ⟨⟨by decide +kernel, by decide +kernel⟩, List.mem_of_getElem? (i := 63) (by decide +kernel), List.mem_of_getElem? (i := 675) (by decide +kernel), List.mem_of_getElem? (i := 676) (by decide +kernel)⟩
theorem lw_p12 : lw_okq (⟨"LoanNames$Shape", "isBegun", "(I)Z"⟩, 3) := ⟨⟨by decide +kernel, by decide +kernel⟩, List.mem_of_getElem? (i := 69) (by decide +kernel), List.mem_of_getElem? (i := 691) (by decide +kernel), List.mem_of_getElem? (i := 692) (by decide +kernel)⟩
theorem lw_p13 : lw_okq (⟨"LoanNames$Shape", "lift", "(III)V"⟩, 3) := ⟨⟨by decide +kernel, by decide +kernel⟩, List.mem_of_getElem? (i := 69) (by decide +kernel), List.mem_of_getElem? (i := 695) (by decide +kernel), List.mem_of_getElem? (i := 696) (by decide +kernel)⟩
theorem lw_p14 : lw_okq (⟨"LoanNames$Shape", "isJustAfter", "(II)Z"⟩, 3) := ⟨⟨by decide +kernel, by decide +kernel⟩, List.mem_of_getElem? (i := 69) (by decide +kernel), List.mem_of_getElem? (i := 699) (by decide +kernel), List.mem_of_getElem? (i := 700) (by decide +kernel)⟩
theorem lw_p15 : lw_okq (⟨"LoanNames$DealReader", "readTimes", "(I)Z"⟩, 8) := ⟨⟨by decide +kernel, by decide +kernel⟩, List.mem_of_getElem? (i := 63) (by decide +kernel), List.mem_of_getElem? (i := 703) (by decide +kernel), List.mem_of_getElem? (i := 704) (by decide +kernel)⟩
def lw_privs_1 : List (MethodName × Nat) := [(⟨"LoanNames", "refusalOf", "(III)I"⟩, 18), (⟨"LoanNames$DealReader", "readAll", "(I)Z"⟩, 8), (⟨"LoanNames$DealReader", "readPart", "(I)Z"⟩, 8), (⟨"LoanNames$DealReader", "readLeaf", "(I)Z"⟩, 8), (⟨"LoanNames$DealReader", "readTwo", "()Z"⟩, 8), (⟨"LoanNames$DealReader", "readSo", "()Z"⟩, 8), (⟨"LoanNames$DealReader", "readPay", "(I)Z"⟩, 8), (⟨"LoanNames$DealReader", "readDays", "(I)Z"⟩, 8), (⟨"LoanNames$Shape", "hasRoom", "(I)Z"⟩, 3), (⟨"LoanNames$Deal", "putRow", "(IZIJII)V"⟩, 13), (⟨"LoanNames$DealReader", "readAfter", "(I)Z"⟩, 8), (⟨"LoanNames$DealReader", "readBlock", "(I)Z"⟩, 8), (⟨"LoanNames$Shape", "isBegun", "(I)Z"⟩, 3), (⟨"LoanNames$Shape", "lift", "(III)V"⟩, 3), (⟨"LoanNames$Shape", "isJustAfter", "(II)Z"⟩, 3), (⟨"LoanNames$DealReader", "readTimes", "(I)Z"⟩, 8)]
theorem lw_r1 : ∀ q ∈ lw_privs_1, lw_okq q := List.forall_mem_cons.mpr ⟨lw_p0, List.forall_mem_cons.mpr ⟨lw_p1, List.forall_mem_cons.mpr ⟨lw_p2, List.forall_mem_cons.mpr ⟨lw_p3, List.forall_mem_cons.mpr ⟨lw_p4, List.forall_mem_cons.mpr ⟨lw_p5, List.forall_mem_cons.mpr ⟨lw_p6, List.forall_mem_cons.mpr ⟨lw_p7, List.forall_mem_cons.mpr ⟨lw_p8, List.forall_mem_cons.mpr ⟨lw_p9, List.forall_mem_cons.mpr ⟨lw_p10, List.forall_mem_cons.mpr ⟨lw_p11, List.forall_mem_cons.mpr ⟨lw_p12, List.forall_mem_cons.mpr ⟨lw_p13, List.forall_mem_cons.mpr ⟨lw_p14, List.forall_mem_cons.mpr ⟨lw_p15, fun _ h => absurd h List.not_mem_nil⟩⟩⟩⟩⟩⟩⟩⟩⟩⟩⟩⟩⟩⟩⟩⟩
theorem lw_p16 : lw_okq (⟨"LoanNames$DealReader", "readIf", "(I)Z"⟩, 8) := ⟨⟨by decide +kernel, by decide +kernel⟩, List.mem_of_getElem? (i := 63) (by decide +kernel), List.mem_of_getElem? (i := 707) (by decide +kernel), List.mem_of_getElem? (i := 708) (by decide +kernel)⟩
theorem lw_p17 : lw_okq (⟨"LoanNames$DealReader", "readBranches", "(IIIILjava/lang/String;)Z"⟩, 8) := ⟨⟨by decide +kernel, by decide +kernel⟩, List.mem_of_getElem? (i := 63) (by decide +kernel), List.mem_of_getElem? (i := 713) (by decide +kernel), List.mem_of_getElem? (i := 714) (by decide +kernel)⟩
theorem lw_p18 : lw_okq (⟨"LoanNames$DealReader", "readBranch", "(III)Z"⟩, 8) := ⟨⟨by decide +kernel, by decide +kernel⟩, List.mem_of_getElem? (i := 63) (by decide +kernel), List.mem_of_getElem? (i := 717) (by decide +kernel), List.mem_of_getElem? (i := 718) (by decide +kernel)⟩
theorem lw_p19 : lw_okq (⟨"LoanNames$Shape", "isAlike", "(III)Z"⟩, 3) := ⟨⟨by decide +kernel, by decide +kernel⟩, List.mem_of_getElem? (i := 69) (by decide +kernel), List.mem_of_getElem? (i := 729) (by decide +kernel), List.mem_of_getElem? (i := 730) (by decide +kernel)⟩
theorem lw_p20 : lw_okq (⟨"LoanNames$DealReader", "readChoice", "(I)Z"⟩, 8) := ⟨⟨by decide +kernel, by decide +kernel⟩, List.mem_of_getElem? (i := 63) (by decide +kernel), List.mem_of_getElem? (i := 733) (by decide +kernel), List.mem_of_getElem? (i := 734) (by decide +kernel)⟩
theorem lw_p21 : lw_okq (⟨"LoanNames", "closeText", "(ZI)I"⟩, 18) := ⟨⟨by decide +kernel, by decide +kernel⟩, List.mem_of_getElem? (i := 24) (by decide +kernel), List.mem_of_getElem? (i := 755) (by decide +kernel), List.mem_of_getElem? (i := 756) (by decide +kernel)⟩
theorem lw_p22 : lw_okq (⟨"LoanNames", "tellRules", "(I[LLoanNames$Rules;III)I"⟩, 18) := ⟨⟨by decide +kernel, by decide +kernel⟩, List.mem_of_getElem? (i := 24) (by decide +kernel), List.mem_of_getElem? (i := 764) (by decide +kernel), List.mem_of_getElem? (i := 765) (by decide +kernel)⟩
theorem lw_p23 : lw_okq (⟨"LoanNames$Rules", "readStatement", "(LLoanNames$Tape;I)Z"⟩, 2) := ⟨⟨by decide +kernel, by decide +kernel⟩, List.mem_of_getElem? (i := 767) (by decide +kernel), List.mem_of_getElem? (i := 788) (by decide +kernel), List.mem_of_getElem? (i := 789) (by decide +kernel)⟩
theorem lw_p24 : lw_okq (⟨"LoanNames$Rules", "readForm", "(LLoanNames$Tape;I)Z"⟩, 2) := ⟨⟨by decide +kernel, by decide +kernel⟩, List.mem_of_getElem? (i := 767) (by decide +kernel), List.mem_of_getElem? (i := 794) (by decide +kernel), List.mem_of_getElem? (i := 795) (by decide +kernel)⟩
theorem lw_p25 : lw_okq (⟨"LoanNames$Rules", "readTies", "(LLoanNames$Tape;I)V"⟩, 2) := ⟨⟨by decide +kernel, by decide +kernel⟩, List.mem_of_getElem? (i := 767) (by decide +kernel), List.mem_of_getElem? (i := 805) (by decide +kernel), List.mem_of_getElem? (i := 806) (by decide +kernel)⟩
theorem lw_p26 : lw_okq (⟨"LoanNames$Rules", "readWithin", "(LLoanNames$Tape;I)Z"⟩, 2) := ⟨⟨by decide +kernel, by decide +kernel⟩, List.mem_of_getElem? (i := 767) (by decide +kernel), List.mem_of_getElem? (i := 811) (by decide +kernel), List.mem_of_getElem? (i := 812) (by decide +kernel)⟩
theorem lw_p27 : lw_okq (⟨"LoanNames$Kinship", "giveSlots", "(LLoanNames$Deal;I)V"⟩, 7) := ⟨⟨by decide +kernel, by decide +kernel⟩, List.mem_of_getElem? (i := 315) (by decide +kernel), List.mem_of_getElem? (i := 855) (by decide +kernel), List.mem_of_getElem? (i := 856) (by decide +kernel)⟩
theorem lw_p28 : lw_okq (⟨"LoanNames$Kinship", "pour", "(LLoanNames$Deal;III)V"⟩, 7) := ⟨⟨by decide +kernel, by decide +kernel⟩, List.mem_of_getElem? (i := 315) (by decide +kernel), List.mem_of_getElem? (i := 871) (by decide +kernel), List.mem_of_getElem? (i := 872) (by decide +kernel)⟩
theorem lw_p29 : lw_okq (⟨"LoanNames$Kinship", "isLevel", "()Z"⟩, 7) := ⟨⟨by decide +kernel, by decide +kernel⟩, List.mem_of_getElem? (i := 315) (by decide +kernel), List.mem_of_getElem? (i := 879) (by decide +kernel), List.mem_of_getElem? (i := 880) (by decide +kernel)⟩
theorem lw_p30 : lw_okq (⟨"LoanNames$Ledger", "shareOf", "(LLoanNames$Deal;II)J"⟩, 20) := ⟨⟨by decide +kernel, by decide +kernel⟩, List.mem_of_getElem? (i := 138) (by decide +kernel), List.mem_of_getElem? (i := 941) (by decide +kernel), List.mem_of_getElem? (i := 942) (by decide +kernel)⟩
theorem lw_p31 : lw_okq (⟨"LoanNames$Ledger", "earliestHead", "(LLoanNames$Bundle;)I"⟩, 20) := ⟨⟨by decide +kernel, by decide +kernel⟩, List.mem_of_getElem? (i := 138) (by decide +kernel), List.mem_of_getElem? (i := 981) (by decide +kernel), List.mem_of_getElem? (i := 982) (by decide +kernel)⟩
def lw_privs_2 : List (MethodName × Nat) := [(⟨"LoanNames$DealReader", "readIf", "(I)Z"⟩, 8), (⟨"LoanNames$DealReader", "readBranches", "(IIIILjava/lang/String;)Z"⟩, 8), (⟨"LoanNames$DealReader", "readBranch", "(III)Z"⟩, 8), (⟨"LoanNames$Shape", "isAlike", "(III)Z"⟩, 3), (⟨"LoanNames$DealReader", "readChoice", "(I)Z"⟩, 8), (⟨"LoanNames", "closeText", "(ZI)I"⟩, 18), (⟨"LoanNames", "tellRules", "(I[LLoanNames$Rules;III)I"⟩, 18), (⟨"LoanNames$Rules", "readStatement", "(LLoanNames$Tape;I)Z"⟩, 2), (⟨"LoanNames$Rules", "readForm", "(LLoanNames$Tape;I)Z"⟩, 2), (⟨"LoanNames$Rules", "readTies", "(LLoanNames$Tape;I)V"⟩, 2), (⟨"LoanNames$Rules", "readWithin", "(LLoanNames$Tape;I)Z"⟩, 2), (⟨"LoanNames$Kinship", "giveSlots", "(LLoanNames$Deal;I)V"⟩, 7), (⟨"LoanNames$Kinship", "pour", "(LLoanNames$Deal;III)V"⟩, 7), (⟨"LoanNames$Kinship", "isLevel", "()Z"⟩, 7), (⟨"LoanNames$Ledger", "shareOf", "(LLoanNames$Deal;II)J"⟩, 20), (⟨"LoanNames$Ledger", "earliestHead", "(LLoanNames$Bundle;)I"⟩, 20)]
theorem lw_r2 : ∀ q ∈ lw_privs_2, lw_okq q := List.forall_mem_cons.mpr ⟨lw_p16, List.forall_mem_cons.mpr ⟨lw_p17, List.forall_mem_cons.mpr ⟨lw_p18, List.forall_mem_cons.mpr ⟨lw_p19, List.forall_mem_cons.mpr ⟨lw_p20, List.forall_mem_cons.mpr ⟨lw_p21, List.forall_mem_cons.mpr ⟨lw_p22, List.forall_mem_cons.mpr ⟨lw_p23, List.forall_mem_cons.mpr ⟨lw_p24, List.forall_mem_cons.mpr ⟨lw_p25, List.forall_mem_cons.mpr ⟨lw_p26, List.forall_mem_cons.mpr ⟨lw_p27, List.forall_mem_cons.mpr ⟨lw_p28, List.forall_mem_cons.mpr ⟨lw_p29, List.forall_mem_cons.mpr ⟨lw_p30, List.forall_mem_cons.mpr ⟨lw_p31, fun _ h => absurd h List.not_mem_nil⟩⟩⟩⟩⟩⟩⟩⟩⟩⟩⟩⟩⟩⟩⟩⟩
theorem lw_p32 : lw_okq (⟨"LoanNames$Ledger", "putEntry", "(LLoanNames$Deal;II)I"⟩, 20) := ⟨⟨by decide +kernel, by decide +kernel⟩, List.mem_of_getElem? (i := 138) (by decide +kernel), List.mem_of_getElem? (i := 986) (by decide +kernel), List.mem_of_getElem? (i := 987) (by decide +kernel)⟩
theorem lw_p33 : lw_okq (⟨"LoanNames$Ledger", "endDay", "(I)V"⟩, 20) := ⟨⟨by decide +kernel, by decide +kernel⟩, List.mem_of_getElem? (i := 138) (by decide +kernel), List.mem_of_getElem? (i := 998) (by decide +kernel), List.mem_of_getElem? (i := 999) (by decide +kernel)⟩
theorem lw_p34 : lw_okq (⟨"LoanNames$Ledger", "book", "(III)V"⟩, 20) := ⟨⟨by decide +kernel, by decide +kernel⟩, List.mem_of_getElem? (i := 138) (by decide +kernel), List.mem_of_getElem? (i := 1002) (by decide +kernel), List.mem_of_getElem? (i := 1003) (by decide +kernel)⟩
theorem lw_p35 : lw_okq (⟨"LoanNames$Ledger", "findUneven", "()V"⟩, 20) := ⟨⟨by decide +kernel, by decide +kernel⟩, List.mem_of_getElem? (i := 138) (by decide +kernel), List.mem_of_getElem? (i := 1006) (by decide +kernel), List.mem_of_getElem? (i := 1007) (by decide +kernel)⟩
theorem lw_p36 : lw_okq (⟨"LoanNames$Tally", "noteLender", "(LLoanNames$Ledger;I)V"⟩, 5) := ⟨⟨by decide +kernel, by decide +kernel⟩, List.mem_of_getElem? (i := 208) (by decide +kernel), List.mem_of_getElem? (i := 1013) (by decide +kernel), List.mem_of_getElem? (i := 1014) (by decide +kernel)⟩
theorem lw_p37 : lw_okq (⟨"LoanNames$Tally", "notePrice", "(IJJ)V"⟩, 5) := ⟨⟨by decide +kernel, by decide +kernel⟩, List.mem_of_getElem? (i := 208) (by decide +kernel), List.mem_of_getElem? (i := 1024) (by decide +kernel), List.mem_of_getElem? (i := 1025) (by decide +kernel)⟩
theorem lw_p38 : lw_okq (⟨"LoanNames$Tally", "leastPair", "(I)I"⟩, 5) := ⟨⟨by decide +kernel, by decide +kernel⟩, List.mem_of_getElem? (i := 208) (by decide +kernel), List.mem_of_getElem? (i := 1034) (by decide +kernel), List.mem_of_getElem? (i := 1035) (by decide +kernel)⟩
theorem lw_p39 : lw_okq (⟨"LoanNames", "lawInForce", "()LLoanNames$Rules;"⟩, 18) := ⟨⟨by decide +kernel, by decide +kernel⟩, List.mem_of_getElem? (i := 24) (by decide +kernel), List.mem_of_getElem? (i := 1062) (by decide +kernel), List.mem_of_getElem? (i := 1063) (by decide +kernel)⟩
theorem lw_p40 : lw_okq (⟨"LoanNames$Judge", "hearAlso", "(LLoanNames$Deal;)V"⟩, 5) := ⟨⟨by decide +kernel, by decide +kernel⟩, List.mem_of_getElem? (i := 235) (by decide +kernel), List.mem_of_getElem? (i := 1070) (by decide +kernel), List.mem_of_getElem? (i := 1071) (by decide +kernel)⟩
theorem lw_p41 : lw_okq (⟨"LoanNames$Judge", "findLeaves", "([II)Z"⟩, 5) := ⟨⟨by decide +kernel, by decide +kernel⟩, List.mem_of_getElem? (i := 235) (by decide +kernel), List.mem_of_getElem? (i := 1079) (by decide +kernel), List.mem_of_getElem? (i := 1080) (by decide +kernel)⟩
theorem lw_p42 : lw_okq (⟨"LoanNames$Judge", "isOf", "(III)Z"⟩, 5) := ⟨⟨by decide +kernel, by decide +kernel⟩, List.mem_of_getElem? (i := 235) (by decide +kernel), List.mem_of_getElem? (i := 1083) (by decide +kernel), List.mem_of_getElem? (i := 1084) (by decide +kernel)⟩
theorem lw_p43 : lw_okq (⟨"LoanNames$Judge", "findSecond", "([III)I"⟩, 5) := ⟨⟨by decide +kernel, by decide +kernel⟩, List.mem_of_getElem? (i := 235) (by decide +kernel), List.mem_of_getElem? (i := 1087) (by decide +kernel), List.mem_of_getElem? (i := 1088) (by decide +kernel)⟩
theorem lw_p44 : lw_okq (⟨"LoanNames$Judge", "isLater", "(III)Z"⟩, 5) := ⟨⟨by decide +kernel, by decide +kernel⟩, List.mem_of_getElem? (i := 235) (by decide +kernel), List.mem_of_getElem? (i := 1091) (by decide +kernel), List.mem_of_getElem? (i := 1092) (by decide +kernel)⟩
theorem lw_p45 : lw_okq (⟨"LoanNames$Judge", "isTied", "(III)Z"⟩, 5) := ⟨⟨by decide +kernel, by decide +kernel⟩, List.mem_of_getElem? (i := 235) (by decide +kernel), List.mem_of_getElem? (i := 1095) (by decide +kernel), List.mem_of_getElem? (i := 1096) (by decide +kernel)⟩
theorem lw_p46 : lw_okq (⟨"LoanNames$Search", "findBarred", "(LLoanNames$Rules;[II)V"⟩, 15) := ⟨⟨by decide +kernel, by decide +kernel⟩, List.mem_of_getElem? (i := 259) (by decide +kernel), List.mem_of_getElem? (i := 1120) (by decide +kernel), List.mem_of_getElem? (i := 1121) (by decide +kernel)⟩
theorem lw_p47 : lw_okq (⟨"LoanNames$Search", "grow", "(III)V"⟩, 15) := ⟨⟨by decide +kernel, by decide +kernel⟩, List.mem_of_getElem? (i := 259) (by decide +kernel), List.mem_of_getElem? (i := 1134) (by decide +kernel), List.mem_of_getElem? (i := 1135) (by decide +kernel)⟩
def lw_privs_3 : List (MethodName × Nat) := [(⟨"LoanNames$Ledger", "putEntry", "(LLoanNames$Deal;II)I"⟩, 20), (⟨"LoanNames$Ledger", "endDay", "(I)V"⟩, 20), (⟨"LoanNames$Ledger", "book", "(III)V"⟩, 20), (⟨"LoanNames$Ledger", "findUneven", "()V"⟩, 20), (⟨"LoanNames$Tally", "noteLender", "(LLoanNames$Ledger;I)V"⟩, 5), (⟨"LoanNames$Tally", "notePrice", "(IJJ)V"⟩, 5), (⟨"LoanNames$Tally", "leastPair", "(I)I"⟩, 5), (⟨"LoanNames", "lawInForce", "()LLoanNames$Rules;"⟩, 18), (⟨"LoanNames$Judge", "hearAlso", "(LLoanNames$Deal;)V"⟩, 5), (⟨"LoanNames$Judge", "findLeaves", "([II)Z"⟩, 5), (⟨"LoanNames$Judge", "isOf", "(III)Z"⟩, 5), (⟨"LoanNames$Judge", "findSecond", "([III)I"⟩, 5), (⟨"LoanNames$Judge", "isLater", "(III)Z"⟩, 5), (⟨"LoanNames$Judge", "isTied", "(III)Z"⟩, 5), (⟨"LoanNames$Search", "findBarred", "(LLoanNames$Rules;[II)V"⟩, 15), (⟨"LoanNames$Search", "grow", "(III)V"⟩, 15)]
theorem lw_r3 : ∀ q ∈ lw_privs_3, lw_okq q := List.forall_mem_cons.mpr ⟨lw_p32, List.forall_mem_cons.mpr ⟨lw_p33, List.forall_mem_cons.mpr ⟨lw_p34, List.forall_mem_cons.mpr ⟨lw_p35, List.forall_mem_cons.mpr ⟨lw_p36, List.forall_mem_cons.mpr ⟨lw_p37, List.forall_mem_cons.mpr ⟨lw_p38, List.forall_mem_cons.mpr ⟨lw_p39, List.forall_mem_cons.mpr ⟨lw_p40, List.forall_mem_cons.mpr ⟨lw_p41, List.forall_mem_cons.mpr ⟨lw_p42, List.forall_mem_cons.mpr ⟨lw_p43, List.forall_mem_cons.mpr ⟨lw_p44, List.forall_mem_cons.mpr ⟨lw_p45, List.forall_mem_cons.mpr ⟨lw_p46, List.forall_mem_cons.mpr ⟨lw_p47, fun _ h => absurd h List.not_mem_nil⟩⟩⟩⟩⟩⟩⟩⟩⟩⟩⟩⟩⟩⟩⟩⟩
theorem lw_p48 : lw_okq (⟨"LoanNames$Search", "mayLend", "(I)Z"⟩, 15) := ⟨⟨by decide +kernel, by decide +kernel⟩, List.mem_of_getElem? (i := 259) (by decide +kernel), List.mem_of_getElem? (i := 1140) (by decide +kernel), List.mem_of_getElem? (i := 1141) (by decide +kernel)⟩
theorem lw_p49 : lw_okq (⟨"LoanNames$Search", "isLoan", "(I)Z"⟩, 15) := ⟨⟨by decide +kernel, by decide +kernel⟩, List.mem_of_getElem? (i := 259) (by decide +kernel), List.mem_of_getElem? (i := 1144) (by decide +kernel), List.mem_of_getElem? (i := 1145) (by decide +kernel)⟩
theorem lw_p50 : lw_okq (⟨"LoanNames", "isLet", "(LLoanNames$Bundle;)Z"⟩, 18) := ⟨⟨by decide +kernel, by decide +kernel⟩, List.mem_of_getElem? (i := 24) (by decide +kernel), List.mem_of_getElem? (i := 1186) (by decide +kernel), List.mem_of_getElem? (i := 1187) (by decide +kernel)⟩
theorem lw_p51 : lw_okq (⟨"LoanNames", "sparesHonest", "(LLoanNames$Rules;)Z"⟩, 18) := ⟨⟨by decide +kernel, by decide +kernel⟩, List.mem_of_getElem? (i := 24) (by decide +kernel), List.mem_of_getElem? (i := 1204) (by decide +kernel), List.mem_of_getElem? (i := 1205) (by decide +kernel)⟩
theorem lw_p52 : lw_okq (⟨"LoanNames$Search", "wordsThatBar", "(II)I"⟩, 15) := ⟨⟨by decide +kernel, by decide +kernel⟩, List.mem_of_getElem? (i := 259) (by decide +kernel), List.mem_of_getElem? (i := 1212) (by decide +kernel), List.mem_of_getElem? (i := 1213) (by decide +kernel)⟩
theorem lw_p53 : lw_okq (⟨"LoanNames$Search", "putNeed", "(I)V"⟩, 15) := ⟨⟨by decide +kernel, by decide +kernel⟩, List.mem_of_getElem? (i := 259) (by decide +kernel), List.mem_of_getElem? (i := 1216) (by decide +kernel), List.mem_of_getElem? (i := 1217) (by decide +kernel)⟩
theorem lw_p54 : lw_okq (⟨"LoanNames$Search", "meetsNeeds", "(I)Z"⟩, 15) := ⟨⟨by decide +kernel, by decide +kernel⟩, List.mem_of_getElem? (i := 259) (by decide +kernel), List.mem_of_getElem? (i := 1220) (by decide +kernel), List.mem_of_getElem? (i := 1221) (by decide +kernel)⟩
theorem lw_p55 : lw_okq (⟨"LoanNames$Kinship", "hangTogether", "(LLoanNames$Deal;LLoanNames$Deal;I)Z"⟩, 7) := ⟨⟨by decide +kernel, by decide +kernel⟩, List.mem_of_getElem? (i := 315) (by decide +kernel), List.mem_of_getElem? (i := 1233) (by decide +kernel), List.mem_of_getElem? (i := 1234) (by decide +kernel)⟩
theorem lw_p56 : lw_okq (⟨"LoanNames$Kinship", "join", "(III)V"⟩, 7) := ⟨⟨by decide +kernel, by decide +kernel⟩, List.mem_of_getElem? (i := 315) (by decide +kernel), List.mem_of_getElem? (i := 1240) (by decide +kernel), List.mem_of_getElem? (i := 1241) (by decide +kernel)⟩
theorem lw_p57 : lw_okq (⟨"LoanNamesModel", "beginsText", "(I)V"⟩, 93) := ⟨⟨by decide +kernel, by decide +kernel⟩, List.mem_of_getElem? (i := 1267) (by decide +kernel), List.mem_of_getElem? (i := 1569) (by decide +kernel), List.mem_of_getElem? (i := 1570) (by decide +kernel)⟩
theorem lw_p58 : lw_okq (⟨"LoanNamesModel", "next", "()V"⟩, 93) := ⟨⟨by decide +kernel, by decide +kernel⟩, List.mem_of_getElem? (i := 1267) (by decide +kernel), List.mem_of_getElem? (i := 1573) (by decide +kernel), List.mem_of_getElem? (i := 1574) (by decide +kernel)⟩
theorem lw_p59 : lw_okq (⟨"LoanNamesModel", "here", "()I"⟩, 93) := ⟨⟨by decide +kernel, by decide +kernel⟩, List.mem_of_getElem? (i := 1267) (by decide +kernel), List.mem_of_getElem? (i := 1577) (by decide +kernel), List.mem_of_getElem? (i := 1578) (by decide +kernel)⟩
theorem lw_p60 : lw_okq (⟨"LoanNamesModel", "kindHere", "()I"⟩, 93) := ⟨⟨by decide +kernel, by decide +kernel⟩, List.mem_of_getElem? (i := 1267) (by decide +kernel), List.mem_of_getElem? (i := 1584) (by decide +kernel), List.mem_of_getElem? (i := 1585) (by decide +kernel)⟩
theorem lw_p61 : lw_okq (⟨"LoanNamesModel", "errs", "()V"⟩, 93) := ⟨⟨by decide +kernel, by decide +kernel⟩, List.mem_of_getElem? (i := 1267) (by decide +kernel), List.mem_of_getElem? (i := 1596) (by decide +kernel), List.mem_of_getElem? (i := 1597) (by decide +kernel)⟩
theorem lw_p62 : lw_okq (⟨"LoanNamesModel", "readLeaf", "(I)V"⟩, 93) := ⟨⟨by decide +kernel, by decide +kernel⟩, List.mem_of_getElem? (i := 1267) (by decide +kernel), List.mem_of_getElem? (i := 1600) (by decide +kernel), List.mem_of_getElem? (i := 1601) (by decide +kernel)⟩
theorem lw_p63 : lw_okq (⟨"LoanNamesModel", "newNode", "(I)I"⟩, 93) := ⟨⟨by decide +kernel, by decide +kernel⟩, List.mem_of_getElem? (i := 1267) (by decide +kernel), List.mem_of_getElem? (i := 1604) (by decide +kernel), List.mem_of_getElem? (i := 1605) (by decide +kernel)⟩
def lw_privs_4 : List (MethodName × Nat) := [(⟨"LoanNames$Search", "mayLend", "(I)Z"⟩, 15), (⟨"LoanNames$Search", "isLoan", "(I)Z"⟩, 15), (⟨"LoanNames", "isLet", "(LLoanNames$Bundle;)Z"⟩, 18), (⟨"LoanNames", "sparesHonest", "(LLoanNames$Rules;)Z"⟩, 18), (⟨"LoanNames$Search", "wordsThatBar", "(II)I"⟩, 15), (⟨"LoanNames$Search", "putNeed", "(I)V"⟩, 15), (⟨"LoanNames$Search", "meetsNeeds", "(I)Z"⟩, 15), (⟨"LoanNames$Kinship", "hangTogether", "(LLoanNames$Deal;LLoanNames$Deal;I)Z"⟩, 7), (⟨"LoanNames$Kinship", "join", "(III)V"⟩, 7), (⟨"LoanNamesModel", "beginsText", "(I)V"⟩, 93), (⟨"LoanNamesModel", "next", "()V"⟩, 93), (⟨"LoanNamesModel", "here", "()I"⟩, 93), (⟨"LoanNamesModel", "kindHere", "()I"⟩, 93), (⟨"LoanNamesModel", "errs", "()V"⟩, 93), (⟨"LoanNamesModel", "readLeaf", "(I)V"⟩, 93), (⟨"LoanNamesModel", "newNode", "(I)I"⟩, 93)]
theorem lw_r4 : ∀ q ∈ lw_privs_4, lw_okq q := List.forall_mem_cons.mpr ⟨lw_p48, List.forall_mem_cons.mpr ⟨lw_p49, List.forall_mem_cons.mpr ⟨lw_p50, List.forall_mem_cons.mpr ⟨lw_p51, List.forall_mem_cons.mpr ⟨lw_p52, List.forall_mem_cons.mpr ⟨lw_p53, List.forall_mem_cons.mpr ⟨lw_p54, List.forall_mem_cons.mpr ⟨lw_p55, List.forall_mem_cons.mpr ⟨lw_p56, List.forall_mem_cons.mpr ⟨lw_p57, List.forall_mem_cons.mpr ⟨lw_p58, List.forall_mem_cons.mpr ⟨lw_p59, List.forall_mem_cons.mpr ⟨lw_p60, List.forall_mem_cons.mpr ⟨lw_p61, List.forall_mem_cons.mpr ⟨lw_p62, List.forall_mem_cons.mpr ⟨lw_p63, fun _ h => absurd h List.not_mem_nil⟩⟩⟩⟩⟩⟩⟩⟩⟩⟩⟩⟩⟩⟩⟩⟩
theorem lw_p64 : lw_okq (⟨"LoanNamesModel", "hand", "(I)I"⟩, 93) := ⟨⟨by decide +kernel, by decide +kernel⟩, List.mem_of_getElem? (i := 1267) (by decide +kernel), List.mem_of_getElem? (i := 1608) (by decide +kernel), List.mem_of_getElem? (i := 1609) (by decide +kernel)⟩
theorem lw_p65 : lw_okq (⟨"LoanNamesModel", "thingOf", "()I"⟩, 93) := ⟨⟨by decide +kernel, by decide +kernel⟩, List.mem_of_getElem? (i := 1267) (by decide +kernel), List.mem_of_getElem? (i := 1613) (by decide +kernel), List.mem_of_getElem? (i := 1614) (by decide +kernel)⟩
theorem lw_p66 : lw_okq (⟨"LoanNamesModel", "thingHere", "()I"⟩, 93) := ⟨⟨by decide +kernel, by decide +kernel⟩, List.mem_of_getElem? (i := 1267) (by decide +kernel), List.mem_of_getElem? (i := 1617) (by decide +kernel), List.mem_of_getElem? (i := 1618) (by decide +kernel)⟩
theorem lw_p67 : lw_okq (⟨"LoanNamesModel", "numeral", "(II)I"⟩, 93) := ⟨⟨by decide +kernel, by decide +kernel⟩, List.mem_of_getElem? (i := 1267) (by decide +kernel), List.mem_of_getElem? (i := 1627) (by decide +kernel), List.mem_of_getElem? (i := 1628) (by decide +kernel)⟩
theorem lw_p68 : lw_okq (⟨"LoanNamesModel", "mustBe", "(J)V"⟩, 93) := ⟨⟨by decide +kernel, by decide +kernel⟩, List.mem_of_getElem? (i := 1267) (by decide +kernel), List.mem_of_getElem? (i := 1632) (by decide +kernel), List.mem_of_getElem? (i := 1633) (by decide +kernel)⟩
theorem lw_p69 : lw_okq (⟨"LoanNamesModel", "is", "(J)Z"⟩, 93) := ⟨⟨by decide +kernel, by decide +kernel⟩, List.mem_of_getElem? (i := 1267) (by decide +kernel), List.mem_of_getElem? (i := 1636) (by decide +kernel), List.mem_of_getElem? (i := 1637) (by decide +kernel)⟩
theorem lw_p70 : lw_okq (⟨"LoanNamesModel", "closes", "()Z"⟩, 93) := ⟨⟨by decide +kernel, by decide +kernel⟩, List.mem_of_getElem? (i := 1267) (by decide +kernel), List.mem_of_getElem? (i := 1643) (by decide +kernel), List.mem_of_getElem? (i := 1644) (by decide +kernel)⟩
theorem lw_p71 : lw_okq (⟨"LoanNamesModel", "opens", "(II)V"⟩, 93) := ⟨⟨by decide +kernel, by decide +kernel⟩, List.mem_of_getElem? (i := 1267) (by decide +kernel), List.mem_of_getElem? (i := 1649) (by decide +kernel), List.mem_of_getElem? (i := 1650) (by decide +kernel)⟩
theorem lw_p72 : lw_okq (⟨"LoanNamesModel", "readGroup", "(I)V"⟩, 93) := ⟨⟨by decide +kernel, by decide +kernel⟩, List.mem_of_getElem? (i := 1267) (by decide +kernel), List.mem_of_getElem? (i := 1653) (by decide +kernel), List.mem_of_getElem? (i := 1654) (by decide +kernel)⟩
theorem lw_p73 : lw_okq (⟨"LoanNamesModel", "eventHere", "()I"⟩, 93) := ⟨⟨by decide +kernel, by decide +kernel⟩, List.mem_of_getElem? (i := 1267) (by decide +kernel), List.mem_of_getElem? (i := 1657) (by decide +kernel), List.mem_of_getElem? (i := 1658) (by decide +kernel)⟩
theorem lw_p74 : lw_okq (⟨"LoanNamesModel", "isDeal", "(I)Z"⟩, 93) := ⟨⟨by decide +kernel, by decide +kernel⟩, List.mem_of_getElem? (i := 1267) (by decide +kernel), List.mem_of_getElem? (i := 1674) (by decide +kernel), List.mem_of_getElem? (i := 1675) (by decide +kernel)⟩
theorem lw_p75 : lw_okq (⟨"LoanNamesModel", "isLeaf", "(I)Z"⟩, 93) := ⟨⟨by decide +kernel, by decide +kernel⟩, List.mem_of_getElem? (i := 1267) (by decide +kernel), List.mem_of_getElem? (i := 1678) (by decide +kernel), List.mem_of_getElem? (i := 1679) (by decide +kernel)⟩
theorem lw_p76 : lw_okq (⟨"LoanNamesModel", "told", "(II)I"⟩, 93) := ⟨⟨by decide +kernel, by decide +kernel⟩, List.mem_of_getElem? (i := 1267) (by decide +kernel), List.mem_of_getElem? (i := 1686) (by decide +kernel), List.mem_of_getElem? (i := 1687) (by decide +kernel)⟩
theorem lw_p77 : lw_okq (⟨"LoanNamesModel", "later", "(I)I"⟩, 93) := ⟨⟨by decide +kernel, by decide +kernel⟩, List.mem_of_getElem? (i := 1267) (by decide +kernel), List.mem_of_getElem? (i := 1690) (by decide +kernel), List.mem_of_getElem? (i := 1691) (by decide +kernel)⟩
theorem lw_p78 : lw_okq (⟨"LoanNamesModel", "simplifies", "(II)V"⟩, 93) := ⟨⟨by decide +kernel, by decide +kernel⟩, List.mem_of_getElem? (i := 1267) (by decide +kernel), List.mem_of_getElem? (i := 1698) (by decide +kernel), List.mem_of_getElem? (i := 1699) (by decide +kernel)⟩
theorem lw_p79 : lw_okq (⟨"LoanNamesModel", "partsLeft", "(III)I"⟩, 93) := ⟨⟨by decide +kernel, by decide +kernel⟩, List.mem_of_getElem? (i := 1267) (by decide +kernel), List.mem_of_getElem? (i := 1702) (by decide +kernel), List.mem_of_getElem? (i := 1703) (by decide +kernel)⟩
def lw_privs_5 : List (MethodName × Nat) := [(⟨"LoanNamesModel", "hand", "(I)I"⟩, 93), (⟨"LoanNamesModel", "thingOf", "()I"⟩, 93), (⟨"LoanNamesModel", "thingHere", "()I"⟩, 93), (⟨"LoanNamesModel", "numeral", "(II)I"⟩, 93), (⟨"LoanNamesModel", "mustBe", "(J)V"⟩, 93), (⟨"LoanNamesModel", "is", "(J)Z"⟩, 93), (⟨"LoanNamesModel", "closes", "()Z"⟩, 93), (⟨"LoanNamesModel", "opens", "(II)V"⟩, 93), (⟨"LoanNamesModel", "readGroup", "(I)V"⟩, 93), (⟨"LoanNamesModel", "eventHere", "()I"⟩, 93), (⟨"LoanNamesModel", "isDeal", "(I)Z"⟩, 93), (⟨"LoanNamesModel", "isLeaf", "(I)Z"⟩, 93), (⟨"LoanNamesModel", "told", "(II)I"⟩, 93), (⟨"LoanNamesModel", "later", "(I)I"⟩, 93), (⟨"LoanNamesModel", "simplifies", "(II)V"⟩, 93), (⟨"LoanNamesModel", "partsLeft", "(III)I"⟩, 93)]
theorem lw_r5 : ∀ q ∈ lw_privs_5, lw_okq q := List.forall_mem_cons.mpr ⟨lw_p64, List.forall_mem_cons.mpr ⟨lw_p65, List.forall_mem_cons.mpr ⟨lw_p66, List.forall_mem_cons.mpr ⟨lw_p67, List.forall_mem_cons.mpr ⟨lw_p68, List.forall_mem_cons.mpr ⟨lw_p69, List.forall_mem_cons.mpr ⟨lw_p70, List.forall_mem_cons.mpr ⟨lw_p71, List.forall_mem_cons.mpr ⟨lw_p72, List.forall_mem_cons.mpr ⟨lw_p73, List.forall_mem_cons.mpr ⟨lw_p74, List.forall_mem_cons.mpr ⟨lw_p75, List.forall_mem_cons.mpr ⟨lw_p76, List.forall_mem_cons.mpr ⟨lw_p77, List.forall_mem_cons.mpr ⟨lw_p78, List.forall_mem_cons.mpr ⟨lw_p79, fun _ h => absurd h List.not_mem_nil⟩⟩⟩⟩⟩⟩⟩⟩⟩⟩⟩⟩⟩⟩⟩⟩
theorem lw_p80 : lw_okq (⟨"LoanNamesModel", "areAlike", "(II)Z"⟩, 93) := ⟨⟨by decide +kernel, by decide +kernel⟩, List.mem_of_getElem? (i := 1267) (by decide +kernel), List.mem_of_getElem? (i := 1706) (by decide +kernel), List.mem_of_getElem? (i := 1707) (by decide +kernel)⟩
theorem lw_p81 : lw_okq (⟨"LoanNamesModel", "laysOut", "(IIII)I"⟩, 93) := ⟨⟨by decide +kernel, by decide +kernel⟩, List.mem_of_getElem? (i := 1267) (by decide +kernel), List.mem_of_getElem? (i := 1710) (by decide +kernel), List.mem_of_getElem? (i := 1711) (by decide +kernel)⟩
theorem lw_p82 : lw_okq (⟨"LoanNamesModel", "closesUp", "(II)V"⟩, 93) := ⟨⟨by decide +kernel, by decide +kernel⟩, List.mem_of_getElem? (i := 1267) (by decide +kernel), List.mem_of_getElem? (i := 1714) (by decide +kernel), List.mem_of_getElem? (i := 1715) (by decide +kernel)⟩
theorem lw_p83 : lw_okq (⟨"LoanNamesModel", "sign", "(II)V"⟩, 93) := ⟨⟨by decide +kernel, by decide +kernel⟩, List.mem_of_getElem? (i := 1267) (by decide +kernel), List.mem_of_getElem? (i := 1718) (by decide +kernel), List.mem_of_getElem? (i := 1719) (by decide +kernel)⟩
theorem lw_p84 : lw_okq (⟨"LoanNamesModel", "partLeft", "(III)I"⟩, 93) := ⟨⟨by decide +kernel, by decide +kernel⟩, List.mem_of_getElem? (i := 1267) (by decide +kernel), List.mem_of_getElem? (i := 1722) (by decide +kernel), List.mem_of_getElem? (i := 1723) (by decide +kernel)⟩
theorem lw_p85 : lw_okq (⟨"LoanNamesModel", "passes", "(III)V"⟩, 93) := ⟨⟨by decide +kernel, by decide +kernel⟩, List.mem_of_getElem? (i := 1267) (by decide +kernel), List.mem_of_getElem? (i := 1730) (by decide +kernel), List.mem_of_getElem? (i := 1731) (by decide +kernel)⟩
theorem lw_p86 : lw_okq (⟨"LoanNamesModel", "times", "(III)J"⟩, 93) := ⟨⟨by decide +kernel, by decide +kernel⟩, List.mem_of_getElem? (i := 1267) (by decide +kernel), List.mem_of_getElem? (i := 1734) (by decide +kernel), List.mem_of_getElem? (i := 1735) (by decide +kernel)⟩
theorem lw_p87 : lw_okq (⟨"LoanNamesModel", "flow", "(IIIIJ)V"⟩, 93) := ⟨⟨by decide +kernel, by decide +kernel⟩, List.mem_of_getElem? (i := 1267) (by decide +kernel), List.mem_of_getElem? (i := 1738) (by decide +kernel), List.mem_of_getElem? (i := 1739) (by decide +kernel)⟩
theorem lw_p88 : lw_okq (⟨"LoanNamesModel", "among", "(III)J"⟩, 93) := ⟨⟨by decide +kernel, by decide +kernel⟩, List.mem_of_getElem? (i := 1267) (by decide +kernel), List.mem_of_getElem? (i := 1742) (by decide +kernel), List.mem_of_getElem? (i := 1743) (by decide +kernel)⟩
theorem lw_p89 : lw_okq (⟨"LoanNamesModel", "bundleAtHand", "()V"⟩, 93) := ⟨⟨by decide +kernel, by decide +kernel⟩, List.mem_of_getElem? (i := 1267) (by decide +kernel), List.mem_of_getElem? (i := 1758) (by decide +kernel), List.mem_of_getElem? (i := 1759) (by decide +kernel)⟩
theorem lw_p90 : lw_okq (⟨"LoanNamesModel", "codesAtHand", "()I"⟩, 93) := ⟨⟨by decide +kernel, by decide +kernel⟩, List.mem_of_getElem? (i := 1267) (by decide +kernel), List.mem_of_getElem? (i := 1762) (by decide +kernel), List.mem_of_getElem? (i := 1763) (by decide +kernel)⟩
theorem lw_p91 : lw_okq (⟨"LoanNamesModel", "choicesAtHand", "()I"⟩, 93) := ⟨⟨by decide +kernel, by decide +kernel⟩, List.mem_of_getElem? (i := 1267) (by decide +kernel), List.mem_of_getElem? (i := 1766) (by decide +kernel), List.mem_of_getElem? (i := 1767) (by decide +kernel)⟩
theorem lw_p92 : lw_okq (⟨"LoanNamesModel", "rowsOfDeal", "(III)I"⟩, 93) := ⟨⟨by decide +kernel, by decide +kernel⟩, List.mem_of_getElem? (i := 1267) (by decide +kernel), List.mem_of_getElem? (i := 1770) (by decide +kernel), List.mem_of_getElem? (i := 1771) (by decide +kernel)⟩
theorem lw_p93 : lw_okq (⟨"LoanNamesModel", "rowsOf", "(I)I"⟩, 93) := ⟨⟨by decide +kernel, by decide +kernel⟩, List.mem_of_getElem? (i := 1267) (by decide +kernel), List.mem_of_getElem? (i := 1774) (by decide +kernel), List.mem_of_getElem? (i := 1775) (by decide +kernel)⟩
theorem lw_p94 : lw_okq (⟨"LoanNamesModel", "findRow", "(IIII)V"⟩, 93) := ⟨⟨by decide +kernel, by decide +kernel⟩, List.mem_of_getElem? (i := 1267) (by decide +kernel), List.mem_of_getElem? (i := 1778) (by decide +kernel), List.mem_of_getElem? (i := 1779) (by decide +kernel)⟩
theorem lw_p95 : lw_okq (⟨"LoanNamesModel", "rowTold", "(I)J"⟩, 93) := ⟨⟨by decide +kernel, by decide +kernel⟩, List.mem_of_getElem? (i := 1267) (by decide +kernel), List.mem_of_getElem? (i := 1782) (by decide +kernel), List.mem_of_getElem? (i := 1783) (by decide +kernel)⟩
def lw_privs_6 : List (MethodName × Nat) := [(⟨"LoanNamesModel", "areAlike", "(II)Z"⟩, 93), (⟨"LoanNamesModel", "laysOut", "(IIII)I"⟩, 93), (⟨"LoanNamesModel", "closesUp", "(II)V"⟩, 93), (⟨"LoanNamesModel", "sign", "(II)V"⟩, 93), (⟨"LoanNamesModel", "partLeft", "(III)I"⟩, 93), (⟨"LoanNamesModel", "passes", "(III)V"⟩, 93), (⟨"LoanNamesModel", "times", "(III)J"⟩, 93), (⟨"LoanNamesModel", "flow", "(IIIIJ)V"⟩, 93), (⟨"LoanNamesModel", "among", "(III)J"⟩, 93), (⟨"LoanNamesModel", "bundleAtHand", "()V"⟩, 93), (⟨"LoanNamesModel", "codesAtHand", "()I"⟩, 93), (⟨"LoanNamesModel", "choicesAtHand", "()I"⟩, 93), (⟨"LoanNamesModel", "rowsOfDeal", "(III)I"⟩, 93), (⟨"LoanNamesModel", "rowsOf", "(I)I"⟩, 93), (⟨"LoanNamesModel", "findRow", "(IIII)V"⟩, 93), (⟨"LoanNamesModel", "rowTold", "(I)J"⟩, 93)]
theorem lw_r6 : ∀ q ∈ lw_privs_6, lw_okq q := List.forall_mem_cons.mpr ⟨lw_p80, List.forall_mem_cons.mpr ⟨lw_p81, List.forall_mem_cons.mpr ⟨lw_p82, List.forall_mem_cons.mpr ⟨lw_p83, List.forall_mem_cons.mpr ⟨lw_p84, List.forall_mem_cons.mpr ⟨lw_p85, List.forall_mem_cons.mpr ⟨lw_p86, List.forall_mem_cons.mpr ⟨lw_p87, List.forall_mem_cons.mpr ⟨lw_p88, List.forall_mem_cons.mpr ⟨lw_p89, List.forall_mem_cons.mpr ⟨lw_p90, List.forall_mem_cons.mpr ⟨lw_p91, List.forall_mem_cons.mpr ⟨lw_p92, List.forall_mem_cons.mpr ⟨lw_p93, List.forall_mem_cons.mpr ⟨lw_p94, List.forall_mem_cons.mpr ⟨lw_p95, fun _ h => absurd h List.not_mem_nil⟩⟩⟩⟩⟩⟩⟩⟩⟩⟩⟩⟩⟩⟩⟩⟩
theorem lw_p96 : lw_okq (⟨"LoanNamesModel", "passesAll", "(I)V"⟩, 93) := ⟨⟨by decide +kernel, by decide +kernel⟩, List.mem_of_getElem? (i := 1267) (by decide +kernel), List.mem_of_getElem? (i := 1791) (by decide +kernel), List.mem_of_getElem? (i := 1792) (by decide +kernel)⟩
theorem lw_p97 : lw_okq (⟨"LoanNamesModel", "netOf", "(III)J"⟩, 93) := ⟨⟨by decide +kernel, by decide +kernel⟩, List.mem_of_getElem? (i := 1267) (by decide +kernel), List.mem_of_getElem? (i := 1795) (by decide +kernel), List.mem_of_getElem? (i := 1796) (by decide +kernel)⟩
theorem lw_p98 : lw_okq (⟨"LoanNamesModel", "isLookedAt", "()Z"⟩, 93) := ⟨⟨by decide +kernel, by decide +kernel⟩, List.mem_of_getElem? (i := 1267) (by decide +kernel), List.mem_of_getElem? (i := 1803) (by decide +kernel), List.mem_of_getElem? (i := 1804) (by decide +kernel)⟩
theorem lw_p99 : lw_okq (⟨"LoanNamesModel", "eventsAtHand", "()I"⟩, 93) := ⟨⟨by decide +kernel, by decide +kernel⟩, List.mem_of_getElem? (i := 1267) (by decide +kernel), List.mem_of_getElem? (i := 1807) (by decide +kernel), List.mem_of_getElem? (i := 1808) (by decide +kernel)⟩
theorem lw_p100 : lw_okq (⟨"LoanNamesModel", "codeFrom", "(I)I"⟩, 93) := ⟨⟨by decide +kernel, by decide +kernel⟩, List.mem_of_getElem? (i := 1267) (by decide +kernel), List.mem_of_getElem? (i := 1821) (by decide +kernel), List.mem_of_getElem? (i := 1822) (by decide +kernel)⟩
theorem lw_p101 : lw_okq (⟨"LoanNamesModel", "findLending", "(I)V"⟩, 93) := ⟨⟨by decide +kernel, by decide +kernel⟩, List.mem_of_getElem? (i := 1267) (by decide +kernel), List.mem_of_getElem? (i := 1825) (by decide +kernel), List.mem_of_getElem? (i := 1826) (by decide +kernel)⟩
theorem lw_p102 : lw_okq (⟨"LoanNamesModel", "findDays", "()V"⟩, 93) := ⟨⟨by decide +kernel, by decide +kernel⟩, List.mem_of_getElem? (i := 1267) (by decide +kernel), List.mem_of_getElem? (i := 1829) (by decide +kernel), List.mem_of_getElem? (i := 1830) (by decide +kernel)⟩
theorem lw_p103 : lw_okq (⟨"LoanNamesModel", "lendingDay", "(I)I"⟩, 93) := ⟨⟨by decide +kernel, by decide +kernel⟩, List.mem_of_getElem? (i := 1267) (by decide +kernel), List.mem_of_getElem? (i := 1833) (by decide +kernel), List.mem_of_getElem? (i := 1834) (by decide +kernel)⟩
theorem lw_p104 : lw_okq (⟨"LoanNamesModel", "outOf", "(I)J"⟩, 93) := ⟨⟨by decide +kernel, by decide +kernel⟩, List.mem_of_getElem? (i := 1267) (by decide +kernel), List.mem_of_getElem? (i := 1841) (by decide +kernel), List.mem_of_getElem? (i := 1842) (by decide +kernel)⟩
theorem lw_p105 : lw_okq (⟨"LoanNamesModel", "loanAtHand", "()I"⟩, 93) := ⟨⟨by decide +kernel, by decide +kernel⟩, List.mem_of_getElem? (i := 1267) (by decide +kernel), List.mem_of_getElem? (i := 1855) (by decide +kernel), List.mem_of_getElem? (i := 1856) (by decide +kernel)⟩
theorem lw_p106 : lw_okq (⟨"LoanNamesModel", "readBars", "(II)I"⟩, 93) := ⟨⟨by decide +kernel, by decide +kernel⟩, List.mem_of_getElem? (i := 1267) (by decide +kernel), List.mem_of_getElem? (i := 1875) (by decide +kernel), List.mem_of_getElem? (i := 1876) (by decide +kernel)⟩
theorem lw_p107 : lw_okq (⟨"LoanNamesModel", "readBar", "(I)V"⟩, 93) := ⟨⟨by decide +kernel, by decide +kernel⟩, List.mem_of_getElem? (i := 1267) (by decide +kernel), List.mem_of_getElem? (i := 1879) (by decide +kernel), List.mem_of_getElem? (i := 1880) (by decide +kernel)⟩
theorem lw_p108 : lw_okq (⟨"LoanNamesModel", "formHere", "()I"⟩, 93) := ⟨⟨by decide +kernel, by decide +kernel⟩, List.mem_of_getElem? (i := 1267) (by decide +kernel), List.mem_of_getElem? (i := 1884) (by decide +kernel), List.mem_of_getElem? (i := 1885) (by decide +kernel)⟩
theorem lw_p109 : lw_okq (⟨"LoanNamesModel", "ofHere", "()I"⟩, 93) := ⟨⟨by decide +kernel, by decide +kernel⟩, List.mem_of_getElem? (i := 1267) (by decide +kernel), List.mem_of_getElem? (i := 1889) (by decide +kernel), List.mem_of_getElem? (i := 1890) (by decide +kernel)⟩
theorem lw_p110 : lw_okq (⟨"LoanNamesModel", "askedHere", "()I"⟩, 93) := ⟨⟨by decide +kernel, by decide +kernel⟩, List.mem_of_getElem? (i := 1267) (by decide +kernel), List.mem_of_getElem? (i := 1895) (by decide +kernel), List.mem_of_getElem? (i := 1896) (by decide +kernel)⟩
theorem lw_p111 : lw_okq (⟨"LoanNamesModel", "breachNow", "()I"⟩, 93) := ⟨⟨by decide +kernel, by decide +kernel⟩, List.mem_of_getElem? (i := 1267) (by decide +kernel), List.mem_of_getElem? (i := 1910) (by decide +kernel), List.mem_of_getElem? (i := 1911) (by decide +kernel)⟩
def lw_privs_7 : List (MethodName × Nat) := [(⟨"LoanNamesModel", "passesAll", "(I)V"⟩, 93), (⟨"LoanNamesModel", "netOf", "(III)J"⟩, 93), (⟨"LoanNamesModel", "isLookedAt", "()Z"⟩, 93), (⟨"LoanNamesModel", "eventsAtHand", "()I"⟩, 93), (⟨"LoanNamesModel", "codeFrom", "(I)I"⟩, 93), (⟨"LoanNamesModel", "findLending", "(I)V"⟩, 93), (⟨"LoanNamesModel", "findDays", "()V"⟩, 93), (⟨"LoanNamesModel", "lendingDay", "(I)I"⟩, 93), (⟨"LoanNamesModel", "outOf", "(I)J"⟩, 93), (⟨"LoanNamesModel", "loanAtHand", "()I"⟩, 93), (⟨"LoanNamesModel", "readBars", "(II)I"⟩, 93), (⟨"LoanNamesModel", "readBar", "(I)V"⟩, 93), (⟨"LoanNamesModel", "formHere", "()I"⟩, 93), (⟨"LoanNamesModel", "ofHere", "()I"⟩, 93), (⟨"LoanNamesModel", "askedHere", "()I"⟩, 93), (⟨"LoanNamesModel", "breachNow", "()I"⟩, 93)]
theorem lw_r7 : ∀ q ∈ lw_privs_7, lw_okq q := List.forall_mem_cons.mpr ⟨lw_p96, List.forall_mem_cons.mpr ⟨lw_p97, List.forall_mem_cons.mpr ⟨lw_p98, List.forall_mem_cons.mpr ⟨lw_p99, List.forall_mem_cons.mpr ⟨lw_p100, List.forall_mem_cons.mpr ⟨lw_p101, List.forall_mem_cons.mpr ⟨lw_p102, List.forall_mem_cons.mpr ⟨lw_p103, List.forall_mem_cons.mpr ⟨lw_p104, List.forall_mem_cons.mpr ⟨lw_p105, List.forall_mem_cons.mpr ⟨lw_p106, List.forall_mem_cons.mpr ⟨lw_p107, List.forall_mem_cons.mpr ⟨lw_p108, List.forall_mem_cons.mpr ⟨lw_p109, List.forall_mem_cons.mpr ⟨lw_p110, List.forall_mem_cons.mpr ⟨lw_p111, fun _ h => absurd h List.not_mem_nil⟩⟩⟩⟩⟩⟩⟩⟩⟩⟩⟩⟩⟩⟩⟩⟩
theorem lw_p112 : lw_okq (⟨"LoanNamesModel", "findLeaves", "()V"⟩, 93) := ⟨⟨by decide +kernel, by decide +kernel⟩, List.mem_of_getElem? (i := 1267) (by decide +kernel), List.mem_of_getElem? (i := 1914) (by decide +kernel), List.mem_of_getElem? (i := 1915) (by decide +kernel)⟩
theorem lw_p113 : lw_okq (⟨"LoanNamesModel", "doesBar", "(I)Z"⟩, 93) := ⟨⟨by decide +kernel, by decide +kernel⟩, List.mem_of_getElem? (i := 1267) (by decide +kernel), List.mem_of_getElem? (i := 1918) (by decide +kernel), List.mem_of_getElem? (i := 1919) (by decide +kernel)⟩
theorem lw_p114 : lw_okq (⟨"LoanNamesModel", "isOf", "(III)Z"⟩, 93) := ⟨⟨by decide +kernel, by decide +kernel⟩, List.mem_of_getElem? (i := 1267) (by decide +kernel), List.mem_of_getElem? (i := 1922) (by decide +kernel), List.mem_of_getElem? (i := 1923) (by decide +kernel)⟩
theorem lw_p115 : lw_okq (⟨"LoanNamesModel", "isPair", "(III)Z"⟩, 93) := ⟨⟨by decide +kernel, by decide +kernel⟩, List.mem_of_getElem? (i := 1267) (by decide +kernel), List.mem_of_getElem? (i := 1926) (by decide +kernel), List.mem_of_getElem? (i := 1927) (by decide +kernel)⟩
theorem lw_p116 : lw_okq (⟨"LoanNamesModel", "doesWordBar", "(I)Z"⟩, 93) := ⟨⟨by decide +kernel, by decide +kernel⟩, List.mem_of_getElem? (i := 1267) (by decide +kernel), List.mem_of_getElem? (i := 1934) (by decide +kernel), List.mem_of_getElem? (i := 1935) (by decide +kernel)⟩
theorem lw_p117 : lw_okq (⟨"LoanNamesModel", "findSly", "(I)V"⟩, 93) := ⟨⟨by decide +kernel, by decide +kernel⟩, List.mem_of_getElem? (i := 1267) (by decide +kernel), List.mem_of_getElem? (i := 1946) (by decide +kernel), List.mem_of_getElem? (i := 1947) (by decide +kernel)⟩
theorem lw_p118 : lw_okq (⟨"LoanNamesModel", "wordsThatBar", "()I"⟩, 93) := ⟨⟨by decide +kernel, by decide +kernel⟩, List.mem_of_getElem? (i := 1267) (by decide +kernel), List.mem_of_getElem? (i := 1950) (by decide +kernel), List.mem_of_getElem? (i := 1951) (by decide +kernel)⟩
theorem lw_p119 : lw_okq (⟨"LoanNamesModel", "honestAtHand", "(I)V"⟩, 93) := ⟨⟨by decide +kernel, by decide +kernel⟩, List.mem_of_getElem? (i := 1267) (by decide +kernel), List.mem_of_getElem? (i := 1962) (by decide +kernel), List.mem_of_getElem? (i := 1963) (by decide +kernel)⟩
theorem lw_p120 : lw_okq (⟨"LoanNamesModel", "doPart", "(II)Z"⟩, 93) := ⟨⟨by decide +kernel, by decide +kernel⟩, List.mem_of_getElem? (i := 1267) (by decide +kernel), List.mem_of_getElem? (i := 1970) (by decide +kernel), List.mem_of_getElem? (i := 1971) (by decide +kernel)⟩
theorem lw_p121 : lw_okq (⟨"LoanNamesModel", "findGroups", "(I)V"⟩, 93) := ⟨⟨by decide +kernel, by decide +kernel⟩, List.mem_of_getElem? (i := 1267) (by decide +kernel), List.mem_of_getElem? (i := 1982) (by decide +kernel), List.mem_of_getElem? (i := 1983) (by decide +kernel)⟩
theorem lw_p122 : lw_okq (⟨"LoanNamesModel", "doHang", "(III)Z"⟩, 93) := ⟨⟨by decide +kernel, by decide +kernel⟩, List.mem_of_getElem? (i := 1267) (by decide +kernel), List.mem_of_getElem? (i := 1986) (by decide +kernel), List.mem_of_getElem? (i := 1987) (by decide +kernel)⟩
theorem lw_p123 : lw_okq (⟨"LoanNamesModel", "leavesTold", "()I"⟩, 93) := ⟨⟨by decide +kernel, by decide +kernel⟩, List.mem_of_getElem? (i := 1267) (by decide +kernel), List.mem_of_getElem? (i := 1999) (by decide +kernel), List.mem_of_getElem? (i := 2000) (by decide +kernel)⟩
theorem lw_p124 : lw_okq (⟨"LoanNamesModel", "choicesTold", "()I"⟩, 93) := ⟨⟨by decide +kernel, by decide +kernel⟩, List.mem_of_getElem? (i := 1267) (by decide +kernel), List.mem_of_getElem? (i := 2003) (by decide +kernel), List.mem_of_getElem? (i := 2004) (by decide +kernel)⟩
def lw_privs_8 : List (MethodName × Nat) := [(⟨"LoanNamesModel", "findLeaves", "()V"⟩, 93), (⟨"LoanNamesModel", "doesBar", "(I)Z"⟩, 93), (⟨"LoanNamesModel", "isOf", "(III)Z"⟩, 93), (⟨"LoanNamesModel", "isPair", "(III)Z"⟩, 93), (⟨"LoanNamesModel", "doesWordBar", "(I)Z"⟩, 93), (⟨"LoanNamesModel", "findSly", "(I)V"⟩, 93), (⟨"LoanNamesModel", "wordsThatBar", "()I"⟩, 93), (⟨"LoanNamesModel", "honestAtHand", "(I)V"⟩, 93), (⟨"LoanNamesModel", "doPart", "(II)Z"⟩, 93), (⟨"LoanNamesModel", "findGroups", "(I)V"⟩, 93), (⟨"LoanNamesModel", "doHang", "(III)Z"⟩, 93), (⟨"LoanNamesModel", "leavesTold", "()I"⟩, 93), (⟨"LoanNamesModel", "choicesTold", "()I"⟩, 93)]
theorem lw_r8 : ∀ q ∈ lw_privs_8, lw_okq q := List.forall_mem_cons.mpr ⟨lw_p112, List.forall_mem_cons.mpr ⟨lw_p113, List.forall_mem_cons.mpr ⟨lw_p114, List.forall_mem_cons.mpr ⟨lw_p115, List.forall_mem_cons.mpr ⟨lw_p116, List.forall_mem_cons.mpr ⟨lw_p117, List.forall_mem_cons.mpr ⟨lw_p118, List.forall_mem_cons.mpr ⟨lw_p119, List.forall_mem_cons.mpr ⟨lw_p120, List.forall_mem_cons.mpr ⟨lw_p121, List.forall_mem_cons.mpr ⟨lw_p122, List.forall_mem_cons.mpr ⟨lw_p123, List.forall_mem_cons.mpr ⟨lw_p124, fun _ h => absurd h List.not_mem_nil⟩⟩⟩⟩⟩⟩⟩⟩⟩⟩⟩⟩⟩
def lw_privs : List (MethodName × Nat) := lw_privs_1 ++ (lw_privs_2 ++ (lw_privs_3 ++ (lw_privs_4 ++ (lw_privs_5 ++ (lw_privs_6 ++ (lw_privs_7 ++ (lw_privs_8)))))))
def lw_tbl : List Cond := k2_sels lw_privs ++ tables_1
theorem lw_privs_ok : ∀ q ∈ lw_privs, lw_okq q := by
  show ∀ q ∈ lw_privs_1 ++ (lw_privs_2 ++ (lw_privs_3 ++ (lw_privs_4 ++ (lw_privs_5 ++ (lw_privs_6 ++ (lw_privs_7 ++ (lw_privs_8))))))), lw_okq q
  exact List.forall_mem_append.mpr ⟨lw_r1, List.forall_mem_append.mpr ⟨lw_r2, List.forall_mem_append.mpr ⟨lw_r3, List.forall_mem_append.mpr ⟨lw_r4, List.forall_mem_append.mpr ⟨lw_r5, List.forall_mem_append.mpr ⟨lw_r6, List.forall_mem_append.mpr ⟨lw_r7, lw_r8⟩⟩⟩⟩⟩⟩⟩
def RX0 : String := "LoanNames$Bundle"
def TX0 : u_T := fun k => match k with
  | 0 => ("LoanNames$Bundle", "deals", "[LLoanNames$Deal;", true)
  | _ => ("LoanNames$Bundle", "many", "I", false)
def tyX0 : Nat → FieldType := fun k => match k with
  | 0 => .array (.object "LoanNames$Deal")
  | _ => .int
theorem nmX0 : ∀ a, a < 2 → ∀ b, b < 2 → a ≠ b → (TX0 a).2.1 ≠ (TX0 b).2.1 := by decide +kernel
theorem tyX0_ok : ∀ k, k < 2 → parseFieldDescriptor (TX0 k).2.2.1 = some (tyX0 k) := by decide +kernel
abbrev cX0_init : ByteArray := prog_2_method_1_code
def yX0_init : MethodName := ⟨RX0, "<init>", "()V"⟩
abbrev cX0_push : ByteArray := prog_2_method_2_code
def yX0_push : MethodName := ⟨RX0, "push", "(LLoanNames$Deal;)V"⟩
abbrev cX0_copyFrom : ByteArray := prog_2_method_3_code
def yX0_copyFrom : MethodName := ⟨RX0, "copyFrom", "(LLoanNames$Bundle;)V"⟩
abbrev cX0_holds : ByteArray := prog_2_method_4_code
def yX0_holds : MethodName := ⟨RX0, "holds", "(LLoanNames$Deal;)Z"⟩
abbrev cX0_choicesBefore : ByteArray := prog_2_method_5_code
def yX0_choicesBefore : MethodName := ⟨RX0, "choicesBefore", "(I)I"⟩
abbrev cX0_allLeaves : ByteArray := prog_2_method_6_code
def yX0_allLeaves : MethodName := ⟨RX0, "allLeaves", "()I"⟩
abbrev cX0_allChoices : ByteArray := prog_2_method_7_code
def yX0_allChoices : MethodName := ⟨RX0, "allChoices", "()I"⟩
abbrev cX0_namedBits : ByteArray := prog_2_method_8_code
def yX0_namedBits : MethodName := ⟨RX0, "namedBits", "()I"⟩
abbrev cX0_isLooked : ByteArray := prog_2_method_9_code
def yX0_isLooked : MethodName := ⟨RX0, "isLooked", "()Z"⟩
abbrev cX0_codesLooked : ByteArray := prog_2_method_10_code
def yX0_codesLooked : MethodName := ⟨RX0, "codesLooked", "()I"⟩
abbrev cX0_hasCode : ByteArray := prog_2_method_11_code
def yX0_hasCode : MethodName := ⟨RX0, "hasCode", "(I)Z"⟩
abbrev cX0_codeFor : ByteArray := prog_2_method_12_code
def yX0_codeFor : MethodName := ⟨RX0, "codeFor", "(II)I"⟩
abbrev cX0_rowsBy : ByteArray := prog_2_method_13_code
def yX0_rowsBy : MethodName := ⟨RX0, "rowsBy", "(I)I"⟩
abbrev cX0_toldOfRow : ByteArray := prog_2_method_14_code
def yX0_toldOfRow : MethodName := ⟨RX0, "toldOfRow", "(III)J"⟩
def RX1 : String := "LoanNames$Deal"
def TX1 : u_T := fun k => match k with
  | 0 => ("LoanNames$Deal", "number", "I", true)
  | 1 => ("LoanNames$Deal", "signed", "I", false)
  | 2 => ("LoanNames$Deal", "leaves", "I", false)
  | 3 => ("LoanNames$Deal", "choices", "I", false)
  | 4 => ("LoanNames$Deal", "events", "I", false)
  | 5 => ("LoanNames$Deal", "things", "I", false)
  | 6 => ("LoanNames$Deal", "rows", "I", false)
  | 7 => ("LoanNames$Deal", "plainSteps", "I", false)
  | 8 => ("LoanNames$Deal", "plainLeaves", "I", false)
  | 9 => ("LoanNames$Deal", "leaf", "[I", true)
  | 10 => ("LoanNames$Deal", "row", "[I", true)
  | 11 => ("LoanNames$Deal", "much", "[J", true)
  | _ => ("LoanNames$Deal", "byDay", "[I", true)
def tyX1 : Nat → FieldType := fun k => match k with
  | 0 => .int
  | 1 => .int
  | 2 => .int
  | 3 => .int
  | 4 => .int
  | 5 => .int
  | 6 => .int
  | 7 => .int
  | 8 => .int
  | 9 => .array .int
  | 10 => .array .int
  | 11 => .array .long
  | _ => .array .int
theorem nmX1 : ∀ a, a < 13 → ∀ b, b < 13 → a ≠ b → (TX1 a).2.1 ≠ (TX1 b).2.1 := by decide +kernel
theorem tyX1_ok : ∀ k, k < 13 → parseFieldDescriptor (TX1 k).2.2.1 = some (tyX1 k) := by decide +kernel
abbrev cX1_init : ByteArray := prog_3_method_1_code
def yX1_init : MethodName := ⟨RX1, "<init>", "(I)V"⟩
abbrev cX1_empty : ByteArray := prog_3_method_2_code
def yX1_empty : MethodName := ⟨RX1, "empty", "()V"⟩
abbrev cX1_putLeaf : ByteArray := prog_3_method_3_code
def yX1_putLeaf : MethodName := ⟨RX1, "putLeaf", "([II)V"⟩
abbrev cX1_putRows : ByteArray := prog_3_method_4_code
def yX1_putRows : MethodName := ⟨RX1, "putRows", "(III)V"⟩
abbrev cX1_putRow : ByteArray := prog_3_method_5_code
def yX1_putRow : MethodName := ⟨RX1, "putRow", "(IZIJII)V"⟩
abbrev cX1_sortByDay : ByteArray := prog_3_method_6_code
def yX1_sortByDay : MethodName := ⟨RX1, "sortByDay", "()V"⟩
abbrev cX1_dayOf : ByteArray := prog_3_method_7_code
def yX1_dayOf : MethodName := ⟨RX1, "dayOf", "(I)I"⟩
abbrev cX1_isPassing : ByteArray := prog_3_method_8_code
def yX1_isPassing : MethodName := ⟨RX1, "isPassing", "(II)Z"⟩
abbrev cX1_familiesIn : ByteArray := prog_3_method_9_code
def yX1_familiesIn : MethodName := ⟨RX1, "familiesIn", "([I)I"⟩
def RX2 : String := "LoanNames$DealReader"
def TX2 : u_T := fun k => match k with
  | 0 => ("LoanNames$DealReader", "tape", "LLoanNames$Tape;", true)
  | 1 => ("LoanNames$DealReader", "shape", "LLoanNames$Shape;", true)
  | 2 => ("LoanNames$DealReader", "said", "[I", true)
  | 3 => ("LoanNames$DealReader", "into", "LLoanNames$Deal;", false)
  | 4 => ("LoanNames$DealReader", "later", "I", false)
  | 5 => ("LoanNames$DealReader", "times", "I", false)
  | 6 => ("LoanNames$DealReader", "mask", "I", false)
  | _ => ("LoanNames$DealReader", "value", "I", false)
def tyX2 : Nat → FieldType := fun k => match k with
  | 0 => .object "LoanNames$Tape"
  | 1 => .object "LoanNames$Shape"
  | 2 => .array .int
  | 3 => .object "LoanNames$Deal"
  | 4 => .int
  | 5 => .int
  | 6 => .int
  | _ => .int
theorem nmX2 : ∀ a, a < 8 → ∀ b, b < 8 → a ≠ b → (TX2 a).2.1 ≠ (TX2 b).2.1 := by decide +kernel
theorem tyX2_ok : ∀ k, k < 8 → parseFieldDescriptor (TX2 k).2.2.1 = some (tyX2 k) := by decide +kernel
abbrev cX2_init : ByteArray := prog_4_method_1_code
def yX2_init : MethodName := ⟨RX2, "<init>", "(LLoanNames$Tape;)V"⟩
abbrev cX2_readDeal : ByteArray := prog_4_method_2_code
def yX2_readDeal : MethodName := ⟨RX2, "readDeal", "(LLoanNames$Deal;)Z"⟩
abbrev cX2_readAll : ByteArray := prog_4_method_3_code
def yX2_readAll : MethodName := ⟨RX2, "readAll", "(I)Z"⟩
abbrev cX2_readPart : ByteArray := prog_4_method_4_code
def yX2_readPart : MethodName := ⟨RX2, "readPart", "(I)Z"⟩
abbrev cX2_readLeaf : ByteArray := prog_4_method_5_code
def yX2_readLeaf : MethodName := ⟨RX2, "readLeaf", "(I)Z"⟩
abbrev cX2_readTwo : ByteArray := prog_4_method_6_code
def yX2_readTwo : MethodName := ⟨RX2, "readTwo", "()Z"⟩
abbrev cX2_readSo : ByteArray := prog_4_method_7_code
def yX2_readSo : MethodName := ⟨RX2, "readSo", "()Z"⟩
abbrev cX2_readPay : ByteArray := prog_4_method_8_code
def yX2_readPay : MethodName := ⟨RX2, "readPay", "(I)Z"⟩
abbrev cX2_readDays : ByteArray := prog_4_method_9_code
def yX2_readDays : MethodName := ⟨RX2, "readDays", "(I)Z"⟩
abbrev cX2_readAfter : ByteArray := prog_4_method_10_code
def yX2_readAfter : MethodName := ⟨RX2, "readAfter", "(I)Z"⟩
abbrev cX2_readTimes : ByteArray := prog_4_method_11_code
def yX2_readTimes : MethodName := ⟨RX2, "readTimes", "(I)Z"⟩
abbrev cX2_readIf : ByteArray := prog_4_method_12_code
def yX2_readIf : MethodName := ⟨RX2, "readIf", "(I)Z"⟩
abbrev cX2_readChoice : ByteArray := prog_4_method_13_code
def yX2_readChoice : MethodName := ⟨RX2, "readChoice", "(I)Z"⟩
abbrev cX2_readBranches : ByteArray := prog_4_method_14_code
def yX2_readBranches : MethodName := ⟨RX2, "readBranches", "(IIIILjava/lang/String;)Z"⟩
abbrev cX2_readBranch : ByteArray := prog_4_method_15_code
def yX2_readBranch : MethodName := ⟨RX2, "readBranch", "(III)Z"⟩
abbrev cX2_readBlock : ByteArray := prog_4_method_16_code
def yX2_readBlock : MethodName := ⟨RX2, "readBlock", "(I)Z"⟩
def RX3 : String := "LoanNames$Judge"
def TX3 : u_T := fun k => match k with
  | 0 => ("LoanNames$Judge", "familyOf", "[I", true)
  | 1 => ("LoanNames$Judge", "leaf", "[I", true)
  | 2 => ("LoanNames$Judge", "leaves", "I", false)
  | 3 => ("LoanNames$Judge", "firstLeaf", "I", false)
  | _ => ("LoanNames$Judge", "secondLeaf", "I", false)
def tyX3 : Nat → FieldType := fun k => match k with
  | 0 => .array .int
  | 1 => .array .int
  | 2 => .int
  | 3 => .int
  | _ => .int
theorem nmX3 : ∀ a, a < 5 → ∀ b, b < 5 → a ≠ b → (TX3 a).2.1 ≠ (TX3 b).2.1 := by decide +kernel
theorem tyX3_ok : ∀ k, k < 5 → parseFieldDescriptor (TX3 k).2.2.1 = some (tyX3 k) := by decide +kernel
abbrev cX3_init : ByteArray := prog_5_method_1_code
def yX3_init : MethodName := ⟨RX3, "<init>", "([I)V"⟩
abbrev cX3_hear : ByteArray := prog_5_method_2_code
def yX3_hear : MethodName := ⟨RX3, "hear", "(LLoanNames$Bundle;)V"⟩
abbrev cX3_hearPair : ByteArray := prog_5_method_3_code
def yX3_hearPair : MethodName := ⟨RX3, "hearPair", "(LLoanNames$Deal;LLoanNames$Deal;)V"⟩
abbrev cX3_hearAlso : ByteArray := prog_5_method_4_code
def yX3_hearAlso : MethodName := ⟨RX3, "hearAlso", "(LLoanNames$Deal;)V"⟩
abbrev cX3_firstThatBars : ByteArray := prog_5_method_5_code
def yX3_firstThatBars : MethodName := ⟨RX3, "firstThatBars", "(LLoanNames$Rules;)I"⟩
abbrev cX3_findLeaves : ByteArray := prog_5_method_6_code
def yX3_findLeaves : MethodName := ⟨RX3, "findLeaves", "([II)Z"⟩
abbrev cX3_findSecond : ByteArray := prog_5_method_7_code
def yX3_findSecond : MethodName := ⟨RX3, "findSecond", "([III)I"⟩
abbrev cX3_isOf : ByteArray := prog_5_method_8_code
def yX3_isOf : MethodName := ⟨RX3, "isOf", "(III)Z"⟩
abbrev cX3_isLater : ByteArray := prog_5_method_9_code
def yX3_isLater : MethodName := ⟨RX3, "isLater", "(III)Z"⟩
abbrev cX3_isTied : ByteArray := prog_5_method_10_code
def yX3_isTied : MethodName := ⟨RX3, "isTied", "(III)Z"⟩
def RX4 : String := "LoanNames$Kinship"
def TX4 : u_T := fun k => match k with
  | 0 => ("LoanNames$Kinship", "keys", "[I", true)
  | 1 => ("LoanNames$Kinship", "slots", "[I", true)
  | 2 => ("LoanNames$Kinship", "sums", "[J", true)
  | 3 => ("LoanNames$Kinship", "keysMany", "I", false)
  | 4 => ("LoanNames$Kinship", "leastOf", "[I", true)
  | 5 => ("LoanNames$Kinship", "together", "LLoanNames$Bundle;", true)
  | _ => ("LoanNames$Kinship", "families", "[I", true)
def tyX4 : Nat → FieldType := fun k => match k with
  | 0 => .array .int
  | 1 => .array .int
  | 2 => .array .long
  | 3 => .int
  | 4 => .array .int
  | 5 => .object "LoanNames$Bundle"
  | _ => .array .int
theorem nmX4 : ∀ a, a < 7 → ∀ b, b < 7 → a ≠ b → (TX4 a).2.1 ≠ (TX4 b).2.1 := by decide +kernel
theorem tyX4_ok : ∀ k, k < 7 → parseFieldDescriptor (TX4 k).2.2.1 = some (tyX4 k) := by decide +kernel
abbrev cX4_init : ByteArray := prog_6_method_1_code
def yX4_init : MethodName := ⟨RX4, "<init>", "()V"⟩
abbrev cX4_firstApart : ByteArray := prog_6_method_2_code
def yX4_firstApart : MethodName := ⟨RX4, "firstApart", "(LLoanNames$Deal;LLoanNames$Deal;)I"⟩
abbrev cX4_giveSlots : ByteArray := prog_6_method_3_code
def yX4_giveSlots : MethodName := ⟨RX4, "giveSlots", "(LLoanNames$Deal;I)V"⟩
abbrev cX4_pour : ByteArray := prog_6_method_4_code
def yX4_pour : MethodName := ⟨RX4, "pour", "(LLoanNames$Deal;III)V"⟩
abbrev cX4_isLevel : ByteArray := prog_6_method_5_code
def yX4_isLevel : MethodName := ⟨RX4, "isLevel", "()Z"⟩
abbrev cX4_gather : ByteArray := prog_6_method_6_code
def yX4_gather : MethodName := ⟨RX4, "gather", "([LLoanNames$Deal;II[I)V"⟩
abbrev cX4_hangTogether : ByteArray := prog_6_method_7_code
def yX4_hangTogether : MethodName := ⟨RX4, "hangTogether", "(LLoanNames$Deal;LLoanNames$Deal;I)Z"⟩
abbrev cX4_join : ByteArray := prog_6_method_8_code
def yX4_join : MethodName := ⟨RX4, "join", "(III)V"⟩
abbrev cX4_heaps : ByteArray := prog_6_method_9_code
def yX4_heaps : MethodName := ⟨RX4, "heaps", "(I)I"⟩
abbrev cX4_fillBundle : ByteArray := prog_6_method_10_code
def yX4_fillBundle : MethodName := ⟨RX4, "fillBundle", "([LLoanNames$Deal;II)Z"⟩
def RX5 : String := "LoanNames$Ledger"
def TX5 : u_T := fun k => match k with
  | 0 => ("LoanNames$Ledger", "familyOf", "[I", true)
  | 1 => ("LoanNames$Ledger", "entry", "[I", true)
  | 2 => ("LoanNames$Ledger", "much", "[J", true)
  | 3 => ("LoanNames$Ledger", "entries", "I", false)
  | 4 => ("LoanNames$Ledger", "bitsThatTell", "I", false)
  | 5 => ("LoanNames$Ledger", "present", "[I", true)
  | 6 => ("LoanNames$Ledger", "presentMany", "I", false)
  | 7 => ("LoanNames$Ledger", "head", "[I", true)
  | 8 => ("LoanNames$Ledger", "totals", "[J", true)
  | 9 => ("LoanNames$Ledger", "lendsTo", "[I", true)
  | 10 => ("LoanNames$Ledger", "held", "[J", true)
  | 11 => ("LoanNames$Ledger", "outDays", "[J", true)
  | 12 => ("LoanNames$Ledger", "today", "[J", true)
  | 13 => ("LoanNames$Ledger", "lastDay", "[I", true)
  | 14 => ("LoanNames$Ledger", "paidAtFirst", "[I", true)
  | 15 => ("LoanNames$Ledger", "begun", "I", false)
  | 16 => ("LoanNames$Ledger", "risen", "I", false)
  | 17 => ("LoanNames$Ledger", "spoilt", "I", false)
  | 18 => ("LoanNames$Ledger", "uneven", "I", false)
  | _ => ("LoanNames$Ledger", "below", "I", false)
def tyX5 : Nat → FieldType := fun k => match k with
  | 0 => .array .int
  | 1 => .array .int
  | 2 => .array .long
  | 3 => .int
  | 4 => .int
  | 5 => .array .int
  | 6 => .int
  | 7 => .array .int
  | 8 => .array .long
  | 9 => .array .int
  | 10 => .array .long
  | 11 => .array .long
  | 12 => .array .long
  | 13 => .array .int
  | 14 => .array .int
  | 15 => .int
  | 16 => .int
  | 17 => .int
  | 18 => .int
  | _ => .int
theorem nmX5 : ∀ a, a < 20 → ∀ b, b < 20 → a ≠ b → (TX5 a).2.1 ≠ (TX5 b).2.1 := by decide +kernel
theorem tyX5_ok : ∀ k, k < 20 → parseFieldDescriptor (TX5 k).2.2.1 = some (tyX5 k) := by decide +kernel
abbrev cX5_init : ByteArray := prog_7_method_1_code
def yX5_init : MethodName := ⟨RX5, "<init>", "([I)V"⟩
abbrev cX5_sumOf : ByteArray := prog_7_method_2_code
def yX5_sumOf : MethodName := ⟨RX5, "sumOf", "(LLoanNames$Bundle;IIII)J"⟩
abbrev cX5_shareOf : ByteArray := prog_7_method_3_code
def yX5_shareOf : MethodName := ⟨RX5, "shareOf", "(LLoanNames$Deal;II)J"⟩
abbrev cX5_isEven : ByteArray := prog_7_method_4_code
def yX5_isEven : MethodName := ⟨RX5, "isEven", "(LLoanNames$Bundle;LLoanNames$Bundle;I)Z"⟩
abbrev cX5_sumInto : ByteArray := prog_7_method_5_code
def yX5_sumInto : MethodName := ⟨RX5, "sumInto", "(LLoanNames$Deal;II[JI)V"⟩
abbrev cX5_findLoan : ByteArray := prog_7_method_6_code
def yX5_findLoan : MethodName := ⟨RX5, "findLoan", "(LLoanNames$Bundle;)I"⟩
abbrev cX5_take : ByteArray := prog_7_method_7_code
def yX5_take : MethodName := ⟨RX5, "take", "(LLoanNames$Bundle;)V"⟩
abbrev cX5_earliestHead : ByteArray := prog_7_method_8_code
def yX5_earliestHead : MethodName := ⟨RX5, "earliestHead", "(LLoanNames$Bundle;)I"⟩
abbrev cX5_putEntry : ByteArray := prog_7_method_9_code
def yX5_putEntry : MethodName := ⟨RX5, "putEntry", "(LLoanNames$Deal;II)I"⟩
abbrev cX5_bitsBehind : ByteArray := prog_7_method_10_code
def yX5_bitsBehind : MethodName := ⟨RX5, "bitsBehind", "(II)I"⟩
abbrev cX5_weigh : ByteArray := prog_7_method_11_code
def yX5_weigh : MethodName := ⟨RX5, "weigh", "(I)V"⟩
abbrev cX5_endDay : ByteArray := prog_7_method_12_code
def yX5_endDay : MethodName := ⟨RX5, "endDay", "(I)V"⟩
abbrev cX5_book : ByteArray := prog_7_method_13_code
def yX5_book : MethodName := ⟨RX5, "book", "(III)V"⟩
abbrev cX5_findUneven : ByteArray := prog_7_method_14_code
def yX5_findUneven : MethodName := ⟨RX5, "findUneven", "()V"⟩
abbrev cX5_borrowersOf : ByteArray := prog_7_method_15_code
def yX5_borrowersOf : MethodName := ⟨RX5, "borrowersOf", "(I)I"⟩
def RX6 : String := "LoanNames$Rules"
def TX6 : u_T := fun k => match k with
  | 0 => ("LoanNames$Rules", "said", "[I", true)
  | _ => ("LoanNames$Rules", "many", "I", false)
def tyX6 : Nat → FieldType := fun k => match k with
  | 0 => .array .int
  | _ => .int
theorem nmX6 : ∀ a, a < 2 → ∀ b, b < 2 → a ≠ b → (TX6 a).2.1 ≠ (TX6 b).2.1 := by decide +kernel
theorem tyX6_ok : ∀ k, k < 2 → parseFieldDescriptor (TX6 k).2.2.1 = some (tyX6 k) := by decide +kernel
abbrev cX6_init : ByteArray := prog_8_method_1_code
def yX6_init : MethodName := ⟨RX6, "<init>", "()V"⟩
abbrev cX6_readRules : ByteArray := prog_8_method_2_code
def yX6_readRules : MethodName := ⟨RX6, "readRules", "(LLoanNames$Tape;II)Z"⟩
abbrev cX6_readStatement : ByteArray := prog_8_method_3_code
def yX6_readStatement : MethodName := ⟨RX6, "readStatement", "(LLoanNames$Tape;I)Z"⟩
abbrev cX6_readForm : ByteArray := prog_8_method_4_code
def yX6_readForm : MethodName := ⟨RX6, "readForm", "(LLoanNames$Tape;I)Z"⟩
abbrev cX6_readTies : ByteArray := prog_8_method_5_code
def yX6_readTies : MethodName := ⟨RX6, "readTies", "(LLoanNames$Tape;I)V"⟩
abbrev cX6_readWithin : ByteArray := prog_8_method_6_code
def yX6_readWithin : MethodName := ⟨RX6, "readWithin", "(LLoanNames$Tape;I)Z"⟩
def RX7 : String := "LoanNames$Search"
def TX7 : u_T := fun k => match k with
  | 0 => ("LoanNames$Search", "ledger", "LLoanNames$Ledger;", true)
  | 1 => ("LoanNames$Search", "judge", "LLoanNames$Judge;", true)
  | 2 => ("LoanNames$Search", "offered", "[LLoanNames$Deal;", true)
  | 3 => ("LoanNames$Search", "offeredMany", "I", false)
  | 4 => ("LoanNames$Search", "found", "[I", true)
  | 5 => ("LoanNames$Search", "foundMany", "I", false)
  | 6 => ("LoanNames$Search", "reach", "I", false)
  | 7 => ("LoanNames$Search", "weighed", "[I", true)
  | 8 => ("LoanNames$Search", "barred", "[I", true)
  | 9 => ("LoanNames$Search", "wordBars", "[I", true)
  | 10 => ("LoanNames$Search", "needs", "[I", true)
  | 11 => ("LoanNames$Search", "needsMany", "I", false)
  | 12 => ("LoanNames$Search", "picked", "LLoanNames$Bundle;", true)
  | 13 => ("LoanNames$Search", "own", "[J", true)
  | _ => ("LoanNames$Search", "sums", "[J", true)
def tyX7 : Nat → FieldType := fun k => match k with
  | 0 => .object "LoanNames$Ledger"
  | 1 => .object "LoanNames$Judge"
  | 2 => .array (.object "LoanNames$Deal")
  | 3 => .int
  | 4 => .array .int
  | 5 => .int
  | 6 => .int
  | 7 => .array .int
  | 8 => .array .int
  | 9 => .array .int
  | 10 => .array .int
  | 11 => .int
  | 12 => .object "LoanNames$Bundle"
  | 13 => .array .long
  | _ => .array .long
theorem nmX7 : ∀ a, a < 15 → ∀ b, b < 15 → a ≠ b → (TX7 a).2.1 ≠ (TX7 b).2.1 := by decide +kernel
theorem tyX7_ok : ∀ k, k < 15 → parseFieldDescriptor (TX7 k).2.2.1 = some (tyX7 k) := by decide +kernel
abbrev cX7_init : ByteArray := prog_9_method_1_code
def yX7_init : MethodName := ⟨RX7, "<init>", "(LLoanNames$Ledger;LLoanNames$Judge;)V"⟩
abbrev cX7_forget : ByteArray := prog_9_method_2_code
def yX7_forget : MethodName := ⟨RX7, "forget", "()V"⟩
abbrev cX7_forgetAll : ByteArray := prog_9_method_3_code
def yX7_forgetAll : MethodName := ⟨RX7, "forgetAll", "()V"⟩
abbrev cX7_putOffered : ByteArray := prog_9_method_4_code
def yX7_putOffered : MethodName := ⟨RX7, "putOffered", "(LLoanNames$Deal;)Z"⟩
abbrev cX7_look : ByteArray := prog_9_method_5_code
def yX7_look : MethodName := ⟨RX7, "look", "(ILLoanNames$Rules;)V"⟩
abbrev cX7_findBarred : ByteArray := prog_9_method_6_code
def yX7_findBarred : MethodName := ⟨RX7, "findBarred", "(LLoanNames$Rules;[II)V"⟩
abbrev cX7_grow : ByteArray := prog_9_method_7_code
def yX7_grow : MethodName := ⟨RX7, "grow", "(III)V"⟩
abbrev cX7_isLoan : ByteArray := prog_9_method_8_code
def yX7_isLoan : MethodName := ⟨RX7, "isLoan", "(I)Z"⟩
abbrev cX7_mayLend : ByteArray := prog_9_method_9_code
def yX7_mayLend : MethodName := ⟨RX7, "mayLend", "(I)Z"⟩
abbrev cX7_howMany : ByteArray := prog_9_method_10_code
def yX7_howMany : MethodName := ⟨RX7, "howMany", "(I)I"⟩
abbrev cX7_fewest : ByteArray := prog_9_method_11_code
def yX7_fewest : MethodName := ⟨RX7, "fewest", "(I)I"⟩
abbrev cX7_isLess : ByteArray := prog_9_method_12_code
def yX7_isLess : MethodName := ⟨RX7, "isLess", "(II)Z"⟩
abbrev cX7_fewestWords : ByteArray := prog_9_method_13_code
def yX7_fewestWords : MethodName := ⟨RX7, "fewestWords", "(I[LLoanNames$Rules;I)I"⟩
abbrev cX7_wordsThatBar : ByteArray := prog_9_method_14_code
def yX7_wordsThatBar : MethodName := ⟨RX7, "wordsThatBar", "(II)I"⟩
abbrev cX7_putNeed : ByteArray := prog_9_method_15_code
def yX7_putNeed : MethodName := ⟨RX7, "putNeed", "(I)V"⟩
abbrev cX7_meetsNeeds : ByteArray := prog_9_method_16_code
def yX7_meetsNeeds : MethodName := ⟨RX7, "meetsNeeds", "(I)Z"⟩
def RX8 : String := "LoanNames$Shape"
def TX8 : u_T := fun k => match k with
  | 0 => ("LoanNames$Shape", "steps", "I", false)
  | 1 => ("LoanNames$Shape", "cells", "[I", true)
  | _ => ("LoanNames$Shape", "filled", "I", false)
def tyX8 : Nat → FieldType := fun k => match k with
  | 0 => .int
  | 1 => .array .int
  | _ => .int
theorem nmX8 : ∀ a, a < 3 → ∀ b, b < 3 → a ≠ b → (TX8 a).2.1 ≠ (TX8 b).2.1 := by decide +kernel
theorem tyX8_ok : ∀ k, k < 3 → parseFieldDescriptor (TX8 k).2.2.1 = some (tyX8 k) := by decide +kernel
abbrev cX8_init : ByteArray := prog_10_method_1_code
def yX8_init : MethodName := ⟨RX8, "<init>", "()V"⟩
abbrev cX8_empty : ByteArray := prog_10_method_2_code
def yX8_empty : MethodName := ⟨RX8, "empty", "()V"⟩
abbrev cX8_hasRoom : ByteArray := prog_10_method_3_code
def yX8_hasRoom : MethodName := ⟨RX8, "hasRoom", "(I)Z"⟩
abbrev cX8_putLeaf : ByteArray := prog_10_method_4_code
def yX8_putLeaf : MethodName := ⟨RX8, "putLeaf", "([I)V"⟩
abbrev cX8_begin : ByteArray := prog_10_method_5_code
def yX8_begin : MethodName := ⟨RX8, "begin", "(II)I"⟩
abbrev cX8_isBegun : ByteArray := prog_10_method_6_code
def yX8_isBegun : MethodName := ⟨RX8, "isBegun", "(I)Z"⟩
abbrev cX8_endOne : ByteArray := prog_10_method_7_code
def yX8_endOne : MethodName := ⟨RX8, "endOne", "(I)V"⟩
abbrev cX8_isJustAfter : ByteArray := prog_10_method_8_code
def yX8_isJustAfter : MethodName := ⟨RX8, "isJustAfter", "(II)Z"⟩
abbrev cX8_turn : ByteArray := prog_10_method_9_code
def yX8_turn : MethodName := ⟨RX8, "turn", "(I)V"⟩
abbrev cX8_endTwo : ByteArray := prog_10_method_10_code
def yX8_endTwo : MethodName := ⟨RX8, "endTwo", "(I)V"⟩
abbrev cX8_isAlike : ByteArray := prog_10_method_11_code
def yX8_isAlike : MethodName := ⟨RX8, "isAlike", "(III)Z"⟩
abbrev cX8_lift : ByteArray := prog_10_method_12_code
def yX8_lift : MethodName := ⟨RX8, "lift", "(III)V"⟩
abbrev cX8_leavesLeft : ByteArray := prog_10_method_13_code
def yX8_leavesLeft : MethodName := ⟨RX8, "leavesLeft", "()I"⟩
def RX9 : String := "LoanNames$Tally"
def TX9 : u_T := fun k => match k with
  | 0 => ("LoanNames$Tally", "known", "Z", false)
  | 1 => ("LoanNames$Tally", "loanFound", "I", false)
  | 2 => ("LoanNames$Tally", "times", "[I", true)
  | 3 => ("LoanNames$Tally", "prices", "[J", true)
  | _ => ("LoanNames$Tally", "least", "[J", true)
def tyX9 : Nat → FieldType := fun k => match k with
  | 0 => .boolean
  | 1 => .int
  | 2 => .array .int
  | 3 => .array .long
  | _ => .array .long
theorem nmX9 : ∀ a, a < 5 → ∀ b, b < 5 → a ≠ b → (TX9 a).2.1 ≠ (TX9 b).2.1 := by decide +kernel
theorem tyX9_ok : ∀ k, k < 5 → parseFieldDescriptor (TX9 k).2.2.1 = some (tyX9 k) := by decide +kernel
abbrev cX9_init : ByteArray := prog_11_method_1_code
def yX9_init : MethodName := ⟨RX9, "<init>", "()V"⟩
abbrev cX9_learn : ByteArray := prog_11_method_2_code
def yX9_learn : MethodName := ⟨RX9, "learn", "(LLoanNames$Bundle;LLoanNames$Ledger;)V"⟩
abbrev cX9_noteLender : ByteArray := prog_11_method_3_code
def yX9_noteLender : MethodName := ⟨RX9, "noteLender", "(LLoanNames$Ledger;I)V"⟩
abbrev cX9_notePrice : ByteArray := prog_11_method_4_code
def yX9_notePrice : MethodName := ⟨RX9, "notePrice", "(IJJ)V"⟩
abbrev cX9_leastPair : ByteArray := prog_11_method_5_code
def yX9_leastPair : MethodName := ⟨RX9, "leastPair", "(I)I"⟩
abbrev cX9_commonDivisor : ByteArray := prog_11_method_6_code
def yX9_commonDivisor : MethodName := ⟨RX9, "commonDivisor", "(JJ)J"⟩
abbrev cX9_compareShares : ByteArray := prog_11_method_7_code
def yX9_compareShares : MethodName := ⟨RX9, "compareShares", "(JJJJ)I"⟩
def RX10 : String := "LoanNames$Tape"
def TX10 : u_T := fun k => match k with
  | 0 => ("LoanNames$Tape", "bytes", "[I", true)
  | 1 => ("LoanNames$Tape", "length", "I", false)
  | 2 => ("LoanNames$Tape", "wrong", "I", false)
  | 3 => ("LoanNames$Tape", "end", "I", false)
  | 4 => ("LoanNames$Tape", "kind", "I", false)
  | 5 => ("LoanNames$Tape", "from", "I", false)
  | _ => ("LoanNames$Tape", "past", "I", false)
def tyX10 : Nat → FieldType := fun k => match k with
  | 0 => .array .int
  | 1 => .int
  | 2 => .int
  | 3 => .int
  | 4 => .int
  | 5 => .int
  | _ => .int
theorem nmX10 : ∀ a, a < 7 → ∀ b, b < 7 → a ≠ b → (TX10 a).2.1 ≠ (TX10 b).2.1 := by decide +kernel
theorem tyX10_ok : ∀ k, k < 7 → parseFieldDescriptor (TX10 k).2.2.1 = some (tyX10 k) := by decide +kernel
abbrev cX10_init : ByteArray := prog_12_method_1_code
def yX10_init : MethodName := ⟨RX10, "<init>", "()V"⟩
abbrev cX10_putFour : ByteArray := prog_12_method_2_code
def yX10_putFour : MethodName := ⟨RX10, "putFour", "(I)V"⟩
abbrev cX10_open : ByteArray := prog_12_method_3_code
def yX10_open : MethodName := ⟨RX10, "open", "(I)V"⟩
abbrev cX10_advance : ByteArray := prog_12_method_4_code
def yX10_advance : MethodName := ⟨RX10, "advance", "()V"⟩
abbrev cX10_refuse : ByteArray := prog_12_method_5_code
def yX10_refuse : MethodName := ⟨RX10, "refuse", "()Z"⟩
abbrev cX10_isAtEnd : ByteArray := prog_12_method_6_code
def yX10_isAtEnd : MethodName := ⟨RX10, "isAtEnd", "()Z"⟩
abbrev cX10_isSign : ByteArray := prog_12_method_7_code
def yX10_isSign : MethodName := ⟨RX10, "isSign", "(C)Z"⟩
abbrev cX10_takeSign : ByteArray := prog_12_method_8_code
def yX10_takeSign : MethodName := ⟨RX10, "takeSign", "(C)Z"⟩
abbrev cX10_placeIn : ByteArray := prog_12_method_9_code
def yX10_placeIn : MethodName := ⟨RX10, "placeIn", "(Ljava/lang/String;)I"⟩
abbrev cX10_isWord : ByteArray := prog_12_method_10_code
def yX10_isWord : MethodName := ⟨RX10, "isWord", "(Ljava/lang/String;)Z"⟩
abbrev cX10_takeWord : ByteArray := prog_12_method_11_code
def yX10_takeWord : MethodName := ⟨RX10, "takeWord", "(Ljava/lang/String;)Z"⟩
abbrev cX10_takeOneOf : ByteArray := prog_12_method_12_code
def yX10_takeOneOf : MethodName := ⟨RX10, "takeOneOf", "(Ljava/lang/String;)I"⟩
abbrev cX10_takeNumber : ByteArray := prog_12_method_13_code
def yX10_takeNumber : MethodName := ⟨RX10, "takeNumber", "(II)I"⟩
def RX11 : String := "LoanNames"
def TX11 : u_T := fun k => match k with
  | 0 => ("LoanNames", "familyOf", "[I", true)
  | 1 => ("LoanNames", "tape", "LLoanNames$Tape;", true)
  | 2 => ("LoanNames", "dealReader", "LLoanNames$DealReader;", true)
  | 3 => ("LoanNames", "deals", "[LLoanNames$Deal;", true)
  | 4 => ("LoanNames", "dealsTold", "I", false)
  | 5 => ("LoanNames", "laws", "[LLoanNames$Rules;", true)
  | 6 => ("LoanNames", "lawsTold", "I", false)
  | 7 => ("LoanNames", "words", "[LLoanNames$Rules;", true)
  | 8 => ("LoanNames", "wordsTold", "I", false)
  | 9 => ("LoanNames", "faultPlace", "I", false)
  | 10 => ("LoanNames", "bundle", "LLoanNames$Bundle;", true)
  | 11 => ("LoanNames", "honestOnes", "[LLoanNames$Bundle;", true)
  | 12 => ("LoanNames", "honestTold", "I", false)
  | 13 => ("LoanNames", "ledger", "LLoanNames$Ledger;", true)
  | 14 => ("LoanNames", "tally", "LLoanNames$Tally;", true)
  | 15 => ("LoanNames", "judge", "LLoanNames$Judge;", true)
  | 16 => ("LoanNames", "search", "LLoanNames$Search;", true)
  | _ => ("LoanNames", "kinship", "LLoanNames$Kinship;", true)
def tyX11 : Nat → FieldType := fun k => match k with
  | 0 => .array .int
  | 1 => .object "LoanNames$Tape"
  | 2 => .object "LoanNames$DealReader"
  | 3 => .array (.object "LoanNames$Deal")
  | 4 => .int
  | 5 => .array (.object "LoanNames$Rules")
  | 6 => .int
  | 7 => .array (.object "LoanNames$Rules")
  | 8 => .int
  | 9 => .int
  | 10 => .object "LoanNames$Bundle"
  | 11 => .array (.object "LoanNames$Bundle")
  | 12 => .int
  | 13 => .object "LoanNames$Ledger"
  | 14 => .object "LoanNames$Tally"
  | 15 => .object "LoanNames$Judge"
  | 16 => .object "LoanNames$Search"
  | _ => .object "LoanNames$Kinship"
theorem nmX11 : ∀ a, a < 18 → ∀ b, b < 18 → a ≠ b → (TX11 a).2.1 ≠ (TX11 b).2.1 := by decide +kernel
theorem tyX11_ok : ∀ k, k < 18 → parseFieldDescriptor (TX11 k).2.2.1 = some (tyX11 k) := by decide +kernel
abbrev cX11_init : ByteArray := prog_1_method_1_code
def yX11_init : MethodName := ⟨RX11, "<init>", "()V"⟩
abbrev cX11_family : ByteArray := prog_1_method_2_code
def yX11_family : MethodName := ⟨RX11, "family", "(II)Z"⟩
abbrev cX11_feed : ByteArray := prog_1_method_3_code
def yX11_feed : MethodName := ⟨RX11, "feed", "(IIIII)I"⟩
abbrev cX11_deal : ByteArray := prog_1_method_4_code
def yX11_deal : MethodName := ⟨RX11, "deal", "(II)I"⟩
abbrev cX11_law : ByteArray := prog_1_method_5_code
def yX11_law : MethodName := ⟨RX11, "law", "(I)I"⟩
abbrev cX11_word : ByteArray := prog_1_method_6_code
def yX11_word : MethodName := ⟨RX11, "word", "(I)I"⟩
abbrev cX11_fault : ByteArray := prog_1_method_7_code
def yX11_fault : MethodName := ⟨RX11, "fault", "()I"⟩
abbrev cX11_size : ByteArray := prog_1_method_8_code
def yX11_size : MethodName := ⟨RX11, "size", "(II)I"⟩
abbrev cX11_leaf : ByteArray := prog_1_method_9_code
def yX11_leaf : MethodName := ⟨RX11, "leaf", "(III)I"⟩
abbrev cX11_plain : ByteArray := prog_1_method_10_code
def yX11_plain : MethodName := ⟨RX11, "plain", "(II)I"⟩
abbrev cX11_same : ByteArray := prog_1_method_11_code
def yX11_same : MethodName := ⟨RX11, "same", "(II)I"⟩
abbrev cX11_add : ByteArray := prog_1_method_12_code
def yX11_add : MethodName := ⟨RX11, "add", "(I)I"⟩
abbrev cX11_clear : ByteArray := prog_1_method_13_code
def yX11_clear : MethodName := ⟨RX11, "clear", "()I"⟩
abbrev cX11_passed : ByteArray := prog_1_method_14_code
def yX11_passed : MethodName := ⟨RX11, "passed", "(III)J"⟩
abbrev cX11_net : ByteArray := prog_1_method_15_code
def yX11_net : MethodName := ⟨RX11, "net", "(IIII)J"⟩
abbrev cX11_codes : ByteArray := prog_1_method_16_code
def yX11_codes : MethodName := ⟨RX11, "codes", "()I"⟩
abbrev cX11_lends : ByteArray := prog_1_method_17_code
def yX11_lends : MethodName := ⟨RX11, "lends", "(II)I"⟩
abbrev cX11_price : ByteArray := prog_1_method_18_code
def yX11_price : MethodName := ⟨RX11, "price", "(III)J"⟩
abbrev cX11_loan : ByteArray := prog_1_method_19_code
def yX11_loan : MethodName := ⟨RX11, "loan", "()I"⟩
abbrev cX11_step : ByteArray := prog_1_method_20_code
def yX11_step : MethodName := ⟨RX11, "step", "()J"⟩
abbrev cX11_bears : ByteArray := prog_1_method_21_code
def yX11_bears : MethodName := ⟨RX11, "bears", "(II)J"⟩
abbrev cX11_cost : ByteArray := prog_1_method_22_code
def yX11_cost : MethodName := ⟨RX11, "cost", "(III)J"⟩
abbrev cX11_breach : ByteArray := prog_1_method_23_code
def yX11_breach : MethodName := ⟨RX11, "breach", "(I)I"⟩
abbrev cX11_bars : ByteArray := prog_1_method_24_code
def yX11_bars : MethodName := ⟨RX11, "bars", "(I)I"⟩
abbrev cX11_offer : ByteArray := prog_1_method_25_code
def yX11_offer : MethodName := ⟨RX11, "offer", "(I)I"⟩
abbrev cX11_sly : ByteArray := prog_1_method_26_code
def yX11_sly : MethodName := ⟨RX11, "sly", "(II)I"⟩
abbrev cX11_honest : ByteArray := prog_1_method_27_code
def yX11_honest : MethodName := ⟨RX11, "honest", "()I"⟩
abbrev cX11_innocent : ByteArray := prog_1_method_28_code
def yX11_innocent : MethodName := ⟨RX11, "innocent", "(II)I"⟩
abbrev cX11_parts : ByteArray := prog_1_method_29_code
def yX11_parts : MethodName := ⟨RX11, "parts", "(I)I"⟩
abbrev cX11_stop : ByteArray := prog_1_method_30_code
def yX11_stop : MethodName := ⟨RX11, "stop", "(I)I"⟩
abbrev cX11_heap : ByteArray := prog_1_method_31_code
def yX11_heap : MethodName := ⟨RX11, "heap", "(II)I"⟩
abbrev cX11_group : ByteArray := prog_1_method_32_code
def yX11_group : MethodName := ⟨RX11, "group", "(II)I"⟩
abbrev cX11_count : ByteArray := prog_1_method_33_code
def yX11_count : MethodName := ⟨RX11, "count", "(I)I"⟩
abbrev cX11_isWithin : ByteArray := prog_1_method_34_code
def yX11_isWithin : MethodName := ⟨RX11, "isWithin", "(II)Z"⟩
abbrev cX11_isPair : ByteArray := prog_1_method_35_code
def yX11_isPair : MethodName := ⟨RX11, "isPair", "(II)Z"⟩
abbrev cX11_refusalOf : ByteArray := prog_1_method_36_code
def yX11_refusalOf : MethodName := ⟨RX11, "refusalOf", "(III)I"⟩
abbrev cX11_tellRules : ByteArray := prog_1_method_37_code
def yX11_tellRules : MethodName := ⟨RX11, "tellRules", "(I[LLoanNames$Rules;III)I"⟩
abbrev cX11_closeText : ByteArray := prog_1_method_38_code
def yX11_closeText : MethodName := ⟨RX11, "closeText", "(ZI)I"⟩
abbrev cX11_lawInForce : ByteArray := prog_1_method_39_code
def yX11_lawInForce : MethodName := ⟨RX11, "lawInForce", "()LLoanNames$Rules;"⟩
abbrev cX11_isLet : ByteArray := prog_1_method_40_code
def yX11_isLet : MethodName := ⟨RX11, "isLet", "(LLoanNames$Bundle;)Z"⟩
abbrev cX11_sparesHonest : ByteArray := prog_1_method_41_code
def yX11_sparesHonest : MethodName := ⟨RX11, "sparesHonest", "(LLoanNames$Rules;)Z"⟩
def RX12 : String := "LoanNamesModel"
def TX12 : u_T := fun k => match k with
  | 0 => ("LoanNamesModel", "families", "[I", true)
  | 1 => ("LoanNamesModel", "deals", "I", false)
  | 2 => ("LoanNamesModel", "many", "[I", true)
  | 3 => ("LoanNamesModel", "signed", "[I", true)
  | 4 => ("LoanNamesModel", "leaves", "[I", true)
  | 5 => ("LoanNamesModel", "choices", "[I", true)
  | 6 => ("LoanNamesModel", "events", "[I", true)
  | 7 => ("LoanNamesModel", "kind", "[I", true)
  | 8 => ("LoanNamesModel", "number", "[I", true)
  | 9 => ("LoanNamesModel", "up", "[I", true)
  | 10 => ("LoanNamesModel", "part", "[I", true)
  | 11 => ("LoanNamesModel", "end", "[I", true)
  | 12 => ("LoanNamesModel", "mid", "[I", true)
  | 13 => ("LoanNamesModel", "handA", "[I", true)
  | 14 => ("LoanNamesModel", "handB", "[I", true)
  | 15 => ("LoanNamesModel", "thing", "[I", true)
  | 16 => ("LoanNamesModel", "much", "[I", true)
  | 17 => ("LoanNamesModel", "price", "[I", true)
  | 18 => ("LoanNamesModel", "at", "[I", true)
  | 19 => ("LoanNamesModel", "till", "[I", true)
  | 20 => ("LoanNamesModel", "tape", "[B", true)
  | 21 => ("LoanNamesModel", "taped", "I", false)
  | 22 => ("LoanNamesModel", "faultAt", "I", false)
  | 23 => ("LoanNamesModel", "limit", "I", false)
  | 24 => ("LoanNamesModel", "point", "I", false)
  | 25 => ("LoanNamesModel", "from", "I", false)
  | 26 => ("LoanNamesModel", "token", "I", false)
  | 27 => ("LoanNamesModel", "value", "I", false)
  | 28 => ("LoanNamesModel", "text", "J", false)
  | 29 => ("LoanNamesModel", "isWrong", "Z", false)
  | 30 => ("LoanNamesModel", "openNode", "[I", true)
  | 31 => ("LoanNamesModel", "openPart", "[I", true)
  | 32 => ("LoanNamesModel", "open", "I", false)
  | 33 => ("LoanNamesModel", "nodes", "I", false)
  | 34 => ("LoanNamesModel", "leafCount", "I", false)
  | 35 => ("LoanNamesModel", "choiceCount", "I", false)
  | 36 => ("LoanNamesModel", "eventBits", "I", false)
  | 37 => ("LoanNamesModel", "base", "I", false)
  | 38 => ("LoanNamesModel", "isNothing", "[Z", true)
  | 39 => ("LoanNamesModel", "isThrough", "[Z", true)
  | 40 => ("LoanNamesModel", "days", "[I", true)
  | 41 => ("LoanNamesModel", "steps", "I", false)
  | 42 => ("LoanNamesModel", "visible", "I", false)
  | 43 => ("LoanNamesModel", "only", "I", false)
  | 44 => ("LoanNamesModel", "signs", "[I", true)
  | 45 => ("LoanNamesModel", "signed0", "I", false)
  | 46 => ("LoanNamesModel", "closing", "[I", true)
  | 47 => ("LoanNamesModel", "closings", "I", false)
  | 48 => ("LoanNamesModel", "flows", "I", false)
  | 49 => ("LoanNamesModel", "flowDay", "[I", true)
  | 50 => ("LoanNamesModel", "flowA", "[I", true)
  | 51 => ("LoanNamesModel", "flowB", "[I", true)
  | 52 => ("LoanNamesModel", "flowThing", "[I", true)
  | 53 => ("LoanNamesModel", "flowMuch", "[J", true)
  | 54 => ("LoanNamesModel", "bundled", "I", false)
  | 55 => ("LoanNamesModel", "listed", "I", false)
  | 56 => ("LoanNamesModel", "bundle", "[I", true)
  | 57 => ("LoanNamesModel", "list", "[I", true)
  | 58 => ("LoanNamesModel", "rowLeaf", "I", false)
  | 59 => ("LoanNamesModel", "rowPart", "I", false)
  | 60 => ("LoanNamesModel", "rowTimes", "J", false)
  | 61 => ("LoanNamesModel", "dayCount", "I", false)
  | 62 => ("LoanNamesModel", "coinDays", "[I", true)
  | 63 => ("LoanNamesModel", "isClean", "[Z", true)
  | 64 => ("LoanNamesModel", "coinNet", "[J", true)
  | 65 => ("LoanNamesModel", "lentTo", "[I", true)
  | 66 => ("LoanNamesModel", "lentAll", "[I", true)
  | 67 => ("LoanNamesModel", "laws", "I", false)
  | 68 => ("LoanNamesModel", "words", "I", false)
  | 69 => ("LoanNamesModel", "lawMany", "[I", true)
  | 70 => ("LoanNamesModel", "wordMany", "[I", true)
  | 71 => ("LoanNamesModel", "form", "[I", true)
  | 72 => ("LoanNamesModel", "ofThing", "[I", true)
  | 73 => ("LoanNamesModel", "formThen", "[I", true)
  | 74 => ("LoanNamesModel", "thingThen", "[I", true)
  | 75 => ("LoanNamesModel", "asked", "[I", true)
  | 76 => ("LoanNamesModel", "most", "[I", true)
  | 77 => ("LoanNamesModel", "isTwo", "[Z", true)
  | 78 => ("LoanNamesModel", "leavesAtHand", "I", false)
  | 79 => ("LoanNamesModel", "firstHit", "I", false)
  | 80 => ("LoanNamesModel", "secondHit", "I", false)
  | 81 => ("LoanNamesModel", "leafNode", "[I", true)
  | 82 => ("LoanNamesModel", "leafDay", "[I", true)
  | 83 => ("LoanNamesModel", "offered", "I", false)
  | 84 => ("LoanNamesModel", "slyCount", "I", false)
  | 85 => ("LoanNamesModel", "slyBits", "I", false)
  | 86 => ("LoanNamesModel", "offers", "[I", true)
  | 87 => ("LoanNamesModel", "slyWords", "[I", true)
  | 88 => ("LoanNamesModel", "honests", "I", false)
  | 89 => ("LoanNamesModel", "honestMany", "[I", true)
  | 90 => ("LoanNamesModel", "honestDeals", "[I", true)
  | 91 => ("LoanNamesModel", "nets", "[J", true)
  | _ => ("LoanNamesModel", "group", "[I", true)
def tyX12 : Nat → FieldType := fun k => match k with
  | 0 => .array .int
  | 1 => .int
  | 2 => .array .int
  | 3 => .array .int
  | 4 => .array .int
  | 5 => .array .int
  | 6 => .array .int
  | 7 => .array .int
  | 8 => .array .int
  | 9 => .array .int
  | 10 => .array .int
  | 11 => .array .int
  | 12 => .array .int
  | 13 => .array .int
  | 14 => .array .int
  | 15 => .array .int
  | 16 => .array .int
  | 17 => .array .int
  | 18 => .array .int
  | 19 => .array .int
  | 20 => .array .byte
  | 21 => .int
  | 22 => .int
  | 23 => .int
  | 24 => .int
  | 25 => .int
  | 26 => .int
  | 27 => .int
  | 28 => .long
  | 29 => .boolean
  | 30 => .array .int
  | 31 => .array .int
  | 32 => .int
  | 33 => .int
  | 34 => .int
  | 35 => .int
  | 36 => .int
  | 37 => .int
  | 38 => .array .boolean
  | 39 => .array .boolean
  | 40 => .array .int
  | 41 => .int
  | 42 => .int
  | 43 => .int
  | 44 => .array .int
  | 45 => .int
  | 46 => .array .int
  | 47 => .int
  | 48 => .int
  | 49 => .array .int
  | 50 => .array .int
  | 51 => .array .int
  | 52 => .array .int
  | 53 => .array .long
  | 54 => .int
  | 55 => .int
  | 56 => .array .int
  | 57 => .array .int
  | 58 => .int
  | 59 => .int
  | 60 => .long
  | 61 => .int
  | 62 => .array .int
  | 63 => .array .boolean
  | 64 => .array .long
  | 65 => .array .int
  | 66 => .array .int
  | 67 => .int
  | 68 => .int
  | 69 => .array .int
  | 70 => .array .int
  | 71 => .array .int
  | 72 => .array .int
  | 73 => .array .int
  | 74 => .array .int
  | 75 => .array .int
  | 76 => .array .int
  | 77 => .array .boolean
  | 78 => .int
  | 79 => .int
  | 80 => .int
  | 81 => .array .int
  | 82 => .array .int
  | 83 => .int
  | 84 => .int
  | 85 => .int
  | 86 => .array .int
  | 87 => .array .int
  | 88 => .int
  | 89 => .array .int
  | 90 => .array .int
  | 91 => .array .long
  | _ => .array .int
theorem nmX12 : ∀ a, a < 93 → ∀ b, b < 93 → a ≠ b → (TX12 a).2.1 ≠ (TX12 b).2.1 := by decide +kernel
theorem tyX12_ok : ∀ k, k < 93 → parseFieldDescriptor (TX12 k).2.2.1 = some (tyX12 k) := by decide +kernel
abbrev cX12_init : ByteArray := prog_14_method_1_code
def yX12_init : MethodName := ⟨RX12, "<init>", "()V"⟩
abbrev cX12_within : ByteArray := prog_14_method_3_code
def yX12_within : MethodName := ⟨RX12, "within", "(III)Z"⟩
abbrev cX12_family : ByteArray := prog_14_method_4_code
def yX12_family : MethodName := ⟨RX12, "family", "(II)Z"⟩
abbrev cX12_feed : ByteArray := prog_14_method_5_code
def yX12_feed : MethodName := ⟨RX12, "feed", "(IIIII)I"⟩
abbrev cX12_here : ByteArray := prog_14_method_6_code
def yX12_here : MethodName := ⟨RX12, "here", "()I"⟩
abbrev cX12_next : ByteArray := prog_14_method_7_code
def yX12_next : MethodName := ⟨RX12, "next", "()V"⟩
abbrev cX12_errs : ByteArray := prog_14_method_8_code
def yX12_errs : MethodName := ⟨RX12, "errs", "()V"⟩
abbrev cX12_is : ByteArray := prog_14_method_9_code
def yX12_is : MethodName := ⟨RX12, "is", "(J)Z"⟩
abbrev cX12_mustBe : ByteArray := prog_14_method_10_code
def yX12_mustBe : MethodName := ⟨RX12, "mustBe", "(J)V"⟩
abbrev cX12_numeral : ByteArray := prog_14_method_11_code
def yX12_numeral : MethodName := ⟨RX12, "numeral", "(II)I"⟩
abbrev cX12_thingHere : ByteArray := prog_14_method_12_code
def yX12_thingHere : MethodName := ⟨RX12, "thingHere", "()I"⟩
abbrev cX12_eventHere : ByteArray := prog_14_method_13_code
def yX12_eventHere : MethodName := ⟨RX12, "eventHere", "()I"⟩
abbrev cX12_kindHere : ByteArray := prog_14_method_14_code
def yX12_kindHere : MethodName := ⟨RX12, "kindHere", "()I"⟩
abbrev cX12_hand : ByteArray := prog_14_method_15_code
def yX12_hand : MethodName := ⟨RX12, "hand", "(I)I"⟩
abbrev cX12_thingOf : ByteArray := prog_14_method_16_code
def yX12_thingOf : MethodName := ⟨RX12, "thingOf", "()I"⟩
abbrev cX12_beginsText : ByteArray := prog_14_method_17_code
def yX12_beginsText : MethodName := ⟨RX12, "beginsText", "(I)V"⟩
abbrev cX12_newNode : ByteArray := prog_14_method_18_code
def yX12_newNode : MethodName := ⟨RX12, "newNode", "(I)I"⟩
abbrev cX12_readLeaf : ByteArray := prog_14_method_19_code
def yX12_readLeaf : MethodName := ⟨RX12, "readLeaf", "(I)V"⟩
abbrev cX12_opens : ByteArray := prog_14_method_20_code
def yX12_opens : MethodName := ⟨RX12, "opens", "(II)V"⟩
abbrev cX12_readGroup : ByteArray := prog_14_method_21_code
def yX12_readGroup : MethodName := ⟨RX12, "readGroup", "(I)V"⟩
abbrev cX12_closes : ByteArray := prog_14_method_22_code
def yX12_closes : MethodName := ⟨RX12, "closes", "()Z"⟩
abbrev cX12_deal : ByteArray := prog_14_method_23_code
def yX12_deal : MethodName := ⟨RX12, "deal", "(II)I"⟩
abbrev cX12_fault : ByteArray := prog_14_method_24_code
def yX12_fault : MethodName := ⟨RX12, "fault", "()I"⟩
abbrev cX12_isDeal : ByteArray := prog_14_method_25_code
def yX12_isDeal : MethodName := ⟨RX12, "isDeal", "(I)Z"⟩
abbrev cX12_isLeaf : ByteArray := prog_14_method_26_code
def yX12_isLeaf : MethodName := ⟨RX12, "isLeaf", "(I)Z"⟩
abbrev cX12_later : ByteArray := prog_14_method_27_code
def yX12_later : MethodName := ⟨RX12, "later", "(I)I"⟩
abbrev cX12_size : ByteArray := prog_14_method_28_code
def yX12_size : MethodName := ⟨RX12, "size", "(II)I"⟩
abbrev cX12_leaf : ByteArray := prog_14_method_29_code
def yX12_leaf : MethodName := ⟨RX12, "leaf", "(III)I"⟩
abbrev cX12_told : ByteArray := prog_14_method_30_code
def yX12_told : MethodName := ⟨RX12, "told", "(II)I"⟩
abbrev cX12_times : ByteArray := prog_14_method_31_code
def yX12_times : MethodName := ⟨RX12, "times", "(III)J"⟩
abbrev cX12_rowsOf : ByteArray := prog_14_method_32_code
def yX12_rowsOf : MethodName := ⟨RX12, "rowsOf", "(I)I"⟩
abbrev cX12_partsLeft : ByteArray := prog_14_method_33_code
def yX12_partsLeft : MethodName := ⟨RX12, "partsLeft", "(III)I"⟩
abbrev cX12_sign : ByteArray := prog_14_method_34_code
def yX12_sign : MethodName := ⟨RX12, "sign", "(II)V"⟩
abbrev cX12_partLeft : ByteArray := prog_14_method_35_code
def yX12_partLeft : MethodName := ⟨RX12, "partLeft", "(III)I"⟩
abbrev cX12_closesUp : ByteArray := prog_14_method_36_code
def yX12_closesUp : MethodName := ⟨RX12, "closesUp", "(II)V"⟩
abbrev cX12_laysOut : ByteArray := prog_14_method_37_code
def yX12_laysOut : MethodName := ⟨RX12, "laysOut", "(IIII)I"⟩
abbrev cX12_areAlike : ByteArray := prog_14_method_38_code
def yX12_areAlike : MethodName := ⟨RX12, "areAlike", "(II)Z"⟩
abbrev cX12_simplifies : ByteArray := prog_14_method_39_code
def yX12_simplifies : MethodName := ⟨RX12, "simplifies", "(II)V"⟩
abbrev cX12_plain : ByteArray := prog_14_method_40_code
def yX12_plain : MethodName := ⟨RX12, "plain", "(II)I"⟩
abbrev cX12_flow : ByteArray := prog_14_method_41_code
def yX12_flow : MethodName := ⟨RX12, "flow", "(IIIIJ)V"⟩
abbrev cX12_passes : ByteArray := prog_14_method_42_code
def yX12_passes : MethodName := ⟨RX12, "passes", "(III)V"⟩
abbrev cX12_among : ByteArray := prog_14_method_43_code
def yX12_among : MethodName := ⟨RX12, "among", "(III)J"⟩
abbrev cX12_same : ByteArray := prog_14_method_44_code
def yX12_same : MethodName := ⟨RX12, "same", "(II)I"⟩
abbrev cX12_add : ByteArray := prog_14_method_45_code
def yX12_add : MethodName := ⟨RX12, "add", "(I)I"⟩
abbrev cX12_clear : ByteArray := prog_14_method_46_code
def yX12_clear : MethodName := ⟨RX12, "clear", "()I"⟩
abbrev cX12_bundleAtHand : ByteArray := prog_14_method_47_code
def yX12_bundleAtHand : MethodName := ⟨RX12, "bundleAtHand", "()V"⟩
abbrev cX12_choicesAtHand : ByteArray := prog_14_method_48_code
def yX12_choicesAtHand : MethodName := ⟨RX12, "choicesAtHand", "()I"⟩
abbrev cX12_eventsAtHand : ByteArray := prog_14_method_49_code
def yX12_eventsAtHand : MethodName := ⟨RX12, "eventsAtHand", "()I"⟩
abbrev cX12_bitsOf : ByteArray := prog_14_method_50_code
def yX12_bitsOf : MethodName := ⟨RX12, "bitsOf", "(I)I"⟩
abbrev cX12_isLookedAt : ByteArray := prog_14_method_51_code
def yX12_isLookedAt : MethodName := ⟨RX12, "isLookedAt", "()Z"⟩
abbrev cX12_codesAtHand : ByteArray := prog_14_method_52_code
def yX12_codesAtHand : MethodName := ⟨RX12, "codesAtHand", "()I"⟩
abbrev cX12_codeFrom : ByteArray := prog_14_method_53_code
def yX12_codeFrom : MethodName := ⟨RX12, "codeFrom", "(I)I"⟩
abbrev cX12_passesAll : ByteArray := prog_14_method_54_code
def yX12_passesAll : MethodName := ⟨RX12, "passesAll", "(I)V"⟩
abbrev cX12_netOf : ByteArray := prog_14_method_55_code
def yX12_netOf : MethodName := ⟨RX12, "netOf", "(III)J"⟩
abbrev cX12_findRow : ByteArray := prog_14_method_56_code
def yX12_findRow : MethodName := ⟨RX12, "findRow", "(IIII)V"⟩
abbrev cX12_rowTold : ByteArray := prog_14_method_57_code
def yX12_rowTold : MethodName := ⟨RX12, "rowTold", "(I)J"⟩
abbrev cX12_rowsOfDeal : ByteArray := prog_14_method_58_code
def yX12_rowsOfDeal : MethodName := ⟨RX12, "rowsOfDeal", "(III)I"⟩
abbrev cX12_passed : ByteArray := prog_14_method_59_code
def yX12_passed : MethodName := ⟨RX12, "passed", "(III)J"⟩
abbrev cX12_net : ByteArray := prog_14_method_60_code
def yX12_net : MethodName := ⟨RX12, "net", "(IIII)J"⟩
abbrev cX12_codes : ByteArray := prog_14_method_61_code
def yX12_codes : MethodName := ⟨RX12, "codes", "()I"⟩
abbrev cX12_findDays : ByteArray := prog_14_method_62_code
def yX12_findDays : MethodName := ⟨RX12, "findDays", "()V"⟩
abbrev cX12_lendingDay : ByteArray := prog_14_method_63_code
def yX12_lendingDay : MethodName := ⟨RX12, "lendingDay", "(I)I"⟩
abbrev cX12_findLending : ByteArray := prog_14_method_64_code
def yX12_findLending : MethodName := ⟨RX12, "findLending", "(I)V"⟩
abbrev cX12_areTwo : ByteArray := prog_14_method_65_code
def yX12_areTwo : MethodName := ⟨RX12, "areTwo", "(II)Z"⟩
abbrev cX12_lends : ByteArray := prog_14_method_66_code
def yX12_lends : MethodName := ⟨RX12, "lends", "(II)I"⟩
abbrev cX12_divisor : ByteArray := prog_14_method_67_code
def yX12_divisor : MethodName := ⟨RX12, "divisor", "(JJ)J"⟩
abbrev cX12_isLess : ByteArray := prog_14_method_68_code
def yX12_isLess : MethodName := ⟨RX12, "isLess", "(JJJJ)Z"⟩
abbrev cX12_outOf : ByteArray := prog_14_method_69_code
def yX12_outOf : MethodName := ⟨RX12, "outOf", "(I)J"⟩
abbrev cX12_price : ByteArray := prog_14_method_70_code
def yX12_price : MethodName := ⟨RX12, "price", "(III)J"⟩
abbrev cX12_loanAtHand : ByteArray := prog_14_method_71_code
def yX12_loanAtHand : MethodName := ⟨RX12, "loanAtHand", "()I"⟩
abbrev cX12_loan : ByteArray := prog_14_method_72_code
def yX12_loan : MethodName := ⟨RX12, "loan", "()I"⟩
abbrev cX12_step : ByteArray := prog_14_method_73_code
def yX12_step : MethodName := ⟨RX12, "step", "()J"⟩
abbrev cX12_bears : ByteArray := prog_14_method_74_code
def yX12_bears : MethodName := ⟨RX12, "bears", "(II)J"⟩
abbrev cX12_cost : ByteArray := prog_14_method_75_code
def yX12_cost : MethodName := ⟨RX12, "cost", "(III)J"⟩
abbrev cX12_formHere : ByteArray := prog_14_method_76_code
def yX12_formHere : MethodName := ⟨RX12, "formHere", "()I"⟩
abbrev cX12_ofHere : ByteArray := prog_14_method_77_code
def yX12_ofHere : MethodName := ⟨RX12, "ofHere", "()I"⟩
abbrev cX12_askedHere : ByteArray := prog_14_method_78_code
def yX12_askedHere : MethodName := ⟨RX12, "askedHere", "()I"⟩
abbrev cX12_readBar : ByteArray := prog_14_method_79_code
def yX12_readBar : MethodName := ⟨RX12, "readBar", "(I)V"⟩
abbrev cX12_readBars : ByteArray := prog_14_method_80_code
def yX12_readBars : MethodName := ⟨RX12, "readBars", "(II)I"⟩
abbrev cX12_law : ByteArray := prog_14_method_81_code
def yX12_law : MethodName := ⟨RX12, "law", "(I)I"⟩
abbrev cX12_word : ByteArray := prog_14_method_82_code
def yX12_word : MethodName := ⟨RX12, "word", "(I)I"⟩
abbrev cX12_findLeaves : ByteArray := prog_14_method_83_code
def yX12_findLeaves : MethodName := ⟨RX12, "findLeaves", "()V"⟩
abbrev cX12_isOf : ByteArray := prog_14_method_84_code
def yX12_isOf : MethodName := ⟨RX12, "isOf", "(III)Z"⟩
abbrev cX12_isPair : ByteArray := prog_14_method_85_code
def yX12_isPair : MethodName := ⟨RX12, "isPair", "(III)Z"⟩
abbrev cX12_doesBar : ByteArray := prog_14_method_86_code
def yX12_doesBar : MethodName := ⟨RX12, "doesBar", "(I)Z"⟩
abbrev cX12_breachNow : ByteArray := prog_14_method_87_code
def yX12_breachNow : MethodName := ⟨RX12, "breachNow", "()I"⟩
abbrev cX12_breach : ByteArray := prog_14_method_88_code
def yX12_breach : MethodName := ⟨RX12, "breach", "(I)I"⟩
abbrev cX12_doesWordBar : ByteArray := prog_14_method_89_code
def yX12_doesWordBar : MethodName := ⟨RX12, "doesWordBar", "(I)Z"⟩
abbrev cX12_bars : ByteArray := prog_14_method_90_code
def yX12_bars : MethodName := ⟨RX12, "bars", "(I)I"⟩
abbrev cX12_offer : ByteArray := prog_14_method_91_code
def yX12_offer : MethodName := ⟨RX12, "offer", "(I)I"⟩
abbrev cX12_findSly : ByteArray := prog_14_method_92_code
def yX12_findSly : MethodName := ⟨RX12, "findSly", "(I)V"⟩
abbrev cX12_wordsThatBar : ByteArray := prog_14_method_93_code
def yX12_wordsThatBar : MethodName := ⟨RX12, "wordsThatBar", "()I"⟩
abbrev cX12_sly : ByteArray := prog_14_method_94_code
def yX12_sly : MethodName := ⟨RX12, "sly", "(II)I"⟩
abbrev cX12_honest : ByteArray := prog_14_method_95_code
def yX12_honest : MethodName := ⟨RX12, "honest", "()I"⟩
abbrev cX12_honestAtHand : ByteArray := prog_14_method_96_code
def yX12_honestAtHand : MethodName := ⟨RX12, "honestAtHand", "(I)V"⟩
abbrev cX12_innocent : ByteArray := prog_14_method_97_code
def yX12_innocent : MethodName := ⟨RX12, "innocent", "(II)I"⟩
abbrev cX12_doPart : ByteArray := prog_14_method_98_code
def yX12_doPart : MethodName := ⟨RX12, "doPart", "(II)Z"⟩
abbrev cX12_parts : ByteArray := prog_14_method_99_code
def yX12_parts : MethodName := ⟨RX12, "parts", "(I)I"⟩
abbrev cX12_stop : ByteArray := prog_14_method_100_code
def yX12_stop : MethodName := ⟨RX12, "stop", "(I)I"⟩
abbrev cX12_doHang : ByteArray := prog_14_method_101_code
def yX12_doHang : MethodName := ⟨RX12, "doHang", "(III)Z"⟩
abbrev cX12_findGroups : ByteArray := prog_14_method_102_code
def yX12_findGroups : MethodName := ⟨RX12, "findGroups", "(I)V"⟩
abbrev cX12_heap : ByteArray := prog_14_method_103_code
def yX12_heap : MethodName := ⟨RX12, "heap", "(II)I"⟩
abbrev cX12_group : ByteArray := prog_14_method_104_code
def yX12_group : MethodName := ⟨RX12, "group", "(II)I"⟩
abbrev cX12_count : ByteArray := prog_14_method_105_code
def yX12_count : MethodName := ⟨RX12, "count", "(I)I"⟩
abbrev cX12_leavesTold : ByteArray := prog_14_method_106_code
def yX12_leavesTold : MethodName := ⟨RX12, "leavesTold", "()I"⟩
abbrev cX12_choicesTold : ByteArray := prog_14_method_107_code
def yX12_choicesTold : MethodName := ⟨RX12, "choicesTold", "()I"⟩
def RJ6 : String := "java/lang/Integer"
abbrev cJ6_numberOfTrailingZeros_0f7a4 : ByteArray := prog_15_method_48_code
def yJ6_numberOfTrailingZeros_0f7a4 : MethodName := ⟨RJ6, "numberOfTrailingZeros", "(I)I"⟩
abbrev cJ6_bitCount_0f7a4 : ByteArray := prog_15_method_49_code
def yJ6_bitCount_0f7a4 : MethodName := ⟨RJ6, "bitCount", "(I)I"⟩
def RJ13 : String := "java/lang/Long"
abbrev cJ13_compare_74951 : ByteArray := prog_16_method_42_code
def yJ13_compare_74951 : MethodName := ⟨RJ13, "compare", "(JJ)I"⟩
def RJ9 : String := "java/lang/Math"
abbrev cJ9_abs_0f7a4 : ByteArray := prog_17_method_59_code
def yJ9_abs_0f7a4 : MethodName := ⟨RJ9, "abs", "(I)I"⟩
abbrev cJ9_max_7cf53 : ByteArray := prog_17_method_65_code
def yJ9_max_7cf53 : MethodName := ⟨RJ9, "max", "(II)I"⟩
abbrev cJ9_min_7cf53 : ByteArray := prog_17_method_69_code
def yJ9_min_7cf53 : MethodName := ⟨RJ9, "min", "(II)I"⟩
abbrev cJ9_min_f86c9 : ByteArray := prog_17_method_70_code
def yJ9_min_f86c9 : MethodName := ⟨RJ9, "min", "(JJ)J"⟩
def RJ0 : String := "java/lang/String"
abbrev cJ0_length_8abf5 : ByteArray := prog_18_method_54_code
def yJ0_length_8abf5 : MethodName := ⟨RJ0, "length", "()I"⟩
abbrev cJ0_charAt_5068e : ByteArray := prog_18_method_56_code
def yJ0_charAt_5068e : MethodName := ⟨RJ0, "charAt", "(I)C"⟩
abbrev cJ0_coder_7d493 : ByteArray := prog_18_method_152_code
def yJ0_coder_7d493 : MethodName := ⟨RJ0, "coder", "()B"⟩
abbrev cJ0_isLatin1_aae02 : ByteArray := prog_18_method_154_code
def yJ0_isLatin1_aae02 : MethodName := ⟨RJ0, "isLatin1", "()Z"⟩
abbrev cJ0_checkIndex_df160 : ByteArray := prog_18_method_155_code
def yJ0_checkIndex_df160 : MethodName := ⟨RJ0, "checkIndex", "(II)V"⟩
def RJ1 : String := "java/lang/StringLatin1"
abbrev cJ1_charAt_3b067 : ByteArray := prog_19_method_2_code
def yJ1_charAt_3b067 : MethodName := ⟨RJ1, "charAt", "([BI)C"⟩
def RJ2 : String := "java/lang/StringUTF16"
abbrev cJ2_getChar_3b067 : ByteArray := prog_20_method_5_code
def yJ2_getChar_3b067 : MethodName := ⟨RJ2, "getChar", "([BI)C"⟩
abbrev cJ2_length_9d52b : ByteArray := prog_20_method_6_code
def yJ2_length_9d52b : MethodName := ⟨RJ2, "length", "([B)I"⟩
abbrev cJ2_charAt_3b067 : ByteArray := prog_20_method_83_code
def yJ2_charAt_3b067 : MethodName := ⟨RJ2, "charAt", "([BI)C"⟩
abbrev cJ2_checkIndex_2214a : ByteArray := prog_20_method_91_code
def yJ2_checkIndex_2214a : MethodName := ⟨RJ2, "checkIndex", "(I[B)V"⟩
def RJ10 : String := "java/lang/System"
def RJ7 : String := "java/util/Arrays"
abbrev cJ7_fill_d0a16 : ByteArray := prog_22_method_101_code
def yJ7_fill_d0a16 : MethodName := ⟨RJ7, "fill", "([JJ)V"⟩
abbrev cJ7_fill_53178 : ByteArray := prog_22_method_103_code
def yJ7_fill_53178 : MethodName := ⟨RJ7, "fill", "([II)V"⟩
def RJ3 : String := "jdk/internal/util/Preconditions"
abbrev cJ3_checkIndex_8e157 : ByteArray := prog_23_method_11_code
def yJ3_checkIndex_8e157 : MethodName := ⟨RJ3, "checkIndex", "(IILjava/util/function/BiFunction;)I"⟩
def RL : String := "LoanNamesLaw"
abbrev cL_law : ByteArray := code
def yL_law : MethodName := ⟨RL, "law", "([I)Z"⟩
end
section
/-! the fields: 0 int, 1 long, 2 a reference, 3 boolean; the kind of what a reference field holds; where a field holds one and the same reference for good -/
def ftyL : List (List Nat) := [[2, 0], [0, 0, 0, 0, 0, 0, 0, 0, 0, 2, 2, 2, 2], [2, 2, 2, 2, 0, 0, 0, 0], [2, 2, 0, 0, 0], [2, 2, 2, 0, 2, 2, 2], [2, 2, 2, 0, 0, 2, 0, 2, 2, 2, 2, 2, 2, 2, 2, 0, 0, 0, 0, 0], [2, 0], [2, 2, 2, 0, 2, 0, 0, 2, 2, 2, 2, 0, 2, 2, 2], [0, 2, 0], [3, 0, 2, 2, 2], [2, 0, 0, 0, 0, 0, 0], [2, 2, 2, 2, 0, 2, 0, 2, 0, 0, 2, 2, 0, 2, 2, 2, 2, 2], [2, 0, 2, 2, 2, 2, 2, 2, 2, 2, 2, 2, 2, 2, 2, 2, 2, 2, 2, 2, 2, 0, 0, 0, 0, 0, 0, 0, 1, 3, 2, 2, 0, 0, 0, 0, 0, 0, 2, 2, 2, 0, 0, 0, 2, 0, 2, 0, 0, 2, 2, 2, 2, 2, 0, 0, 2, 2, 0, 0, 1, 0, 2, 2, 2, 2, 2, 0, 0, 2, 2, 2, 2, 2, 2, 2, 2, 2, 0, 0, 0, 2, 2, 0, 0, 0, 2, 2, 0, 2, 2, 2, 2]]
def frefL : List (List Nat) := [[51, 0], [0, 0, 0, 0, 0, 0, 0, 0, 0, 40, 40, 43, 40], [10, 8, 40, 1, 0, 0, 0, 0], [40, 40, 0, 0, 0], [40, 40, 43, 0, 40, 0, 40], [40, 40, 43, 0, 0, 40, 0, 40, 43, 40, 43, 43, 43, 40, 40, 0, 0, 0, 0, 0], [40, 0], [5, 3, 51, 0, 40, 0, 0, 40, 40, 40, 40, 0, 0, 43, 43], [0, 40, 0], [0, 0, 40, 43, 43], [40, 0, 0, 0, 0, 0, 0], [40, 10, 2, 51, 0, 56, 0, 56, 0, 0, 0, 50, 0, 5, 9, 3, 7, 4], [40, 0, 40, 40, 40, 40, 40, 40, 40, 40, 40, 40, 40, 40, 40, 40, 40, 40, 40, 40, 41, 0, 0, 0, 0, 0, 0, 0, 0, 0, 40, 40, 0, 0, 0, 0, 0, 0, 42, 42, 40, 0, 0, 0, 40, 0, 40, 0, 0, 40, 40, 40, 40, 43, 0, 0, 40, 40, 0, 0, 0, 0, 40, 42, 43, 40, 40, 0, 0, 40, 40, 40, 40, 40, 40, 40, 40, 42, 0, 0, 0, 40, 40, 0, 0, 0, 40, 40, 0, 40, 40, 43, 40]]
def fconL : List (List (Nat × Nat × Nat)) := [[(2, 1, 6), (0, 0, 0)], [(0, 0, 0), (0, 0, 0), (0, 0, 0), (0, 0, 0), (0, 0, 0), (0, 0, 0), (0, 0, 0), (0, 0, 0), (0, 0, 0), (2, 1, 96), (2, 2, 216), (2, 3, 36), (2, 4, 36)], [(1, 2, 0), (1, 5, 0), (1, 7, 8), (0, 0, 0), (0, 0, 0), (0, 0, 0), (0, 0, 0), (0, 0, 0)], [(1, 1, 8), (1, 31, 576), (0, 0, 0), (0, 0, 0), (0, 0, 0)], [(1, 44, 72), (1, 45, 72), (1, 46, 72), (0, 0, 0), (1, 47, 24), (1, 48, 0), (1, 50, 24)], [(1, 1, 8), (1, 15, 1296), (1, 16, 216), (0, 0, 0), (0, 0, 0), (1, 17, 8), (0, 0, 0), (1, 18, 6), (1, 19, 48), (1, 20, 8), (1, 21, 8), (1, 22, 8), (1, 23, 8), (1, 24, 8), (1, 25, 8), (0, 0, 0), (0, 0, 0), (0, 0, 0), (0, 0, 0), (0, 0, 0)], [(2, 1, 96), (0, 0, 0)], [(1, 14, 0), (1, 30, 0), (1, 33, 10), (0, 0, 0), (1, 34, 1024), (0, 0, 0), (0, 0, 0), (1, 35, 1024), (1, 36, 10), (1, 37, 120), (1, 38, 1024), (0, 0, 0), (1, 39, 0), (1, 41, 480), (1, 42, 336)], [(0, 0, 0), (1, 6, 512), (0, 0, 0)], [(0, 0, 0), (0, 0, 0), (1, 27, 64), (1, 28, 256), (1, 29, 8)], [(1, 3, 600), (0, 0, 0), (0, 0, 0), (0, 0, 0), (0, 0, 0), (0, 0, 0), (0, 0, 0)], [(1, 1, 8), (1, 2, 0), (1, 4, 0), (1, 8, 24), (0, 0, 0), (1, 9, 6), (0, 0, 0), (1, 10, 12), (0, 0, 0), (0, 0, 0), (1, 11, 0), (1, 13, 6), (0, 0, 0), (1, 14, 0), (1, 26, 0), (1, 30, 0), (1, 32, 0), (1, 43, 0)], [(1, 52, 8), (0, 0, 0), (1, 53, 24), (1, 54, 24), (1, 55, 24), (1, 56, 24), (1, 57, 24), (1, 58, 2304), (1, 59, 2304), (1, 60, 2304), (1, 61, 2304), (1, 62, 2304), (1, 63, 2304), (1, 64, 2304), (1, 65, 2304), (1, 66, 2304), (1, 67, 2304), (1, 68, 2304), (1, 69, 2304), (1, 70, 2304), (1, 71, 600), (0, 0, 0), (0, 0, 0), (0, 0, 0), (0, 0, 0), (0, 0, 0), (0, 0, 0), (0, 0, 0), (0, 0, 0), (0, 0, 0), (1, 72, 6), (1, 73, 6), (0, 0, 0), (0, 0, 0), (0, 0, 0), (0, 0, 0), (0, 0, 0), (0, 0, 0), (1, 74, 96), (1, 75, 96), (1, 76, 96), (0, 0, 0), (0, 0, 0), (0, 0, 0), (1, 77, 1600), (0, 0, 0), (1, 78, 8), (0, 0, 0), (0, 0, 0), (1, 79, 256), (1, 80, 256), (1, 81, 256), (1, 82, 256), (1, 83, 256), (0, 0, 0), (0, 0, 0), (1, 84, 6), (1, 85, 6), (0, 0, 0), (0, 0, 0), (0, 0, 0), (0, 0, 0), (1, 86, 256), (1, 87, 8), (1, 88, 8), (1, 89, 8), (1, 90, 8), (0, 0, 0), (0, 0, 0), (1, 91, 6), (1, 92, 12), (1, 93, 240), (1, 94, 240), (1, 95, 240), (1, 96, 240), (1, 97, 240), (1, 98, 240), (1, 99, 240), (0, 0, 0), (0, 0, 0), (0, 0, 0), (1, 100, 72), (1, 101, 72), (0, 0, 0), (0, 0, 0), (0, 0, 0), (1, 102, 10), (1, 103, 1024), (0, 0, 0), (1, 104, 6), (1, 105, 36), (1, 106, 48), (1, 107, 24)]]
def fty (ci k : Nat) : Nat := (ftyL.getD ci []).getD k 9
def fref (ci k : Nat) : Nat := (frefL.getD ci []).getD k 0
def fnum (ci : Nat) : Nat := (ftyL.getD ci []).length
def fconT (q : Nat × Nat × Nat) (a : Nat) : Option (Nat × Nat) := match q with
  | (0, _, _) => none
  | (1, b, n) => some (b, n)
  | (_, b, n) => some (a + b, n)
def fcon (ci k a : Nat) : Option (Nat × Nat) := fconT ((fconL.getD ci []).getD k (0, 0, 0)) a
abbrev vwC : List vw_C := [(RX0, TX0, 2), (RX1, TX1, 13), (RX2, TX2, 8), (RX3, TX3, 5), (RX4, TX4, 7), (RX5, TX5, 20), (RX6, TX6, 2), (RX7, TX7, 15), (RX8, TX8, 3), (RX9, TX9, 5), (RX10, TX10, 7), (RX11, TX11, 18), (RX12, TX12, 93)]
def GW : List Cond := lw_tbl.filter goodWord
theorem GW_good : ∀ w ∈ GW, (w.onTables && w.keeps) = true ∨ ∃ ty, w = .arrayClass ty := fun w h => good_of_word (List.mem_filter.mp h).2
theorem GWi (i : Nat) {w : Cond} (h : tables_1[i]? = some w) (hg : goodWord w = true) : w ∈ GW := List.mem_filter.mpr ⟨List.mem_append_right _ (List.mem_of_getElem? h), hg⟩
theorem GWs (i : Nat) {w : Cond} (h : (k2_sels lw_privs)[i]? = some w) (hg : goodWord w = true) : w ∈ GW := List.mem_filter.mpr ⟨List.mem_append_left _ (List.mem_of_getElem? h), hg⟩
theorem cw_0 : ∀ w ∈ u_ws RX0 TX0 2, w ∈ GW := by
  intro w h
  refine List.mem_filter.mpr ⟨List.mem_append_right _ ?_, ?_⟩
  · exact (List.all_eq_true.mp (show (u_ws RX0 TX0 2).all (fun w => decide (w ∈ tables_1)) = true by decide +kernel) w h |> of_decide_eq_true)
  · exact List.all_eq_true.mp (show (u_ws RX0 TX0 2).all goodWord = true by decide +kernel) w h
theorem cw_1 : ∀ w ∈ u_ws RX1 TX1 13, w ∈ GW := by
  intro w h
  refine List.mem_filter.mpr ⟨List.mem_append_right _ ?_, ?_⟩
  · exact (List.all_eq_true.mp (show (u_ws RX1 TX1 13).all (fun w => decide (w ∈ tables_1)) = true by decide +kernel) w h |> of_decide_eq_true)
  · exact List.all_eq_true.mp (show (u_ws RX1 TX1 13).all goodWord = true by decide +kernel) w h
theorem cw_2 : ∀ w ∈ u_ws RX2 TX2 8, w ∈ GW := by
  intro w h
  refine List.mem_filter.mpr ⟨List.mem_append_right _ ?_, ?_⟩
  · exact (List.all_eq_true.mp (show (u_ws RX2 TX2 8).all (fun w => decide (w ∈ tables_1)) = true by decide +kernel) w h |> of_decide_eq_true)
  · exact List.all_eq_true.mp (show (u_ws RX2 TX2 8).all goodWord = true by decide +kernel) w h
theorem cw_3 : ∀ w ∈ u_ws RX3 TX3 5, w ∈ GW := by
  intro w h
  refine List.mem_filter.mpr ⟨List.mem_append_right _ ?_, ?_⟩
  · exact (List.all_eq_true.mp (show (u_ws RX3 TX3 5).all (fun w => decide (w ∈ tables_1)) = true by decide +kernel) w h |> of_decide_eq_true)
  · exact List.all_eq_true.mp (show (u_ws RX3 TX3 5).all goodWord = true by decide +kernel) w h
theorem cw_4 : ∀ w ∈ u_ws RX4 TX4 7, w ∈ GW := by
  intro w h
  refine List.mem_filter.mpr ⟨List.mem_append_right _ ?_, ?_⟩
  · exact (List.all_eq_true.mp (show (u_ws RX4 TX4 7).all (fun w => decide (w ∈ tables_1)) = true by decide +kernel) w h |> of_decide_eq_true)
  · exact List.all_eq_true.mp (show (u_ws RX4 TX4 7).all goodWord = true by decide +kernel) w h
theorem cw_5 : ∀ w ∈ u_ws RX5 TX5 20, w ∈ GW := by
  intro w h
  refine List.mem_filter.mpr ⟨List.mem_append_right _ ?_, ?_⟩
  · exact (List.all_eq_true.mp (show (u_ws RX5 TX5 20).all (fun w => decide (w ∈ tables_1)) = true by decide +kernel) w h |> of_decide_eq_true)
  · exact List.all_eq_true.mp (show (u_ws RX5 TX5 20).all goodWord = true by decide +kernel) w h
theorem cw_6 : ∀ w ∈ u_ws RX6 TX6 2, w ∈ GW := by
  intro w h
  refine List.mem_filter.mpr ⟨List.mem_append_right _ ?_, ?_⟩
  · exact (List.all_eq_true.mp (show (u_ws RX6 TX6 2).all (fun w => decide (w ∈ tables_1)) = true by decide +kernel) w h |> of_decide_eq_true)
  · exact List.all_eq_true.mp (show (u_ws RX6 TX6 2).all goodWord = true by decide +kernel) w h
theorem cw_7 : ∀ w ∈ u_ws RX7 TX7 15, w ∈ GW := by
  intro w h
  refine List.mem_filter.mpr ⟨List.mem_append_right _ ?_, ?_⟩
  · exact (List.all_eq_true.mp (show (u_ws RX7 TX7 15).all (fun w => decide (w ∈ tables_1)) = true by decide +kernel) w h |> of_decide_eq_true)
  · exact List.all_eq_true.mp (show (u_ws RX7 TX7 15).all goodWord = true by decide +kernel) w h
theorem cw_8 : ∀ w ∈ u_ws RX8 TX8 3, w ∈ GW := by
  intro w h
  refine List.mem_filter.mpr ⟨List.mem_append_right _ ?_, ?_⟩
  · exact (List.all_eq_true.mp (show (u_ws RX8 TX8 3).all (fun w => decide (w ∈ tables_1)) = true by decide +kernel) w h |> of_decide_eq_true)
  · exact List.all_eq_true.mp (show (u_ws RX8 TX8 3).all goodWord = true by decide +kernel) w h
theorem cw_9 : ∀ w ∈ u_ws RX9 TX9 5, w ∈ GW := by
  intro w h
  refine List.mem_filter.mpr ⟨List.mem_append_right _ ?_, ?_⟩
  · exact (List.all_eq_true.mp (show (u_ws RX9 TX9 5).all (fun w => decide (w ∈ tables_1)) = true by decide +kernel) w h |> of_decide_eq_true)
  · exact List.all_eq_true.mp (show (u_ws RX9 TX9 5).all goodWord = true by decide +kernel) w h
theorem cw_10 : ∀ w ∈ u_ws RX10 TX10 7, w ∈ GW := by
  intro w h
  refine List.mem_filter.mpr ⟨List.mem_append_right _ ?_, ?_⟩
  · exact (List.all_eq_true.mp (show (u_ws RX10 TX10 7).all (fun w => decide (w ∈ tables_1)) = true by decide +kernel) w h |> of_decide_eq_true)
  · exact List.all_eq_true.mp (show (u_ws RX10 TX10 7).all goodWord = true by decide +kernel) w h
theorem cw_11 : ∀ w ∈ u_ws RX11 TX11 18, w ∈ GW := by
  intro w h
  refine List.mem_filter.mpr ⟨List.mem_append_right _ ?_, ?_⟩
  · exact (List.all_eq_true.mp (show (u_ws RX11 TX11 18).all (fun w => decide (w ∈ tables_1)) = true by decide +kernel) w h |> of_decide_eq_true)
  · exact List.all_eq_true.mp (show (u_ws RX11 TX11 18).all goodWord = true by decide +kernel) w h
theorem cw_12 : ∀ w ∈ u_ws RX12 TX12 93, w ∈ GW := by
  intro w h
  refine List.mem_filter.mpr ⟨List.mem_append_right _ ?_, ?_⟩
  · exact (List.all_eq_true.mp (show (u_ws RX12 TX12 93).all (fun w => decide (w ∈ tables_1)) = true by decide +kernel) w h |> of_decide_eq_true)
  · exact List.all_eq_true.mp (show (u_ws RX12 TX12 93).all goodWord = true by decide +kernel) w h
end
section
/-! THE PICTURE: a heap as three tables of numbers; typed values; what of the machine's heap it says -/
abbrev TV : Type := Int32 ⊕ Int64 ⊕ ((Nat × Nat) × Option Nat) ⊕ Nat
abbrev tI (x : Int32) : TV := Sum.inl x
abbrev tJ (x : Int64) : TV := Sum.inr (Sum.inl x)
abbrev tR (k n : Nat) (r : Option Nat) : TV := Sum.inr (Sum.inr (Sum.inl ((k, n), r)))
abbrev tS (i : Nat) : TV := Sum.inr (Sum.inr (Sum.inr i))
abbrev Hp : Type := Nat × (Nat → Nat × Nat) × (Nat → Nat → Int32) × (Nat → Nat → Int64) × (Nat → Nat → Option Nat)
def hN (h : Hp) : Nat := h.1
def hT (h : Hp) : Nat → Nat × Nat := h.2.1
def hI (h : Hp) : Nat → Nat → Int32 := h.2.2.1
def hJ (h : Hp) : Nat → Nat → Int64 := h.2.2.2.1
def hR (h : Hp) : Nat → Nat → Option Nat := h.2.2.2.2
def up2 {α : Type} (f : Nat → Nat → α) (a k : Nat) (v : α) : Nat → Nat → α := fun b j => if b = a ∧ j = k then v else f b j
def wI (h : Hp) (a k : Nat) (x : Int32) : Hp := (hN h, hT h, up2 (hI h) a k x, hJ h, hR h)
def wJ (h : Hp) (a k : Nat) (x : Int64) : Hp := (hN h, hT h, hI h, up2 (hJ h) a k x, hR h)
def wR (h : Hp) (a k : Nat) (x : Option Nat) : Hp := (hN h, hT h, hI h, hJ h, up2 (hR h) a k x)
def wT (h : Hp) (a : Nat) (t : Nat × Nat) : Hp := (hN h, va_up (hT h) a t, hI h, hJ h, hR h)
def nw (h : Hp) (t : Nat × Nat) : Hp := (hN h + 1, va_up (hT h) (hN h) t, va_up (hI h) (hN h) (fun _ => 0), va_up (hJ h) (hN h) (fun _ => 0), va_up (hR h) (hN h) (fun _ => none))
def cpI (h : Hp) (a sp b dp n : Nat) : Hp := (hN h, hT h, va_up (hI h) b (va_cpy (hI h a) (hI h b) sp dp n), hJ h, hR h)
/-- where the picture begins; the classes and slots; the array classes by kind; the String constants, their arrays (at 200 the script, at 300 a constant of the JDK's); the script's length and ints -/
abbrev Cx : Type := Nat × va_G × (Nat → ClassId) × (Nat → Nat) × (Nat → Nat) × Nat × (Nat → Int32)
def rb (G : Cx) (r : Option Nat) : Value := va_rf (r.map (fun a => G.1 + a))
def cv (G : Cx) (v : TV) : Value := match v with
  | .inl x => .int x
  | .inr (.inl x) => .long x
  | .inr (.inr (.inl q)) => rb G q.2
  | .inr (.inr (.inr i)) => .ref (if i < 100 then G.2.2.2.1 i else G.2.2.2.2.1 (i - 100))
def fv (G : Cx) (h : Hp) (ci a k : Nat) : Value := if fty ci k = 1 then .long (hJ h a k) else if fty ci k = 2 then rb G (hR h a k) else .int (hI h a k)
def ev (G : Cx) (h : Hp) (kind a j : Nat) : Value := if kind = 43 then .long (hJ h a j) else if kind < 43 then .int (hI h a j) else rb G (hR h a j)
def atO (G : Cx) (h : Hp) (ci a : Nat) (H : Heap) : Prop := t_OB (G.1 + a) (G.2.1.1 ci) (fnum ci) (G.2.1.2 ci) H (fv G h ci a)
def atA (G : Cx) (h : Hp) (kind n a : Nat) (H : Heap) : Prop := H[G.1 + a]? = some (arrV (G.2.2.1 kind) n (ev G h kind a))
def atc (G : Cx) (h : Hp) (a : Nat) (H : Heap) : Prop := if (hT h a).1 < 40 then atO G h ((hT h a).1 % 20) a H else atA G h (hT h a).1 (hT h a).2 a H
def WFa (h : Hp) (a : Nat) : Prop :=
  ((hT h a).1 < 40 → (hT h a).2 = 0) ∧
  ((hT h a).1 < 40 → ∀ k, k < fnum ((hT h a).1 % 20) → fty ((hT h a).1 % 20) k = 2 → ∀ b, hR h a k = some b → b < hN h ∧ (hT h b).1 = fref ((hT h a).1 % 20) k) ∧
  ((hT h a).1 < 20 → ∀ k b n, fcon (hT h a).1 k a = some (b, n) → hR h a k = some b ∧ hT h b = (fref (hT h a).1 k, n) ∧ b < hN h) ∧
  (50 ≤ (hT h a).1 → ∀ j b, hR h a j = some b → b < hN h ∧ hT h b = ((hT h a).1 - 50, 0) ∧ (hT h a).1 - 50 < 20)
def WF (h : Hp) : Prop := ∀ a, a < hN h → WFa h a
def Wd (G : Cx) (h : Hp) (H : Heap) : Prop := H.size = G.1 + hN h ∧ (∀ a, a < hN h → atc G h a H) ∧ WF h
def ty1 (h : Hp) (v : TV) : Prop := match v with
  | .inl _ => True
  | .inr (.inl _) => True
  | .inr (.inr (.inl q)) => ∀ b, q.2 = some b → b < hN h ∧ hT h b = q.1
  | .inr (.inr (.inr i)) => i < 16 ∨ (100 ≤ i ∧ i < 116) ∨ i = 300 ∨ i = 400
def tyL (h : Hp) : List TV → Prop
  | [] => True
  | v :: l => ty1 h v ∧ tyL h l
def tyO (h : Hp) : List (Option TV) → Prop
  | [] => True
  | none :: l => tyO h l
  | some v :: l => ty1 h v ∧ tyO h l
/-- nothing that was there has another kind -/
def ext (h h' : Hp) : Prop := hN h ≤ hN h' ∧ ∀ b, b < hN h → hT h' b = hT h b
theorem ext.rf (h : Hp) : ext h h := ⟨Nat.le_refl _, fun _ _ => rfl⟩
theorem ext.trans {a b c : Hp} (h1 : ext a b) (h2 : ext b c) : ext a c := ⟨Nat.le_trans h1.1 h2.1, fun q hq => (h2.2 q (Nat.lt_of_lt_of_le hq h1.1)).trans (h1.2 q hq)⟩
theorem ty1.ext {h h' : Hp} (e : ext h h') {v : TV} (t : ty1 h v) : ty1 h' v := by
  match v, t with
  | .inl _, _ => trivial
  | .inr (.inl _), _ => trivial
  | .inr (.inr (.inl q)), t => exact fun b hb => ⟨Nat.lt_of_lt_of_le (t b hb).1 e.1, (e.2 b (t b hb).1).trans (t b hb).2⟩
  | .inr (.inr (.inr i)), t => exact t
theorem tyL.ext {h h' : Hp} (e : ext h h') : ∀ {l : List TV}, tyL h l → tyL h' l
  | [], _ => trivial
  | _ :: _, t => ⟨t.1.ext e, tyL.ext e t.2⟩
theorem tyO.ext {h h' : Hp} (e : ext h h') : ∀ {l : List (Option TV)}, tyO h l → tyO h' l
  | [], _ => trivial
  | none :: l, t => tyO.ext (l := l) e (show tyO h l from t)
  | some _ :: l, t => ⟨t.1.ext e, tyO.ext (l := l) e t.2⟩
theorem fref_ok : ∀ ci k, fref ci k < 20 ∨ 40 ≤ fref ci k := by
  intro ci k
  have key : ∀ l ∈ frefL, ∀ x ∈ l, x < 20 ∨ 40 ≤ x := by decide +kernel
  unfold fref
  by_cases h1 : ci < frefL.length
  · have e1 : frefL.getD ci [] ∈ frefL := by
      rw [List.getD_eq_getElem?_getD, List.getElem?_eq_getElem h1]
      exact List.getElem_mem h1
    by_cases h2 : k < (frefL.getD ci []).length
    · refine key _ e1 _ ?_
      rw [List.getD_eq_getElem?_getD (l := frefL.getD ci []), List.getElem?_eq_getElem h2]
      exact List.getElem_mem h2
    · rw [List.getD_eq_getElem?_getD (l := frefL.getD ci []), List.getElem?_eq_none (Nat.not_lt.mp h2)]
      exact Or.inl (by decide)
  · have e1 : frefL.getD ci [] = [] := by
      rw [List.getD_eq_getElem?_getD, List.getElem?_eq_none (Nat.not_lt.mp h1)]
      rfl
    rw [e1]
    exact Or.inl (show 0 < 20 by decide)
theorem fty_lt {ci k : Nat} (h : fty ci k ≠ 9) : k < fnum ci := by
  rcases Nat.lt_or_ge k (fnum ci) with q | q
  · exact q
  · refine absurd ?_ h
    unfold fty
    rw [List.getD_eq_getElem?_getD (l := ftyL.getD ci []), List.getElem?_eq_none q]
    rfl
theorem up2_self {α : Type} (f : Nat → Nat → α) (a k : Nat) (v : α) : up2 f a k v a k = v := by simp [up2]
theorem up2_ne {α : Type} (f : Nat → Nat → α) {a k b j : Nat} (v : α) (h : ¬ (b = a ∧ j = k)) : up2 f a k v b j = f b j := by simp only [up2, if_neg h]
theorem up2_row {α : Type} (f : Nat → Nat → α) {a k b : Nat} (v : α) (h : b ≠ a) : up2 f a k v b = f b := by funext j; exact up2_ne f v (fun q => h q.1)
/-- another cell's picture doesn't change -/
theorem atc_same {G : Cx} {h h' : Hp} {b : Nat} {H H' : Heap} (hb : atc G h b H) (eT : hT h' b = hT h b) (eI : hI h' b = hI h b) (eJ : hJ h' b = hJ h b) (eR : hR h' b = hR h b) (eH : H'[G.1 + b]? = H[G.1 + b]?) : atc G h' b H' := by
  unfold atc at hb ⊢
  rw [eT]
  split
  · rename_i q
    rw [if_pos q] at hb
    unfold atO at hb ⊢
    have e : fv G h' ((hT h b).1 % 20) b = fv G h ((hT h b).1 % 20) b := by funext k; simp only [fv, eI, eJ, eR]
    rw [e]
    exact hb.kept eH
  · rename_i q
    rw [if_neg q] at hb
    unfold atA at hb ⊢
    have e : ev G h' (hT h b).1 b = ev G h (hT h b).1 b := by funext k; simp only [ev, eI, eJ, eR]
    rw [e, eH]
    exact hb
theorem atc_O {G : Cx} {h : Hp} {a ci : Nat} {H : Heap} (hk : (hT h a).1 = ci ∨ (hT h a).1 = 20 + ci) (hc : ci < 20) : atc G h a H ↔ atO G h ci a H := by
  unfold atc
  have h1 : (hT h a).1 < 40 := by omega
  have h2 : (hT h a).1 % 20 = ci := by omega
  rw [if_pos h1, h2]
theorem atc_A {G : Cx} {h : Hp} {a kind n : Nat} {H : Heap} (hk : hT h a = (kind, n)) (hc : 40 ≤ kind) : atc G h a H ↔ atA G h kind n a H := by
  unfold atc
  rw [hk]
  have h1 : ¬ kind < 40 := by omega
  simp only [if_neg h1]
theorem wd_set {G : Cx} {h h' : Hp} {a : Nat} {H H' : Heap} (hW : Wd G h H) (ez : H'.size = H.size) (eo : ∀ q : Nat, q ≠ G.1 + a → H'[q]? = H[q]?) (eN : hN h' = hN h) (eT : hT h' = hT h) (ho : ∀ b, b ≠ a → hI h' b = hI h b ∧ hJ h' b = hJ h b ∧ hR h' b = hR h b) (hF : WF h') (ha : a < hN h → atc G h' a H') : Wd G h' H' := by
  refine ⟨by rw [ez, eN]; exact hW.1, fun b hb => ?_, hF⟩
  by_cases hab : b = a
  · subst hab
    exact ha (by rw [← eN]; exact hb)
  · obtain ⟨e1, e2, e3⟩ := ho b hab
    exact atc_same (hW.2.1 b (by rw [← eN]; exact hb)) (by rw [eT]) e1 e2 e3 (eo _ (by omega))
theorem WF_of {h h' : Hp} (hF : WF h) (eN : hN h' = hN h) (eT : hT h' = hT h) (eR : hR h' = hR h) : WF h' := by
  intro a ha
  have q := hF a (by rw [← eN]; exact ha)
  unfold WFa at q ⊢
  rw [eN, eT, eR]
  exact q
end
section
/-! THE JUDGEMENT: from a place in a method, with typed locals and stack, over a picture of the heap, the method comes to its end with Q -/
abbrev Mth : Type := ByteArray × Nat × Option FieldType × String × String
abbrev rmOf (d mc ms : Nat) : Room := { frames := d, cells := mc, slots := ms, locals := 48 * d }
def lenS : List Nat := [42, 16, 33, 4, 3, 5, 5, 25, 5, 3, 4, 24, 3, 5, 15, 7]
def bytS : List (List Int32) := [[112, 97, 115, 115, 32, 103, 105, 102, 116, 32, 115, 97, 108, 101, 32, 104, 105, 114, 101, 32, 97, 102, 116, 101, 114, 32, 116, 105, 109, 101, 115, 32, 105, 102, 32, 99, 104, 111, 105, 99, 101, 32], [97, 32, 98, 32, 99, 32, 100, 32, 101, 32, 102, 32, 103, 32, 104, 32], [99, 111, 105, 110, 32, 109, 117, 108, 101, 32, 99, 108, 111, 116, 104, 32, 104, 111, 117, 115, 101, 32, 119, 111, 114, 107, 32, 103, 114, 97, 105, 110, 32], [102, 111, 114, 32], [97, 116, 32], [112, 97, 105, 100, 32], [98, 97, 99, 107, 32], [100, 105, 101, 115, 32, 114, 97, 105, 110, 32, 119, 97, 114, 32, 100, 101, 97, 114, 32, 102, 108, 111, 111, 100, 32], [101, 108, 115, 101, 32], [111, 114, 32], [98, 97, 114, 32], [112, 97, 115, 115, 32, 103, 105, 102, 116, 32, 115, 97, 108, 101, 32, 104, 105, 114, 101, 32, 97, 110, 121, 32], [111, 102, 32], [116, 104, 101, 110, 32], [98, 97, 99, 107, 32, 115, 97, 109, 101, 32, 109, 111, 114, 101, 32], [119, 105, 116, 104, 105, 110, 32]]
def strT : List (String × Nat × String × Nat) := [("LoanNames$DealReader", 88, "pass gift sale hire after times if choice ", 0), ("LoanNames$DealReader", 135, "a b c d e f g h ", 1), ("LoanNames$DealReader", 140, "coin mule cloth house work grain ", 2), ("LoanNames$DealReader", 146, "for ", 3), ("LoanNames$DealReader", 152, "at ", 4), ("LoanNames$DealReader", 154, "paid ", 5), ("LoanNames$DealReader", 159, "back ", 6), ("LoanNames$DealReader", 171, "dies rain war dear flood ", 7), ("LoanNames$DealReader", 176, "else ", 8), ("LoanNames$DealReader", 185, "or ", 9), ("LoanNames$Rules", 32, "bar ", 10), ("LoanNames$Rules", 60, "pass gift sale hire any ", 11), ("LoanNames$Rules", 66, "of ", 12), ("LoanNames$Rules", 68, "coin mule cloth house work grain ", 2), ("LoanNames$Rules", 41, "then ", 13), ("LoanNames$Rules", 70, "back same more ", 14), ("LoanNames$Rules", 75, "within ", 15)]
def nestT : List (String × Nat × MethodName × String) := [(RX11, 15, yX10_init, RX11), (RX2, 11, yX8_init, RX11), (RX11, 50, yX0_init, RX11), (RX11, 70, yX9_init, RX11), (RX7, 35, yX0_init, RX11), (RX11, 93, yX4_init, RX11), (RX4, 27, yX0_init, RX11), (RX11, 327, yX6_init, RX11)]
def overT : List String := [RX0, RX1, RX6]
abbrev tysG (G : Cx) : List (ClassId × FieldType) := [(G.2.2.1 40, .int), (G.2.2.1 41, .byte), (G.2.2.1 42, .boolean), (G.2.2.1 43, .long), (G.2.2.1 50, .object RX0), (G.2.2.1 51, .object RX1), (G.2.2.1 56, .object RX6)]
abbrev Ag (G : Cx) : Nat → Prop := fun q => G.1 ≤ q
def ZF (G : Cx) (U : State) (H : Heap) : Prop := va_Z "jdk/internal/util/Preconditions" "SIOOBE_FORMATTER" "Ljava/util/function/BiFunction;" .null (Ag G) U H ∨ va_Z "jdk/internal/util/Preconditions" "SIOOBE_FORMATTER" "Ljava/util/function/BiFunction;" (.ref (G.2.2.2.2.1 300)) (Ag G) U H
def Kx (G : Cx) (U : State) : Prop := va_K G.2.1 vwC (tysG G) U ∧ vk_S 16 lenS bytS G.2.2.2.1 G.2.2.2.2.1 (Ag G) U U.heap ∧ (∀ q ∈ strT, vk_R q.1 q.2.1 q.2.2.1 (G.2.2.2.1 q.2.2.2) U) ∧ va_Z "java/lang/String" "COMPACT_STRINGS" "Z" (.int 1) (Ag G) U U.heap ∧ ZF G U U.heap ∧ va_X (G.2.2.2.2.1 200) G.2.2.2.2.2.1 G.2.2.2.2.2.2 U U.heap ∧ G.2.2.2.2.1 200 < G.1 ∧ (∀ q ∈ nestT, va_Nw (.methodLinkNest q.1 q.2.1 q.2.2.1 q.2.2.2) U) ∧ ∀ C ∈ overT, va_AO C U
theorem ZF.mv {G : Cx} {u U : State} {H H1 : Heap} (hvm : u.vm.Alike U.vm) (hq : ∀ a : Nat, a < H.size → ¬ Ag G a → H1[a]? = H[a]?) (h : ZF G u H) : ZF G U H1 := by
  rcases h with h | h
  · exact Or.inl ((va_Z.moved hvm h).kept hq)
  · exact Or.inr ((va_Z.moved hvm h).kept hq)
theorem va_X.lt {b L : Nat} {xs : Nat → Int32} {U : State} {H : Heap} (h : va_X b L xs U H) : b < H.size := by
  obtain ⟨scr, h1, -⟩ := h
  exact (Array.getElem?_eq_some_iff.mp h1).1
theorem Kx.to {G : Cx} {s U : State} (hW : s.WarmedH U.vm) (hq : ∀ a : Nat, a < s.heap.size → ¬ Ag G a → U.heap[a]? = s.heap[a]?) (h : Kx G s) : Kx G U :=
  ⟨va_K.moved hW.alike h.1, (vk_S.moved hW.alike h.2.1).kept hq, fun q hm => vk_R.warm hW (h.2.2.1 q hm), (va_Z.moved hW.alike h.2.2.2.1).kept hq, h.2.2.2.2.1.mv hW.alike hq, (va_X.moved hW.alike h.2.2.2.2.2.1).kept (hq _ h.2.2.2.2.2.1.lt (Nat.not_le.mpr h.2.2.2.2.2.2.1)), h.2.2.2.2.2.2.1, fun q hm => va_Nw.warmM hW (h.2.2.2.2.2.2.2.1 q hm), fun C hm => va_AO.moved hW.alike (h.2.2.2.2.2.2.2.2 C hm)⟩
theorem Kx.call {G : Cx} {U : State} {g : JFrame} {mk : MethodId} {a : Array Value} (h : Kx G U) : Kx G (U.calling g mk a) :=
  ⟨va_K.moved (u := U) (U := U.calling g mk a) (Vm.Alike.refl U.vm) h.1, vk_S.moved (u := U) (U := U.calling g mk a) (Vm.Alike.refl U.vm) h.2.1, fun q hm => vk_R.same (u := U) (U := U.calling g mk a) rfl (h.2.2.1 q hm), va_Z.moved (u := U) (U := U.calling g mk a) (Vm.Alike.refl U.vm) h.2.2.2.1, ZF.mv (u := U) (U := U.calling g mk a) (Vm.Alike.refl U.vm) (fun _ _ _ => rfl) h.2.2.2.2.1, va_X.moved (u := U) (U := U.calling g mk a) (Vm.Alike.refl U.vm) h.2.2.2.2.2.1, h.2.2.2.2.2.2.1, fun q hm => va_Nw.same (u := U) (U := U.calling g mk a) rfl rfl (h.2.2.2.2.2.2.2.1 q hm), fun C hm => va_AO.moved (u := U) (U := U.calling g mk a) (Vm.Alike.refl U.vm) (h.2.2.2.2.2.2.2.2 C hm)⟩
def Cm (G : Cx) (M : Mth) (p : Program) (s : State) (m : MethodId) (args : Array Value) (meth : Method) (c : Code) : Prop :=
  p.tables.exec = Jvm.exec ∧ c.code = M.1 ∧ c.maxLocals = M.2.1 ∧ meth.sig.returnType = M.2.2.1 ∧ s.vm.findClass M.2.2.2.1 = some m.cls ∧ (∀ w ∈ GW, w.before args s = true) ∧ Kx G s ∧ meth.locks = false ∧ meth.name = M.2.2.2.2
def asc (G : Cx) : Nat → List (Option TV) → List (Nat × Value)
  | _, [] => []
  | i, none :: l => asc G (i + 1) l
  | i, some v :: l => (i, cv G v) :: asc G (i + 1) l
def PostU (G : Cx) (h0 : Hp) (Q : Option TV → Hp → Prop) : Array Value → State → Outcome → State → Prop := fun _ st oc t =>
  (∃ (r : Option TV) (h' : Hp), oc = .returned (r.map (cv G)) ∧ Q r h' ∧ ext h0 h' ∧ (∀ v, r = some v → ty1 h' v) ∧ Wd G h' t.heap) ∧ va_F (Ag G) st t
def Rn (l : Launch) (G : Cx) (d mc ms : Nat) (M : Mth) (h0 : Hp) (Q : Option TV → Hp → Prop) (pc : Nat) (L : List (Option TV)) (st : List TV) (h : Hp) (cu su : Nat) : Prop :=
  ∀ (p : Program) (e : Env) (s : State) (m : MethodId) (args : Array Value) (below : List Frame) (meth : Method) (c : Code) (H : Heap) (locs : List Loc) (ls : Array Slot),
    Cm G M p s m args meth c → Wd G h H → ext h0 h → va_S (Ag G) s.heap H locs → lv_has ls M.2.1 (asc G 0 L) → tyO h L → tyL h st →
    W p l e (rmOf d mc ms) s m args below meth c H locs cu su (MQ below (PostU G h0 Q) args s mc ms (Ag G)) (F0 m pc ls (st.map (cv G)))
theorem asc_mem {G : Cx} : ∀ {L : List (Option TV)} {i j : Nat} {v : TV}, L[i]? = some (some v) → (j + i, cv G v) ∈ asc G j L
  | [], i, j, v, h => by simp at h
  | none :: L, 0, j, v, h => by simp at h
  | some w :: L, 0, j, v, h => by
    have e : w = v := by simpa using h
    subst e
    exact List.mem_cons_self
  | none :: L, i + 1, j, v, h => by
    have e := asc_mem (G := G) (L := L) (i := i) (j := j + 1) (v := v) (by simpa using h)
    rw [show j + (i + 1) = j + 1 + i by omega]
    exact e
  | some w :: L, i + 1, j, v, h => by
    have e := asc_mem (G := G) (L := L) (i := i) (j := j + 1) (v := v) (by simpa using h)
    rw [show j + (i + 1) = j + 1 + i by omega]
    exact List.mem_cons_of_mem _ e
theorem asc_ge {G : Cx} : ∀ {L : List (Option TV)} {j : Nat} {q : Nat × Value}, q ∈ asc G j L → j ≤ q.1
  | [], j, q, h => by cases h
  | none :: L, j, q, h => Nat.le_of_succ_le (asc_ge (G := G) (L := L) (j := j + 1) h)
  | some w :: L, j, q, h => by
    rcases List.mem_cons.mp h with e | e
    · rw [e]; exact Nat.le_refl _
    · exact Nat.le_of_succ_le (asc_ge (G := G) (L := L) (j := j + 1) e)
theorem ls_at {G : Cx} {ls : Array Slot} {n : Nat} {L : List (Option TV)} {i : Nat} {v : TV} (hl : lv_has ls n (asc G 0 L)) (h : L[i]? = some (some v)) : ls[i]? = some (.val (cv G v)) := by
  have e := hl.2.2 _ (asc_mem (G := G) (j := 0) h)
  rw [Nat.zero_add] at e
  exact e
theorem tyO_at {h : Hp} : ∀ {L : List (Option TV)} {i : Nat} {v : TV}, tyO h L → L[i]? = some (some v) → ty1 h v
  | [], i, v, _, e => by simp at e
  | none :: L, 0, v, _, e => by simp at e
  | some w :: L, 0, v, t, e => by
    have e : w = v := by simpa using e
    subst e
    exact t.1
  | none :: L, i + 1, v, t, e => tyO_at (L := L) (i := i) (show tyO h L from t) (by simpa using e)
  | some w :: L, i + 1, v, t, e => tyO_at (L := L) (i := i) t.2 (by simpa using e)
def dr2 (x : Option TV) : Option TV := match x with
  | some (.inr (.inl _)) => none
  | x => x
def stL1 : List (Option TV) → Nat → TV → List (Option TV)
  | [], 0, v => [some v]
  | [], i + 1, v => none :: stL1 [] i v
  | _ :: L, 0, v => some v :: L
  | x :: L, 1, v => dr2 x :: stL1 L 0 v
  | x :: L, i + 2, v => x :: stL1 L (i + 1) v
def stL2 : List (Option TV) → Nat → TV → List (Option TV)
  | [], 0, v => [some v, none]
  | [], i + 1, v => none :: stL2 [] i v
  | [_], 0, v => [some v, none]
  | _ :: _ :: L, 0, v => some v :: none :: L
  | x :: L, 1, v => dr2 x :: stL2 L 0 v
  | x :: L, i + 2, v => x :: stL2 L (i + 1) v
theorem cv_cat2 {G : Cx} {v : TV} (h : (cv G v).category = 2) : ∃ x, v = tJ x := by
  match v, h with
  | .inl _, h => simp [cv, Value.category] at h
  | .inr (.inl x), _ => exact ⟨x, rfl⟩
  | .inr (.inr (.inl (_, none))), h => simp [cv, rb, va_rf, Value.category] at h
  | .inr (.inr (.inl (_, some _))), h => simp [cv, rb, va_rf, Value.category] at h
  | .inr (.inr (.inr i)), h => simp [cv, Value.category] at h
theorem dr2_eq {x : Option TV} {w : TV} (h : dr2 x = some w) : x = some w ∧ ∀ z, w ≠ tJ z := by
  match x, h with
  | some (.inl _), h => exact ⟨h, fun z e => by cases h; cases e⟩
  | some (.inr (.inl _)), h => simp [dr2] at h
  | some (.inr (.inr (.inl _))), h => exact ⟨h, fun z e => by cases h; cases e⟩
  | some (.inr (.inr (.inr _))), h => exact ⟨h, fun z e => by cases h; cases e⟩
  | none, h => simp [dr2] at h
theorem asc_cons {G : Cx} {x : Option TV} {L : List (Option TV)} {j : Nat} {q : Nat × Value} : q ∈ asc G j (x :: L) ↔ (∃ w, x = some w ∧ q = (j, cv G w)) ∨ q ∈ asc G (j + 1) L := by
  cases x with
  | none => simp [asc]
  | some w => simp [asc, eq_comm]
theorem asc_st1 {G : Cx} : ∀ {L : List (Option TV)} {i j : Nat} {v : TV} {q : Nat × Value}, q ∈ asc G j (stL1 L i v) → q = (j + i, cv G v) ∨ (q ∈ asc G j L ∧ q.1 ≠ j + i ∧ ¬ (q.1 + 1 = j + i ∧ q.2.category = 2))
  | [], 0, j, v, q, h => by
    rw [stL1, asc_cons] at h
    rcases h with ⟨w, hw, e⟩ | h
    · cases hw; exact Or.inl e
    · cases h
  | [], i + 1, j, v, q, h => by
    rw [stL1, asc_cons] at h
    rcases h with ⟨w, hw, e⟩ | h
    · cases hw
    · rcases asc_st1 (L := []) (i := i) (j := j + 1) h with e | ⟨e, -⟩
      · exact Or.inl (by rw [e, show j + 1 + i = j + (i + 1) by omega])
      · cases e
  | x :: L, 0, j, v, q, h => by
    rw [stL1, asc_cons] at h
    rcases h with ⟨w, hw, e⟩ | h
    · cases hw; exact Or.inl e
    · have g := asc_ge h
      exact Or.inr ⟨asc_cons.mpr (Or.inr h), by omega, by omega⟩
  | x :: L, 1, j, v, q, h => by
    rw [stL1, asc_cons] at h
    rcases h with ⟨w, hw, e⟩ | h
    · obtain ⟨h1, h2⟩ := dr2_eq hw
      refine Or.inr ⟨asc_cons.mpr (Or.inl ⟨w, h1, e⟩), by rw [e]; show j ≠ j + 1; omega, fun z => ?_⟩
      rw [e] at z
      obtain ⟨x, hx⟩ := cv_cat2 z.2
      exact h2 x hx
    · rcases asc_st1 (L := L) (i := 0) (j := j + 1) h with e | ⟨e, g1, g2⟩
      · exact Or.inl e
      · exact Or.inr ⟨asc_cons.mpr (Or.inr e), by omega, fun z => g2 ⟨by omega, z.2⟩⟩
  | x :: L, i + 2, j, v, q, h => by
    rw [stL1, asc_cons] at h
    rcases h with ⟨w, hw, e⟩ | h
    · refine Or.inr ⟨asc_cons.mpr (Or.inl ⟨w, hw, e⟩), by rw [e]; show j ≠ _; omega, by rw [e]; show ¬ (j + 1 = _ ∧ _); omega⟩
    · rcases asc_st1 (L := L) (i := i + 1) (j := j + 1) h with e | ⟨e, g1, g2⟩
      · exact Or.inl (by rw [e, show j + 1 + (i + 1) = j + (i + 2) by omega])
      · exact Or.inr ⟨asc_cons.mpr (Or.inr e), by omega, fun z => g2 ⟨by omega, z.2⟩⟩
theorem asc_st2 {G : Cx} : ∀ {L : List (Option TV)} {i j : Nat} {v : TV} {q : Nat × Value}, q ∈ asc G j (stL2 L i v) → q = (j + i, cv G v) ∨ (q ∈ asc G j L ∧ q.1 ≠ j + i ∧ q.1 ≠ j + i + 1 ∧ ¬ (q.1 + 1 = j + i ∧ q.2.category = 2))
  | [], 0, j, v, q, h => by
    rw [stL2, asc_cons, asc_cons] at h
    rcases h with ⟨w, hw, e⟩ | ⟨w, hw, e⟩ | h
    · cases hw; exact Or.inl e
    · cases hw
    · cases h
  | [], i + 1, j, v, q, h => by
    rw [stL2, asc_cons] at h
    rcases h with ⟨w, hw, e⟩ | h
    · cases hw
    · rcases asc_st2 (L := []) (i := i) (j := j + 1) h with e | ⟨e, -⟩
      · exact Or.inl (by rw [e, show j + 1 + i = j + (i + 1) by omega])
      · cases e
  | [x], 0, j, v, q, h => by
    rw [stL2, asc_cons, asc_cons] at h
    rcases h with ⟨w, hw, e⟩ | ⟨w, hw, e⟩ | h
    · cases hw; exact Or.inl e
    · cases hw
    · cases h
  | x :: y :: L, 0, j, v, q, h => by
    rw [stL2, asc_cons, asc_cons] at h
    rcases h with ⟨w, hw, e⟩ | ⟨w, hw, e⟩ | h
    · cases hw; exact Or.inl e
    · cases hw
    · have g := asc_ge h
      exact Or.inr ⟨asc_cons.mpr (Or.inr (asc_cons.mpr (Or.inr h))), by omega, by omega, by omega⟩
  | x :: L, 1, j, v, q, h => by
    rw [stL2] at h
    rw [asc_cons] at h
    rcases h with ⟨w, hw, e⟩ | h
    · obtain ⟨h1, h2⟩ := dr2_eq hw
      refine Or.inr ⟨asc_cons.mpr (Or.inl ⟨w, h1, e⟩), by rw [e]; show j ≠ j + 1; omega, by rw [e]; show j ≠ j + 1 + 1; omega, fun z => ?_⟩
      rw [e] at z
      obtain ⟨x, hx⟩ := cv_cat2 z.2
      exact h2 x hx
    · rcases asc_st2 (L := L) (i := 0) (j := j + 1) h with e | ⟨e, g1, g3, g2⟩
      · exact Or.inl e
      · exact Or.inr ⟨asc_cons.mpr (Or.inr e), by omega, by omega, fun z => g2 ⟨by omega, z.2⟩⟩
  | x :: L, i + 2, j, v, q, h => by
    rw [stL2, asc_cons] at h
    rcases h with ⟨w, hw, e⟩ | h
    · refine Or.inr ⟨asc_cons.mpr (Or.inl ⟨w, hw, e⟩), by rw [e]; show j ≠ _; omega, by rw [e]; show j ≠ _; omega, by rw [e]; show ¬ (j + 1 = _ ∧ _); omega⟩
    · rcases asc_st2 (L := L) (i := i + 1) (j := j + 1) h with e | ⟨e, g1, g3, g2⟩
      · exact Or.inl (by rw [e, show j + 1 + (i + 1) = j + (i + 2) by omega])
      · exact Or.inr ⟨asc_cons.mpr (Or.inr e), by omega, by omega, fun z => g2 ⟨by omega, z.2⟩⟩
theorem tyO_mem {h : Hp} : ∀ {L : List (Option TV)}, tyO h L ↔ ∀ v, some v ∈ L → ty1 h v
  | [] => by simp [tyO]
  | none :: L => by
    show tyO h L ↔ _
    rw [tyO_mem (L := L)]
    simp
  | some w :: L => by
    show ty1 h w ∧ tyO h L ↔ _
    rw [tyO_mem (L := L)]
    simp
theorem st1_mem : ∀ {L : List (Option TV)} {i : Nat} {v w : TV}, some w ∈ stL1 L i v → w = v ∨ some w ∈ L
  | [], 0, v, w, h => by simp [stL1] at h; exact Or.inl h
  | [], i + 1, v, w, h => by
    simp [stL1] at h
    rcases st1_mem (L := []) (i := i) h with e | e
    · exact Or.inl e
    · cases e
  | x :: L, 0, v, w, h => by
    simp [stL1] at h
    rcases h with e | e
    · exact Or.inl e
    · exact Or.inr (List.mem_cons_of_mem _ e)
  | x :: L, 1, v, w, h => by
    rw [stL1] at h
    rcases List.mem_cons.mp h with e | e
    · exact Or.inr (by rw [(dr2_eq e.symm).1]; exact List.mem_cons_self)
    · rcases st1_mem (L := L) (i := 0) e with e | e
      · exact Or.inl e
      · exact Or.inr (List.mem_cons_of_mem _ e)
  | x :: L, i + 2, v, w, h => by
    rw [stL1] at h
    rcases List.mem_cons.mp h with e | e
    · exact Or.inr (by rw [e]; exact List.mem_cons_self)
    · rcases st1_mem (L := L) (i := i + 1) e with e | e
      · exact Or.inl e
      · exact Or.inr (List.mem_cons_of_mem _ e)
theorem st2_mem : ∀ {L : List (Option TV)} {i : Nat} {v w : TV}, some w ∈ stL2 L i v → w = v ∨ some w ∈ L
  | [], 0, v, w, h => by simp [stL2] at h; exact Or.inl h
  | [], i + 1, v, w, h => by
    simp [stL2] at h
    rcases st2_mem (L := []) (i := i) h with e | e
    · exact Or.inl e
    · cases e
  | [x], 0, v, w, h => by simp [stL2] at h; exact Or.inl h
  | x :: y :: L, 0, v, w, h => by
    simp [stL2] at h
    rcases h with e | e
    · exact Or.inl e
    · exact Or.inr (List.mem_cons_of_mem _ (List.mem_cons_of_mem _ e))
  | x :: L, 1, v, w, h => by
    rw [stL2] at h
    rcases List.mem_cons.mp h with e | e
    · exact Or.inr (by rw [(dr2_eq e.symm).1]; exact List.mem_cons_self)
    · rcases st2_mem (L := L) (i := 0) e with e | e
      · exact Or.inl e
      · exact Or.inr (List.mem_cons_of_mem _ e)
  | x :: L, i + 2, v, w, h => by
    rw [stL2] at h
    rcases List.mem_cons.mp h with e | e
    · exact Or.inr (by rw [e]; exact List.mem_cons_self)
    · rcases st2_mem (L := L) (i := i + 1) e with e | e
      · exact Or.inl e
      · exact Or.inr (List.mem_cons_of_mem _ e)
/-- some of the locals are forgotten -/
def kp : List Bool → List (Option TV) → List (Option TV)
  | true :: bs, x :: L => x :: kp bs L
  | false :: bs, _ :: L => none :: kp bs L
  | _, _ => []
theorem kp_asc {G : Cx} : ∀ {bs : List Bool} {L : List (Option TV)} {j : Nat} {q : Nat × Value}, q ∈ asc G j (kp bs L) → q ∈ asc G j L
  | true :: bs, x :: L, j, q, h => by
    rw [kp, asc_cons] at h
    rw [asc_cons]
    exact h.imp id (kp_asc (bs := bs) (L := L))
  | false :: bs, x :: L, j, q, h => by
    rw [kp, asc_cons] at h
    rw [asc_cons]
    rcases h with ⟨w, hw, -⟩ | h
    · cases hw
    · exact Or.inr (kp_asc (bs := bs) (L := L) h)
  | [], L, j, q, h => by
    have e : kp [] L = [] := by cases L <;> rfl
    rw [e] at h; cases h
  | true :: bs, [], j, q, h => by cases h
  | false :: bs, [], j, q, h => by cases h
theorem kp_mem : ∀ {bs : List Bool} {L : List (Option TV)} {w : TV}, some w ∈ kp bs L → some w ∈ L
  | true :: bs, x :: L, w, h => by
    rw [kp] at h
    rcases List.mem_cons.mp h with e | e
    · rw [e]; exact List.mem_cons_self
    · exact List.mem_cons_of_mem _ (kp_mem (bs := bs) e)
  | false :: bs, x :: L, w, h => by
    rw [kp] at h
    rcases List.mem_cons.mp h with e | e
    · cases e
    · exact List.mem_cons_of_mem _ (kp_mem (bs := bs) e)
  | [], L, w, h => by
    have e : kp [] L = [] := by cases L <;> rfl
    rw [e] at h; cases h
  | true :: bs, [], w, h => by cases h
  | false :: bs, [], w, h => by cases h
section RN
variable {l : Launch} {G : Cx} {d mc ms : Nat} {M : Mth} {h0 : Hp} {Q : Option TV → Hp → Prop} {pc : Nat} {L : List (Option TV)} {st : List TV} {h : Hp} {cu su : Nat}
theorem r_keep (bs : List Bool) {L' : List (Option TV)} (hk : kp bs L = L') (k : Rn l G d mc ms M h0 Q pc L' st h cu su) : Rn l G d mc ms M h0 Q pc L st h cu su := by
  subst hk
  intro p e s m args below meth c H locs ls C hW hE hS hl hL hst
  exact k p e s m args below meth c H locs ls C hW hE hS ⟨hl.1, hl.2.1, fun q hq => hl.2.2 q (kp_asc hq)⟩ (tyO_mem.mpr fun v hv => tyO_mem.mp hL v (kp_mem hv)) hst
theorem r_iconst {n : Int} {v : Int32} (hd : decode M.1 pc = .ok (.iconst n, 1)) (hv : Int32.ofInt n = v) (k : Rn l G d mc ms M h0 Q (pc + 1) L (tI v :: st) h cu su) : Rn l G d mc ms M h0 Q pc L (st) h cu su := by
  intro p e s m args below meth c H locs ls C hW hE hS hl hL hst
  exact lv_iconst C.1 C.2.1 hd hv (k p e s m args below meth c H locs ls C hW hE hS hl hL ⟨trivial, hst⟩)
theorem r_bipush {n : Int} {v : Int32} (hd : decode M.1 pc = .ok (.bipush n, 2)) (hv : (Int8.ofInt n).toInt32 = v) (k : Rn l G d mc ms M h0 Q (pc + 2) L (tI v :: st) h cu su) : Rn l G d mc ms M h0 Q pc L (st) h cu su := by
  intro p e s m args below meth c H locs ls C hW hE hS hl hL hst
  exact lv_bipush C.1 C.2.1 hd hv (k p e s m args below meth c H locs ls C hW hE hS hl hL ⟨trivial, hst⟩)
theorem r_sipush {n : Int} {v : Int32} (hd : decode M.1 pc = .ok (.sipush n, 3)) (hv : (Int16.ofInt n).toInt32 = v) (k : Rn l G d mc ms M h0 Q (pc + 3) L (tI v :: st) h cu su) : Rn l G d mc ms M h0 Q pc L (st) h cu su := by
  intro p e s m args below meth c H locs ls C hW hE hS hl hL hst
  exact lv_sipush C.1 C.2.1 hd hv (k p e s m args below meth c H locs ls C hW hE hS hl hL ⟨trivial, hst⟩)
theorem r_lconst {n : Fin 2} {v : Int64} (hd : decode M.1 pc = .ok (.lconst n, 1)) (hv : Int64.ofNat (n : Nat) = v) (k : Rn l G d mc ms M h0 Q (pc + 1) L (tJ v :: st) h cu su) : Rn l G d mc ms M h0 Q pc L (st) h cu su := by
  intro p e s m args below meth c H locs ls C hW hE hS hl hL hst
  exact lv_lconst C.1 C.2.1 hd hv (k p e s m args below meth c H locs ls C hW hE hS hl hL ⟨trivial, hst⟩)
theorem r_iadd {x y : Int32} (hd : decode M.1 pc = .ok (.iadd, 1)) (k : Rn l G d mc ms M h0 Q (pc + 1) L (tI (x + y) :: st) h cu su) : Rn l G d mc ms M h0 Q pc L (tI y :: tI x :: st) h cu su := by
  intro p e s m args below meth c H locs ls C hW hE hS hl hL hst
  exact lv_iadd C.1 C.2.1 hd (k p e s m args below meth c H locs ls C hW hE hS hl hL ⟨trivial, hst.2.2⟩)
theorem r_isub {x y : Int32} (hd : decode M.1 pc = .ok (.isub, 1)) (k : Rn l G d mc ms M h0 Q (pc + 1) L (tI (x - y) :: st) h cu su) : Rn l G d mc ms M h0 Q pc L (tI y :: tI x :: st) h cu su := by
  intro p e s m args below meth c H locs ls C hW hE hS hl hL hst
  exact lv_isub C.1 C.2.1 hd (k p e s m args below meth c H locs ls C hW hE hS hl hL ⟨trivial, hst.2.2⟩)
theorem r_imul {x y : Int32} (hd : decode M.1 pc = .ok (.imul, 1)) (k : Rn l G d mc ms M h0 Q (pc + 1) L (tI (x * y) :: st) h cu su) : Rn l G d mc ms M h0 Q pc L (tI y :: tI x :: st) h cu su := by
  intro p e s m args below meth c H locs ls C hW hE hS hl hL hst
  exact lv_imul C.1 C.2.1 hd (k p e s m args below meth c H locs ls C hW hE hS hl hL ⟨trivial, hst.2.2⟩)
theorem r_iand {x y : Int32} (hd : decode M.1 pc = .ok (.iand, 1)) (k : Rn l G d mc ms M h0 Q (pc + 1) L (tI (x &&& y) :: st) h cu su) : Rn l G d mc ms M h0 Q pc L (tI y :: tI x :: st) h cu su := by
  intro p e s m args below meth c H locs ls C hW hE hS hl hL hst
  exact lv_iand C.1 C.2.1 hd (k p e s m args below meth c H locs ls C hW hE hS hl hL ⟨trivial, hst.2.2⟩)
theorem r_ior {x y : Int32} (hd : decode M.1 pc = .ok (.ior, 1)) (k : Rn l G d mc ms M h0 Q (pc + 1) L (tI (x ||| y) :: st) h cu su) : Rn l G d mc ms M h0 Q pc L (tI y :: tI x :: st) h cu su := by
  intro p e s m args below meth c H locs ls C hW hE hS hl hL hst
  exact lv_ior C.1 C.2.1 hd (k p e s m args below meth c H locs ls C hW hE hS hl hL ⟨trivial, hst.2.2⟩)
theorem r_ixor {x y : Int32} (hd : decode M.1 pc = .ok (.ixor, 1)) (k : Rn l G d mc ms M h0 Q (pc + 1) L (tI (x ^^^ y) :: st) h cu su) : Rn l G d mc ms M h0 Q pc L (tI y :: tI x :: st) h cu su := by
  intro p e s m args below meth c H locs ls C hW hE hS hl hL hst
  exact lv_ixor C.1 C.2.1 hd (k p e s m args below meth c H locs ls C hW hE hS hl hL ⟨trivial, hst.2.2⟩)
theorem r_ishl {x y : Int32} (hd : decode M.1 pc = .ok (.ishl, 1)) (k : Rn l G d mc ms M h0 Q (pc + 1) L (tI (x <<< (y &&& 31)) :: st) h cu su) : Rn l G d mc ms M h0 Q pc L (tI y :: tI x :: st) h cu su := by
  intro p e s m args below meth c H locs ls C hW hE hS hl hL hst
  exact lv_ishl C.1 C.2.1 hd (k p e s m args below meth c H locs ls C hW hE hS hl hL ⟨trivial, hst.2.2⟩)
theorem r_ishr {x y : Int32} (hd : decode M.1 pc = .ok (.ishr, 1)) (k : Rn l G d mc ms M h0 Q (pc + 1) L (tI (x >>> (y &&& 31)) :: st) h cu su) : Rn l G d mc ms M h0 Q pc L (tI y :: tI x :: st) h cu su := by
  intro p e s m args below meth c H locs ls C hW hE hS hl hL hst
  exact lv_ishr C.1 C.2.1 hd (k p e s m args below meth c H locs ls C hW hE hS hl hL ⟨trivial, hst.2.2⟩)
theorem r_idiv {x y : Int32} (hd : decode M.1 pc = .ok (.idiv, 1)) (hne : ¬ y = 0) (k : Rn l G d mc ms M h0 Q (pc + 1) L (tI (x / y) :: st) h cu su) : Rn l G d mc ms M h0 Q pc L (tI y :: tI x :: st) h cu su := by
  intro p e s m args below meth c H locs ls C hW hE hS hl hL hst
  exact lv_idiv C.1 C.2.1 hd hne (k p e s m args below meth c H locs ls C hW hE hS hl hL ⟨trivial, hst.2.2⟩)
theorem r_irem {x y : Int32} (hd : decode M.1 pc = .ok (.irem, 1)) (hne : ¬ y = 0) (k : Rn l G d mc ms M h0 Q (pc + 1) L (tI (x - x / y * y) :: st) h cu su) : Rn l G d mc ms M h0 Q pc L (tI y :: tI x :: st) h cu su := by
  intro p e s m args below meth c H locs ls C hW hE hS hl hL hst
  exact lv_irem C.1 C.2.1 hd hne (k p e s m args below meth c H locs ls C hW hE hS hl hL ⟨trivial, hst.2.2⟩)
theorem r_ineg {x : Int32} (hd : decode M.1 pc = .ok (.ineg, 1)) (k : Rn l G d mc ms M h0 Q (pc + 1) L (tI (-x) :: st) h cu su) : Rn l G d mc ms M h0 Q pc L (tI x :: st) h cu su := by
  intro p e s m args below meth c H locs ls C hW hE hS hl hL hst
  exact lv_ineg C.1 C.2.1 hd (k p e s m args below meth c H locs ls C hW hE hS hl hL ⟨trivial, hst.2⟩)
theorem r_ladd {x y : Int64} (hd : decode M.1 pc = .ok (.ladd, 1)) (k : Rn l G d mc ms M h0 Q (pc + 1) L (tJ (x + y) :: st) h cu su) : Rn l G d mc ms M h0 Q pc L (tJ y :: tJ x :: st) h cu su := by
  intro p e s m args below meth c H locs ls C hW hE hS hl hL hst
  exact lv_ladd C.1 C.2.1 hd (k p e s m args below meth c H locs ls C hW hE hS hl hL ⟨trivial, hst.2.2⟩)
theorem r_lsub {x y : Int64} (hd : decode M.1 pc = .ok (.lsub, 1)) (k : Rn l G d mc ms M h0 Q (pc + 1) L (tJ (x - y) :: st) h cu su) : Rn l G d mc ms M h0 Q pc L (tJ y :: tJ x :: st) h cu su := by
  intro p e s m args below meth c H locs ls C hW hE hS hl hL hst
  exact lv_lsub C.1 C.2.1 hd (k p e s m args below meth c H locs ls C hW hE hS hl hL ⟨trivial, hst.2.2⟩)
theorem r_lmul {x y : Int64} (hd : decode M.1 pc = .ok (.lmul, 1)) (k : Rn l G d mc ms M h0 Q (pc + 1) L (tJ (x * y) :: st) h cu su) : Rn l G d mc ms M h0 Q pc L (tJ y :: tJ x :: st) h cu su := by
  intro p e s m args below meth c H locs ls C hW hE hS hl hL hst
  exact lv_lmul C.1 C.2.1 hd (k p e s m args below meth c H locs ls C hW hE hS hl hL ⟨trivial, hst.2.2⟩)
theorem r_ldiv {x y : Int64} (hd : decode M.1 pc = .ok (.ldiv, 1)) (hne : ¬ y = 0) (k : Rn l G d mc ms M h0 Q (pc + 1) L (tJ (x / y) :: st) h cu su) : Rn l G d mc ms M h0 Q pc L (tJ y :: tJ x :: st) h cu su := by
  intro p e s m args below meth c H locs ls C hW hE hS hl hL hst
  exact lv_ldiv C.1 C.2.1 hd hne (k p e s m args below meth c H locs ls C hW hE hS hl hL ⟨trivial, hst.2.2⟩)
theorem r_lrem {x y : Int64} (hd : decode M.1 pc = .ok (.lrem, 1)) (hne : ¬ y = 0) (k : Rn l G d mc ms M h0 Q (pc + 1) L (tJ (x - x / y * y) :: st) h cu su) : Rn l G d mc ms M h0 Q pc L (tJ y :: tJ x :: st) h cu su := by
  intro p e s m args below meth c H locs ls C hW hE hS hl hL hst
  exact lv_lrem C.1 C.2.1 hd hne (k p e s m args below meth c H locs ls C hW hE hS hl hL ⟨trivial, hst.2.2⟩)
theorem r_iushr {x y : Int32} (hd : decode M.1 pc = .ok (.iushr, 1)) (k : Rn l G d mc ms M h0 Q (pc + 1) L (tI (x.toUInt32 >>> (y.toUInt32 &&& Int32.toUInt32 31)).toInt32 :: st) h cu su) : Rn l G d mc ms M h0 Q pc L (tI y :: tI x :: st) h cu su := by
  intro p e s m args below meth c H locs ls C hW hE hS hl hL hst
  exact lv_iushr C.1 C.2.1 hd rfl (k p e s m args below meth c H locs ls C hW hE hS hl hL ⟨trivial, hst.2.2⟩)
theorem r_i2l {x : Int32} (hd : decode M.1 pc = .ok (.i2l, 1)) (k : Rn l G d mc ms M h0 Q (pc + 1) L (tJ x.toInt64 :: st) h cu su) : Rn l G d mc ms M h0 Q pc L (tI x :: st) h cu su := by
  intro p e s m args below meth c H locs ls C hW hE hS hl hL hst
  exact lv_i2l C.1 C.2.1 hd rfl (k p e s m args below meth c H locs ls C hW hE hS hl hL ⟨trivial, hst.2⟩)
theorem r_l2i {x : Int64} (hd : decode M.1 pc = .ok (.l2i, 1)) (k : Rn l G d mc ms M h0 Q (pc + 1) L (tI x.toInt32 :: st) h cu su) : Rn l G d mc ms M h0 Q pc L (tJ x :: st) h cu su := by
  intro p e s m args below meth c H locs ls C hW hE hS hl hL hst
  exact lv_l2i C.1 C.2.1 hd rfl (k p e s m args below meth c H locs ls C hW hE hS hl hL ⟨trivial, hst.2⟩)
theorem r_i2b {x : Int32} (hd : decode M.1 pc = .ok (.i2b, 1)) (k : Rn l G d mc ms M h0 Q (pc + 1) L (tI x.toInt8.toInt32 :: st) h cu su) : Rn l G d mc ms M h0 Q pc L (tI x :: st) h cu su := by
  intro p e s m args below meth c H locs ls C hW hE hS hl hL hst
  exact lv_i2b C.1 C.2.1 hd rfl (k p e s m args below meth c H locs ls C hW hE hS hl hL ⟨trivial, hst.2⟩)
theorem r_i2c {x : Int32} (hd : decode M.1 pc = .ok (.i2c, 1)) (k : Rn l G d mc ms M h0 Q (pc + 1) L (tI (x.toUInt32 % 65536).toInt32 :: st) h cu su) : Rn l G d mc ms M h0 Q pc L (tI x :: st) h cu su := by
  intro p e s m args below meth c H locs ls C hW hE hS hl hL hst
  exact lv_i2c C.1 C.2.1 hd rfl (k p e s m args below meth c H locs ls C hW hE hS hl hL ⟨trivial, hst.2⟩)
theorem r_lcmp {x y : Int64} (hd : decode M.1 pc = .ok (.lcmp, 1)) (k : Rn l G d mc ms M h0 Q (pc + 1) L (tI (lg_cmp x y) :: st) h cu su) : Rn l G d mc ms M h0 Q pc L (tJ y :: tJ x :: st) h cu su := by
  intro p e s m args below meth c H locs ls C hW hE hS hl hL hst
  exact W.lcmp C.1 C.2.1 hd (k p e s m args below meth c H locs ls C hW hE hS hl hL ⟨trivial, hst.2.2⟩)
theorem r_if_eq {x : Int32} {off : Int} {tgt : Nat} (hd : decode M.1 pc = .ok (.ifCond .eq off, 3)) (ht : (pc : Int) + off = (tgt : Int)) (kt : x = 0 → Rn l G d mc ms M h0 Q tgt L st h cu su) (kf : ¬ x = 0 → Rn l G d mc ms M h0 Q (pc + 3) L st h cu su) : Rn l G d mc ms M h0 Q pc L (tI x :: st) h cu su := by
  intro p e s m args below meth c H locs ls C hW hE hS hl hL hst
  exact lv_if_eq C.1 C.2.1 hd ht (fun q => kt q p e s m args below meth c H locs ls C hW hE hS hl hL hst.2) (fun q => kf q p e s m args below meth c H locs ls C hW hE hS hl hL hst.2)
theorem r_icmp_eq {x y : Int32} {off : Int} {tgt : Nat} (hd : decode M.1 pc = .ok (.if_icmp .eq off, 3)) (ht : (pc : Int) + off = (tgt : Int)) (kt : x = y → Rn l G d mc ms M h0 Q tgt L st h cu su) (kf : ¬ x = y → Rn l G d mc ms M h0 Q (pc + 3) L st h cu su) : Rn l G d mc ms M h0 Q pc L (tI y :: tI x :: st) h cu su := by
  intro p e s m args below meth c H locs ls C hW hE hS hl hL hst
  exact lv_icmp_eq C.1 C.2.1 hd ht (fun q => kt q p e s m args below meth c H locs ls C hW hE hS hl hL hst.2.2) (fun q => kf q p e s m args below meth c H locs ls C hW hE hS hl hL hst.2.2)
theorem r_if_ne {x : Int32} {off : Int} {tgt : Nat} (hd : decode M.1 pc = .ok (.ifCond .ne off, 3)) (ht : (pc : Int) + off = (tgt : Int)) (kt : ¬ x = 0 → Rn l G d mc ms M h0 Q tgt L st h cu su) (kf : x = 0 → Rn l G d mc ms M h0 Q (pc + 3) L st h cu su) : Rn l G d mc ms M h0 Q pc L (tI x :: st) h cu su := by
  intro p e s m args below meth c H locs ls C hW hE hS hl hL hst
  exact lv_if_ne C.1 C.2.1 hd ht (fun q => kt q p e s m args below meth c H locs ls C hW hE hS hl hL hst.2) (fun q => kf q p e s m args below meth c H locs ls C hW hE hS hl hL hst.2)
theorem r_icmp_ne {x y : Int32} {off : Int} {tgt : Nat} (hd : decode M.1 pc = .ok (.if_icmp .ne off, 3)) (ht : (pc : Int) + off = (tgt : Int)) (kt : ¬ x = y → Rn l G d mc ms M h0 Q tgt L st h cu su) (kf : x = y → Rn l G d mc ms M h0 Q (pc + 3) L st h cu su) : Rn l G d mc ms M h0 Q pc L (tI y :: tI x :: st) h cu su := by
  intro p e s m args below meth c H locs ls C hW hE hS hl hL hst
  exact lv_icmp_ne C.1 C.2.1 hd ht (fun q => kt q p e s m args below meth c H locs ls C hW hE hS hl hL hst.2.2) (fun q => kf q p e s m args below meth c H locs ls C hW hE hS hl hL hst.2.2)
theorem r_if_lt {x : Int32} {off : Int} {tgt : Nat} (hd : decode M.1 pc = .ok (.ifCond .lt off, 3)) (ht : (pc : Int) + off = (tgt : Int)) (kt : x < 0 → Rn l G d mc ms M h0 Q tgt L st h cu su) (kf : ¬ x < 0 → Rn l G d mc ms M h0 Q (pc + 3) L st h cu su) : Rn l G d mc ms M h0 Q pc L (tI x :: st) h cu su := by
  intro p e s m args below meth c H locs ls C hW hE hS hl hL hst
  exact lv_if_lt C.1 C.2.1 hd ht (fun q => kt q p e s m args below meth c H locs ls C hW hE hS hl hL hst.2) (fun q => kf q p e s m args below meth c H locs ls C hW hE hS hl hL hst.2)
theorem r_icmp_lt {x y : Int32} {off : Int} {tgt : Nat} (hd : decode M.1 pc = .ok (.if_icmp .lt off, 3)) (ht : (pc : Int) + off = (tgt : Int)) (kt : x < y → Rn l G d mc ms M h0 Q tgt L st h cu su) (kf : ¬ x < y → Rn l G d mc ms M h0 Q (pc + 3) L st h cu su) : Rn l G d mc ms M h0 Q pc L (tI y :: tI x :: st) h cu su := by
  intro p e s m args below meth c H locs ls C hW hE hS hl hL hst
  exact lv_icmp_lt C.1 C.2.1 hd ht (fun q => kt q p e s m args below meth c H locs ls C hW hE hS hl hL hst.2.2) (fun q => kf q p e s m args below meth c H locs ls C hW hE hS hl hL hst.2.2)
theorem r_if_ge {x : Int32} {off : Int} {tgt : Nat} (hd : decode M.1 pc = .ok (.ifCond .ge off, 3)) (ht : (pc : Int) + off = (tgt : Int)) (kt : 0 ≤ x → Rn l G d mc ms M h0 Q tgt L st h cu su) (kf : ¬ 0 ≤ x → Rn l G d mc ms M h0 Q (pc + 3) L st h cu su) : Rn l G d mc ms M h0 Q pc L (tI x :: st) h cu su := by
  intro p e s m args below meth c H locs ls C hW hE hS hl hL hst
  exact lv_if_ge C.1 C.2.1 hd ht (fun q => kt q p e s m args below meth c H locs ls C hW hE hS hl hL hst.2) (fun q => kf q p e s m args below meth c H locs ls C hW hE hS hl hL hst.2)
theorem r_icmp_ge {x y : Int32} {off : Int} {tgt : Nat} (hd : decode M.1 pc = .ok (.if_icmp .ge off, 3)) (ht : (pc : Int) + off = (tgt : Int)) (kt : y ≤ x → Rn l G d mc ms M h0 Q tgt L st h cu su) (kf : ¬ y ≤ x → Rn l G d mc ms M h0 Q (pc + 3) L st h cu su) : Rn l G d mc ms M h0 Q pc L (tI y :: tI x :: st) h cu su := by
  intro p e s m args below meth c H locs ls C hW hE hS hl hL hst
  exact lv_icmp_ge C.1 C.2.1 hd ht (fun q => kt q p e s m args below meth c H locs ls C hW hE hS hl hL hst.2.2) (fun q => kf q p e s m args below meth c H locs ls C hW hE hS hl hL hst.2.2)
theorem r_if_gt {x : Int32} {off : Int} {tgt : Nat} (hd : decode M.1 pc = .ok (.ifCond .gt off, 3)) (ht : (pc : Int) + off = (tgt : Int)) (kt : 0 < x → Rn l G d mc ms M h0 Q tgt L st h cu su) (kf : ¬ 0 < x → Rn l G d mc ms M h0 Q (pc + 3) L st h cu su) : Rn l G d mc ms M h0 Q pc L (tI x :: st) h cu su := by
  intro p e s m args below meth c H locs ls C hW hE hS hl hL hst
  exact lv_if_gt C.1 C.2.1 hd ht (fun q => kt q p e s m args below meth c H locs ls C hW hE hS hl hL hst.2) (fun q => kf q p e s m args below meth c H locs ls C hW hE hS hl hL hst.2)
theorem r_icmp_gt {x y : Int32} {off : Int} {tgt : Nat} (hd : decode M.1 pc = .ok (.if_icmp .gt off, 3)) (ht : (pc : Int) + off = (tgt : Int)) (kt : y < x → Rn l G d mc ms M h0 Q tgt L st h cu su) (kf : ¬ y < x → Rn l G d mc ms M h0 Q (pc + 3) L st h cu su) : Rn l G d mc ms M h0 Q pc L (tI y :: tI x :: st) h cu su := by
  intro p e s m args below meth c H locs ls C hW hE hS hl hL hst
  exact lv_icmp_gt C.1 C.2.1 hd ht (fun q => kt q p e s m args below meth c H locs ls C hW hE hS hl hL hst.2.2) (fun q => kf q p e s m args below meth c H locs ls C hW hE hS hl hL hst.2.2)
theorem r_if_le {x : Int32} {off : Int} {tgt : Nat} (hd : decode M.1 pc = .ok (.ifCond .le off, 3)) (ht : (pc : Int) + off = (tgt : Int)) (kt : x ≤ 0 → Rn l G d mc ms M h0 Q tgt L st h cu su) (kf : ¬ x ≤ 0 → Rn l G d mc ms M h0 Q (pc + 3) L st h cu su) : Rn l G d mc ms M h0 Q pc L (tI x :: st) h cu su := by
  intro p e s m args below meth c H locs ls C hW hE hS hl hL hst
  exact lv_if_le C.1 C.2.1 hd ht (fun q => kt q p e s m args below meth c H locs ls C hW hE hS hl hL hst.2) (fun q => kf q p e s m args below meth c H locs ls C hW hE hS hl hL hst.2)
theorem r_icmp_le {x y : Int32} {off : Int} {tgt : Nat} (hd : decode M.1 pc = .ok (.if_icmp .le off, 3)) (ht : (pc : Int) + off = (tgt : Int)) (kt : x ≤ y → Rn l G d mc ms M h0 Q tgt L st h cu su) (kf : ¬ x ≤ y → Rn l G d mc ms M h0 Q (pc + 3) L st h cu su) : Rn l G d mc ms M h0 Q pc L (tI y :: tI x :: st) h cu su := by
  intro p e s m args below meth c H locs ls C hW hE hS hl hL hst
  exact lv_icmp_le C.1 C.2.1 hd ht (fun q => kt q p e s m args below meth c H locs ls C hW hE hS hl hL hst.2.2) (fun q => kf q p e s m args below meth c H locs ls C hW hE hS hl hL hst.2.2)
theorem r_goto {off : Int} {tgt : Nat} (hd : decode M.1 pc = .ok (.goto off, 3)) (ht : (pc : Int) + off = (tgt : Int)) (k : Rn l G d mc ms M h0 Q tgt L st h cu su) : Rn l G d mc ms M h0 Q pc L st h cu su := by
  intro p e s m args below meth c H locs ls C hW hE hS hl hL hst
  exact lv_goto C.1 C.2.1 hd ht (k p e s m args below meth c H locs ls C hW hE hS hl hL hst)
theorem r_tableOut {dflt lo hi : Int} {offs : Array Int} {len : Nat} {x : Int32} {tgt : Nat} (hd : decode M.1 pc = .ok (.tableswitch dflt lo hi offs, len)) (hx : x.toInt < lo ∨ hi < x.toInt) (ht : (pc : Int) + dflt = (tgt : Int)) (k : Rn l G d mc ms M h0 Q tgt L st h cu su) : Rn l G d mc ms M h0 Q pc L (tI x :: st) h cu su := by
  intro p e s m args below meth c H locs ls C hW hE hS hl hL hst
  exact lv_tableOut C.1 C.2.1 hd hx ht (k p e s m args below meth c H locs ls C hW hE hS hl hL hst.2)
theorem r_tableIn {dflt lo hi : Int} {offs : Array Int} {len : Nat} {x : Int32} {off : Int} {tgt : Nat} (hd : decode M.1 pc = .ok (.tableswitch dflt lo hi offs, len)) (h1 : ¬ x.toInt < lo) (h2 : ¬ hi < x.toInt) (ho : offs[(x.toInt - lo).toNat]? = some off) (ht : (pc : Int) + off = (tgt : Int)) (k : Rn l G d mc ms M h0 Q tgt L st h cu su) : Rn l G d mc ms M h0 Q pc L (tI x :: st) h cu su := by
  intro p e s m args below meth c H locs ls C hW hE hS hl hL hst
  exact lv_tableIn C.1 C.2.1 hd h1 h2 ho ht (k p e s m args below meth c H locs ls C hW hE hS hl hL hst.2)
theorem r_iload {i : Nat} {x : Int32} (hd : decode M.1 pc = .ok (.iload i, 2)) (hv : L[i]? = some (some (tI x))) (k : Rn l G d mc ms M h0 Q (pc + 2) L (tI x :: st) h cu su) : Rn l G d mc ms M h0 Q pc L st h cu su := by
  intro p e s m args below meth c H locs ls C hW hE hS hl hL hst
  exact lv_iload C.1 C.2.1 hd (ls_at hl hv) (k p e s m args below meth c H locs ls C hW hE hS hl hL ⟨trivial, hst⟩)
theorem r_iload_n {j : Fin 4} {i : Nat} {x : Int32} (hd : decode M.1 pc = .ok (.iload_n j, 1)) (hi : (j : Nat) = i) (hv : L[i]? = some (some (tI x))) (k : Rn l G d mc ms M h0 Q (pc + 1) L (tI x :: st) h cu su) : Rn l G d mc ms M h0 Q pc L st h cu su := by
  intro p e s m args below meth c H locs ls C hW hE hS hl hL hst
  exact lv_iload_n C.1 C.2.1 hd hi (ls_at hl hv) (k p e s m args below meth c H locs ls C hW hE hS hl hL ⟨trivial, hst⟩)
theorem r_lload {i : Nat} {x : Int64} (hd : decode M.1 pc = .ok (.lload i, 2)) (hv : L[i]? = some (some (tJ x))) (k : Rn l G d mc ms M h0 Q (pc + 2) L (tJ x :: st) h cu su) : Rn l G d mc ms M h0 Q pc L st h cu su := by
  intro p e s m args below meth c H locs ls C hW hE hS hl hL hst
  exact lv_lload C.1 C.2.1 hd (ls_at hl hv) (k p e s m args below meth c H locs ls C hW hE hS hl hL ⟨trivial, hst⟩)
theorem r_lload_n {j : Fin 4} {i : Nat} {x : Int64} (hd : decode M.1 pc = .ok (.lload_n j, 1)) (hi : (j : Nat) = i) (hv : L[i]? = some (some (tJ x))) (k : Rn l G d mc ms M h0 Q (pc + 1) L (tJ x :: st) h cu su) : Rn l G d mc ms M h0 Q pc L st h cu su := by
  intro p e s m args below meth c H locs ls C hW hE hS hl hL hst
  exact lv_lload_n C.1 C.2.1 hd hi (ls_at hl hv) (k p e s m args below meth c H locs ls C hW hE hS hl hL ⟨trivial, hst⟩)
theorem r_aload {i k n : Nat} {r : Option Nat} (hd : decode M.1 pc = .ok (.aload i, 2)) (hv : L[i]? = some (some (tR k n r))) (kk : Rn l G d mc ms M h0 Q (pc + 2) L (tR k n r :: st) h cu su) : Rn l G d mc ms M h0 Q pc L st h cu su := by
  intro p e s m args below meth c H locs ls C hW hE hS hl hL hst
  have q := kk p e s m args below meth c H locs ls C hW hE hS hl hL ⟨tyO_at hL hv, hst⟩
  have z := ls_at hl hv
  cases r with
  | none => exact lv_aloadN C.1 C.2.1 hd z q
  | some a => exact lv_aload C.1 C.2.1 hd z q
theorem r_aloadS {i k : Nat} (hd : decode M.1 pc = .ok (.aload i, 2)) (hv : L[i]? = some (some (tS k))) (kk : Rn l G d mc ms M h0 Q (pc + 2) L (tS k :: st) h cu su) : Rn l G d mc ms M h0 Q pc L st h cu su := by
  intro p e s m args below meth c H locs ls C hW hE hS hl hL hst
  exact lv_aload C.1 C.2.1 hd (ls_at hl hv) (kk p e s m args below meth c H locs ls C hW hE hS hl hL ⟨tyO_at hL hv, hst⟩)
theorem r_aload_n {i k n : Nat} {r : Option Nat} {j : Fin 4} (hd : decode M.1 pc = .ok (.aload_n j, 1)) (hi : (j : Nat) = i) (hv : L[i]? = some (some (tR k n r))) (kk : Rn l G d mc ms M h0 Q (pc + 1) L (tR k n r :: st) h cu su) : Rn l G d mc ms M h0 Q pc L st h cu su := by
  intro p e s m args below meth c H locs ls C hW hE hS hl hL hst
  have q := kk p e s m args below meth c H locs ls C hW hE hS hl hL ⟨tyO_at hL hv, hst⟩
  have z := ls_at hl hv
  cases r with
  | none => exact lv_aload_nN C.1 C.2.1 hd hi z q
  | some a => exact lv_aload_n C.1 C.2.1 hd hi z q
theorem r_aload_nS {i k : Nat} {j : Fin 4} (hd : decode M.1 pc = .ok (.aload_n j, 1)) (hi : (j : Nat) = i) (hv : L[i]? = some (some (tS k))) (kk : Rn l G d mc ms M h0 Q (pc + 1) L (tS k :: st) h cu su) : Rn l G d mc ms M h0 Q pc L st h cu su := by
  intro p e s m args below meth c H locs ls C hW hE hS hl hL hst
  exact lv_aload_n C.1 C.2.1 hd hi (ls_at hl hv) (kk p e s m args below meth c H locs ls C hW hE hS hl hL ⟨tyO_at hL hv, hst⟩)
theorem has1 {G : Cx} {ls : Array Slot} {n i : Nat} {L : List (Option TV)} {v : TV} (h : lv_has ls n ((i, cv G v) :: (asc G 0 L).filter (fun q => !(q.1 == i) && !(q.1 + 1 == i && q.2.category == 2)))) : lv_has ls n (asc G 0 (stL1 L i v)) := by
  refine ⟨h.1, h.2.1, fun q hq => h.2.2 q ?_⟩
  rcases asc_st1 hq with e | ⟨e, g1, g2⟩
  · rw [e, Nat.zero_add]; exact List.mem_cons_self
  · refine List.mem_cons_of_mem _ (List.mem_filter.mpr ⟨e, ?_⟩)
    rw [Nat.zero_add] at g1 g2
    simp only [Bool.and_eq_true, Bool.not_eq_true', beq_eq_false_iff_ne, ne_eq, Bool.and_eq_false_iff, beq_iff_eq]
    refine ⟨g1, ?_⟩
    by_cases z : q.1 + 1 = i
    · exact Or.inr (fun y => g2 ⟨z, y⟩)
    · exact Or.inl z
theorem has2 {G : Cx} {ls : Array Slot} {n i : Nat} {L : List (Option TV)} {v : TV} (h : lv_has ls n ((i, cv G v) :: (asc G 0 L).filter (fun q => !(q.1 == i) && (!(q.1 == i + 1) && !(q.1 + 1 == i && q.2.category == 2))))) : lv_has ls n (asc G 0 (stL2 L i v)) := by
  refine ⟨h.1, h.2.1, fun q hq => h.2.2 q ?_⟩
  rcases asc_st2 hq with e | ⟨e, g1, g3, g2⟩
  · rw [e, Nat.zero_add]; exact List.mem_cons_self
  · refine List.mem_cons_of_mem _ (List.mem_filter.mpr ⟨e, ?_⟩)
    rw [Nat.zero_add] at g1 g2 g3
    simp only [Bool.and_eq_true, Bool.not_eq_true', beq_eq_false_iff_ne, ne_eq, Bool.and_eq_false_iff, beq_iff_eq]
    refine ⟨g1, g3, ?_⟩
    by_cases z : q.1 + 1 = i
    · exact Or.inr (fun y => g2 ⟨z, y⟩)
    · exact Or.inl z
theorem ty_st1 {h : Hp} {L : List (Option TV)} {i : Nat} {v : TV} (hL : tyO h L) (hv : ty1 h v) : tyO h (stL1 L i v) := tyO_mem.mpr fun w hw => (st1_mem hw).elim (fun e => by rw [e]; exact hv) (tyO_mem.mp hL w)
theorem ty_st2 {h : Hp} {L : List (Option TV)} {i : Nat} {v : TV} (hL : tyO h L) (hv : ty1 h v) : tyO h (stL2 L i v) := tyO_mem.mpr fun w hw => (st2_mem hw).elim (fun e => by rw [e]; exact hv) (tyO_mem.mp hL w)
theorem r_istore {i : Nat} {x : Int32} {L' : List (Option TV)} (hd : decode M.1 pc = .ok (.istore i, 2)) (hn : i + 0 < M.2.1) (hL' : stL1 L i (tI x) = L') (k : Rn l G d mc ms M h0 Q (pc + 2) L' st h cu su) : Rn l G d mc ms M h0 Q pc L (tI x :: st) h cu su := by
  subst hL'
  intro p e s m args below meth c H locs ls C hW hE hS hl hL hst
  exact lv_istore C.1 C.2.1 hd hl hn rfl (fun ls' hl' => k p e s m args below meth c H locs ls' C hW hE hS (has1 (v := tI x) hl') (ty_st1 hL trivial) hst.2)
theorem r_istore_n {i : Nat} {x : Int32} {L' : List (Option TV)} {j : Fin 4} (hd : decode M.1 pc = .ok (.istore_n j, 1)) (hi : (j : Nat) = i) (hn : i + 0 < M.2.1) (hL' : stL1 L i (tI x) = L') (k : Rn l G d mc ms M h0 Q (pc + 1) L' st h cu su) : Rn l G d mc ms M h0 Q pc L (tI x :: st) h cu su := by
  subst hL'
  intro p e s m args below meth c H locs ls C hW hE hS hl hL hst
  exact lv_istore_n C.1 C.2.1 hd hi hl hn rfl (fun ls' hl' => k p e s m args below meth c H locs ls' C hW hE hS (has1 (v := tI x) hl') (ty_st1 hL trivial) hst.2)
theorem r_lstore {i : Nat} {x : Int64} {L' : List (Option TV)} (hd : decode M.1 pc = .ok (.lstore i, 2)) (hn : i + 1 < M.2.1) (hL' : stL2 L i (tJ x) = L') (k : Rn l G d mc ms M h0 Q (pc + 2) L' st h cu su) : Rn l G d mc ms M h0 Q pc L (tJ x :: st) h cu su := by
  subst hL'
  intro p e s m args below meth c H locs ls C hW hE hS hl hL hst
  exact lv_lstore C.1 C.2.1 hd hl hn rfl (fun ls' hl' => k p e s m args below meth c H locs ls' C hW hE hS (has2 (v := tJ x) hl') (ty_st2 hL trivial) hst.2)
theorem r_lstore_n {i : Nat} {x : Int64} {L' : List (Option TV)} {j : Fin 4} (hd : decode M.1 pc = .ok (.lstore_n j, 1)) (hi : (j : Nat) = i) (hn : i + 1 < M.2.1) (hL' : stL2 L i (tJ x) = L') (k : Rn l G d mc ms M h0 Q (pc + 1) L' st h cu su) : Rn l G d mc ms M h0 Q pc L (tJ x :: st) h cu su := by
  subst hL'
  intro p e s m args below meth c H locs ls C hW hE hS hl hL hst
  exact lv_lstore_n C.1 C.2.1 hd hi hl hn rfl (fun ls' hl' => k p e s m args below meth c H locs ls' C hW hE hS (has2 (v := tJ x) hl') (ty_st2 hL trivial) hst.2)
theorem r_astore {i k n : Nat} {r : Option Nat} {L' : List (Option TV)} (hd : decode M.1 pc = .ok (.astore i, 2)) (hn : i < M.2.1) (hL' : stL1 L i (tR k n r) = L') (kk : Rn l G d mc ms M h0 Q (pc + 2) L' st h cu su) : Rn l G d mc ms M h0 Q pc L (tR k n r :: st) h cu su := by
  subst hL'
  intro p e s m args below meth c H locs ls C hW hE hS hl hL hst
  have q := fun ls' hl' => kk p e s m args below meth c H locs ls' C hW hE hS (has1 (v := tR k n r) hl') (ty_st1 hL hst.1) hst.2
  cases r with
  | none => exact lv_astoreN C.1 C.2.1 hd hl hn rfl q
  | some a => exact lv_astore C.1 C.2.1 hd hl hn rfl q
theorem r_astoreS {i k : Nat} {L' : List (Option TV)} (hd : decode M.1 pc = .ok (.astore i, 2)) (hn : i < M.2.1) (hL' : stL1 L i (tS k) = L') (kk : Rn l G d mc ms M h0 Q (pc + 2) L' st h cu su) : Rn l G d mc ms M h0 Q pc L (tS k :: st) h cu su := by
  subst hL'
  intro p e s m args below meth c H locs ls C hW hE hS hl hL hst
  exact lv_astore C.1 C.2.1 hd hl hn rfl (fun ls' hl' => kk p e s m args below meth c H locs ls' C hW hE hS (has1 (v := tS k) hl') (ty_st1 hL hst.1) hst.2)
theorem r_astore_n {i k n : Nat} {r : Option Nat} {L' : List (Option TV)} {j : Fin 4} (hd : decode M.1 pc = .ok (.astore_n j, 1)) (hi : (j : Nat) = i) (hn : i < M.2.1) (hL' : stL1 L i (tR k n r) = L') (kk : Rn l G d mc ms M h0 Q (pc + 1) L' st h cu su) : Rn l G d mc ms M h0 Q pc L (tR k n r :: st) h cu su := by
  subst hL'
  intro p e s m args below meth c H locs ls C hW hE hS hl hL hst
  have q := fun ls' hl' => kk p e s m args below meth c H locs ls' C hW hE hS (has1 (v := tR k n r) hl') (ty_st1 hL hst.1) hst.2
  cases r with
  | none => exact lv_astore_nN C.1 C.2.1 hd hi hl hn rfl q
  | some a => exact lv_astore_n C.1 C.2.1 hd hi hl hn rfl q
theorem r_astore_nS {i k : Nat} {L' : List (Option TV)} {j : Fin 4} (hd : decode M.1 pc = .ok (.astore_n j, 1)) (hi : (j : Nat) = i) (hn : i < M.2.1) (hL' : stL1 L i (tS k) = L') (kk : Rn l G d mc ms M h0 Q (pc + 1) L' st h cu su) : Rn l G d mc ms M h0 Q pc L (tS k :: st) h cu su := by
  subst hL'
  intro p e s m args below meth c H locs ls C hW hE hS hl hL hst
  exact lv_astore_n C.1 C.2.1 hd hi hl hn rfl (fun ls' hl' => kk p e s m args below meth c H locs ls' C hW hE hS (has1 (v := tS k) hl') (ty_st1 hL hst.1) hst.2)
theorem r_iinc {i : Nat} {n : Int} {x v : Int32} {L' : List (Option TV)} (hd : decode M.1 pc = .ok (.iinc i n, 3)) (hv : L[i]? = some (some (tI x))) (hx : x + Int32.ofInt n = v) (hn : i < M.2.1) (hL' : stL1 L i (tI v) = L') (k : Rn l G d mc ms M h0 Q (pc + 3) L' st h cu su) : Rn l G d mc ms M h0 Q pc L st h cu su := by
  subst hL'
  intro p e s m args below meth c H locs ls C hW hE hS hl hL hst
  have z := asc_mem (G := G) (j := 0) hv
  rw [Nat.zero_add] at z
  obtain ⟨q, hq⟩ := List.getElem?_of_mem z
  exact lv_iinc C.1 C.2.1 hd hl hq hx hn rfl (fun ls' hl' => k p e s m args below meth c H locs ls' C hW hE hS (has1 (v := tI v) hl') (ty_st1 hL trivial) hst)
theorem cv_cat1R {G : Cx} {k n : Nat} {r : Option Nat} : (cv G (tR k n r)).category = 1 := by cases r <;> rfl
theorem r_dup {v : TV} (hd : decode M.1 pc = .ok (.dup, 1)) (hc : (cv G v).category = 1) (k : Rn l G d mc ms M h0 Q (pc + 1) L (v :: v :: st) h cu su) : Rn l G d mc ms M h0 Q pc L (v :: st) h cu su := by
  intro p e s m args below meth c H locs ls C hW hE hS hl hL hst
  exact lv_dup C.1 C.2.1 hd hc (k p e s m args below meth c H locs ls C hW hE hS hl hL ⟨hst.1, hst⟩)
theorem r_dup2 {v w : TV} (hd : decode M.1 pc = .ok (.dup2, 1)) (hc : (cv G v).category = 1) (hc2 : (cv G w).category = 1) (k : Rn l G d mc ms M h0 Q (pc + 1) L (v :: w :: v :: w :: st) h cu su) : Rn l G d mc ms M h0 Q pc L (v :: w :: st) h cu su := by
  intro p e s m args below meth c H locs ls C hW hE hS hl hL hst
  exact lv_dup2_11 C.1 C.2.1 hd hc hc2 (k p e s m args below meth c H locs ls C hW hE hS hl hL ⟨hst.1, hst.2.1, hst⟩)
theorem r_pop {v : TV} (hd : decode M.1 pc = .ok (.pop, 1)) (hc : (cv G v).category = 1) (k : Rn l G d mc ms M h0 Q (pc + 1) L st h cu su) : Rn l G d mc ms M h0 Q pc L (v :: st) h cu su := by
  intro p e s m args below meth c H locs ls C hW hE hS hl hL hst
  exact lv_pop C.1 C.2.1 hd hc (k p e s m args below meth c H locs ls C hW hE hS hl hL hst.2)
theorem r_null {k n : Nat} (hd : decode M.1 pc = .ok (.aconst_null, 1)) (kk : Rn l G d mc ms M h0 Q (pc + 1) L (tR k n none :: st) h cu su) : Rn l G d mc ms M h0 Q pc L st h cu su := by
  intro p e s m args below meth c H locs ls C hW hE hS hl hL hst
  exact lv_null C.1 C.2.1 hd (kk p e s m args below meth c H locs ls C hW hE hS hl hL ⟨fun b hb => (by cases hb), hst⟩)
theorem r_ifnull {k n : Nat} {r : Option Nat} {off : Int} {tgt : Nat} (hd : decode M.1 pc = .ok (.ifnull off, 3)) (ht : (pc : Int) + off = (tgt : Int)) (kt : r = none → Rn l G d mc ms M h0 Q tgt L st h cu su) (kf : ¬ r = none → Rn l G d mc ms M h0 Q (pc + 3) L st h cu su) : Rn l G d mc ms M h0 Q pc L (tR k n r :: st) h cu su := by
  intro p e s m args below meth c H locs ls C hW hE hS hl hL hst
  cases r with
  | none => exact lv_ifnullN C.1 C.2.1 hd ht (kt rfl p e s m args below meth c H locs ls C hW hE hS hl hL hst.2)
  | some a => exact lv_ifnull C.1 C.2.1 hd (kf (fun z => by cases z) p e s m args below meth c H locs ls C hW hE hS hl hL hst.2)
theorem r_ifnonnull {k n : Nat} {r : Option Nat} {off : Int} {tgt : Nat} (hd : decode M.1 pc = .ok (.ifnonnull off, 3)) (ht : (pc : Int) + off = (tgt : Int)) (kt : ¬ r = none → Rn l G d mc ms M h0 Q tgt L st h cu su) (kf : r = none → Rn l G d mc ms M h0 Q (pc + 3) L st h cu su) : Rn l G d mc ms M h0 Q pc L (tR k n r :: st) h cu su := by
  intro p e s m args below meth c H locs ls C hW hE hS hl hL hst
  cases r with
  | none => exact lv_ifnonnullN C.1 C.2.1 hd (kf rfl p e s m args below meth c H locs ls C hW hE hS hl hL hst.2)
  | some a => exact lv_ifnonnull C.1 C.2.1 hd ht (kt (fun z => by cases z) p e s m args below meth c H locs ls C hW hE hS hl hL hst.2)
theorem rb_inj {G : Cx} {x y : Option Nat} : x.map (fun a => G.1 + a) = y.map (fun a => G.1 + a) ↔ x = y := by
  cases x <;> cases y <;> simp
theorem r_acmp_eq {k n k' n' : Nat} {x y : Option Nat} {off : Int} {tgt : Nat} (hd : decode M.1 pc = .ok (.if_acmp .eq off, 3)) (ht : (pc : Int) + off = (tgt : Int)) (kt : x = y → Rn l G d mc ms M h0 Q tgt L st h cu su) (kf : ¬ x = y → Rn l G d mc ms M h0 Q (pc + 3) L st h cu su) : Rn l G d mc ms M h0 Q pc L (tR k n y :: tR k' n' x :: st) h cu su := by
  intro p e s m args below meth c H locs ls C hW hE hS hl hL hst
  exact lv_acmp_eq C.1 C.2.1 hd ht (fun q => kt (rb_inj.mp q) p e s m args below meth c H locs ls C hW hE hS hl hL hst.2.2) (fun q => kf (fun z => q (rb_inj.mpr z)) p e s m args below meth c H locs ls C hW hE hS hl hL hst.2.2)
theorem r_acmp_ne {k n k' n' : Nat} {x y : Option Nat} {off : Int} {tgt : Nat} (hd : decode M.1 pc = .ok (.if_acmp .ne off, 3)) (ht : (pc : Int) + off = (tgt : Int)) (kt : ¬ x = y → Rn l G d mc ms M h0 Q tgt L st h cu su) (kf : x = y → Rn l G d mc ms M h0 Q (pc + 3) L st h cu su) : Rn l G d mc ms M h0 Q pc L (tR k n y :: tR k' n' x :: st) h cu su := by
  intro p e s m args below meth c H locs ls C hW hE hS hl hL hst
  exact lv_acmp_ne C.1 C.2.1 hd ht (fun q => kt (fun z => q (rb_inj.mpr z)) p e s m args below meth c H locs ls C hW hE hS hl hL hst.2.2) (fun q => kf (rb_inj.mp q) p e s m args below meth c H locs ls C hW hE hS hl hL hst.2.2)
theorem r_ldc {v : Int32} {idx : Nat} (hd : decode M.1 pc = .ok (.ldc idx, 2)) (hc : Cond.constant M.2.2.2.1 idx v ∈ GW) (k : Rn l G d mc ms M h0 Q (pc + 2) L (tI v :: st) h cu su) : Rn l G d mc ms M h0 Q pc L st h cu su := by
  intro p e s m args below meth c H locs ls C hW hE hS hl hL hst
  exact lv_ldc C.1 C.2.1 C.2.2.2.2.1 (C.2.2.2.2.2.1 _ hc) hd (k p e s m args below meth c H locs ls C hW hE hS hl hL ⟨trivial, hst⟩)
theorem r_ldc_w {v : Int32} {idx : Nat} (hd : decode M.1 pc = .ok (.ldc_w idx, 3)) (hc : Cond.constant M.2.2.2.1 idx v ∈ GW) (k : Rn l G d mc ms M h0 Q (pc + 3) L (tI v :: st) h cu su) : Rn l G d mc ms M h0 Q pc L st h cu su := by
  intro p e s m args below meth c H locs ls C hW hE hS hl hL hst
  exact lv_ldcw C.1 C.2.1 C.2.2.2.2.1 (C.2.2.2.2.2.1 _ hc) hd (k p e s m args below meth c H locs ls C hW hE hS hl hL ⟨trivial, hst⟩)
theorem r_ldc2_w {v : Int64} {idx : Nat} (hd : decode M.1 pc = .ok (.ldc2_w idx, 3)) (hc : Cond.constantLong M.2.2.2.1 idx v ∈ GW) (k : Rn l G d mc ms M h0 Q (pc + 3) L (tJ v :: st) h cu su) : Rn l G d mc ms M h0 Q pc L st h cu su := by
  intro p e s m args below meth c H locs ls C hW hE hS hl hL hst
  exact lv_ldc2 C.1 C.2.1 C.2.2.2.2.1 (C.2.2.2.2.2.1 _ hc) hd (k p e s m args below meth c H locs ls C hW hE hS hl hL ⟨trivial, hst⟩)
theorem r_ldcS {tx : String} {idx i : Nat} (hd : decode M.1 pc = .ok (.ldc idx, 2)) (hc : (M.2.2.2.1, idx, tx, i) ∈ strT) (hi : i < 16) (k : Rn l G d mc ms M h0 Q (pc + 2) L (tS i :: st) h cu su) : Rn l G d mc ms M h0 Q pc L st h cu su := by
  intro p e s m args below meth c H locs ls C hW hE hS hl hL hst
  refine va_ldcS C.1 C.2.1 C.2.2.2.2.1 (C.2.2.2.2.2.2.1.2.2.1 _ hc) hd ?_
  have q := k p e s m args below meth c H locs ls C hW hE hS hl hL ⟨Or.inl hi, hst⟩
  have e1 : (tS i :: st).map (cv G) = Value.ref (G.2.2.2.1 i) :: st.map (cv G) := by simp [cv, show i < 100 by omega]
  rw [e1] at q
  exact q
theorem fin {p : Program} {s t : State} {H : Heap} {locs : List Loc} {r : Option TV} (args : Array Value) (hq : Q r h) (hW : Wd G h H) (hE : ext h0 h) (hS : va_S (Ag G) s.heap H locs) (hr : ∀ v, r = some v → ty1 h v) (ht : t.heap = H) : PostU G h0 Q args s (.returned (r.map (cv G))) t :=
  ⟨⟨r, h, rfl, hq, hE, hr, by rw [ht]; exact hW⟩, hS.F ht⟩
theorem r_ireturn {v : Int32} (hd : decode M.1 pc = .ok (.ireturn, 1)) (hr : M.2.2.1 = some .int) (hc : cu ≤ mc ∧ su ≤ ms) (hq : Q (some (tI v)) h) : Rn l G d mc ms M h0 Q pc L [tI v] h cu su := by
  intro p e s m args below meth c H locs ls C hW hE hS hl hL hst
  have hlk := C.2.2.2.2.2.2.2.1
  exact W.widen hc.1 hc.2 (W.iret C.1 C.2.1 (C.2.2.2.1.trans hr) (fun t ht _ => fin (p := p) (r := some (tI v)) args hq hW hE hS (fun w e => by cases e; trivial) ht) hS.2.2 hd hlk)
def bz (v : Int32) : Prop := v = 0 ∨ v = 1
theorem r_zreturn {v : Int32} {ty : FieldType} (hd : decode M.1 pc = .ok (.ireturn, 1)) (hr : M.2.2.1 = some ty) (hn : narrow ty (.int v) = .int v) (hc : cu ≤ mc ∧ su ≤ ms) (hq : Q (some (tI v)) h) : Rn l G d mc ms M h0 Q pc L [tI v] h cu su := by
  intro p e s m args below meth c H locs ls C hW hE hS hl hL hst
  have hlk := C.2.2.2.2.2.2.2.1
  exact W.widen hc.1 hc.2 (W.zret C.1 C.2.1 (C.2.2.2.1.trans hr) hn (fun t ht _ => fin (p := p) (r := some (tI v)) args hq hW hE hS (fun w e => by cases e; trivial) ht) hS.2.2 hd hlk)
theorem bz_nar {v : Int32} (h : bz v) : narrow .boolean (.int v) = .int v := by
  rcases h with rfl | rfl <;> rfl
theorem r_lreturn {v : Int64} (hd : decode M.1 pc = .ok (.lreturn, 1)) (hr : M.2.2.1 = some .long) (hc : cu ≤ mc ∧ su ≤ ms) (hq : Q (some (tJ v)) h) : Rn l G d mc ms M h0 Q pc L [tJ v] h cu su := by
  intro p e s m args below meth c H locs ls C hW hE hS hl hL hst
  have hlk := C.2.2.2.2.2.2.2.1
  exact W.widen hc.1 hc.2 (W.lret C.1 C.2.1 (C.2.2.2.1.trans hr) (fun t ht _ => fin (p := p) (r := some (tJ v)) args hq hW hE hS (fun w e => by cases e; trivial) ht) hS.2.2 hd hlk)
theorem r_return (hd : decode M.1 pc = .ok (.return_, 1)) (hr : M.2.2.1 = none) (hc : cu ≤ mc ∧ su ≤ ms) (hq : Q none h) : Rn l G d mc ms M h0 Q pc L [] h cu su := by
  intro p e s m args below meth c H locs ls C hW hE hS hl hL hst
  have hlk := C.2.2.2.2.2.2.2.1
  exact W.widen hc.1 hc.2 (W.vret C.1 C.2.1 (C.2.2.2.1.trans hr) (fun t ht _ => fin (p := p) (r := none) args hq hW hE hS (fun w e => by cases e) ht) hS.2.2 hd hlk)
theorem r_areturn {k n : Nat} {r : Option Nat} {cn : String} (hd : decode M.1 pc = .ok (.areturn, 1)) (hr : M.2.2.1 = some (.object cn)) (hc : cu ≤ mc ∧ su ≤ ms) (hq : Q (some (tR k n r)) h) : Rn l G d mc ms M h0 Q pc L [tR k n r] h cu su := by
  intro p e s m args below meth c H locs ls C hW hE hS hl hL hst
  have hlk := C.2.2.2.2.2.2.2.1
  exact W.widen hc.1 hc.2 (W.aret C.1 C.2.1 (C.2.2.2.1.trans hr) (Or.inl ⟨cn, rfl⟩) (by cases r with
    | none => exact Or.inl rfl
    | some a => exact Or.inr ⟨_, rfl⟩) (fun t ht _ => fin (p := p) (r := some (tR k n r)) args hq hW hE hS (fun w e => by cases e; exact hst.1) ht) hS.2.2 hd hlk)
end RN
end
section
/-! ROWS THAT TOUCH THE HEAP -/
def Cl (ci : Nat) (C : String) (T : u_T) (ty0 : Nat → FieldType) : Prop := vwC[ci]? = some (C, T, fnum ci) ∧ ci < 20 ∧ (∀ w ∈ u_ws C T (fnum ci), w ∈ GW) ∧ (∀ k, k < fnum ci → parseFieldDescriptor (T k).2.2.1 = some (ty0 k)) ∧ (∀ a, a < fnum ci → ∀ b, b < fnum ci → a ≠ b → (T a).2.1 ≠ (T b).2.1) ∧ (∀ k, k < fnum ci → (T k).1 = C) ∧ (∀ k, k < fnum ci → defaultValue (ty0 k) = if fty ci k = 1 then .long 0 else if fty ci k = 2 then .null else .int 0)
theorem cl_0 : Cl 0 RX0 TX0 tyX0 := ⟨rfl, by decide, cw_0, tyX0_ok, nmX0, by decide +kernel, by decide +kernel⟩
theorem cl_1 : Cl 1 RX1 TX1 tyX1 := ⟨rfl, by decide, cw_1, tyX1_ok, nmX1, by decide +kernel, by decide +kernel⟩
theorem cl_2 : Cl 2 RX2 TX2 tyX2 := ⟨rfl, by decide, cw_2, tyX2_ok, nmX2, by decide +kernel, by decide +kernel⟩
theorem cl_3 : Cl 3 RX3 TX3 tyX3 := ⟨rfl, by decide, cw_3, tyX3_ok, nmX3, by decide +kernel, by decide +kernel⟩
theorem cl_4 : Cl 4 RX4 TX4 tyX4 := ⟨rfl, by decide, cw_4, tyX4_ok, nmX4, by decide +kernel, by decide +kernel⟩
theorem cl_5 : Cl 5 RX5 TX5 tyX5 := ⟨rfl, by decide, cw_5, tyX5_ok, nmX5, by decide +kernel, by decide +kernel⟩
theorem cl_6 : Cl 6 RX6 TX6 tyX6 := ⟨rfl, by decide, cw_6, tyX6_ok, nmX6, by decide +kernel, by decide +kernel⟩
theorem cl_7 : Cl 7 RX7 TX7 tyX7 := ⟨rfl, by decide, cw_7, tyX7_ok, nmX7, by decide +kernel, by decide +kernel⟩
theorem cl_8 : Cl 8 RX8 TX8 tyX8 := ⟨rfl, by decide, cw_8, tyX8_ok, nmX8, by decide +kernel, by decide +kernel⟩
theorem cl_9 : Cl 9 RX9 TX9 tyX9 := ⟨rfl, by decide, cw_9, tyX9_ok, nmX9, by decide +kernel, by decide +kernel⟩
theorem cl_10 : Cl 10 RX10 TX10 tyX10 := ⟨rfl, by decide, cw_10, tyX10_ok, nmX10, by decide +kernel, by decide +kernel⟩
theorem cl_11 : Cl 11 RX11 TX11 tyX11 := ⟨rfl, by decide, cw_11, tyX11_ok, nmX11, by decide +kernel, by decide +kernel⟩
theorem cl_12 : Cl 12 RX12 TX12 tyX12 := ⟨rfl, by decide, cw_12, tyX12_ok, nmX12, by decide +kernel, by decide +kernel⟩
theorem ext_of {h h' : Hp} (eN : hN h' = hN h) (eT : hT h' = hT h) : ext h h' := ⟨by rw [eN]; exact Nat.le_refl _, fun b _ => by rw [eT]⟩
theorem WF_wR {h : Hp} {a k ci : Nat} {r : Option Nat} (hF : WF h) (hk : (hT h a).1 < 40) (hc : (hT h a).1 % 20 = ci) (hr : ∀ b, r = some b → b < hN h ∧ (hT h b).1 = fref ci k) (hs : (hT h a).1 < 20 → fcon (hT h a).1 k a = none) : WF (wR h a k r) := by
  intro b hb
  obtain ⟨g1, g2, g3, g4⟩ := hF b hb
  refine ⟨g1, ?_, ?_, ?_⟩
  · intro hb4 j hj hty q hq
    have hq : up2 (hR h) a k r b j = some q := hq
    by_cases hab : b = a ∧ j = k
    · obtain ⟨rfl, rfl⟩ := hab
      rw [up2_self] at hq
      have z := hr q hq
      rw [← hc] at z
      exact z
    · rw [up2_ne _ _ hab] at hq
      exact g2 hb4 j hj hty q hq
  · intro hb4 j q n hq
    have z := g3 hb4 j q n hq
    refine ⟨?_, z.2⟩
    show up2 (hR h) a k r b j = some q
    by_cases hab : b = a ∧ j = k
    · obtain ⟨rfl, rfl⟩ := hab
      have e := hs hb4
      have hq : fcon (hT h b).1 j b = some (q, n) := hq
      rw [e] at hq
      cases hq
    · rw [up2_ne _ _ hab]
      exact z.1
  · intro hb4 j q hq
    have hb5 : 50 ≤ (hT h b).1 := hb4
    have hq : up2 (hR h) a k r b j = some q := hq
    by_cases hab : b = a ∧ j = k
    · rw [hab.1] at hb5
      omega
    · rw [up2_ne _ _ hab] at hq
      exact g4 hb4 j q hq
theorem WF_wA {h : Hp} {a k kd n : Nat} {r : Option Nat} (hF : WF h) (hkd : kd < 20) (hk : hT h a = (50 + kd, n)) (hr : ∀ b, r = some b → b < hN h ∧ hT h b = (kd, 0)) : WF (wR h a k r) := by
  intro b hb
  obtain ⟨g1, g2, g3, g4⟩ := hF b hb
  refine ⟨g1, ?_, ?_, ?_⟩
  · intro hb4 j hj hty q hq
    have hb5 : (hT h b).1 < 40 := hb4
    have hq : up2 (hR h) a k r b j = some q := hq
    by_cases hab : b = a ∧ j = k
    · have e5 : (hT h b).1 = 50 + kd := by rw [hab.1, hk]
      omega
    · rw [up2_ne _ _ hab] at hq
      exact g2 hb4 j hj hty q hq
  · intro hb4 j q n' hq
    have hb5 : (hT h b).1 < 20 := hb4
    have z := g3 hb4 j q n' hq
    refine ⟨?_, z.2⟩
    show up2 (hR h) a k r b j = some q
    by_cases hab : b = a ∧ j = k
    · have e5 : (hT h b).1 = 50 + kd := by rw [hab.1, hk]
      omega
    · rw [up2_ne _ _ hab]
      exact z.1
  · intro hb4 j q hq
    have hb4 : 50 ≤ (hT h b).1 := hb4
    have hq : up2 (hR h) a k r b j = some q := hq
    show q < hN h ∧ hT h q = ((hT h b).1 - 50, 0) ∧ (hT h b).1 - 50 < 20
    by_cases hab : b = a ∧ j = k
    · obtain ⟨rfl, rfl⟩ := hab
      rw [up2_self] at hq
      have z := hr q hq
      rw [hk]
      refine ⟨z.1, z.2.trans ?_, by show 50 + kd - 50 < 20; omega⟩
      show (kd, 0) = (50 + kd - 50, 0)
      rw [Nat.add_sub_cancel_left]
    · rw [up2_ne _ _ hab] at hq
      exact g4 hb4 j q hq
theorem WF_nw {h : Hp} {t : Nat × Nat} (hF : WF h) (ht : t.1 < 40 → t.2 = 0 ∧ 20 ≤ t.1) : WF (nw h t) := by
  intro a ha
  have ha : a < hN h + 1 := ha
  have eN : hN (nw h t) = hN h + 1 := rfl
  have eT : ∀ b, b < hN h → hT (nw h t) b = hT h b := fun b hb => va_up_ne _ _ (Nat.ne_of_lt hb)
  by_cases hab : a = hN h
  · subst hab
    have e1 : hT (nw h t) (hN h) = t := va_up_self _ _ _
    have e2 : hR (nw h t) (hN h) = fun _ => none := va_up_self _ _ _
    refine ⟨fun z => ?_, fun z k hk hty b hb => ?_, fun z k b n hb => ?_, fun z j b hb => ?_⟩
    · rw [e1] at z ⊢; exact (ht z).1
    · rw [e2] at hb; cases hb
    · rw [e1] at z; have := (ht (by omega)).2; omega
    · rw [e2] at hb; cases hb
  · have hlt : a < hN h := by omega
    obtain ⟨g1, g2, g3, g4⟩ := hF a hlt
    have e2 : hR (nw h t) a = hR h a := va_up_ne _ _ hab
    unfold WFa
    rw [eT a hlt, e2, eN]
    refine ⟨g1, fun z k hk hty b hb => ?_, fun z k b n hb => ?_, fun z j b hb => ?_⟩
    · have q := g2 z k hk hty b hb
      exact ⟨by omega, by rw [eT b q.1]; exact q.2⟩
    · have q := g3 z k b n hb
      exact ⟨q.1, by rw [eT b q.2.2]; exact q.2.1, by omega⟩
    · have q := g4 z j b hb
      exact ⟨by omega, by rw [eT b q.1]; exact q.2.1, q.2.2⟩
theorem ext_nw {h : Hp} {t : Nat × Nat} : ext h (nw h t) := ⟨Nat.le_succ _, fun b hb => va_up_ne _ _ (Nat.ne_of_lt hb)⟩
theorem wd_nw {G : Cx} {h : Hp} {t : Nat × Nat} {H H' : Heap} (hW : Wd G h H) (ht : t.1 < 40 → t.2 = 0 ∧ 20 ≤ t.1) (ez : H'.size = H.size + 1) (eo : ∀ q : Nat, q < H.size → H'[q]? = H[q]?) (ha : atc G (nw h t) (hN h) H') : Wd G (nw h t) H' := by
  refine ⟨by rw [ez, hW.1]; rfl, fun b hb => ?_, WF_nw hW.2.2 ht⟩
  have hb : b < hN h + 1 := hb
  by_cases hab : b = hN h
  · subst hab; exact ha
  · have hlt : b < hN h := by omega
    exact atc_same (hW.2.1 b hlt) (va_up_ne _ _ hab) (va_up_ne _ _ hab) (va_up_ne _ _ hab) (va_up_ne _ _ hab) (eo _ (by rw [hW.1]; omega))
section RH
variable {l : Launch} {G : Cx} {d mc ms : Nat} {M : Mth} {h0 : Hp} {Q : Option TV → Hp → Prop} {pc : Nat} {L : List (Option TV)} {st : List TV} {h : Hp} {cu su : Nat}
theorem r_getG {ci kd a k idx : Nat} {C : String} {T : u_T} {ty0 : Nat → FieldType} {w : TV} (cl : Cl ci C T ty0) (hd : decode M.1 pc = .ok (.getfield idx, 3)) (hl : Cond.fieldLink M.2.2.2.1 idx (T k).1 (T k).2.1 (T k).2.2.1 ∈ GW) (hk : k < fnum ci) (hkd : kd = ci ∨ kd = 20 + ci)
    (hw : WF h → hT h a = (kd, 0) → a < hN h → cv G w = fv G h ci a k ∧ ty1 h w) (kk : Rn l G d mc ms M h0 Q (pc + 3) L (w :: st) h cu su) : Rn l G d mc ms M h0 Q pc L (tR kd 0 (some a) :: st) h cu su := by
  intro p e s m args below meth c H locs ls C0 hW hE hS hl0 hL hst
  obtain ⟨ha, hta⟩ := hst.1 a rfl
  obtain ⟨e1, e2⟩ := hw hW.2.2 hta ha
  have hat : atO G h ci a H := (atc_O (by rw [hta]; exact hkd) cl.2.1).mp (hW.2.1 a ha)
  obtain ⟨cell, q1, q2, q3, q4⟩ := hat
  obtain ⟨hSl, hfc, kC, hkC, hkind⟩ := C0.2.2.2.2.2.2.1.1.1 ci _ cl.1
  obtain ⟨cf, kf, fi, f, hi, hsl⟩ := hSl k hk
  have hts := C0.2.2.2.2.2.1
  refine W.getf C0.1 C0.2.1 C0.2.2.2.2.1 (hts _ hl) hi (u_facts hfc hkC (u_lays hts cl.2.2.1 hk) hi).1 q1 (by rw [q3]; exact fun z => by cases z) (v := cv G w) ?_ rfl rfl hd (kk p e s m args below meth c H locs ls C0 hW hE hS hl0 hL ⟨e2, hst.2⟩)
  rw [hsl, q4 k hk, e1]
theorem r_getI {ci kd a k idx : Nat} {C : String} {T : u_T} {ty0 : Nat → FieldType} (cl : Cl ci C T ty0) (hd : decode M.1 pc = .ok (.getfield idx, 3)) (hl : Cond.fieldLink M.2.2.2.1 idx (T k).1 (T k).2.1 (T k).2.2.1 ∈ GW) (hkd : kd = ci ∨ kd = 20 + ci) (hf : fty ci k = 0 ∨ fty ci k = 3) (kk : Rn l G d mc ms M h0 Q (pc + 3) L (tI (hI h a k) :: st) h cu su) : Rn l G d mc ms M h0 Q pc L (tR kd 0 (some a) :: st) h cu su :=
  r_getG (w := tI (hI h a k)) cl hd hl (fty_lt (by omega)) hkd (fun _ _ _ => ⟨by
    have h1 : ¬ fty ci k = 1 := by omega
    have h2 : ¬ fty ci k = 2 := by omega
    simp only [fv, if_neg h1, if_neg h2]; rfl, trivial⟩) kk
theorem r_getJ {ci kd a k idx : Nat} {C : String} {T : u_T} {ty0 : Nat → FieldType} (cl : Cl ci C T ty0) (hd : decode M.1 pc = .ok (.getfield idx, 3)) (hl : Cond.fieldLink M.2.2.2.1 idx (T k).1 (T k).2.1 (T k).2.2.1 ∈ GW) (hkd : kd = ci ∨ kd = 20 + ci) (hf : fty ci k = 1) (kk : Rn l G d mc ms M h0 Q (pc + 3) L (tJ (hJ h a k) :: st) h cu su) : Rn l G d mc ms M h0 Q pc L (tR kd 0 (some a) :: st) h cu su :=
  r_getG (w := tJ (hJ h a k)) cl hd hl (fty_lt (by omega)) hkd (fun _ _ _ => ⟨by simp only [fv, if_pos hf]; rfl, trivial⟩) kk
/-- a field that holds one reference for good -/
theorem r_getC {ci a k idx b n rk : Nat} {C : String} {T : u_T} {ty0 : Nat → FieldType} (cl : Cl ci C T ty0) (hd : decode M.1 pc = .ok (.getfield idx, 3)) (hl : Cond.fieldLink M.2.2.2.1 idx (T k).1 (T k).2.1 (T k).2.2.1 ∈ GW) (hf : fty ci k = 2) (hr : fref ci k = rk) (hc : fcon ci k a = some (b, n)) (kk : Rn l G d mc ms M h0 Q (pc + 3) L (tR rk n (some b) :: st) h cu su) : Rn l G d mc ms M h0 Q pc L (tR ci 0 (some a) :: st) h cu su :=
  r_getG (w := tR rk n (some b)) cl hd hl (fty_lt (by omega)) (Or.inl rfl) (fun hF hta ha => by
    have z := (hF a ha).2.2.1 (by rw [hta]; exact cl.2.1) k b n (by rw [hta]; exact hc)
    have h1 : ¬ fty ci k = 1 := by omega
    refine ⟨?_, fun q hq => ?_⟩
    · simp only [fv, if_neg h1, if_pos hf, z.1]; rfl
    · cases hq
      refine ⟨z.2.2, z.2.1.trans ?_⟩
      rw [hta]
      show (fref ci k, n) = (rk, n)
      rw [hr]) kk
/-- any other reference field: an object, or null -/
theorem r_getR {ci kd a k idx rk : Nat} {C : String} {T : u_T} {ty0 : Nat → FieldType} (cl : Cl ci C T ty0) (hd : decode M.1 pc = .ok (.getfield idx, 3)) (hl : Cond.fieldLink M.2.2.2.1 idx (T k).1 (T k).2.1 (T k).2.2.1 ∈ GW) (hkd : kd = ci ∨ kd = 20 + ci) (hf : fty ci k = 2) (hr : fref ci k = rk) (hk : rk < 40) (kk : Rn l G d mc ms M h0 Q (pc + 3) L (tR rk 0 (hR h a k) :: st) h cu su) : Rn l G d mc ms M h0 Q pc L (tR kd 0 (some a) :: st) h cu su :=
  r_getG (w := tR rk 0 (hR h a k)) cl hd hl (fty_lt (by omega)) hkd (fun hF hta ha => by
    have h1 : ¬ fty ci k = 1 := by omega
    have hci := cl.2.1
    refine ⟨?_, fun q hq => ?_⟩
    · simp only [fv, if_neg h1, if_pos hf]; rfl
    · have e : (hT h a).1 % 20 = ci := by rw [hta]; show kd % 20 = ci; omega
      have z := (hF a ha).2.1 (by rw [hta]; show kd < 40; omega) k (by rw [e]; exact fty_lt (by omega)) (by rw [e]; exact hf) q hq
      rw [e, hr] at z
      refine ⟨z.1, Prod.ext z.2 ?_⟩
      exact (hF q z.1).1 (by rw [z.2]; exact hk)) kk
/-- a reference field of an object that is being made -/
theorem r_getW {ci kd a k idx b n rk : Nat} {C : String} {T : u_T} {ty0 : Nat → FieldType} (cl : Cl ci C T ty0) (hd : decode M.1 pc = .ok (.getfield idx, 3)) (hl : Cond.fieldLink M.2.2.2.1 idx (T k).1 (T k).2.1 (T k).2.2.1 ∈ GW) (hkd : kd = ci ∨ kd = 20 + ci) (hf : fty ci k = 2) (hv : hR h a k = some b) (ht : hT h b = (rk, n)) (kk : Rn l G d mc ms M h0 Q (pc + 3) L (tR rk n (some b) :: st) h cu su) : Rn l G d mc ms M h0 Q pc L (tR kd 0 (some a) :: st) h cu su :=
  r_getG (w := tR rk n (some b)) cl hd hl (fty_lt (by omega)) hkd (fun hF hta ha => by
    have h1 : ¬ fty ci k = 1 := by omega
    have hci := cl.2.1
    refine ⟨?_, fun q hq => ?_⟩
    · simp only [fv, if_neg h1, if_pos hf, hv]; rfl
    · have e : (hT h a).1 % 20 = ci := by rw [hta]; show kd % 20 = ci; omega
      cases hq
      have z := (hF a ha).2.1 (by rw [hta]; show kd < 40; omega) k (by rw [e]; exact fty_lt (by omega)) (by rw [e]; exact hf) b hv
      exact ⟨z.1, ht⟩) kk
theorem r_putG {ci kd a k idx : Nat} {C : String} {T : u_T} {ty0 : Nat → FieldType} {v : TV} {h' : Hp} (cl : Cl ci C T ty0) (hd : decode M.1 pc = .ok (.putfield idx, 3)) (hl : Cond.fieldLink M.2.2.2.1 idx (T k).1 (T k).2.1 (T k).2.2.1 ∈ GW) (hk : k < fnum ci) (hkd : kd = ci ∨ kd = 20 + ci)
    (hfin : (T k).2.2.2 = false ∨ ((T k).2.2.2 = true ∧ M.2.2.2.2 = "<init>" ∧ C = M.2.2.2.1)) (hn : narrow (ty0 k) (cv G v) = cv G v) (hfit : fits (ty0 k) (cv G v) = true) (eN : hN h' = hN h) (eT : hT h' = hT h) (ho : ∀ b, b ≠ a → hI h' b = hI h b ∧ hJ h' b = hJ h b ∧ hR h' b = hR h b)
    (hfv : ∀ j, j < fnum ci → updV (fv G h ci a) k (cv G v) j = fv G h' ci a j) (hF : WF h → ty1 h v → a < hN h → hT h a = (kd, 0) → WF h') (kk : Rn l G d mc ms M h0 Q (pc + 3) L st h' cu su) : Rn l G d mc ms M h0 Q pc L (v :: tR kd 0 (some a) :: st) h cu su := by
  intro p e s m args below meth c H locs ls C0 hW hE hS hl0 hL hst
  obtain ⟨ha, hta⟩ := hst.2.1 a rfl
  have hat : atO G h ci a H := (atc_O (by rw [hta]; exact hkd) cl.2.1).mp (hW.2.1 a ha)
  obtain ⟨cell, q1, q2, q3, q4⟩ := hat
  have hK := C0.2.2.2.2.2.2.1.1
  have hts := C0.2.2.2.2.2.1
  have hown := C0.2.2.2.2.1
  obtain ⟨hcl1, hcl2, hin, hty, hnm, hdc, -⟩ := cl
  have hap := va_apart (own := M.2.2.2.1) hts hin ty0 hty hnm hK hcl1
  obtain ⟨hSl, hfc, kC, hkC, hkind⟩ := hK.1 ci _ hcl1
  obtain ⟨cf, kf, fi, f, hi, hsl⟩ := hSl k hk
  have hst' := (u_facts hfc hkC (u_lays hts hin hk) hi).1
  have hlay := hts _ (hin _ (u_in_lay hk))
  unfold u_lay at hlay
  have hee : ext h h' := ext_of eN eT
  have fin : ∀ H' : Heap, H'[G.1 + a]? = some (cell.setSlot (G.2.1.2 ci k) (cv G v)) → H'.size = H.size → (∀ q, q ≠ G.1 + a → H'[q]? = H[q]?) → W p l e (rmOf d mc ms) s m args below meth c H' (locs ++ [⟨G.1 + a, G.2.1.2 ci k⟩]) cu su (MQ below (PostU G h0 Q) args s mc ms (Ag G)) (F0 m (pc + 3) ls (st.map (cv G))) := by
    intro H' e1 e2 e3
    refine kk p e s m args below meth c H' _ ls C0 (wd_set hW e2 e3 eN eT ho (hF hW.2.2 hst.1 ha hta) (fun _ => ?_)) (hE.trans hee) (hS.put e2 e3 (Nat.le_add_right _ _)) hl0 (hL.ext hee) (hst.2.2.ext hee)
    refine (atc_O (by rw [eT, hta]; exact hkd) hcl2).mpr ?_
    exact t_OB.to (V := updV (fv G h ci a) k (cv G v)) ⟨_, e1, q2, q3, t_set q4 hap hk _⟩ hfv
  rcases hfin with hfn | ⟨hfn, hin2, hCo⟩
  · rw [if_neg (by rw [hfn]; decide)] at hlay
    have h6 := u_store hfc hkC hkind hlay hi (hty k hk) hn hfit
    refine W.putK C0.1 C0.2.1 (f := f) ⟨hown, hts _ hl, ⟨_, _, _, hi⟩, hst'⟩ (by rw [q2]; exact h6) q1 q3 (by rw [hsl]; exact k2_hasslot (q4 k hk)) rfl rfl hd fun H' e1 e2 e3 => ?_
    rw [hsl] at e1 ⊢
    exact fin H' e1 e2 e3
  · rw [if_pos hfn] at hlay
    have hcf : m.cls = cf := by
      obtain ⟨_, _, c', _, _, _, -, -, hf', -, -, -, hown2, -⟩ := Cond.laysFinal_spec hlay
      have e1 : c' = cf := by have := hi.symm.trans hf'; simp at this; exact this.1.symm
      rw [hdc k hk, hCo] at hown2
      rw [← e1]; exact Option.some.inj (hown.symm.trans hown2)
    have h6 := u_fits hfc hkC hkind (Or.inr hlay) hi (hty k hk) hn hfit
    refine W.putFinK C0.1 C0.2.1 hown (hts _ hl) hi hst' hcf (C0.2.2.2.2.2.2.2.2.trans hin2) (by rw [q2]; exact h6) q1 q3 (by rw [hsl]; exact k2_hasslot (q4 k hk)) rfl rfl hd fun H' e1 e2 e3 => ?_
    rw [hsl] at e1 ⊢
    exact fin H' e1 e2 e3
theorem r_putI {ci kd a k idx : Nat} {C : String} {T : u_T} {ty0 : Nat → FieldType} {x : Int32} (cl : Cl ci C T ty0) (hd : decode M.1 pc = .ok (.putfield idx, 3)) (hl : Cond.fieldLink M.2.2.2.1 idx (T k).1 (T k).2.1 (T k).2.2.1 ∈ GW) (hkd : kd = ci ∨ kd = 20 + ci) (hf : fty ci k = 0 ∨ fty ci k = 3)
    (hfin : (T k).2.2.2 = false ∨ ((T k).2.2.2 = true ∧ M.2.2.2.2 = "<init>" ∧ C = M.2.2.2.1)) (hn : narrow (ty0 k) (.int x) = .int x) (hfit : fits (ty0 k) (.int x) = true) (kk : Rn l G d mc ms M h0 Q (pc + 3) L st (wI h a k x) cu su) : Rn l G d mc ms M h0 Q pc L (tI x :: tR kd 0 (some a) :: st) h cu su := by
  refine r_putG (v := tI x) (h' := wI h a k x) cl hd hl (fty_lt (by omega)) hkd hfin hn hfit rfl rfl (fun b hb => ⟨up2_row _ _ hb, rfl, rfl⟩) (fun j hj => ?_) (fun hF _ _ _ => WF_of hF rfl rfl rfl) kk
  by_cases hjk : j = k
  · subst hjk
    have h1 : ¬ fty ci j = 1 := by omega
    have h2 : ¬ fty ci j = 2 := by omega
    simp only [updV, fv, if_neg h1, if_neg h2, if_true]
    show Value.int x = .int (up2 (hI h) a j x a j)
    rw [up2_self]
  · simp only [updV, if_neg hjk]
    show fv G h ci a j = _
    simp only [fv]
    show _ = if fty ci j = 1 then Value.long (hJ h a j) else if fty ci j = 2 then rb G (hR h a j) else .int (up2 (hI h) a k x a j)
    rw [up2_ne _ _ (fun z => hjk z.2)]
theorem r_putJ {ci kd a k idx : Nat} {C : String} {T : u_T} {ty0 : Nat → FieldType} {x : Int64} (cl : Cl ci C T ty0) (hd : decode M.1 pc = .ok (.putfield idx, 3)) (hl : Cond.fieldLink M.2.2.2.1 idx (T k).1 (T k).2.1 (T k).2.2.1 ∈ GW) (hkd : kd = ci ∨ kd = 20 + ci) (hf : fty ci k = 1)
    (hfin : (T k).2.2.2 = false ∨ ((T k).2.2.2 = true ∧ M.2.2.2.2 = "<init>" ∧ C = M.2.2.2.1)) (hn : narrow (ty0 k) (.long x) = .long x) (hfit : fits (ty0 k) (.long x) = true) (kk : Rn l G d mc ms M h0 Q (pc + 3) L st (wJ h a k x) cu su) : Rn l G d mc ms M h0 Q pc L (tJ x :: tR kd 0 (some a) :: st) h cu su := by
  refine r_putG (v := tJ x) (h' := wJ h a k x) cl hd hl (fty_lt (by omega)) hkd hfin hn hfit rfl rfl (fun b hb => ⟨rfl, up2_row _ _ hb, rfl⟩) (fun j hj => ?_) (fun hF _ _ _ => WF_of hF rfl rfl rfl) kk
  by_cases hjk : j = k
  · subst hjk
    simp only [updV, fv, if_pos hf, if_true]
    show Value.long x = .long (up2 (hJ h) a j x a j)
    rw [up2_self]
  · simp only [updV, if_neg hjk]
    show fv G h ci a j = _
    simp only [fv]
    show _ = if fty ci j = 1 then Value.long (up2 (hJ h) a k x a j) else if fty ci j = 2 then rb G (hR h a j) else .int (hI h a j)
    rw [up2_ne _ _ (fun z => hjk z.2)]
theorem r_putR {ci kd a k idx rk n : Nat} {C : String} {T : u_T} {ty0 : Nat → FieldType} {r : Option Nat} (cl : Cl ci C T ty0) (hd : decode M.1 pc = .ok (.putfield idx, 3)) (hl : Cond.fieldLink M.2.2.2.1 idx (T k).1 (T k).2.1 (T k).2.2.1 ∈ GW) (hkd : kd = ci ∨ kd = 20 + ci) (hf : fty ci k = 2) (hr : fref ci k = rk) (hs : kd < 20 → fcon kd k a = none)
    (hfin : (T k).2.2.2 = false ∨ ((T k).2.2.2 = true ∧ M.2.2.2.2 = "<init>" ∧ C = M.2.2.2.1)) (hn : ∀ q, narrow (ty0 k) (.ref q) = .ref q ∧ fits (ty0 k) (.ref q) = true) (hn0 : narrow (ty0 k) .null = .null ∧ fits (ty0 k) .null = true) (kk : Rn l G d mc ms M h0 Q (pc + 3) L st (wR h a k r) cu su) : Rn l G d mc ms M h0 Q pc L (tR rk n r :: tR kd 0 (some a) :: st) h cu su := by
  have hci := cl.2.1
  refine r_putG (v := tR rk n r) (h' := wR h a k r) cl hd hl (fty_lt (by omega)) hkd hfin (by cases r with
    | none => exact hn0.1
    | some q => exact (hn _).1) (by cases r with
    | none => exact hn0.2
    | some q => exact (hn _).2) rfl rfl (fun b hb => ⟨rfl, rfl, up2_row _ _ hb⟩) (fun j hj => ?_) (fun hF ht ha hta => ?_) kk
  · have h1 : ¬ fty ci k = 1 := by omega
    by_cases hjk : j = k
    · subst hjk
      simp only [updV, fv, if_neg h1, if_pos hf, if_true]
      show rb G r = rb G (up2 (hR h) a j r a j)
      rw [up2_self]
    · simp only [updV, if_neg hjk]
      show fv G h ci a j = _
      simp only [fv]
      show _ = if fty ci j = 1 then Value.long (hJ h a j) else if fty ci j = 2 then rb G (up2 (hR h) a k r a j) else .int (hI h a j)
      rw [up2_ne _ _ (fun z => hjk z.2)]
  · refine WF_wR (ci := ci) hF (by rw [hta]; show kd < 40; omega) (by rw [hta]; show kd % 20 = ci; omega) (fun b hb => ?_) (by rw [hta]; exact hs)
    have z := ht b hb
    exact ⟨z.1, by rw [z.2]; exact hr.symm⟩
theorem r_iald {n a : Nat} {i : Int32} (hd : decode M.1 pc = .ok (.iaload, 1)) (hin : vp_in i n) (kk : Rn l G d mc ms M h0 Q (pc + 1) L (tI (hI h a i.toNatClampNeg) :: st) h cu su) : Rn l G d mc ms M h0 Q pc L (tI i :: tR 40 n (some a) :: st) h cu su := by
  intro p e s m args below meth c H locs ls C0 hW hE hS hl0 hL hst
  obtain ⟨ha, hta⟩ := hst.2.1 a rfl
  have hat : atA G h 40 n a H := (atc_A hta (by decide)).mp (hW.2.1 a ha)
  have hK := C0.2.2.2.2.2.2.1.1
  have hlt : i.toNatClampNeg < n := Nat.not_le.mp fun q => hin (Or.inr q)
  exact W.iald C0.1 C0.2.1 hat ((hK.2 0 _ rfl).1 n _) (fun q => by cases q) (by rw [arrV_size]; exact hin) (v := .int (hI h a i.toNatClampNeg)) (by rw [arrV_read _ _ hlt]; rfl) rfl rfl hd (kk p e s m args below meth c H locs ls C0 hW hE hS hl0 hL ⟨trivial, hst.2.2⟩)
theorem r_bald {n a : Nat} {i : Int32} (hd : decode M.1 pc = .ok (.baload, 1)) (hin : vp_in i n) (kk : Rn l G d mc ms M h0 Q (pc + 1) L (tI (hI h a i.toNatClampNeg) :: st) h cu su) : Rn l G d mc ms M h0 Q pc L (tI i :: tR 41 n (some a) :: st) h cu su := by
  intro p e s m args below meth c H locs ls C0 hW hE hS hl0 hL hst
  obtain ⟨ha, hta⟩ := hst.2.1 a rfl
  have hat : atA G h 41 n a H := (atc_A hta (by decide)).mp (hW.2.1 a ha)
  have hK := C0.2.2.2.2.2.2.1.1
  have hlt : i.toNatClampNeg < n := Nat.not_le.mp fun q => hin (Or.inr q)
  exact W.bald C0.1 C0.2.1 hat ((hK.2 1 _ rfl).1 n _) (fun q => by cases q) (by rw [arrV_size]; exact hin) (v := .int (hI h a i.toNatClampNeg)) (by rw [arrV_read _ _ hlt]; rfl) rfl rfl hd (kk p e s m args below meth c H locs ls C0 hW hE hS hl0 hL ⟨trivial, hst.2.2⟩)
theorem r_zald {n a : Nat} {i : Int32} (hd : decode M.1 pc = .ok (.baload, 1)) (hin : vp_in i n) (kk : Rn l G d mc ms M h0 Q (pc + 1) L (tI (hI h a i.toNatClampNeg) :: st) h cu su) : Rn l G d mc ms M h0 Q pc L (tI i :: tR 42 n (some a) :: st) h cu su := by
  intro p e s m args below meth c H locs ls C0 hW hE hS hl0 hL hst
  obtain ⟨ha, hta⟩ := hst.2.1 a rfl
  have hat : atA G h 42 n a H := (atc_A hta (by decide)).mp (hW.2.1 a ha)
  have hK := C0.2.2.2.2.2.2.1.1
  have hlt : i.toNatClampNeg < n := Nat.not_le.mp fun q => hin (Or.inr q)
  exact W.zald C0.1 C0.2.1 hat ((hK.2 2 _ rfl).1 n _) (fun q => by cases q) (by rw [arrV_size]; exact hin) (v := .int (hI h a i.toNatClampNeg)) (by rw [arrV_read _ _ hlt]; rfl) rfl rfl hd (kk p e s m args below meth c H locs ls C0 hW hE hS hl0 hL ⟨trivial, hst.2.2⟩)
theorem r_lald {n a : Nat} {i : Int32} (hd : decode M.1 pc = .ok (.laload, 1)) (hin : vp_in i n) (kk : Rn l G d mc ms M h0 Q (pc + 1) L (tJ (hJ h a i.toNatClampNeg) :: st) h cu su) : Rn l G d mc ms M h0 Q pc L (tI i :: tR 43 n (some a) :: st) h cu su := by
  intro p e s m args below meth c H locs ls C0 hW hE hS hl0 hL hst
  obtain ⟨ha, hta⟩ := hst.2.1 a rfl
  have hat : atA G h 43 n a H := (atc_A hta (by decide)).mp (hW.2.1 a ha)
  have hK := C0.2.2.2.2.2.2.1.1
  have hlt : i.toNatClampNeg < n := Nat.not_le.mp fun q => hin (Or.inr q)
  exact W.lald C0.1 C0.2.1 hat ((hK.2 3 _ rfl).1 n _) (fun q => by cases q) (by rw [arrV_size]; exact hin) (v := .long (hJ h a i.toNatClampNeg)) (by rw [arrV_read _ _ hlt]; rfl) rfl rfl hd (kk p e s m args below meth c H locs ls C0 hW hE hS hl0 hL ⟨trivial, hst.2.2⟩)
theorem r_iast {n a : Nat} {i : Int32} {x : Int32} (hd : decode M.1 pc = .ok (.iastore, 1)) (hin : vp_in i n) (kk : Rn l G d mc ms M h0 Q (pc + 1) L st (wI h a i.toNatClampNeg x) cu su) : Rn l G d mc ms M h0 Q pc L (tI x :: tI i :: tR 40 n (some a) :: st) h cu su := by
  intro p e s m args below meth c H locs ls C0 hW hE hS hl0 hL hst
  obtain ⟨ha, hta⟩ := hst.2.2.1 a rfl
  have hat : atA G h 40 n a H := (atc_A hta (by decide)).mp (hW.2.1 a ha)
  have hK := C0.2.2.2.2.2.2.1.1
  refine W.iast C0.1 C0.2.1 hat ((hK.2 0 _ rfl).1 n _) (fun q => by cases q) (by rw [arrV_size]; exact hin) rfl rfl hd fun H1 e1 z oq => ?_
  have hee : ext h (wI h a i.toNatClampNeg x) := ext_of rfl rfl
  refine kk p e s m args below meth c H1 _ ls C0 (wd_set hW z oq rfl rfl (fun b hb => ⟨up2_row _ _ hb, rfl, rfl⟩) (WF_of hW.2.2 rfl rfl rfl) (fun _ => ?_)) (hE.trans hee) (hS.put z oq (Nat.le_add_right _ _)) hl0 (hL.ext hee) (hst.2.2.2.ext hee)
  refine (atc_A (kind := 40) (n := n) (show hT (wI h a i.toNatClampNeg x) a = _ from hta) (by decide)).mpr ?_
  unfold atA
  rw [e1, arrV_store]
  congr 2
  funext q
  by_cases hq : q = i.toNatClampNeg
  · subst hq
    simp only [updV, if_true]
    show _ = ev G (wI h a i.toNatClampNeg x) 40 a i.toNatClampNeg
    simp only [ev, wI]
    first | rfl | (simp [hI, hJ, up2]; rfl) | simp [hI, hJ, up2] | (simp [hI, hJ, up2, narrow])
  · simp only [updV, if_neg hq]
    show ev G h 40 a q = ev G (wI h a i.toNatClampNeg x) 40 a q
    simp only [ev, wI, hI, hJ, hR, up2_ne _ _ (fun z : a = a ∧ q = i.toNatClampNeg => hq z.2)]
theorem r_bast {n a : Nat} {i : Int32} {x : Int32} (hd : decode M.1 pc = .ok (.bastore, 1)) (hin : vp_in i n) (kk : Rn l G d mc ms M h0 Q (pc + 1) L st (wI h a i.toNatClampNeg x.toInt8.toInt32) cu su) : Rn l G d mc ms M h0 Q pc L (tI x :: tI i :: tR 41 n (some a) :: st) h cu su := by
  intro p e s m args below meth c H locs ls C0 hW hE hS hl0 hL hst
  obtain ⟨ha, hta⟩ := hst.2.2.1 a rfl
  have hat : atA G h 41 n a H := (atc_A hta (by decide)).mp (hW.2.1 a ha)
  have hK := C0.2.2.2.2.2.2.1.1
  refine W.bast C0.1 C0.2.1 hat ((hK.2 1 _ rfl).1 n _) (fun q => by cases q) (by rw [arrV_size]; exact hin) rfl rfl hd fun H1 e1 z oq => ?_
  have hee : ext h (wI h a i.toNatClampNeg x.toInt8.toInt32) := ext_of rfl rfl
  refine kk p e s m args below meth c H1 _ ls C0 (wd_set hW z oq rfl rfl (fun b hb => ⟨up2_row _ _ hb, rfl, rfl⟩) (WF_of hW.2.2 rfl rfl rfl) (fun _ => ?_)) (hE.trans hee) (hS.put z oq (Nat.le_add_right _ _)) hl0 (hL.ext hee) (hst.2.2.2.ext hee)
  refine (atc_A (kind := 41) (n := n) (show hT (wI h a i.toNatClampNeg x.toInt8.toInt32) a = _ from hta) (by decide)).mpr ?_
  unfold atA
  rw [e1, arrV_store]
  congr 2
  funext q
  by_cases hq : q = i.toNatClampNeg
  · subst hq
    simp only [updV, if_true]
    show _ = ev G (wI h a i.toNatClampNeg x.toInt8.toInt32) 41 a i.toNatClampNeg
    simp only [ev, wI]
    first | rfl | (simp [hI, hJ, up2]; rfl) | simp [hI, hJ, up2] | (simp [hI, hJ, up2, narrow])
  · simp only [updV, if_neg hq]
    show ev G h 41 a q = ev G (wI h a i.toNatClampNeg x.toInt8.toInt32) 41 a q
    simp only [ev, wI, hI, hJ, hR, up2_ne _ _ (fun z : a = a ∧ q = i.toNatClampNeg => hq z.2)]
theorem r_zast {n a : Nat} {i : Int32} {x : Int32} (hd : decode M.1 pc = .ok (.bastore, 1)) (hin : vp_in i n) (kk : Rn l G d mc ms M h0 Q (pc + 1) L st (wI h a i.toNatClampNeg (x &&& 1)) cu su) : Rn l G d mc ms M h0 Q pc L (tI x :: tI i :: tR 42 n (some a) :: st) h cu su := by
  intro p e s m args below meth c H locs ls C0 hW hE hS hl0 hL hst
  obtain ⟨ha, hta⟩ := hst.2.2.1 a rfl
  have hat : atA G h 42 n a H := (atc_A hta (by decide)).mp (hW.2.1 a ha)
  have hK := C0.2.2.2.2.2.2.1.1
  refine W.zast C0.1 C0.2.1 hat ((hK.2 2 _ rfl).1 n _) (fun q => by cases q) (by rw [arrV_size]; exact hin) rfl rfl hd fun H1 e1 z oq => ?_
  have hee : ext h (wI h a i.toNatClampNeg (x &&& 1)) := ext_of rfl rfl
  refine kk p e s m args below meth c H1 _ ls C0 (wd_set hW z oq rfl rfl (fun b hb => ⟨up2_row _ _ hb, rfl, rfl⟩) (WF_of hW.2.2 rfl rfl rfl) (fun _ => ?_)) (hE.trans hee) (hS.put z oq (Nat.le_add_right _ _)) hl0 (hL.ext hee) (hst.2.2.2.ext hee)
  refine (atc_A (kind := 42) (n := n) (show hT (wI h a i.toNatClampNeg (x &&& 1)) a = _ from hta) (by decide)).mpr ?_
  unfold atA
  rw [e1, arrV_store]
  congr 2
  funext q
  by_cases hq : q = i.toNatClampNeg
  · subst hq
    simp only [updV, if_true]
    show _ = ev G (wI h a i.toNatClampNeg (x &&& 1)) 42 a i.toNatClampNeg
    simp only [ev, wI]
    first | rfl | (simp [hI, hJ, up2]; rfl) | simp [hI, hJ, up2] | (simp [hI, hJ, up2, narrow])
  · simp only [updV, if_neg hq]
    show ev G h 42 a q = ev G (wI h a i.toNatClampNeg (x &&& 1)) 42 a q
    simp only [ev, wI, hI, hJ, hR, up2_ne _ _ (fun z : a = a ∧ q = i.toNatClampNeg => hq z.2)]
theorem r_last {n a : Nat} {i : Int32} {x : Int64} (hd : decode M.1 pc = .ok (.lastore, 1)) (hin : vp_in i n) (kk : Rn l G d mc ms M h0 Q (pc + 1) L st (wJ h a i.toNatClampNeg x) cu su) : Rn l G d mc ms M h0 Q pc L (tJ x :: tI i :: tR 43 n (some a) :: st) h cu su := by
  intro p e s m args below meth c H locs ls C0 hW hE hS hl0 hL hst
  obtain ⟨ha, hta⟩ := hst.2.2.1 a rfl
  have hat : atA G h 43 n a H := (atc_A hta (by decide)).mp (hW.2.1 a ha)
  have hK := C0.2.2.2.2.2.2.1.1
  refine W.last C0.1 C0.2.1 hat ((hK.2 3 _ rfl).1 n _) (fun q => by cases q) (by rw [arrV_size]; exact hin) rfl rfl hd fun H1 e1 z oq => ?_
  have hee : ext h (wJ h a i.toNatClampNeg x) := ext_of rfl rfl
  refine kk p e s m args below meth c H1 _ ls C0 (wd_set hW z oq rfl rfl (fun b hb => ⟨rfl, up2_row _ _ hb, rfl⟩) (WF_of hW.2.2 rfl rfl rfl) (fun _ => ?_)) (hE.trans hee) (hS.put z oq (Nat.le_add_right _ _)) hl0 (hL.ext hee) (hst.2.2.2.ext hee)
  refine (atc_A (kind := 43) (n := n) (show hT (wJ h a i.toNatClampNeg x) a = _ from hta) (by decide)).mpr ?_
  unfold atA
  rw [e1, arrV_store]
  congr 2
  funext q
  by_cases hq : q = i.toNatClampNeg
  · subst hq
    simp only [updV, if_true]
    show _ = ev G (wJ h a i.toNatClampNeg x) 43 a i.toNatClampNeg
    simp only [ev, wJ]
    first | rfl | (simp [hI, hJ, up2]; rfl) | simp [hI, hJ, up2] | (simp [hI, hJ, up2, narrow])
  · simp only [updV, if_neg hq]
    show ev G h 43 a q = ev G (wJ h a i.toNatClampNeg x) 43 a q
    simp only [ev, wJ, hI, hJ, hR, up2_ne _ _ (fun z : a = a ∧ q = i.toNatClampNeg => hq z.2)]
theorem r_alen {kd ti n a : Nat} {ty : FieldType} {v : Int32} (hd : decode M.1 pc = .ok (.arraylength, 1)) (ht : (tysG G)[ti]? = some (G.2.2.1 kd, ty)) (hk : 40 ≤ kd) (hv : Int32.ofNat n = v) (kk : Rn l G d mc ms M h0 Q (pc + 1) L (tI v :: st) h cu su) : Rn l G d mc ms M h0 Q pc L (tR kd n (some a) :: st) h cu su := by
  intro p e s m args below meth c H locs ls C0 hW hE hS hl0 hL hst
  obtain ⟨ha, hta⟩ := hst.1 a rfl
  have hat : atA G h kd n a H := (atc_A hta hk).mp (hW.2.1 a ha)
  have hK := C0.2.2.2.2.2.2.1.1
  exact W.alen C0.1 C0.2.1 hat ((hK.2 ti _ ht).1 n _) (by rw [arrV_size]; exact hv) rfl rfl hd (kk p e s m args below meth c H locs ls C0 hW hE hS hl0 hL ⟨trivial, hst.2⟩)
theorem r_aald {kd ti n a : Nat} {cn : String} {i : Int32} (hd : decode M.1 pc = .ok (.aaload, 1)) (ht : (tysG G)[ti]? = some (G.2.2.1 (50 + kd), .object cn)) (hin : vp_in i n) (kk : Rn l G d mc ms M h0 Q (pc + 1) L (tR kd 0 (hR h a i.toNatClampNeg) :: st) h cu su) : Rn l G d mc ms M h0 Q pc L (tI i :: tR (50 + kd) n (some a) :: st) h cu su := by
  intro p e s m args below meth c H locs ls C0 hW hE hS hl0 hL hst
  obtain ⟨ha, hta⟩ := hst.2.1 a rfl
  have hat : atA G h (50 + kd) n a H := (atc_A hta (by omega)).mp (hW.2.1 a ha)
  have hK := C0.2.2.2.2.2.2.1.1
  have hlt : i.toNatClampNeg < n := Nat.not_le.mp fun q => hin (Or.inr q)
  have e1 : ev G h (50 + kd) a i.toNatClampNeg = rb G (hR h a i.toNatClampNeg) := by
    have g1 : ¬ 50 + kd = 43 := by omega
    have g2 : ¬ 50 + kd < 43 := by omega
    simp only [ev, if_neg g1, if_neg g2]
  refine W.aald C0.1 C0.2.1 hat ((hK.2 ti _ ht).1 n _) rfl (fun q => by cases q) (by rw [arrV_size]; exact hin) (v := rb G (hR h a i.toNatClampNeg)) (by rw [arrV_read _ _ hlt, e1]) rfl rfl hd (kk p e s m args below meth c H locs ls C0 hW hE hS hl0 hL ⟨fun b hb => ?_, hst.2.2⟩)
  have z := (hW.2.2 a ha).2.2.2 (by rw [hta]; show 50 ≤ 50 + kd; omega) _ b hb
  rw [hta] at z
  refine ⟨z.1, z.2.1.trans ?_⟩
  show (50 + kd - 50, 0) = (kd, 0)
  rw [Nat.add_sub_cancel_left]
theorem r_aast {kd ti n a : Nat} {C : String} {T : u_T} {ty0 : Nat → FieldType} {v : Nat} {i : Int32} (cl : Cl kd C T ty0) (hd : decode M.1 pc = .ok (.aastore, 1)) (ht : (tysG G)[ti]? = some (G.2.2.1 (50 + kd), .object C)) (hin : vp_in i n) (kk : Rn l G d mc ms M h0 Q (pc + 1) L st (wR h a i.toNatClampNeg (some v)) cu su) : Rn l G d mc ms M h0 Q pc L (tR kd 0 (some v) :: tI i :: tR (50 + kd) n (some a) :: st) h cu su := by
  intro p e s m args below meth c H locs ls C0 hW hE hS hl0 hL hst
  obtain ⟨ha, hta⟩ := hst.2.2.1 a rfl
  obtain ⟨hv, htv⟩ := hst.1 v rfl
  have hat : atA G h (50 + kd) n a H := (atc_A hta (by omega)).mp (hW.2.1 a ha)
  have hatv : atO G h kd v H := (atc_O (by rw [htv]; exact Or.inl rfl) cl.2.1).mp (hW.2.1 v hv)
  have hK := C0.2.2.2.2.2.2.1.1
  have hlt : i.toNatClampNeg < n := Nat.not_le.mp fun q => hin (Or.inr q)
  have hi0 : ¬ i < 0 := fun q => hin (Or.inl q)
  obtain ⟨cellV, g1, g2, g3, -⟩ := hatv
  have hcls := (hK.1 kd _ cl.1).2
  obtain ⟨kA, comp, k1, k2, k3, -⟩ := (hK.2 ti _ ht).2
  have hcomp : comp = G.2.1.1 kd := Option.some.inj (k3.symm.trans hcls.1)
  subst hcomp
  obtain ⟨kC, hkC, -⟩ := hcls.2
  refine W.aast C0.1 C0.2.1 hat (fun q z => by cases z) (fun z => by cases z) k1 k2 rfl hkC ⟨hi0, by rw [arrV_size]; exact hlt⟩ g1 (fun q z => by rw [g3] at z; cases z) (by rw [g2]; exact hkC) (by rw [g2]; exact va_assign hcls) rfl rfl hd fun H1 e1 z oq => ?_
  have hee : ext h (wR h a i.toNatClampNeg (some v)) := ext_of rfl rfl
  refine kk p e s m args below meth c H1 _ ls C0 (wd_set hW z oq rfl rfl (fun b hb => ⟨rfl, rfl, up2_row _ _ hb⟩) (WF_wA hW.2.2 cl.2.1 hta (fun b hb => by cases hb; exact ⟨hv, htv⟩)) (fun _ => ?_)) (hE.trans hee) (hS.put z oq (Nat.le_add_right _ _)) hl0 (hL.ext hee) (hst.2.2.2.ext hee)
  refine (atc_A (kind := 50 + kd) (n := n) (show hT (wR h a i.toNatClampNeg (some v)) a = _ from hta) (by omega)).mpr ?_
  unfold atA
  rw [e1, arrV_store]
  congr 2
  funext q
  have w1 : ¬ 50 + kd = 43 := by omega
  have w2 : ¬ 50 + kd < 43 := by omega
  by_cases hq : q = i.toNatClampNeg
  · subst hq
    simp only [updV, if_true, ev, if_neg w1, if_neg w2]
    show Value.ref (G.1 + v) = rb G (up2 (hR h) a i.toNatClampNeg (some v) a i.toNatClampNeg)
    rw [up2_self]; rfl
  · simp only [updV, if_neg hq, ev, if_neg w1, if_neg w2]
    show _ = rb G (up2 (hR h) a i.toNatClampNeg (some v) a q)
    rw [up2_ne _ _ (fun z => hq z.2)]
theorem S_grow {s : State} {H H1 : Heap} {locs : List Loc} (hS : va_S (Ag G) s.heap H locs) (z : H1.size = H.size + 1) (o : ∀ q, q < H.size → H1[q]? = H[q]?) : va_S (Ag G) s.heap H1 locs :=
  ⟨Nat.le_trans hS.1 (by omega), fun x h1 h2 => (o x (Nat.lt_of_lt_of_le h1 hS.1)).trans (hS.2.1 x h1 h2), hS.2.2⟩
theorem r_new {ci idx N : Nat} {C : String} {T : u_T} {ty0 : Nat → FieldType} (cl : Cl ci C T ty0) (hd : decode M.1 pc = .ok (.new idx, 3)) (hcl : Cond.classLink M.2.2.2.1 idx C ∈ GW) (hN' : N = fnum ci) (hins : Cond.instantiable C N ∈ GW) (hini : Cond.initialized C ∈ GW) (hc : cu + 1 ≤ mc ∧ su + N ≤ ms)
    (kk : Rn l G d mc ms M h0 Q (pc + 3) L (tR (20 + ci) 0 (some (hN h)) :: st) (nw h (20 + ci, 0)) (cu + 1) (su + N)) : Rn l G d mc ms M h0 Q pc L st h cu su := by
  intro p e s m args below meth c H locs ls C0 hW hE hS hl0 hL hst
  have hK := C0.2.2.2.2.2.2.1.1
  have hts := C0.2.2.2.2.2.1
  have hKn := hK.1 ci _ cl.1
  subst hN'
  refine W.newcK C0.1 C0.2.1 C0.2.2.2.2.1 (hts _ hcl) (hts _ hins) (hts _ hini) rfl hd hc.1 hc.2 hKn.2.1 rfl fun H1 kC hkC e1 z1 o1 => ?_
  have hee : ext h (nw h (20 + ci, 0)) := ext_nw
  have hci := cl.2.1
  have eT : hT (nw h (20 + ci, 0)) (hN h) = (20 + ci, 0) := va_up_self _ _ _
  have q := kk p e s m args below meth c H1 locs ls C0 (wd_nw hW (fun _ => ⟨rfl, Nat.le_add_right _ _⟩) z1 o1 ((atc_O (by rw [eT]; exact Or.inr rfl) hci).mpr ?_)) (hE.trans hee) (S_grow hS z1 o1) hl0 (hL.ext hee) ⟨fun b hb => by cases hb; exact ⟨Nat.lt_succ_self _, eT⟩, hst.ext hee⟩
  · rw [show (tR (20 + ci) 0 (some (hN h)) :: st).map (cv G) = Value.ref H.size :: st.map (cv G) by rw [hW.1]; rfl] at q
    exact q
  · have b := u_born (o := G.1 + hN h) ty0 hts cl.2.2.1 hKn hkC (by rw [← hW.1]; exact e1) cl.2.2.2.1
    refine t_OB.to b (fun k hk => ?_)
    rw [cl.2.2.2.2.2.2 k hk]
    have eI : hI (nw h (20 + ci, 0)) (hN h) = fun _ => 0 := va_up_self _ _ _
    have eJ : hJ (nw h (20 + ci, 0)) (hN h) = fun _ => 0 := va_up_self _ _ _
    have eR : hR (nw h (20 + ci, 0)) (hN h) = fun _ => none := va_up_self _ _ _
    simp only [fv, eI, eJ, eR]
    rfl
theorem r_newI {n : Int32} {N : Nat} (hd : decode M.1 pc = .ok (.newarray .int, 2)) (harr : Cond.arrayClass .int ∈ GW) (hn : ¬ n < 0) (hN' : n.toNatClampNeg = N) (hbytes : N * 8 ≤ 536870912) (hc : cu + 1 ≤ mc ∧ su + N ≤ ms)
    (kk : Rn l G d mc ms M h0 Q (pc + 2) L (tR 40 N (some (hN h)) :: st) (nw h (40, N)) (cu + 1) (su + N)) : Rn l G d mc ms M h0 Q pc L (tI n :: st) h cu su := by
  intro p e s m args below meth c H locs ls C0 hW hE hS hl0 hL hst
  have hK := C0.2.2.2.2.2.2.1.1
  have hts := C0.2.2.2.2.2.1
  refine va_newaK C0.1 C0.2.1 (atype := .int) (hts _ harr) rfl hd rfl hn hN' (Nat.le_trans (Nat.mul_le_mul_left _ (by decide)) hbytes) hc.1 hc.2 rfl fun H1 cA e1 z1 o1 hAr hNm => ?_
  have hcA : cA = G.2.2.1 40 := Option.some.inj (hNm.symm.trans (hK.2 0 _ rfl).2)
  subst hcA
  have hee : ext h (nw h (40, N)) := ext_nw
  have eT : hT (nw h (40, N)) (hN h) = (40, N) := va_up_self _ _ _
  have q := kk p e s m args below meth c H1 locs ls C0 (wd_nw hW (fun z => by simp at z) z1 o1 ((atc_A eT (by decide)).mpr ?_)) (hE.trans hee) (S_grow hS z1 o1) hl0 (hL.ext hee) ⟨fun b hb => by cases hb; exact ⟨Nat.lt_succ_self _, eT⟩, hst.2.ext hee⟩
  · rw [show (tR 40 N (some (hN h)) :: st).map (cv G) = Value.ref H.size :: st.map (cv G) by rw [hW.1]; rfl] at q
    exact q
  · unfold atA
    rw [← hW.1, e1]
    congr 2
    funext j
    have eI : hI (nw h (40, N)) (hN h) = fun _ => 0 := va_up_self _ _ _
    have eJ : hJ (nw h (40, N)) (hN h) = fun _ => 0 := va_up_self _ _ _
    simp only [ev, eI, eJ]
    rfl
theorem r_newB {n : Int32} {N : Nat} (hd : decode M.1 pc = .ok (.newarray .byte, 2)) (harr : Cond.arrayClass .byte ∈ GW) (hn : ¬ n < 0) (hN' : n.toNatClampNeg = N) (hbytes : N * 8 ≤ 536870912) (hc : cu + 1 ≤ mc ∧ su + N ≤ ms)
    (kk : Rn l G d mc ms M h0 Q (pc + 2) L (tR 41 N (some (hN h)) :: st) (nw h (41, N)) (cu + 1) (su + N)) : Rn l G d mc ms M h0 Q pc L (tI n :: st) h cu su := by
  intro p e s m args below meth c H locs ls C0 hW hE hS hl0 hL hst
  have hK := C0.2.2.2.2.2.2.1.1
  have hts := C0.2.2.2.2.2.1
  refine va_newaK C0.1 C0.2.1 (atype := .byte) (hts _ harr) rfl hd rfl hn hN' (Nat.le_trans (Nat.mul_le_mul_left _ (by decide)) hbytes) hc.1 hc.2 rfl fun H1 cA e1 z1 o1 hAr hNm => ?_
  have hcA : cA = G.2.2.1 41 := Option.some.inj (hNm.symm.trans (hK.2 1 _ rfl).2)
  subst hcA
  have hee : ext h (nw h (41, N)) := ext_nw
  have eT : hT (nw h (41, N)) (hN h) = (41, N) := va_up_self _ _ _
  have q := kk p e s m args below meth c H1 locs ls C0 (wd_nw hW (fun z => by simp at z) z1 o1 ((atc_A eT (by decide)).mpr ?_)) (hE.trans hee) (S_grow hS z1 o1) hl0 (hL.ext hee) ⟨fun b hb => by cases hb; exact ⟨Nat.lt_succ_self _, eT⟩, hst.2.ext hee⟩
  · rw [show (tR 41 N (some (hN h)) :: st).map (cv G) = Value.ref H.size :: st.map (cv G) by rw [hW.1]; rfl] at q
    exact q
  · unfold atA
    rw [← hW.1, e1]
    congr 2
    funext j
    have eI : hI (nw h (41, N)) (hN h) = fun _ => 0 := va_up_self _ _ _
    have eJ : hJ (nw h (41, N)) (hN h) = fun _ => 0 := va_up_self _ _ _
    simp only [ev, eI, eJ]
    rfl
theorem r_newZ {n : Int32} {N : Nat} (hd : decode M.1 pc = .ok (.newarray .boolean, 2)) (harr : Cond.arrayClass .boolean ∈ GW) (hn : ¬ n < 0) (hN' : n.toNatClampNeg = N) (hbytes : N * 8 ≤ 536870912) (hc : cu + 1 ≤ mc ∧ su + N ≤ ms)
    (kk : Rn l G d mc ms M h0 Q (pc + 2) L (tR 42 N (some (hN h)) :: st) (nw h (42, N)) (cu + 1) (su + N)) : Rn l G d mc ms M h0 Q pc L (tI n :: st) h cu su := by
  intro p e s m args below meth c H locs ls C0 hW hE hS hl0 hL hst
  have hK := C0.2.2.2.2.2.2.1.1
  have hts := C0.2.2.2.2.2.1
  refine va_newaK C0.1 C0.2.1 (atype := .boolean) (hts _ harr) rfl hd rfl hn hN' (Nat.le_trans (Nat.mul_le_mul_left _ (by decide)) hbytes) hc.1 hc.2 rfl fun H1 cA e1 z1 o1 hAr hNm => ?_
  have hcA : cA = G.2.2.1 42 := Option.some.inj (hNm.symm.trans (hK.2 2 _ rfl).2)
  subst hcA
  have hee : ext h (nw h (42, N)) := ext_nw
  have eT : hT (nw h (42, N)) (hN h) = (42, N) := va_up_self _ _ _
  have q := kk p e s m args below meth c H1 locs ls C0 (wd_nw hW (fun z => by simp at z) z1 o1 ((atc_A eT (by decide)).mpr ?_)) (hE.trans hee) (S_grow hS z1 o1) hl0 (hL.ext hee) ⟨fun b hb => by cases hb; exact ⟨Nat.lt_succ_self _, eT⟩, hst.2.ext hee⟩
  · rw [show (tR 42 N (some (hN h)) :: st).map (cv G) = Value.ref H.size :: st.map (cv G) by rw [hW.1]; rfl] at q
    exact q
  · unfold atA
    rw [← hW.1, e1]
    congr 2
    funext j
    have eI : hI (nw h (42, N)) (hN h) = fun _ => 0 := va_up_self _ _ _
    have eJ : hJ (nw h (42, N)) (hN h) = fun _ => 0 := va_up_self _ _ _
    simp only [ev, eI, eJ]
    rfl
theorem r_newJ {n : Int32} {N : Nat} (hd : decode M.1 pc = .ok (.newarray .long, 2)) (harr : Cond.arrayClass .long ∈ GW) (hn : ¬ n < 0) (hN' : n.toNatClampNeg = N) (hbytes : N * 8 ≤ 536870912) (hc : cu + 1 ≤ mc ∧ su + N ≤ ms)
    (kk : Rn l G d mc ms M h0 Q (pc + 2) L (tR 43 N (some (hN h)) :: st) (nw h (43, N)) (cu + 1) (su + N)) : Rn l G d mc ms M h0 Q pc L (tI n :: st) h cu su := by
  intro p e s m args below meth c H locs ls C0 hW hE hS hl0 hL hst
  have hK := C0.2.2.2.2.2.2.1.1
  have hts := C0.2.2.2.2.2.1
  refine va_newaK C0.1 C0.2.1 (atype := .long) (hts _ harr) rfl hd rfl hn hN' (Nat.le_trans (Nat.mul_le_mul_left _ (by decide)) hbytes) hc.1 hc.2 rfl fun H1 cA e1 z1 o1 hAr hNm => ?_
  have hcA : cA = G.2.2.1 43 := Option.some.inj (hNm.symm.trans (hK.2 3 _ rfl).2)
  subst hcA
  have hee : ext h (nw h (43, N)) := ext_nw
  have eT : hT (nw h (43, N)) (hN h) = (43, N) := va_up_self _ _ _
  have q := kk p e s m args below meth c H1 locs ls C0 (wd_nw hW (fun z => by simp at z) z1 o1 ((atc_A eT (by decide)).mpr ?_)) (hE.trans hee) (S_grow hS z1 o1) hl0 (hL.ext hee) ⟨fun b hb => by cases hb; exact ⟨Nat.lt_succ_self _, eT⟩, hst.2.ext hee⟩
  · rw [show (tR 43 N (some (hN h)) :: st).map (cv G) = Value.ref H.size :: st.map (cv G) by rw [hW.1]; rfl] at q
    exact q
  · unfold atA
    rw [← hW.1, e1]
    congr 2
    funext j
    have eI : hI (nw h (43, N)) (hN h) = fun _ => 0 := va_up_self _ _ _
    have eJ : hJ (nw h (43, N)) (hN h) = fun _ => 0 := va_up_self _ _ _
    simp only [ev, eI, eJ]
    rfl
theorem r_newA {kd ti idx : Nat} {C : String} {n : Int32} {N : Nat} (hd : decode M.1 pc = .ok (.anewarray idx, 3)) (ht : (tysG G)[ti]? = some (G.2.2.1 (50 + kd), .object C)) (hcl : Cond.classLink M.2.2.2.1 idx C ∈ GW) (hov : C ∈ overT) (hn : ¬ n < 0) (hN' : n.toNatClampNeg = N) (hbytes : N * 4 ≤ 536870912) (hc : cu + 1 ≤ mc ∧ su + N ≤ ms)
    (kk : Rn l G d mc ms M h0 Q (pc + 3) L (tR (50 + kd) N (some (hN h)) :: st) (nw h (50 + kd, N)) (cu + 1) (su + N)) : Rn l G d mc ms M h0 Q pc L (tI n :: st) h cu su := by
  intro p e s m args below meth c H locs ls C0 hW hE hS hl0 hL hst
  have hK := C0.2.2.2.2.2.2.1.1
  have hts := C0.2.2.2.2.2.1
  subst hN'
  refine W.anew C0.1 C0.2.1 C0.2.2.2.2.1 (hts _ hcl) (va_AO.use (C0.2.2.2.2.2.2.1.2.2.2.2.2.2.2.2 C hov)) rfl hd rfl hn hbytes hc.1 hc.2 fun cA kA comp f1 f2 f3 f4 => ?_
  generalize hH1 : H.push ({ cls := cA, slots := Array.replicate n.toNatClampNeg .null, vm := .none } : Cell) = H1
  have z1 : H1.size = H.size + 1 := by rw [← hH1, Array.size_push]
  have e1 : H1[H.size]? = some (arrV cA n.toNatClampNeg (fun _ => .null)) := by rw [← hH1, Array.getElem?_push_size, ← arrV_new]
  have o1 : ∀ q : Nat, q < H.size → H1[q]? = H[q]? := fun q hq => by rw [← hH1, Array.getElem?_push, if_neg (Nat.ne_of_lt hq)]
  have hcA : cA = G.2.2.1 (50 + kd) := by
    obtain ⟨_, _, _, _, _, z⟩ := (hK.2 ti _ ht).2
    exact Option.some.inj (f1.symm.trans z)
  subst hcA
  have hee : ext h (nw h (50 + kd, n.toNatClampNeg)) := ext_nw
  have eT : hT (nw h (50 + kd, n.toNatClampNeg)) (hN h) = (50 + kd, n.toNatClampNeg) := va_up_self _ _ _
  have q := kk p e s m args below meth c H1 locs ls C0 (wd_nw hW (fun z => absurd z (by show ¬ 50 + kd < 40; omega)) z1 o1 ((atc_A eT (by omega)).mpr ?_)) (hE.trans hee) (S_grow hS z1 o1) hl0 (hL.ext hee) ⟨fun b hb => by cases hb; exact ⟨Nat.lt_succ_self _, eT⟩, hst.2.ext hee⟩
  · rw [show (tR (50 + kd) n.toNatClampNeg (some (hN h)) :: st).map (cv G) = Value.ref H.size :: st.map (cv G) by rw [hW.1]; rfl] at q
    exact q
  · unfold atA
    rw [← hW.1, e1]
    congr 2
    funext j
    have eR : hR (nw h (50 + kd, n.toNatClampNeg)) (hN h) = fun _ => none := va_up_self _ _ _
    have w1 : ¬ 50 + kd = 43 := by omega
    have w2 : ¬ 50 + kd < 43 := by omega
    simp only [ev, if_neg w1, if_neg w2, eR]
    rfl
end RH
end
section
/-! CONTRACTS AND CALLS -/
def Ct (l : Launch) (G : Cx) (d mc ms : Nat) (y : MethodName) (M : Mth) (as : List TV) (h : Hp) (Q : Option TV → Hp → Prop) : Prop :=
  Met l y (Cond.code y M.1 M.2.1 M.2.2.1 :: GW) (rmOf d mc ms) (va_Pc (as.map (cv G)) (fun U => Wd G h U.heap ∧ Kx G U ∧ tyL h as)) (PostU G h Q) mc ms (Ag G)
def entL : List TV → List (Option TV)
  | [] => []
  | .inl x :: l => some (.inl x) :: entL l
  | .inr (.inl x) :: l => some (tJ x) :: none :: entL l
  | .inr (.inr (.inl x)) :: l => some (.inr (.inr (.inl x))) :: entL l
  | .inr (.inr (.inr x)) :: l => some (tS x) :: entL l
def wrds : List TV → Nat
  | [] => 0
  | .inr (.inl _) :: l => 2 + wrds l
  | _ :: l => 1 + wrds l
theorem cat_I (G : Cx) (x : Int32) : (cv G (.inl x)).category = 1 := rfl
theorem cat_J (G : Cx) (x : Int64) : (cv G (.inr (.inl x))).category = 2 := rfl
theorem cat_R (G : Cx) (q : (Nat × Nat) × Option Nat) : (cv G (.inr (.inr (.inl q)))).category = 1 := by
  obtain ⟨⟨k, n⟩, r⟩ := q
  exact cv_cat1R
theorem cat_S (G : Cx) (x : Nat) : (cv G (.inr (.inr (.inr x)))).category = 1 := rfl
theorem entL_asc {G : Cx} : ∀ {as : List TV} {i : Nat} {q : Nat × Value}, q ∈ asc G i (entL as) → q ∈ lv_args i (as.map (cv G))
  | [], i, q, h => by cases h
  | .inl x :: l, i, q, h => by
    rw [entL, asc_cons] at h
    rw [List.map_cons, lv_args, if_neg (by rw [cat_I]; decide)]
    rcases h with ⟨w, hw, e⟩ | h
    · cases hw; rw [e]; exact List.mem_cons_self
    · exact List.mem_cons_of_mem _ (entL_asc h)
  | .inr (.inl x) :: l, i, q, h => by
    rw [entL, asc_cons, asc_cons] at h
    rw [List.map_cons, lv_args, if_pos (cat_J G x)]
    rcases h with ⟨w, hw, e⟩ | ⟨w, hw, e⟩ | h
    · cases hw; rw [e]; exact List.mem_cons_self
    · cases hw
    · exact List.mem_cons_of_mem _ (entL_asc h)
  | .inr (.inr (.inl x)) :: l, i, q, h => by
    rw [entL, asc_cons] at h
    rw [List.map_cons, lv_args, if_neg (by rw [cat_R]; decide)]
    rcases h with ⟨w, hw, e⟩ | h
    · cases hw; rw [e]; exact List.mem_cons_self
    · exact List.mem_cons_of_mem _ (entL_asc h)
  | .inr (.inr (.inr x)) :: l, i, q, h => by
    rw [entL, asc_cons] at h
    rw [List.map_cons, lv_args, if_neg (by rw [cat_S]; decide)]
    rcases h with ⟨w, hw, e⟩ | h
    · cases hw; rw [e]; exact List.mem_cons_self
    · exact List.mem_cons_of_mem _ (entL_asc h)
theorem wrds_eq {G : Cx} : ∀ {as : List TV}, (lg_sl (as.map (cv G))).length = wrds as
  | [] => rfl
  | .inl x :: l => by
    have e := wrds_eq (G := G) (as := l)
    simp only [lg_sl, List.map_cons, List.flatMap_cons, List.length_append] at e ⊢
    rw [e]; simp [cat_I, wrds]
  | .inr (.inl x) :: l => by
    have e := wrds_eq (G := G) (as := l)
    simp only [lg_sl, List.map_cons, List.flatMap_cons, List.length_append] at e ⊢
    rw [e]; simp [cat_J, wrds]
  | .inr (.inr (.inl x)) :: l => by
    have e := wrds_eq (G := G) (as := l)
    simp only [lg_sl, List.map_cons, List.flatMap_cons, List.length_append] at e ⊢
    rw [e]; simp [cat_R, wrds]
  | .inr (.inr (.inr x)) :: l => by
    have e := wrds_eq (G := G) (as := l)
    simp only [lg_sl, List.map_cons, List.flatMap_cons, List.length_append] at e ⊢
    rw [e]; simp [cat_S, wrds]
theorem entL_ty {h : Hp} : ∀ {as : List TV}, tyL h as → tyO h (entL as)
  | [], _ => trivial
  | .inl x :: l, t => ⟨t.1, entL_ty t.2⟩
  | .inr (.inl x) :: l, t => ⟨t.1, entL_ty (as := l) t.2⟩
  | .inr (.inr (.inl x)) :: l, t => ⟨t.1, entL_ty t.2⟩
  | .inr (.inr (.inr x)) :: l, t => ⟨t.1, entL_ty t.2⟩
/-- a contract out of its body -/
theorem Ct.of {l : Launch} {G : Cx} {d mc ms : Nat} {y : MethodName} {M : Mth} {as : List TV} {h : Hp} {Q : Option TV → Hp → Prop} {L : List (Option TV)} (hy : plainName y.cls = true) (hyc : y.cls = M.2.2.2.1) (hyn : y.name = M.2.2.2.2) (hw : wrds as ≤ M.2.1) (hL : entL as = L)
    (body : Rn l G d mc ms M h Q 0 L [] h 0 0) : Ct l G d mc ms y M as h Q := by
  subst hL
  refine Met.ofW (cc := M.1) (maxL := M.2.1) (ret := M.2.2.1) hy rfl ?_
  intro p e s m args below meth c s₁ B hml hv
  obtain ⟨rfl, hW, hK, hty⟩ := hv
  have hts := atoms_spec (ws := Cond.code y M.1 M.2.1 M.2.2.1 :: GW) B.pre
  have hown : s.vm.findClass M.2.2.2.1 = some m.cls := by rw [← hyc]; exact findClass_of_methodNamed B.named
  have hin : meth.name = M.2.2.2.2 := by rw [← hyn]; exact (name_of_methodNamed B.named B.method).1
  have hl := lv_entry (as.map (cv G)) (n := M.2.1) (by rw [wrds_eq]; exact hw)
  rw [lg_entry_eq]
  exact body p e s m _ below meth c s.heap [] _ ⟨B.exec, B.bytes, hml, B.returns, hown, fun w h => hts w (List.mem_cons_of_mem _ h), hK, B.notSynchronized, hin⟩ hW (ext.rf _) va_S.rf ⟨hl.1, hl.2.1, fun q hq => hl.2.2 q (entL_asc hq)⟩ (entL_ty hty) trivial
theorem Ct.mono {l : Launch} {G : Cx} {d mc ms : Nat} {y : MethodName} {M : Mth} {as : List TV} {h : Hp} {Q Q' : Option TV → Hp → Prop} (hQ : ∀ r h', Q r h' → Q' r h') (c : Ct l G d mc ms y M as h Q) : Ct l G d mc ms y M as h Q' := by
  intro p e a1 a2 a3 s m args below b1 b2 b3 b4
  obtain ⟨k, o, c1, c2, c3, ⟨⟨r, h', c4, c5, c6⟩, c7⟩, c8⟩ := c p e a1 a2 a3 s m args below b1 b2 b3 b4
  exact ⟨k, o, c1, c2, c3, ⟨⟨r, h', c4, hQ r h' c5, c6⟩, c7⟩, c8⟩
/-- what a call of a method needs of the tables, wherever it stands -/
def MI (y : MethodName) (M : Mth) (n : Nat) : Prop := Cond.code y M.1 M.2.1 M.2.2.1 ∈ GW ∧ Cond.initialized y.cls ∈ GW ∧ y.cls ≠ "java/lang/invoke/MethodHandle" ∧ y.cls ≠ "java/lang/invoke/VarHandle" ∧ (parseMethodDescriptor y.desc).map (fun d => d.parameters.length) = some n ∧ M.2.1 ≤ 29
section RC
variable {l : Launch} {G : Cx} {d mc ms : Nat} {M : Mth} {h0 : Hp} {Q : Option TV → Hp → Prop} {pc : Nat} {L : List (Option TV)} {st : List TV} {h : Hp} {cu su : Nat}
theorem blindC {as : List TV} : FrameBlind (va_Pc (as.map (cv G)) (fun U => Wd G h U.heap ∧ Kx G U ∧ tyL h as)) := by
  intro a U g mk q
  exact ⟨q.1, q.2.1, q.2.2.1.call, q.2.2.2⟩
theorem goodC {y : MethodName} {My : Mth} {n : Nat} (mi : MI y My n) : GoodIn GW (Cond.code y My.1 My.2.1 My.2.2.1 :: GW) := by
  intro w hw
  rcases List.mem_cons.mp hw with e | e
  · rw [e]; exact ⟨mi.1, GW_good _ mi.1⟩
  · exact ⟨e, GW_good _ e⟩
/-- behind a call -/
theorem r_go {p : Program} {e : Env} {s : State} {m : MethodId} {args a : Array Value} {below : List Frame} {meth : Method} {c : Code} {H : Heap} {locs : List Loc} {ls : Array Slot} {mc' ms' : Nat} {Q' : Option TV → Hp → Prop} {st0 : List Value} (C0 : Cm G M p s m args meth c) (hE : ext h0 h) (hS : va_S (Ag G) s.heap H locs) (hl0 : lv_has ls M.2.1 (asc G 0 L)) (hL : tyO h L) (hst : tyL h st)
    (hr : va_Run p l e (rmOf d mc ms) s m args below meth c H locs cu su mc' ms' (F0 m pc ls st0) (st.map (cv G)) (PostU G h Q' a) (Ag G))
    (kk : ∀ r h', Q' r h' → ext h h' → Rn l G d mc ms M h0 Q (pc + 3) L (r.toList ++ st) h' (cu + mc') (su + ms')) : W p l e (rmOf d mc ms) s m args below meth c H locs cu su (MQ below (PostU G h0 Q) args s mc ms (Ag G)) (F0 m pc ls st0) := by
  intro T hT' X
  obtain ⟨v, st₀, t, T', L1, g0, X', hL1, e1, e2, ⟨⟨r, h', hv, hq, he, ht, hw⟩, hz, hk⟩, stp⟩ := hr T hT' X
  have hv : v = r.map (cv G) := Outcome.returned.inj hv
  rw [g0] at hz hk
  have hS' : va_S (Ag G) s.heap T'.heap (locs ++ L1) := ⟨Nat.le_trans hS.1 (by rw [e1]; exact hz), fun q h1 h2 => by rw [e1, hk q (Nat.lt_of_lt_of_le h1 hS.1) h2]; exact hS.2.1 q h1 h2, fun q hq => by
      rcases List.mem_append.mp hq with h | h
      · exact hS.2.2 q h
      · exact hL1 q h⟩
  have hst' : tyL h' (r.toList ++ st) := by
    cases r with
    | none => exact hst.ext he
    | some w => exact ⟨ht w rfl, hst.ext he⟩
  obtain ⟨t2, a1, b1⟩ := kk r h' hq he p e s m args below meth c T'.heap (locs ++ L1) ls C0 (by rw [e1]; exact hw) (hE.trans he) hS' hl0 (hL.ext he) hst' T' rfl X'
  refine ⟨t2, stp t2 ?_, b1⟩
  have e3 : (r.toList ++ st).map (cv G) = v.toList ++ st.map (cv G) := by rw [hv]; cases r <;> rfl
  rw [e3] at a1
  exact a1
theorem rest_ok {m : MethodId} {ls : Array Slot} {s0 : List Value} (h : (st.map fun v => (cv G v).category).sum ≤ 8) : 2 * (F0 m pc ls s0).monitorRoom + ((st.map (cv G)).map fun v => v.category).sum ≤ 8 := by
  refine lv_room ?_
  rw [List.map_map]
  exact h
def cats : List TV → Nat
  | [] => 0
  | .inr (.inl _) :: l => 2 + cats l
  | _ :: l => 1 + cats l
theorem cats_eq : ∀ {l : List TV}, (l.map fun v => (cv G v).category).sum = cats l
  | [] => rfl
  | .inl x :: l => by rw [List.map_cons, List.sum_cons, cats_eq (l := l), cat_I]; rfl
  | .inr (.inl x) :: l => by rw [List.map_cons, List.sum_cons, cats_eq (l := l), cat_J]; rfl
  | .inr (.inr (.inl x)) :: l => by rw [List.map_cons, List.sum_cons, cats_eq (l := l), cat_R]; rfl
  | .inr (.inr (.inr x)) :: l => by rw [List.map_cons, List.sum_cons, cats_eq (l := l), cat_S]; rfl
theorem r_callV {ci d' mc' ms' idx n b : Nat} {C : String} {T : u_T} {ty0 : Nat → FieldType} {y : MethodName} {My : Mth} {as : List TV} {s0 : List TV} {Q' : Option TV → Hp → Prop} (cl : Cl ci C T ty0) (hd : decode M.1 pc = .ok (.invokevirtual idx, 3)) (mi : MI y My n) (hlk : Cond.methodLink M.2.2.2.1 idx y ∈ GW) (hin : Cond.instanceMethod y ∈ GW) (hsel : Cond.selects C y y ∈ GW)
    (hn : as.length = n) (hs0 : s0 = as.reverse ++ tR ci 0 (some b) :: st) (hr : cats st ≤ 8) (hdd : d' + 1 ≤ d) (hc : cu + mc' ≤ mc ∧ su + ms' ≤ ms) (hct : Ct l G d' mc' ms' y My (tR ci 0 (some b) :: as) h Q') (kk : ∀ r h', Q' r h' → ext h h' → Rn l G d mc ms M h0 Q (pc + 3) L (r.toList ++ st) h' (cu + mc') (su + ms')) : Rn l G d mc ms M h0 Q pc L s0 h cu su := by
  subst hs0
  intro p e s m args below meth c H locs ls C0 hW hE hS hl0 hL hst
  have hsp : tyL h as ∧ ty1 h (tR ci 0 (some b)) ∧ tyL h st := by
    have key : ∀ {a1 a2 : List TV}, tyL h (a1 ++ a2) ↔ tyL h a1 ∧ tyL h a2 := by
      intro a1 a2
      induction a1 with
      | nil => simp [tyL]
      | cons x l ih => simp only [List.cons_append, tyL, ih, and_assoc]
    have key2 : ∀ {a1 : List TV}, tyL h a1.reverse → tyL h a1 := by
      intro a1
      induction a1 with
      | nil => exact id
      | cons x l ih => intro q; rw [List.reverse_cons, key] at q; exact ⟨q.2.1, ih q.1⟩
    have q := key.mp hst
    exact ⟨key2 q.1, q.2.1, q.2.2⟩
  obtain ⟨hb, htb⟩ := hsp.2.1 b rfl
  have hts := C0.2.2.2.2.2.1
  have hK := C0.2.2.2.2.2.2.1
  have hat : atO G h ci b H := (atc_O (by rw [htb]; exact Or.inl rfl) cl.2.1).mp (hW.2.1 b hb)
  obtain ⟨cellB, g1, g2, g3, -⟩ := hat
  have cb : CallB (rmOf d mc ms) s args M.2.2.2.1 idx y My.1 My.2.1 My.2.2.1 (Cond.code y My.1 My.2.1 My.2.2.1 :: GW) (rmOf d' mc' ms') mc' ms' n :=
    callB_of n hts (goodC mi) rfl rfl rfl (hts _ mi.2.1) (hts _ hlk) ⟨mi.2.2.1, mi.2.2.2.1, mi.2.2.2.2.1⟩ ⟨hdd, by show 8 + (My.2.1 + 11) + 48 * d' ≤ 48 * d; have := mi.2.2.2.2.2; omega⟩
  refine r_go (st0 := (as.reverse ++ tR ci 0 (some b) :: st).map (cv G)) C0 hE hS hl0 hL hsp.2.2 (va_runV (As := as.map (cv G)) (b := G.1 + b) (C := C) ⟨C0.1, C0.2.1, C0.2.2.1, C0.2.2.2.2.1, hts⟩ hct ⟨cb, hts _ hin, hts _ hsel⟩ ⟨blindC, ⟨cellB, g1, by rw [g3]; rfl, by rw [g2]; exact (hK.1.1 ci _ cl.1).2.1⟩, fun U hU hWm => ⟨rfl, by rw [hU]; exact hW, hK.to hWm (fun a ha hna => by rw [hU]; exact hS.2.1 a ha hna), hsp.2.1, hsp.1⟩⟩ rfl (by rw [List.length_map]; exact hn) hl0.1 ?_ (rest_ok (by rw [cats_eq]; exact hr)) hd hc) kk
  show List.map (cv G) (as.reverse ++ tR ci 0 (some b) :: st) = _
  rw [List.map_append, List.map_reverse, List.map_cons]
  rfl
theorem tyL_app {h : Hp} : ∀ {a1 a2 : List TV}, tyL h (a1 ++ a2) ↔ tyL h a1 ∧ tyL h a2
  | [], a2 => by simp [tyL]
  | x :: l, a2 => by simp only [List.cons_append, tyL, tyL_app (a1 := l), and_assoc]
theorem tyL_rev {h : Hp} : ∀ {a1 : List TV}, tyL h a1.reverse → tyL h a1
  | [], q => q
  | x :: l, q => by rw [List.reverse_cons, tyL_app] at q; exact ⟨q.2.1, tyL_rev q.1⟩
theorem r_callS {d' mc' ms' idx n : Nat} {y : MethodName} {My : Mth} {as : List TV} {s0 : List TV} {Q' : Option TV → Hp → Prop} (hd : decode M.1 pc = .ok (.invokestatic idx, 3)) (mi : MI y My n) (hlk : Cond.methodLink M.2.2.2.1 idx y ∈ GW) (hstt : Cond.static y ∈ GW)
    (hn : as.length = n) (hs0 : s0 = as.reverse ++ st) (hr : cats st ≤ 8) (hdd : d' + 1 ≤ d) (hc : cu + mc' ≤ mc ∧ su + ms' ≤ ms) (hct : Ct l G d' mc' ms' y My as h Q') (kk : ∀ r h', Q' r h' → ext h h' → Rn l G d mc ms M h0 Q (pc + 3) L (r.toList ++ st) h' (cu + mc') (su + ms')) : Rn l G d mc ms M h0 Q pc L s0 h cu su := by
  subst hs0
  intro p e s m args below meth c H locs ls C0 hW hE hS hl0 hL hst
  have q0 := tyL_app.mp hst
  have hts := C0.2.2.2.2.2.1
  have hK := C0.2.2.2.2.2.2.1
  have cb : CallB (rmOf d mc ms) s args M.2.2.2.1 idx y My.1 My.2.1 My.2.2.1 (Cond.code y My.1 My.2.1 My.2.2.1 :: GW) (rmOf d' mc' ms') mc' ms' n :=
    callB_of n hts (goodC mi) rfl rfl rfl (hts _ mi.2.1) (hts _ hlk) ⟨mi.2.2.1, mi.2.2.2.1, mi.2.2.2.2.1⟩ ⟨hdd, by show 8 + (My.2.1 + 11) + 48 * d' ≤ 48 * d; have := mi.2.2.2.2.2; omega⟩
  refine r_go (st0 := (as.reverse ++ st).map (cv G)) C0 hE hS hl0 hL q0.2 (va_runS (As := as.map (cv G)) ⟨C0.1, C0.2.1, C0.2.2.1, C0.2.2.2.2.1, hts⟩ hct ⟨cb, hts _ hstt⟩ ⟨blindC, fun U hU hWm => ⟨rfl, by rw [hU]; exact hW, hK.to hWm (fun a ha hna => by rw [hU]; exact hS.2.1 a ha hna), tyL_rev q0.1⟩⟩ rfl (by rw [List.length_map]; exact hn) hl0.1 ?_ (rest_ok (by rw [cats_eq]; exact hr)) hd hc) kk
  show List.map (cv G) (as.reverse ++ st) = _
  rw [List.map_append, List.map_reverse]
/-- an object is made: from now on its fields that hold one reference for good do so -/
def sealOK (h : Hp) (a ci : Nat) : Prop := ∀ k b n, fcon ci k a = some (b, n) → hR h a k = some b ∧ hT h b = (fref ci k, n) ∧ b < hN h
theorem WF_seal {h : Hp} {a ci : Nat} (hF : WF h) (ha : a < hN h) (hc : ci < 20) (hta : hT h a = (20 + ci, 0)) (hs : sealOK h a ci) : WF (wT h a (ci, 0)) := by
  have eT : ∀ b, b ≠ a → hT (wT h a (ci, 0)) b = hT h b := fun b hb => va_up_ne _ _ hb
  have eTa : hT (wT h a (ci, 0)) a = (ci, 0) := va_up_self _ _ _
  have no : ∀ b kd, (hT h b).1 = kd → (kd < 20 ∨ 40 ≤ kd) → b ≠ a := by
    intro b kd hb hk e
    rw [e, hta] at hb
    dsimp only at hb
    omega
  intro b hb
  have hb : b < hN h := hb
  obtain ⟨g1, g2, g3, g4⟩ := hF b hb
  by_cases hab : b = a
  · subst hab
    unfold WFa
    rw [eTa]
    rw [hta] at g1 g2 g3 g4
    refine ⟨fun _ => rfl, fun _ k hk hty q hq => ?_, fun _ k q n hq => ?_, fun z => ?_⟩
    · have e : (20 + ci) % 20 = ci % 20 := by omega
      have z := g2 (by show 20 + ci < 40; omega) k (by show k < fnum ((20 + ci) % 20); rw [e]; exact hk) (by show fty ((20 + ci) % 20) k = 2; rw [e]; exact hty) q hq
      have z2 : (hT h q).1 = fref ((20 + ci) % 20) k := z.2
      rw [e] at z2
      refine ⟨z.1, ?_⟩
      rw [eT q (no q _ z2 (fref_ok _ _))]
      exact z2
    · have z := hs k q n hq
      refine ⟨z.1, ?_, z.2.2⟩
      have z2 : (hT h q).1 = fref ci k := by rw [z.2.1]
      rw [eT q (no q _ z2 (fref_ok _ _))]
      exact z.2.1
    · exfalso
      have z : 50 ≤ ci := z
      omega
  · unfold WFa
    rw [eT b hab]
    refine ⟨g1, fun z k hk hty q hq => ?_, fun z k q n hq => ?_, fun z j q hq => ?_⟩
    · have w := g2 z k hk hty q hq
      exact ⟨w.1, by rw [eT q (no q _ w.2 (fref_ok _ _))]; exact w.2⟩
    · have w := g3 z k q n hq
      have w2 : (hT h q).1 = fref (hT h b).1 k := by rw [w.2.1]
      exact ⟨w.1, by rw [eT q (no q _ w2 (fref_ok _ _))]; exact w.2.1, w.2.2⟩
    · have w := g4 z j q hq
      refine ⟨w.1, ?_⟩
      by_cases hqa : q = a
      · exfalso
        have w2 := w.2
        rw [hqa, hta] at w2
        have w3 : 20 + ci = (hT h b).1 - 50 := congrArg Prod.fst w2.1
        have w4 := w2.2
        omega
      · rw [eT q hqa]; exact w.2
/-- no entry of this kind -/
def noK (k : Nat) : TV → Prop
  | .inr (.inr (.inl q)) => q.1.1 ≠ k
  | _ => True
theorem ty_seal {h : Hp} {a ci : Nat} {v : TV} (hta : hT h a = (20 + ci, 0)) (hv : ty1 h v) (hk : noK (20 + ci) v) : ty1 (wT h a (ci, 0)) v := by
  match v, hv, hk with
  | .inl _, _, _ => trivial
  | .inr (.inl _), _, _ => trivial
  | .inr (.inr (.inr i)), hv, _ => exact hv
  | .inr (.inr (.inl q)), hv, hk =>
    intro b hb
    have z := hv b hb
    refine ⟨z.1, ?_⟩
    have hba : b ≠ a := by
      intro e
      rw [e, hta] at z
      exact hk (by rw [← z.2])
    exact (va_up_ne _ _ hba).trans z.2
/-- the constructor is over: the object is of its kind; nothing else in this frame speaks of it but the place on the stack -/
theorem r_seal {ci a : Nat} (hc : ci < 20) (hn : hN h0 ≤ a) (hs : sealOK h a ci) (hL' : ∀ v, some v ∈ L → noK (20 + ci) v) (hst' : ∀ v, v ∈ st → noK (20 + ci) v) (kk : Rn l G d mc ms M h0 Q pc L (tR ci 0 (some a) :: st) (wT h a (ci, 0)) cu su) : Rn l G d mc ms M h0 Q pc L (tR (20 + ci) 0 (some a) :: st) h cu su := by
  intro p e s m args below meth c H locs ls C0 hW hE hS hl0 hL hst
  obtain ⟨ha, hta⟩ := hst.1 a rfl
  have eTa : hT (wT h a (ci, 0)) a = (ci, 0) := va_up_self _ _ _
  refine kk p e s m args below meth c H locs ls C0 ⟨hW.1, fun b hb => ?_, WF_seal hW.2.2 ha hc hta hs⟩ ⟨hE.1, fun b hb => ?_⟩ hS hl0 (tyO_mem.mpr fun v hv => ty_seal hta (tyO_mem.mp hL v hv) (hL' v hv)) ⟨fun b hb => by cases hb; exact ⟨ha, eTa⟩, ?_⟩
  · have hb : b < hN h := hb
    by_cases hab : b = a
    · subst hab
      refine (atc_O (by rw [eTa]; exact Or.inl rfl) hc).mpr ?_
      have z : atO G h ci b H := (atc_O (h := h) (by rw [hta]; exact Or.inr rfl) hc).mp (hW.2.1 b hb)
      exact z
    · exact atc_same (hW.2.1 b hb) (va_up_ne _ _ hab) rfl rfl rfl rfl
  · exact (va_up_ne _ _ (by omega)).trans (hE.2 b hb)
  · have key : ∀ {l : List TV}, tyL h l → (∀ v, v ∈ l → noK (20 + ci) v) → tyL (wT h a (ci, 0)) l := by
      intro l
      induction l with
      | nil => intro _ _; trivial
      | cons x l ih => intro t n; exact ⟨ty_seal hta t.1 (n x List.mem_cons_self), ih t.2 (fun v hv => n v (List.mem_cons_of_mem _ hv))⟩
    exact key hst.2 hst'
theorem r_objInit {kd idx a : Nat} (hd : decode M.1 pc = .ok (.invokespecial idx, 3)) (hl1 : Cond.methodLink M.2.2.2.1 idx Lib.objectInit ∈ GW) (hi : Cond.instanceMethod Lib.objectInit ∈ GW) (hco : Cond.code Lib.objectInit ⟨#[0xb1]⟩ 1 none ∈ GW) (hdd : 1 ≤ d) (hr : cats st ≤ 8) (kk : Rn l G d mc ms M h0 Q (pc + 3) L st h cu su) : Rn l G d mc ms M h0 Q pc L (tR kd 0 (some a) :: st) h cu su := by
  intro p e s m args below meth c H locs ls C0 hW hE hS hl0 hL hst
  have hts := C0.2.2.2.2.2.1
  refine W.objInit C0.1 C0.2.1 C0.2.2.2.2.1 (hts _ hl1) (hts _ hi) (hts _ hco) rfl (hl0.1.trans C0.2.2.1.symm) rfl hd hdd ?_ (kk p e s m args below meth c H locs ls C0 hW hE hS hl0 hL hst.2)
  have q := rest_ok (G := G) (pc := pc) (m := m) (ls := ls) (s0 := (tR kd 0 (some a) :: st).map (cv G)) (st := st) (by rw [cats_eq]; exact hr)
  show _ ≤ 48 * d
  omega
theorem r_callI {ci d' mc' ms' idx n b : Nat} {y : MethodName} {My : Mth} {as : List TV} {s0 : List TV} {Q' : Option TV → Hp → Prop} (hd : decode M.1 pc = .ok (.invokespecial idx, 3)) (mi : MI y My n) (hrn : My.2.2.1 = none) (hlk : Cond.methodLink M.2.2.2.1 idx y ∈ GW) (hin : Cond.instanceMethod y ∈ GW) (hy1 : y.name = "<init>")
    (hn : as.length = n) (hs0 : s0 = as.reverse ++ tR (20 + ci) 0 (some b) :: st) (hr : cats st ≤ 8) (hdd : d' + 1 ≤ d) (hc : cu + mc' ≤ mc ∧ su + ms' ≤ ms) (hct : Ct l G d' mc' ms' y My (tR (20 + ci) 0 (some b) :: as) h Q') (kk : ∀ r h', Q' r h' → ext h h' → Rn l G d mc ms M h0 Q (pc + 3) L (r.toList ++ st) h' (cu + mc') (su + ms')) : Rn l G d mc ms M h0 Q pc L s0 h cu su := by
  subst hs0
  intro p e s m args below meth c H locs ls C0 hW hE hS hl0 hL hst
  have q0 := tyL_app.mp hst
  have hts := C0.2.2.2.2.2.1
  have hK := C0.2.2.2.2.2.2.1
  have cb : CallB (rmOf d mc ms) s args M.2.2.2.1 idx y My.1 My.2.1 none (Cond.code y My.1 My.2.1 My.2.2.1 :: GW) (rmOf d' mc' ms') mc' ms' n :=
    callB_of n hts (goodC mi) (by rw [hrn]) rfl rfl (hts _ mi.2.1) (hts _ hlk) ⟨mi.2.2.1, mi.2.2.2.1, mi.2.2.2.2.1⟩ ⟨hdd, by show 8 + (My.2.1 + 11) + 48 * d' ≤ 48 * d; have := mi.2.2.2.2.2; omega⟩
  refine r_go (st0 := (as.reverse ++ tR (20 + ci) 0 (some b) :: st).map (cv G)) C0 hE hS hl0 hL q0.2.2 (va_runI (As := as.map (cv G)) (b := G.1 + b) ⟨C0.1, C0.2.1, C0.2.2.1, C0.2.2.2.2.1, hts⟩ hct ⟨cb, hy1, hts _ hin⟩ ⟨blindC, fun U hU hWm => ⟨rfl, by rw [hU]; exact hW, hK.to hWm (fun a ha hna => by rw [hU]; exact hS.2.1 a ha hna), q0.2.1, tyL_rev q0.1⟩⟩ rfl (by rw [List.length_map]; exact hn) hl0.1 ?_ (rest_ok (by rw [cats_eq]; exact hr)) hd hc) kk
  show List.map (cv G) (as.reverse ++ tR (20 + ci) 0 (some b) :: st) = _
  rw [List.map_append, List.map_reverse, List.map_cons]
  rfl
theorem r_callIN {ci d' mc' ms' idx n b : Nat} {host : String} {y : MethodName} {My : Mth} {as : List TV} {s0 : List TV} {Q' : Option TV → Hp → Prop} (hd : decode M.1 pc = .ok (.invokespecial idx, 3)) (mi : MI y My n) (hrn : My.2.2.1 = none) (hlk : (M.2.2.2.1, idx, y, host) ∈ nestT) (hin : Cond.instanceMethod y ∈ GW) (hy1 : y.name = "<init>")
    (hn : as.length = n) (hs0 : s0 = as.reverse ++ tR (20 + ci) 0 (some b) :: st) (hr : cats st ≤ 8) (hdd : d' + 1 ≤ d) (hc : cu + mc' ≤ mc ∧ su + ms' ≤ ms) (hct : Ct l G d' mc' ms' y My (tR (20 + ci) 0 (some b) :: as) h Q') (kk : ∀ r h', Q' r h' → ext h h' → Rn l G d mc ms M h0 Q (pc + 3) L (r.toList ++ st) h' (cu + mc') (su + ms')) : Rn l G d mc ms M h0 Q pc L s0 h cu su := by
  subst hs0
  intro p e s m args below meth c H locs ls C0 hW hE hS hl0 hL hst
  have q0 := tyL_app.mp hst
  have hts := C0.2.2.2.2.2.1
  have hK := C0.2.2.2.2.2.2.1
  have cb : va_CN (rmOf d mc ms) s args M.2.2.2.1 idx y host My.1 My.2.1 none (Cond.code y My.1 My.2.1 My.2.2.1 :: GW) (rmOf d' mc' ms') mc' ms' n := by
    refine ⟨⟨rfl, rfl, hdd, by show 8 + (My.2.1 + 11) + 48 * d' ≤ 48 * d; have := mi.2.2.2.2.2; omega, pay_in hts (goodC mi), by rw [hrn]; exact List.mem_cons_self⟩, by have z := hts _ mi.1; rw [hrn] at z; exact z, hts _ mi.2.1, ⟨mi.2.2.1, mi.2.2.2.1⟩, fun sig h => ?_, va_Nw.use rfl (hK.2.2.2.2.2.2.2.1 _ hlk)⟩
    have h2 := mi.2.2.2.2.1
    rw [h] at h2
    exact (Option.some.inj h2).symm
  refine r_go (st0 := (as.reverse ++ tR (20 + ci) 0 (some b) :: st).map (cv G)) C0 hE hS hl0 hL q0.2.2 (va_runIN (As := as.map (cv G)) (b := G.1 + b) ⟨C0.1, C0.2.1, C0.2.2.1, C0.2.2.2.2.1, hts⟩ hct ⟨cb, hy1, hts _ hin⟩ ⟨blindC, fun U hU hWm => ⟨rfl, by rw [hU]; exact hW, hK.to hWm (fun a ha hna => by rw [hU]; exact hS.2.1 a ha hna), q0.2.1, tyL_rev q0.1⟩⟩ rfl (by rw [List.length_map]; exact hn) hl0.1 ?_ (rest_ok (by rw [cats_eq]; exact hr)) hd hc) kk
  show List.map (cv G) (as.reverse ++ tR (20 + ci) 0 (some b) :: st) = _
  rw [List.map_append, List.map_reverse, List.map_cons]
  rfl
end RC
end
section
section RJ
variable {l : Launch} {G : Cx} {d mc ms : Nat} {M : Mth} {h0 : Hp} {Q : Option TV → Hp → Prop} {pc : Nat} {L : List (Option TV)} {st : List TV} {h : Hp} {cu su : Nat}
theorem toInt_cl {z : Int32} (hz : ¬ z < 0) : z.toInt = (z.toNatClampNeg : Int) := by
  have hz0 : (0 : Int) ≤ z.toInt := by
    have := Int32.not_lt.mp hz
    simpa using Int32.le_iff_toInt_le.mp this
  show z.toInt = ((z.toInt.toNat : Nat) : Int)
  omega
theorem r_copy {idx a b n0 n1 : Nat} {sp dp n : Int32} (hd : decode M.1 pc = .ok (.invokestatic idx, 3)) (hlk : Cond.methodLink M.2.2.2.1 idx arraycopyName ∈ GW) (hnat : Cond.native arraycopyName ∈ GW) (hstt : Cond.static arraycopyName ∈ GW) (hini : Cond.initialized "java/lang/System" ∈ GW)
    (h1 : ¬ sp < 0) (h2 : ¬ dp < 0) (h3 : ¬ n < 0) (h4 : sp.toNatClampNeg + n.toNatClampNeg ≤ n0) (h5 : dp.toNatClampNeg + n.toNatClampNeg ≤ n1) (hdd : 1 ≤ d) (hr : cats st ≤ 8)
    (kk : Rn l G d mc ms M h0 Q (pc + 3) L st (cpI h a sp.toNatClampNeg b dp.toNatClampNeg n.toNatClampNeg) cu su) : Rn l G d mc ms M h0 Q pc L (tI n :: tI dp :: tR 40 n1 (some b) :: tI sp :: tR 40 n0 (some a) :: st) h cu su := by
  intro p e s m args below meth c H locs ls C0 hW hE hS hl0 hL hst
  obtain ⟨ha, hta⟩ := hst.2.2.2.2.1 a rfl
  obtain ⟨hb, htb⟩ := hst.2.2.1 b rfl
  have hata : atA G h 40 n0 a H := (atc_A hta (by decide)).mp (hW.2.1 a ha)
  have hatb : atA G h 40 n1 b H := (atc_A htb (by decide)).mp (hW.2.1 b hb)
  have hK := C0.2.2.2.2.2.2.1.1
  have hts := C0.2.2.2.2.2.1
  have hfr := rest_ok (G := G) (pc := pc) (m := m) (ls := ls) (s0 := []) (st := st) (by rw [cats_eq]; exact hr)
  have eva : ∀ q, ev G h 40 q = fun j => .int (hI h q j) := fun q => rfl
  unfold atA at hata hatb
  rw [eva] at hata hatb
  intro T hT' X
  obtain ⟨-, k0, hk0, cm0, hkk0⟩ := (hK.2 0 _ rfl).1 n0 (fun j => .int (hI h a j))
  obtain ⟨-, k1, hk1, cm1, hkk1⟩ := (hK.2 0 _ rfl).1 n1 (fun j => .int (hI h b j))
  obtain ⟨vm', X', step⟩ := X.arraycopy C0.1 C0.2.2.2.2.1 (hts _ hlk) (hts _ hnat) (hts _ hstt) (hts _ hini) (src := G.1 + a) (dst := G.1 + b) (srcPos := sp) (destPos := dp) (n := n) (by rw [hT']; exact hata) (by rw [hT']; exact hatb)
    (fun _ z => by cases z) (fun _ z => by cases z) (fun z => by cases z) (fun z => by cases z) hk0 hk1 hkk0 hkk1 rfl h1 h2 h3
    (by rw [toInt_cl h1, toInt_cl h3, arrV_size]; omega) (by rw [toInt_cl h2, toInt_cl h3, arrV_size]; omega)
    (fun vm₁ _ i hi => by
      have e1 : (arrV (G.2.2.1 40) n0 (fun j => .int (hI h a j))).slots.getD (sp.toNatClampNeg + i) .null = .int (hI h a (sp.toNatClampNeg + i)) := by
        rw [Array.getD_eq_getD_getElem?, arrV_read _ _ (by omega)]
        rfl
      rw [e1]
      exact ⟨rfl, trivial⟩)
    (g := F0 m pc ls ((tI n :: tI dp :: tR 40 n1 (some b) :: tI sp :: tR 40 n0 (some a) :: st).map (cv G))) rfl (hl0.1.trans C0.2.2.1.symm) (rest := st.map (cv G)) rfl (by rw [C0.2.1]; exact hd) hdd (by
      have e2 : nativeFrameWords "java/lang/System" "arraycopy" 5 + 11 ≤ 40 := by decide +kernel
      show 2 * 0 + _ + _ ≤ 48 * d
      have e3 : 2 * 0 + ((st.map (cv G)).map fun v => v.category).sum ≤ 8 := hfr
      omega)
  have e1 : copied (arrV (G.2.2.1 40) n0 (fun j => .int (hI h a j))) (arrV (G.2.2.1 40) n1 (fun j => .int (hI h b j))) sp dp n = vp_cell (G.2.2.1 40) (n1, .inl (va_cpy (hI h a) (hI h b) sp.toNatClampNeg dp.toNatClampNeg n.toNatClampNeg)) := va_copied (fun z => .int z) (G.2.2.1 40) (G.2.2.1 40) (hI h a) (hI h b) h4
  rw [e1, vp_cell_i] at X' step
  generalize hX : arrV (G.2.2.1 40) n1 (fun j => .int (va_cpy (hI h a) (hI h b) sp.toNatClampNeg dp.toNatClampNeg n.toNatClampNeg j)) = X1 at X' step
  have hheap : ((T.setVm vm').setCell (G.1 + b) X1).heap = H.setIfInBounds (G.1 + b) X1 := by rw [← hT']; rfl
  have oq : ∀ q : Nat, q ≠ G.1 + b → (H.setIfInBounds (G.1 + b) X1)[q]? = H[q]? := fun q hq => by simp [Array.getElem?_setIfInBounds, Ne.symm hq]
  have hl : G.1 + b < H.size := (Array.getElem?_eq_some_iff.mp hatb).1
  have hee : ext h (cpI h a sp.toNatClampNeg b dp.toNatClampNeg n.toNatClampNeg) := ext_of rfl rfl
  obtain ⟨t, a1, b1⟩ := kk p e s m args below meth c (H.setIfInBounds (G.1 + b) X1) _ ls C0 (wd_set (a := b) hW (by simp) oq rfl rfl (fun q hq => ⟨va_up_ne _ _ hq, rfl, rfl⟩) (WF_of hW.2.2 rfl rfl rfl) (fun _ => by
      refine (atc_A (kind := 40) (n := n1) (show hT (cpI h a sp.toNatClampNeg b dp.toNatClampNeg n.toNatClampNeg) b = _ from htb) (by decide)).mpr ?_
      unfold atA
      have e4 : ev G (cpI h a sp.toNatClampNeg b dp.toNatClampNeg n.toNatClampNeg) 40 b = fun j => .int (va_cpy (hI h a) (hI h b) sp.toNatClampNeg dp.toNatClampNeg n.toNatClampNeg j) := by
        funext j
        show Value.int (va_up (hI h) b _ b j) = _
        rw [va_up_self]
      rw [e4, hX]
      simp [Array.getElem?_setIfInBounds, hl])) (hE.trans hee) ⟨by simp; exact hS.1, fun q g1 g2 => by
      rw [oq q (fun e => g2 (by rw [e]; exact Nat.le_add_right _ _))]
      exact hS.2.1 q g1 g2, fun q hq => by
      rcases List.mem_append.mp hq with z | z
      · exact hS.2.2 q z
      · obtain ⟨w, -, hw⟩ := List.mem_map.mp z
        rw [← hw]
        exact Nat.le_add_right _ _⟩ hl0 (hL.ext hee) (hst.2.2.2.2.2.ext hee) _ hheap X'
  exact ⟨t, step t a1, b1⟩
theorem cvS {i : Nat} (hi : i < 16) : cv G (tS i) = .ref (G.2.2.2.1 i) := by simp [cv, show i < 100 by omega]
theorem cvV {i : Nat} : cv G (tS (100 + i)) = .ref (G.2.2.2.2.1 i) := by simp [cv, show ¬ 100 + i < 100 by omega]
theorem r_strVal {i idx : Nat} (hi : i < 16) (hd : decode M.1 pc = .ok (.getfield idx, 3)) (hlk : Cond.fieldLink M.2.2.2.1 idx "java/lang/String" "value" "[B" ∈ GW) (kk : Rn l G d mc ms M h0 Q (pc + 3) L (tS (100 + i) :: st) h cu su) : Rn l G d mc ms M h0 Q pc L (tS i :: st) h cu su := by
  intro p e s m args below meth c H locs ls C0 hW hE hS hl0 hL hst
  have q := kk p e s m args below meth c H locs ls C0 hW hE hS hl0 hL ⟨Or.inr (Or.inl ⟨by omega, by omega⟩), hst.2⟩
  rw [List.map_cons, cvV] at q
  rw [List.map_cons, cvS hi]
  exact vk_getf C0.1 C0.2.1 (C0.2.2.2.2.2.2.1.2.1.1 i hi).2.2.1 hS C0.2.2.2.2.1 (C0.2.2.2.2.2.1 _ hlk) (fun _ z => z) hd q
theorem r_strCoder {i idx : Nat} (hi : i < 16) (hd : decode M.1 pc = .ok (.getfield idx, 3)) (hlk : Cond.fieldLink M.2.2.2.1 idx "java/lang/String" "coder" "B" ∈ GW) (kk : Rn l G d mc ms M h0 Q (pc + 3) L (tI 0 :: st) h cu su) : Rn l G d mc ms M h0 Q pc L (tS i :: st) h cu su := by
  intro p e s m args below meth c H locs ls C0 hW hE hS hl0 hL hst
  rw [List.map_cons, cvS hi]
  exact vk_getf C0.1 C0.2.1 (C0.2.2.2.2.2.2.1.2.1.1 i hi).2.1 hS C0.2.2.2.2.1 (C0.2.2.2.2.2.1 _ hlk) (fun _ z => z) hd (kk p e s m args below meth c H locs ls C0 hW hE hS hl0 hL ⟨trivial, hst.2⟩)
theorem r_strLen {i : Nat} {v : Int32} (hi : i < 16) (hd : decode M.1 pc = .ok (.arraylength, 1)) (hv : Int32.ofNat (lenS.getD i 0) = v) (kk : Rn l G d mc ms M h0 Q (pc + 1) L (tI v :: st) h cu su) : Rn l G d mc ms M h0 Q pc L (tS (100 + i) :: st) h cu su := by
  intro p e s m args below meth c H locs ls C0 hW hE hS hl0 hL hst
  rw [List.map_cons, cvV]
  exact va_tlen C0.1 C0.2.1 (C0.2.2.2.2.2.2.1.2.1.1 i hi).2.2.2 hS hv hd (kk p e s m args below meth c H locs ls C0 hW hE hS hl0 hL ⟨trivial, hst.2⟩)
theorem r_strLd {i : Nat} {j : Int32} (hi : i < 16) (hd : decode M.1 pc = .ok (.baload, 1)) (hin : vp_in j (lenS.getD i 0)) (kk : Rn l G d mc ms M h0 Q (pc + 1) L (tI ((bytS.getD i []).getD j.toNatClampNeg 0) :: st) h cu su) : Rn l G d mc ms M h0 Q pc L (tI j :: tS (100 + i) :: st) h cu su := by
  intro p e s m args below meth c H locs ls C0 hW hE hS hl0 hL hst
  rw [List.map_cons, List.map_cons, cvV]
  exact va_tb C0.1 C0.2.1 (C0.2.2.2.2.2.2.1.2.1.1 i hi).2.2.2 hS hin rfl hd (kk p e s m args below meth c H locs ls C0 hW hE hS hl0 hL ⟨trivial, hst.2.2⟩)
theorem r_getsC {idx : Nat} (hd : decode M.1 pc = .ok (.getstatic idx, 3)) (hlk : Cond.fieldLink M.2.2.2.1 idx "java/lang/String" "COMPACT_STRINGS" "Z" ∈ GW) (kk : Rn l G d mc ms M h0 Q (pc + 3) L (tI 1 :: st) h cu su) : Rn l G d mc ms M h0 Q pc L st h cu su := by
  intro p e s m args below meth c H locs ls C0 hW hE hS hl0 hL hst
  exact va_gets C0.1 C0.2.1 C0.2.2.2.2.2.2.1.2.2.2.1 hS C0.2.2.2.2.1 (C0.2.2.2.2.2.1 _ hlk) (fun _ z => z) hd (kk p e s m args below meth c H locs ls C0 hW hE hS hl0 hL ⟨trivial, hst⟩)
theorem r_getsF {idx : Nat} (hd : decode M.1 pc = .ok (.getstatic idx, 3)) (hlk : Cond.fieldLink M.2.2.2.1 idx "jdk/internal/util/Preconditions" "SIOOBE_FORMATTER" "Ljava/util/function/BiFunction;" ∈ GW) (k1 : Rn l G d mc ms M h0 Q (pc + 3) L (tR 0 0 none :: st) h cu su) (k2 : Rn l G d mc ms M h0 Q (pc + 3) L (tS 400 :: st) h cu su) : Rn l G d mc ms M h0 Q pc L st h cu su := by
  intro p e s m args below meth c H locs ls C0 hW hE hS hl0 hL hst
  rcases C0.2.2.2.2.2.2.1.2.2.2.2.1 with hZ | hZ
  · exact va_gets C0.1 C0.2.1 hZ hS C0.2.2.2.2.1 (C0.2.2.2.2.2.1 _ hlk) (fun _ z => z) hd (k1 p e s m args below meth c H locs ls C0 hW hE hS hl0 hL ⟨fun b hb => (by cases hb), hst⟩)
  · exact va_gets C0.1 C0.2.1 hZ hS C0.2.2.2.2.1 (C0.2.2.2.2.2.1 _ hlk) (fun _ z => z) hd (k2 p e s m args below meth c H locs ls C0 hW hE hS hl0 hL ⟨Or.inr (Or.inr (Or.inr rfl)), hst⟩)
theorem cvX : cv G (tS 300) = .ref (G.2.2.2.2.1 200) := rfl
theorem Sx {s : State} {H : Heap} {locs : List Loc} (hK : Kx G s) (hS : va_S (Ag G) s.heap H locs) : ∃ scr : Cell, H[G.2.2.2.2.1 200]? = some scr ∧ s.isArrayOf scr .int ∧ scr.vm ≠ .unknown ∧ scr.slots.size = G.2.2.2.2.2.1 ∧ ∀ j : Nat, j < G.2.2.2.2.2.1 → scr.slots[j]? = some (.int (G.2.2.2.2.2.2 j)) :=
  hK.2.2.2.2.2.1.kept (hS.2.1 _ hK.2.2.2.2.2.1.lt (Nat.not_le.mpr hK.2.2.2.2.2.2.1))
theorem r_sld {i : Int32} (hd : decode M.1 pc = .ok (.iaload, 1)) (hin : vp_in i G.2.2.2.2.2.1) (kk : Rn l G d mc ms M h0 Q (pc + 1) L (tI (G.2.2.2.2.2.2 i.toNatClampNeg) :: st) h cu su) : Rn l G d mc ms M h0 Q pc L (tI i :: tS 300 :: st) h cu su := by
  intro p e s m args below meth c H locs ls C0 hW hE hS hl0 hL hst
  obtain ⟨scr, g1, g2, g3, g4, g5⟩ := Sx C0.2.2.2.2.2.2.1 hS
  have hlt : i.toNatClampNeg < G.2.2.2.2.2.1 := Nat.not_le.mp fun q => hin (Or.inr q)
  rw [List.map_cons, List.map_cons, cvX]
  exact W.iald (v := .int (G.2.2.2.2.2.2 i.toNatClampNeg)) C0.1 C0.2.1 g1 g2 g3 (by rw [g4]; exact hin) (g5 _ hlt) rfl rfl hd (kk p e s m args below meth c H locs ls C0 hW hE hS hl0 hL ⟨trivial, hst.2.2⟩)
theorem r_slen (hd : decode M.1 pc = .ok (.arraylength, 1)) (kk : Rn l G d mc ms M h0 Q (pc + 1) L (tI (Int32.ofNat G.2.2.2.2.2.1) :: st) h cu su) : Rn l G d mc ms M h0 Q pc L (tS 300 :: st) h cu su := by
  intro p e s m args below meth c H locs ls C0 hW hE hS hl0 hL hst
  obtain ⟨scr, g1, g2, g3, g4, g5⟩ := Sx C0.2.2.2.2.2.2.1 hS
  rw [List.map_cons, cvX]
  exact W.alen C0.1 C0.2.1 g1 g2 (by rw [g4]) rfl rfl hd (kk p e s m args below meth c H locs ls C0 hW hE hS hl0 hL ⟨trivial, hst.2⟩)
/-- a method of String's on a String constant -/
theorem r_callStr {d' mc' ms' idx n i : Nat} {y : MethodName} {My : Mth} {as : List TV} {s0 : List TV} {Q' : Option TV → Hp → Prop} (hi : i < 16) (hd : decode M.1 pc = .ok (.invokevirtual idx, 3)) (mi : MI y My n) (hlk : Cond.methodLink M.2.2.2.1 idx y ∈ GW) (hin : Cond.instanceMethod y ∈ GW) (hsel : Cond.selects "java/lang/String" y y ∈ GW)
    (hn : as.length = n) (hs0 : s0 = as.reverse ++ tS i :: st) (hr : cats st ≤ 8) (hdd : d' + 1 ≤ d) (hc : cu + mc' ≤ mc ∧ su + ms' ≤ ms) (hct : Ct l G d' mc' ms' y My (tS i :: as) h Q') (kk : ∀ r h', Q' r h' → ext h h' → Rn l G d mc ms M h0 Q (pc + 3) L (r.toList ++ st) h' (cu + mc') (su + ms')) : Rn l G d mc ms M h0 Q pc L s0 h cu su := by
  subst hs0
  intro p e s m args below meth c H locs ls C0 hW hE hS hl0 hL hst
  have q0 := tyL_app.mp hst
  have hts := C0.2.2.2.2.2.1
  have hK := C0.2.2.2.2.2.2.1
  have cb : CallB (rmOf d mc ms) s args M.2.2.2.1 idx y My.1 My.2.1 My.2.2.1 (Cond.code y My.1 My.2.1 My.2.2.1 :: GW) (rmOf d' mc' ms') mc' ms' n :=
    callB_of n hts (goodC mi) rfl rfl rfl (hts _ mi.2.1) (hts _ hlk) ⟨mi.2.2.1, mi.2.2.2.1, mi.2.2.2.2.1⟩ ⟨hdd, by show 8 + (My.2.1 + 11) + 48 * d' ≤ 48 * d; have := mi.2.2.2.2.2; omega⟩
  refine r_go (st0 := (as.reverse ++ tS i :: st).map (cv G)) C0 hE hS hl0 hL q0.2.2 (va_runV (As := as.map (cv G)) (b := G.2.2.2.1 i) (C := "java/lang/String") ⟨C0.1, C0.2.1, C0.2.2.1, C0.2.2.2.2.1, hts⟩ hct ⟨cb, hts _ hin, hts _ hsel⟩ ⟨blindC, vk_recv hK.2.1 hi hS, fun U hU hWm => ⟨by rw [List.map_cons, cvS hi], by rw [hU]; exact hW, hK.to hWm (fun a ha hna => by rw [hU]; exact hS.2.1 a ha hna), q0.2.1, tyL_rev q0.1⟩⟩ rfl (by rw [List.length_map]; exact hn) hl0.1 ?_ (rest_ok (by rw [cats_eq]; exact hr)) hd hc) kk
  show List.map (cv G) (as.reverse ++ tS i :: st) = _
  rw [List.map_append, List.map_reverse, List.map_cons, cvS hi]
end RJ
end
section
abbrev ix (i : Int32) : Nat := i.toNatClampNeg
def qI (Q : Int32 → Hp → Prop) : Option TV → Hp → Prop := fun r h => ∃ x, r = some (tI x) ∧ Q x h
def qJ (Q : Int64 → Hp → Prop) : Option TV → Hp → Prop := fun r h => ∃ x, r = some (tJ x) ∧ Q x h
def qV (Q : Hp → Prop) : Option TV → Hp → Prop := fun r h => r = none ∧ Q h
def qR (k : Nat) (Q : Option Nat → Hp → Prop) : Option TV → Hp → Prop := fun r h => ∃ x, r = some (tR k 0 x) ∧ Q x h
section RM
variable {l : Launch} {G : Cx} {d mc ms : Nat} {M : Mth} {h0 : Hp} {Q : Option TV → Hp → Prop} {pc : Nat} {L : List (Option TV)} {st : List TV} {h : Hp} {cu su : Nat}
theorem r_nmI {x : Int32} (k : ∀ y, y = x → Rn l G d mc ms M h0 Q pc L (tI y :: st) h cu su) : Rn l G d mc ms M h0 Q pc L (tI x :: st) h cu su := k x rfl
theorem r_nmJ {x : Int64} (k : ∀ y, y = x → Rn l G d mc ms M h0 Q pc L (tJ y :: st) h cu su) : Rn l G d mc ms M h0 Q pc L (tJ x :: st) h cu su := k x rfl
theorem r_nmR {kd n : Nat} {x : Option Nat} (k : ∀ y, y = x → Rn l G d mc ms M h0 Q pc L (tR kd n y :: st) h cu su) : Rn l G d mc ms M h0 Q pc L (tR kd n x :: st) h cu su := k x rfl
/-- an element that is there -/
theorem r_aaldS {kd ti n a b : Nat} {cn : String} {i : Int32} (hd : decode M.1 pc = .ok (.aaload, 1)) (ht : (tysG G)[ti]? = some (G.2.2.1 (50 + kd), .object cn)) (hin : vp_in i n) (hb : hR h a (ix i) = some b) (kk : Rn l G d mc ms M h0 Q (pc + 1) L (tR kd 0 (some b) :: st) h cu su) : Rn l G d mc ms M h0 Q pc L (tI i :: tR (50 + kd) n (some a) :: st) h cu su :=
  r_aald hd ht hin (by rw [hb]; exact kk)
theorem r_getRS {ci kd a k idx rk b : Nat} {C : String} {T : u_T} {ty0 : Nat → FieldType} (cl : Cl ci C T ty0) (hd : decode M.1 pc = .ok (.getfield idx, 3)) (hl : Cond.fieldLink M.2.2.2.1 idx (T k).1 (T k).2.1 (T k).2.2.1 ∈ GW) (hkd : kd = ci ∨ kd = 20 + ci) (hf : fty ci k = 2) (hr : fref ci k = rk) (hk : rk < 40) (hb : hR h a k = some b) (kk : Rn l G d mc ms M h0 Q (pc + 3) L (tR rk 0 (some b) :: st) h cu su) : Rn l G d mc ms M h0 Q pc L (tR kd 0 (some a) :: st) h cu su :=
  r_getR cl hd hl hkd hf hr hk (by rw [hb]; exact kk)
theorem r_putI0 {ci kd a k idx : Nat} {C : String} {T : u_T} {ty0 : Nat → FieldType} {x : Int32} (cl : Cl ci C T ty0) (hd : decode M.1 pc = .ok (.putfield idx, 3)) (hl : Cond.fieldLink M.2.2.2.1 idx (T k).1 (T k).2.1 (T k).2.2.1 ∈ GW) (hkd : kd = ci ∨ kd = 20 + ci) (hf : fty ci k = 0 ∨ fty ci k = 3) (hty : ty0 k = .int) (hfin : (T k).2.2.2 = false ∨ ((T k).2.2.2 = true ∧ M.2.2.2.2 = "<init>" ∧ C = M.2.2.2.1)) (kk : Rn l G d mc ms M h0 Q (pc + 3) L st (wI h a k x) cu su) : Rn l G d mc ms M h0 Q pc L (tI x :: tR kd 0 (some a) :: st) h cu su :=
  r_putI cl hd hl hkd hf hfin (by rw [hty]; rfl) (by rw [hty]; rfl) kk
theorem r_putZ0 {ci kd a k idx : Nat} {C : String} {T : u_T} {ty0 : Nat → FieldType} {x : Int32} (cl : Cl ci C T ty0) (hd : decode M.1 pc = .ok (.putfield idx, 3)) (hl : Cond.fieldLink M.2.2.2.1 idx (T k).1 (T k).2.1 (T k).2.2.1 ∈ GW) (hkd : kd = ci ∨ kd = 20 + ci) (hf : fty ci k = 0 ∨ fty ci k = 3) (hty : ty0 k = .boolean) (hfin : (T k).2.2.2 = false ∨ ((T k).2.2.2 = true ∧ M.2.2.2.2 = "<init>" ∧ C = M.2.2.2.1)) (hb : bz x) (kk : Rn l G d mc ms M h0 Q (pc + 3) L st (wI h a k x) cu su) : Rn l G d mc ms M h0 Q pc L (tI x :: tR kd 0 (some a) :: st) h cu su :=
  r_putI cl hd hl hkd hf hfin (by rw [hty]; exact bz_nar hb) (by rw [hty]; rcases hb with rfl | rfl <;> rfl) kk
theorem r_putJ0 {ci kd a k idx : Nat} {C : String} {T : u_T} {ty0 : Nat → FieldType} {x : Int64} (cl : Cl ci C T ty0) (hd : decode M.1 pc = .ok (.putfield idx, 3)) (hl : Cond.fieldLink M.2.2.2.1 idx (T k).1 (T k).2.1 (T k).2.2.1 ∈ GW) (hkd : kd = ci ∨ kd = 20 + ci) (hf : fty ci k = 1) (hty : ty0 k = .long) (hfin : (T k).2.2.2 = false ∨ ((T k).2.2.2 = true ∧ M.2.2.2.2 = "<init>" ∧ C = M.2.2.2.1)) (kk : Rn l G d mc ms M h0 Q (pc + 3) L st (wJ h a k x) cu su) : Rn l G d mc ms M h0 Q pc L (tJ x :: tR kd 0 (some a) :: st) h cu su :=
  r_putJ cl hd hl hkd hf hfin (by rw [hty]; rfl) (by rw [hty]; rfl) kk
theorem r_putR0 {ci kd a k idx rk n : Nat} {C : String} {T : u_T} {ty0 : Nat → FieldType} {r : Option Nat} (cl : Cl ci C T ty0) (hd : decode M.1 pc = .ok (.putfield idx, 3)) (hl : Cond.fieldLink M.2.2.2.1 idx (T k).1 (T k).2.1 (T k).2.2.1 ∈ GW) (hkd : kd = ci ∨ kd = 20 + ci) (hf : fty ci k = 2) (hr : fref ci k = rk) (hs : kd < 20 → fcon kd k a = none) (hty : (∃ c, ty0 k = .object c) ∨ ∃ c, ty0 k = .array c) (hfin : (T k).2.2.2 = false ∨ ((T k).2.2.2 = true ∧ M.2.2.2.2 = "<init>" ∧ C = M.2.2.2.1)) (kk : Rn l G d mc ms M h0 Q (pc + 3) L st (wR h a k r) cu su) : Rn l G d mc ms M h0 Q pc L (tR rk n r :: tR kd 0 (some a) :: st) h cu su := by
  refine r_putR cl hd hl hkd hf hr hs hfin (fun q => ?_) ?_ kk
  · rcases hty with ⟨c, e⟩ | ⟨c, e⟩ <;> rw [e] <;> exact ⟨rfl, rfl⟩
  · rcases hty with ⟨c, e⟩ | ⟨c, e⟩ <;> rw [e] <;> exact ⟨rfl, rfl⟩
theorem r_bret {v : Int32} (hd : decode M.1 pc = .ok (.ireturn, 1)) (hr : M.2.2.1 = some .boolean) (hc : cu ≤ mc ∧ su ≤ ms) (hb : bz v) (hq : Q (some (tI v)) h) : Rn l G d mc ms M h0 Q pc L [tI v] h cu su := r_zreturn hd hr (bz_nar hb) hc hq
end RM
section RK
variable {l : Launch} {G : Cx} {d mc ms : Nat} {M : Mth} {h0 : Hp} {Q : Option TV → Hp → Prop} {pc : Nat} {L : List (Option TV)} {st : List TV} {h : Hp} {cu su : Nat}
theorem r_callVI {cu' su' : Nat} {Qc : Int32 → Hp → Prop} {ci d' mc' ms' idx n b : Nat} {C : String} {T : u_T} {ty0 : Nat → FieldType} {y : MethodName} {My : Mth} {as : List TV} {s0 : List TV}  (cl : Cl ci C T ty0) (hd : decode M.1 pc = .ok (.invokevirtual idx, 3)) (mi : MI y My n) (hlk : Cond.methodLink M.2.2.2.1 idx y ∈ GW) (hin : Cond.instanceMethod y ∈ GW) (hsel : Cond.selects C y y ∈ GW)
    (hn : as.length = n) (hs0 : s0 = as.reverse ++ tR ci 0 (some b) :: st) (hr : cats st ≤ 8) (hdd : d' + 1 ≤ d) (hc : cu + mc' ≤ mc ∧ su + ms' ≤ ms) (hcu : cu + mc' = cu' ∧ su + ms' = su') (hct : Ct l G d' mc' ms' y My (tR ci 0 (some b) :: as) h (qI Qc)) (kk : ∀ x h', Qc x h' → Rn l G d mc ms M h0 Q (pc + 3) L (tI x :: st) h' cu' su') : Rn l G d mc ms M h0 Q pc L s0 h cu su := by
  obtain ⟨rfl, rfl⟩ := hcu
  exact r_callV cl hd mi hlk hin hsel hn hs0 hr hdd hc hct (fun r h' q _ => by obtain ⟨x, rfl, hq⟩ := q; exact kk x h' hq)
theorem r_callVJ {cu' su' : Nat} {Qc : Int64 → Hp → Prop} {ci d' mc' ms' idx n b : Nat} {C : String} {T : u_T} {ty0 : Nat → FieldType} {y : MethodName} {My : Mth} {as : List TV} {s0 : List TV}  (cl : Cl ci C T ty0) (hd : decode M.1 pc = .ok (.invokevirtual idx, 3)) (mi : MI y My n) (hlk : Cond.methodLink M.2.2.2.1 idx y ∈ GW) (hin : Cond.instanceMethod y ∈ GW) (hsel : Cond.selects C y y ∈ GW)
    (hn : as.length = n) (hs0 : s0 = as.reverse ++ tR ci 0 (some b) :: st) (hr : cats st ≤ 8) (hdd : d' + 1 ≤ d) (hc : cu + mc' ≤ mc ∧ su + ms' ≤ ms) (hcu : cu + mc' = cu' ∧ su + ms' = su') (hct : Ct l G d' mc' ms' y My (tR ci 0 (some b) :: as) h (qJ Qc)) (kk : ∀ x h', Qc x h' → Rn l G d mc ms M h0 Q (pc + 3) L (tJ x :: st) h' cu' su') : Rn l G d mc ms M h0 Q pc L s0 h cu su := by
  obtain ⟨rfl, rfl⟩ := hcu
  exact r_callV cl hd mi hlk hin hsel hn hs0 hr hdd hc hct (fun r h' q _ => by obtain ⟨x, rfl, hq⟩ := q; exact kk x h' hq)
theorem r_callVU {cu' su' : Nat} {Qc : Hp → Prop} {ci d' mc' ms' idx n b : Nat} {C : String} {T : u_T} {ty0 : Nat → FieldType} {y : MethodName} {My : Mth} {as : List TV} {s0 : List TV}  (cl : Cl ci C T ty0) (hd : decode M.1 pc = .ok (.invokevirtual idx, 3)) (mi : MI y My n) (hlk : Cond.methodLink M.2.2.2.1 idx y ∈ GW) (hin : Cond.instanceMethod y ∈ GW) (hsel : Cond.selects C y y ∈ GW)
    (hn : as.length = n) (hs0 : s0 = as.reverse ++ tR ci 0 (some b) :: st) (hr : cats st ≤ 8) (hdd : d' + 1 ≤ d) (hc : cu + mc' ≤ mc ∧ su + ms' ≤ ms) (hcu : cu + mc' = cu' ∧ su + ms' = su') (hct : Ct l G d' mc' ms' y My (tR ci 0 (some b) :: as) h (qV Qc)) (kk : ∀ h', Qc h' → Rn l G d mc ms M h0 Q (pc + 3) L (st) h' cu' su') : Rn l G d mc ms M h0 Q pc L s0 h cu su := by
  obtain ⟨rfl, rfl⟩ := hcu
  exact r_callV cl hd mi hlk hin hsel hn hs0 hr hdd hc hct (fun r h' q _ => by obtain ⟨rfl, hq⟩ := q; exact kk h' hq)
theorem r_callVR {rk : Nat} {cu' su' : Nat} {Qc : Option Nat → Hp → Prop} {ci d' mc' ms' idx n b : Nat} {C : String} {T : u_T} {ty0 : Nat → FieldType} {y : MethodName} {My : Mth} {as : List TV} {s0 : List TV}  (cl : Cl ci C T ty0) (hd : decode M.1 pc = .ok (.invokevirtual idx, 3)) (mi : MI y My n) (hlk : Cond.methodLink M.2.2.2.1 idx y ∈ GW) (hin : Cond.instanceMethod y ∈ GW) (hsel : Cond.selects C y y ∈ GW)
    (hn : as.length = n) (hs0 : s0 = as.reverse ++ tR ci 0 (some b) :: st) (hr : cats st ≤ 8) (hdd : d' + 1 ≤ d) (hc : cu + mc' ≤ mc ∧ su + ms' ≤ ms) (hcu : cu + mc' = cu' ∧ su + ms' = su') (hct : Ct l G d' mc' ms' y My (tR ci 0 (some b) :: as) h (qR rk Qc)) (kk : ∀ x h', Qc x h' → Rn l G d mc ms M h0 Q (pc + 3) L (tR rk 0 x :: st) h' cu' su') : Rn l G d mc ms M h0 Q pc L s0 h cu su := by
  obtain ⟨rfl, rfl⟩ := hcu
  exact r_callV cl hd mi hlk hin hsel hn hs0 hr hdd hc hct (fun r h' q _ => by obtain ⟨x, rfl, hq⟩ := q; exact kk x h' hq)
theorem r_callSI {cu' su' : Nat} {Qc : Int32 → Hp → Prop} {d' mc' ms' idx n : Nat} {y : MethodName} {My : Mth} {as : List TV} {s0 : List TV}  (hd : decode M.1 pc = .ok (.invokestatic idx, 3)) (mi : MI y My n) (hlk : Cond.methodLink M.2.2.2.1 idx y ∈ GW) (hstt : Cond.static y ∈ GW)
    (hn : as.length = n) (hs0 : s0 = as.reverse ++ st) (hr : cats st ≤ 8) (hdd : d' + 1 ≤ d) (hc : cu + mc' ≤ mc ∧ su + ms' ≤ ms) (hcu : cu + mc' = cu' ∧ su + ms' = su') (hct : Ct l G d' mc' ms' y My as h (qI Qc)) (kk : ∀ x h', Qc x h' → Rn l G d mc ms M h0 Q (pc + 3) L (tI x :: st) h' cu' su') : Rn l G d mc ms M h0 Q pc L s0 h cu su := by
  obtain ⟨rfl, rfl⟩ := hcu
  exact r_callS hd mi hlk hstt hn hs0 hr hdd hc hct (fun r h' q _ => by obtain ⟨x, rfl, hq⟩ := q; exact kk x h' hq)
theorem r_callSJ {cu' su' : Nat} {Qc : Int64 → Hp → Prop} {d' mc' ms' idx n : Nat} {y : MethodName} {My : Mth} {as : List TV} {s0 : List TV}  (hd : decode M.1 pc = .ok (.invokestatic idx, 3)) (mi : MI y My n) (hlk : Cond.methodLink M.2.2.2.1 idx y ∈ GW) (hstt : Cond.static y ∈ GW)
    (hn : as.length = n) (hs0 : s0 = as.reverse ++ st) (hr : cats st ≤ 8) (hdd : d' + 1 ≤ d) (hc : cu + mc' ≤ mc ∧ su + ms' ≤ ms) (hcu : cu + mc' = cu' ∧ su + ms' = su') (hct : Ct l G d' mc' ms' y My as h (qJ Qc)) (kk : ∀ x h', Qc x h' → Rn l G d mc ms M h0 Q (pc + 3) L (tJ x :: st) h' cu' su') : Rn l G d mc ms M h0 Q pc L s0 h cu su := by
  obtain ⟨rfl, rfl⟩ := hcu
  exact r_callS hd mi hlk hstt hn hs0 hr hdd hc hct (fun r h' q _ => by obtain ⟨x, rfl, hq⟩ := q; exact kk x h' hq)
theorem r_callSU {cu' su' : Nat} {Qc : Hp → Prop} {d' mc' ms' idx n : Nat} {y : MethodName} {My : Mth} {as : List TV} {s0 : List TV}  (hd : decode M.1 pc = .ok (.invokestatic idx, 3)) (mi : MI y My n) (hlk : Cond.methodLink M.2.2.2.1 idx y ∈ GW) (hstt : Cond.static y ∈ GW)
    (hn : as.length = n) (hs0 : s0 = as.reverse ++ st) (hr : cats st ≤ 8) (hdd : d' + 1 ≤ d) (hc : cu + mc' ≤ mc ∧ su + ms' ≤ ms) (hcu : cu + mc' = cu' ∧ su + ms' = su') (hct : Ct l G d' mc' ms' y My as h (qV Qc)) (kk : ∀ h', Qc h' → Rn l G d mc ms M h0 Q (pc + 3) L (st) h' cu' su') : Rn l G d mc ms M h0 Q pc L s0 h cu su := by
  obtain ⟨rfl, rfl⟩ := hcu
  exact r_callS hd mi hlk hstt hn hs0 hr hdd hc hct (fun r h' q _ => by obtain ⟨rfl, hq⟩ := q; exact kk h' hq)
theorem r_callSR {rk : Nat} {cu' su' : Nat} {Qc : Option Nat → Hp → Prop} {d' mc' ms' idx n : Nat} {y : MethodName} {My : Mth} {as : List TV} {s0 : List TV}  (hd : decode M.1 pc = .ok (.invokestatic idx, 3)) (mi : MI y My n) (hlk : Cond.methodLink M.2.2.2.1 idx y ∈ GW) (hstt : Cond.static y ∈ GW)
    (hn : as.length = n) (hs0 : s0 = as.reverse ++ st) (hr : cats st ≤ 8) (hdd : d' + 1 ≤ d) (hc : cu + mc' ≤ mc ∧ su + ms' ≤ ms) (hcu : cu + mc' = cu' ∧ su + ms' = su') (hct : Ct l G d' mc' ms' y My as h (qR rk Qc)) (kk : ∀ x h', Qc x h' → Rn l G d mc ms M h0 Q (pc + 3) L (tR rk 0 x :: st) h' cu' su') : Rn l G d mc ms M h0 Q pc L s0 h cu su := by
  obtain ⟨rfl, rfl⟩ := hcu
  exact r_callS hd mi hlk hstt hn hs0 hr hdd hc hct (fun r h' q _ => by obtain ⟨x, rfl, hq⟩ := q; exact kk x h' hq)
theorem r_callStrI {cu' su' : Nat} {Qc : Int32 → Hp → Prop} {d' mc' ms' idx n i : Nat} {y : MethodName} {My : Mth} {as : List TV} {s0 : List TV}  (hi : i < 16) (hd : decode M.1 pc = .ok (.invokevirtual idx, 3)) (mi : MI y My n) (hlk : Cond.methodLink M.2.2.2.1 idx y ∈ GW) (hin : Cond.instanceMethod y ∈ GW) (hsel : Cond.selects "java/lang/String" y y ∈ GW)
    (hn : as.length = n) (hs0 : s0 = as.reverse ++ tS i :: st) (hr : cats st ≤ 8) (hdd : d' + 1 ≤ d) (hc : cu + mc' ≤ mc ∧ su + ms' ≤ ms) (hcu : cu + mc' = cu' ∧ su + ms' = su') (hct : Ct l G d' mc' ms' y My (tS i :: as) h (qI Qc)) (kk : ∀ x h', Qc x h' → Rn l G d mc ms M h0 Q (pc + 3) L (tI x :: st) h' cu' su') : Rn l G d mc ms M h0 Q pc L s0 h cu su := by
  obtain ⟨rfl, rfl⟩ := hcu
  exact r_callStr hi hd mi hlk hin hsel hn hs0 hr hdd hc hct (fun r h' q _ => by obtain ⟨x, rfl, hq⟩ := q; exact kk x h' hq)
theorem r_callIU {cu' su' : Nat} {Qc : Hp → Prop} {ci d' mc' ms' idx n b : Nat} {y : MethodName} {My : Mth} {as : List TV} {s0 : List TV}  (hd : decode M.1 pc = .ok (.invokespecial idx, 3)) (mi : MI y My n) (hrn : My.2.2.1 = none) (hlk : Cond.methodLink M.2.2.2.1 idx y ∈ GW) (hin : Cond.instanceMethod y ∈ GW) (hy1 : y.name = "<init>")
    (hn : as.length = n) (hs0 : s0 = as.reverse ++ tR (20 + ci) 0 (some b) :: st) (hr : cats st ≤ 8) (hdd : d' + 1 ≤ d) (hc : cu + mc' ≤ mc ∧ su + ms' ≤ ms) (hcu : cu + mc' = cu' ∧ su + ms' = su') (hct : Ct l G d' mc' ms' y My (tR (20 + ci) 0 (some b) :: as) h (qV Qc)) (kk : ∀ h', Qc h' → Rn l G d mc ms M h0 Q (pc + 3) L (st) h' cu' su') : Rn l G d mc ms M h0 Q pc L s0 h cu su := by
  obtain ⟨rfl, rfl⟩ := hcu
  exact r_callI hd mi hrn hlk hin hy1 hn hs0 hr hdd hc hct (fun r h' q _ => by obtain ⟨rfl, hq⟩ := q; exact kk h' hq)
theorem r_callINU {cu' su' : Nat} {Qc : Hp → Prop} {ci d' mc' ms' idx n b : Nat} {host : String} {y : MethodName} {My : Mth} {as : List TV} {s0 : List TV}  (hd : decode M.1 pc = .ok (.invokespecial idx, 3)) (mi : MI y My n) (hrn : My.2.2.1 = none) (hlk : (M.2.2.2.1, idx, y, host) ∈ nestT) (hin : Cond.instanceMethod y ∈ GW) (hy1 : y.name = "<init>")
    (hn : as.length = n) (hs0 : s0 = as.reverse ++ tR (20 + ci) 0 (some b) :: st) (hr : cats st ≤ 8) (hdd : d' + 1 ≤ d) (hc : cu + mc' ≤ mc ∧ su + ms' ≤ ms) (hcu : cu + mc' = cu' ∧ su + ms' = su') (hct : Ct l G d' mc' ms' y My (tR (20 + ci) 0 (some b) :: as) h (qV Qc)) (kk : ∀ h', Qc h' → Rn l G d mc ms M h0 Q (pc + 3) L (st) h' cu' su') : Rn l G d mc ms M h0 Q pc L s0 h cu su := by
  obtain ⟨rfl, rfl⟩ := hcu
  exact r_callIN hd mi hrn hlk hin hy1 hn hs0 hr hdd hc hct (fun r h' q _ => by obtain ⟨rfl, hq⟩ := q; exact kk h' hq)
end RK
theorem gf_0_0 : fty 0 0 = 2 ∧ fref 0 0 = 51 := by decide +kernel
theorem pf_0_0 : ((∃ c, tyX0 0 = .object c) ∨ ∃ c, tyX0 0 = .array c) ∧ (TX0 0).2.2.2 = true := ⟨Or.inr ⟨_, rfl⟩, by decide +kernel⟩
theorem gc_0_0 : ∀ a, fcon 0 0 a = some (a + 1, 6) := fun _ => rfl
theorem gf_0_1 : fty 0 1 = 0 ∨ fty 0 1 = 3 := by decide +kernel
theorem pf_0_1 : tyX0 1 = .int ∧ (TX0 1).2.2.2 = false := by decide +kernel
theorem gf_1_0 : fty 1 0 = 0 ∨ fty 1 0 = 3 := by decide +kernel
theorem pf_1_0 : tyX1 0 = .int ∧ (TX1 0).2.2.2 = true := by decide +kernel
theorem gf_1_1 : fty 1 1 = 0 ∨ fty 1 1 = 3 := by decide +kernel
theorem pf_1_1 : tyX1 1 = .int ∧ (TX1 1).2.2.2 = false := by decide +kernel
theorem gf_1_2 : fty 1 2 = 0 ∨ fty 1 2 = 3 := by decide +kernel
theorem pf_1_2 : tyX1 2 = .int ∧ (TX1 2).2.2.2 = false := by decide +kernel
theorem gf_1_3 : fty 1 3 = 0 ∨ fty 1 3 = 3 := by decide +kernel
theorem pf_1_3 : tyX1 3 = .int ∧ (TX1 3).2.2.2 = false := by decide +kernel
theorem gf_1_4 : fty 1 4 = 0 ∨ fty 1 4 = 3 := by decide +kernel
theorem pf_1_4 : tyX1 4 = .int ∧ (TX1 4).2.2.2 = false := by decide +kernel
theorem gf_1_5 : fty 1 5 = 0 ∨ fty 1 5 = 3 := by decide +kernel
theorem pf_1_5 : tyX1 5 = .int ∧ (TX1 5).2.2.2 = false := by decide +kernel
theorem gf_1_6 : fty 1 6 = 0 ∨ fty 1 6 = 3 := by decide +kernel
theorem pf_1_6 : tyX1 6 = .int ∧ (TX1 6).2.2.2 = false := by decide +kernel
theorem gf_1_7 : fty 1 7 = 0 ∨ fty 1 7 = 3 := by decide +kernel
theorem pf_1_7 : tyX1 7 = .int ∧ (TX1 7).2.2.2 = false := by decide +kernel
theorem gf_1_8 : fty 1 8 = 0 ∨ fty 1 8 = 3 := by decide +kernel
theorem pf_1_8 : tyX1 8 = .int ∧ (TX1 8).2.2.2 = false := by decide +kernel
theorem gf_1_9 : fty 1 9 = 2 ∧ fref 1 9 = 40 := by decide +kernel
theorem pf_1_9 : ((∃ c, tyX1 9 = .object c) ∨ ∃ c, tyX1 9 = .array c) ∧ (TX1 9).2.2.2 = true := ⟨Or.inr ⟨_, rfl⟩, by decide +kernel⟩
theorem gc_1_9 : ∀ a, fcon 1 9 a = some (a + 1, 96) := fun _ => rfl
theorem gf_1_10 : fty 1 10 = 2 ∧ fref 1 10 = 40 := by decide +kernel
theorem pf_1_10 : ((∃ c, tyX1 10 = .object c) ∨ ∃ c, tyX1 10 = .array c) ∧ (TX1 10).2.2.2 = true := ⟨Or.inr ⟨_, rfl⟩, by decide +kernel⟩
theorem gc_1_10 : ∀ a, fcon 1 10 a = some (a + 2, 216) := fun _ => rfl
theorem gf_1_11 : fty 1 11 = 2 ∧ fref 1 11 = 43 := by decide +kernel
theorem pf_1_11 : ((∃ c, tyX1 11 = .object c) ∨ ∃ c, tyX1 11 = .array c) ∧ (TX1 11).2.2.2 = true := ⟨Or.inr ⟨_, rfl⟩, by decide +kernel⟩
theorem gc_1_11 : ∀ a, fcon 1 11 a = some (a + 3, 36) := fun _ => rfl
theorem gf_1_12 : fty 1 12 = 2 ∧ fref 1 12 = 40 := by decide +kernel
theorem pf_1_12 : ((∃ c, tyX1 12 = .object c) ∨ ∃ c, tyX1 12 = .array c) ∧ (TX1 12).2.2.2 = true := ⟨Or.inr ⟨_, rfl⟩, by decide +kernel⟩
theorem gc_1_12 : ∀ a, fcon 1 12 a = some (a + 4, 36) := fun _ => rfl
theorem gf_2_0 : fty 2 0 = 2 ∧ fref 2 0 = 10 := by decide +kernel
theorem pf_2_0 : ((∃ c, tyX2 0 = .object c) ∨ ∃ c, tyX2 0 = .array c) ∧ (TX2 0).2.2.2 = true := ⟨Or.inl ⟨_, rfl⟩, by decide +kernel⟩
theorem gc_2_0 : ∀ a, fcon 2 0 a = some (2, 0) := fun _ => rfl
theorem gf_2_1 : fty 2 1 = 2 ∧ fref 2 1 = 8 := by decide +kernel
theorem pf_2_1 : ((∃ c, tyX2 1 = .object c) ∨ ∃ c, tyX2 1 = .array c) ∧ (TX2 1).2.2.2 = true := ⟨Or.inl ⟨_, rfl⟩, by decide +kernel⟩
theorem gc_2_1 : ∀ a, fcon 2 1 a = some (5, 0) := fun _ => rfl
theorem gf_2_2 : fty 2 2 = 2 ∧ fref 2 2 = 40 := by decide +kernel
theorem pf_2_2 : ((∃ c, tyX2 2 = .object c) ∨ ∃ c, tyX2 2 = .array c) ∧ (TX2 2).2.2.2 = true := ⟨Or.inr ⟨_, rfl⟩, by decide +kernel⟩
theorem gc_2_2 : ∀ a, fcon 2 2 a = some (7, 8) := fun _ => rfl
theorem gf_2_3 : fty 2 3 = 2 ∧ fref 2 3 = 1 := by decide +kernel
theorem pf_2_3 : ((∃ c, tyX2 3 = .object c) ∨ ∃ c, tyX2 3 = .array c) ∧ (TX2 3).2.2.2 = false := ⟨Or.inl ⟨_, rfl⟩, by decide +kernel⟩
theorem gc_2_3 : ∀ a, fcon 2 3 a = none := fun _ => rfl
theorem gf_2_4 : fty 2 4 = 0 ∨ fty 2 4 = 3 := by decide +kernel
theorem pf_2_4 : tyX2 4 = .int ∧ (TX2 4).2.2.2 = false := by decide +kernel
theorem gf_2_5 : fty 2 5 = 0 ∨ fty 2 5 = 3 := by decide +kernel
theorem pf_2_5 : tyX2 5 = .int ∧ (TX2 5).2.2.2 = false := by decide +kernel
theorem gf_2_6 : fty 2 6 = 0 ∨ fty 2 6 = 3 := by decide +kernel
theorem pf_2_6 : tyX2 6 = .int ∧ (TX2 6).2.2.2 = false := by decide +kernel
theorem gf_2_7 : fty 2 7 = 0 ∨ fty 2 7 = 3 := by decide +kernel
theorem pf_2_7 : tyX2 7 = .int ∧ (TX2 7).2.2.2 = false := by decide +kernel
theorem gf_3_0 : fty 3 0 = 2 ∧ fref 3 0 = 40 := by decide +kernel
theorem pf_3_0 : ((∃ c, tyX3 0 = .object c) ∨ ∃ c, tyX3 0 = .array c) ∧ (TX3 0).2.2.2 = true := ⟨Or.inr ⟨_, rfl⟩, by decide +kernel⟩
theorem gc_3_0 : ∀ a, fcon 3 0 a = some (1, 8) := fun _ => rfl
theorem gf_3_1 : fty 3 1 = 2 ∧ fref 3 1 = 40 := by decide +kernel
theorem pf_3_1 : ((∃ c, tyX3 1 = .object c) ∨ ∃ c, tyX3 1 = .array c) ∧ (TX3 1).2.2.2 = true := ⟨Or.inr ⟨_, rfl⟩, by decide +kernel⟩
theorem gc_3_1 : ∀ a, fcon 3 1 a = some (31, 576) := fun _ => rfl
theorem gf_3_2 : fty 3 2 = 0 ∨ fty 3 2 = 3 := by decide +kernel
theorem pf_3_2 : tyX3 2 = .int ∧ (TX3 2).2.2.2 = false := by decide +kernel
theorem gf_3_3 : fty 3 3 = 0 ∨ fty 3 3 = 3 := by decide +kernel
theorem pf_3_3 : tyX3 3 = .int ∧ (TX3 3).2.2.2 = false := by decide +kernel
theorem gf_3_4 : fty 3 4 = 0 ∨ fty 3 4 = 3 := by decide +kernel
theorem pf_3_4 : tyX3 4 = .int ∧ (TX3 4).2.2.2 = false := by decide +kernel
theorem gf_4_0 : fty 4 0 = 2 ∧ fref 4 0 = 40 := by decide +kernel
theorem pf_4_0 : ((∃ c, tyX4 0 = .object c) ∨ ∃ c, tyX4 0 = .array c) ∧ (TX4 0).2.2.2 = true := ⟨Or.inr ⟨_, rfl⟩, by decide +kernel⟩
theorem gc_4_0 : ∀ a, fcon 4 0 a = some (44, 72) := fun _ => rfl
theorem gf_4_1 : fty 4 1 = 2 ∧ fref 4 1 = 40 := by decide +kernel
theorem pf_4_1 : ((∃ c, tyX4 1 = .object c) ∨ ∃ c, tyX4 1 = .array c) ∧ (TX4 1).2.2.2 = true := ⟨Or.inr ⟨_, rfl⟩, by decide +kernel⟩
theorem gc_4_1 : ∀ a, fcon 4 1 a = some (45, 72) := fun _ => rfl
theorem gf_4_2 : fty 4 2 = 2 ∧ fref 4 2 = 43 := by decide +kernel
theorem pf_4_2 : ((∃ c, tyX4 2 = .object c) ∨ ∃ c, tyX4 2 = .array c) ∧ (TX4 2).2.2.2 = true := ⟨Or.inr ⟨_, rfl⟩, by decide +kernel⟩
theorem gc_4_2 : ∀ a, fcon 4 2 a = some (46, 72) := fun _ => rfl
theorem gf_4_3 : fty 4 3 = 0 ∨ fty 4 3 = 3 := by decide +kernel
theorem pf_4_3 : tyX4 3 = .int ∧ (TX4 3).2.2.2 = false := by decide +kernel
theorem gf_4_4 : fty 4 4 = 2 ∧ fref 4 4 = 40 := by decide +kernel
theorem pf_4_4 : ((∃ c, tyX4 4 = .object c) ∨ ∃ c, tyX4 4 = .array c) ∧ (TX4 4).2.2.2 = true := ⟨Or.inr ⟨_, rfl⟩, by decide +kernel⟩
theorem gc_4_4 : ∀ a, fcon 4 4 a = some (47, 24) := fun _ => rfl
theorem gf_4_5 : fty 4 5 = 2 ∧ fref 4 5 = 0 := by decide +kernel
theorem pf_4_5 : ((∃ c, tyX4 5 = .object c) ∨ ∃ c, tyX4 5 = .array c) ∧ (TX4 5).2.2.2 = true := ⟨Or.inl ⟨_, rfl⟩, by decide +kernel⟩
theorem gc_4_5 : ∀ a, fcon 4 5 a = some (48, 0) := fun _ => rfl
theorem gf_4_6 : fty 4 6 = 2 ∧ fref 4 6 = 40 := by decide +kernel
theorem pf_4_6 : ((∃ c, tyX4 6 = .object c) ∨ ∃ c, tyX4 6 = .array c) ∧ (TX4 6).2.2.2 = true := ⟨Or.inr ⟨_, rfl⟩, by decide +kernel⟩
theorem gc_4_6 : ∀ a, fcon 4 6 a = some (50, 24) := fun _ => rfl
theorem gf_5_0 : fty 5 0 = 2 ∧ fref 5 0 = 40 := by decide +kernel
theorem pf_5_0 : ((∃ c, tyX5 0 = .object c) ∨ ∃ c, tyX5 0 = .array c) ∧ (TX5 0).2.2.2 = true := ⟨Or.inr ⟨_, rfl⟩, by decide +kernel⟩
theorem gc_5_0 : ∀ a, fcon 5 0 a = some (1, 8) := fun _ => rfl
theorem gf_5_1 : fty 5 1 = 2 ∧ fref 5 1 = 40 := by decide +kernel
theorem pf_5_1 : ((∃ c, tyX5 1 = .object c) ∨ ∃ c, tyX5 1 = .array c) ∧ (TX5 1).2.2.2 = true := ⟨Or.inr ⟨_, rfl⟩, by decide +kernel⟩
theorem gc_5_1 : ∀ a, fcon 5 1 a = some (15, 1296) := fun _ => rfl
theorem gf_5_2 : fty 5 2 = 2 ∧ fref 5 2 = 43 := by decide +kernel
theorem pf_5_2 : ((∃ c, tyX5 2 = .object c) ∨ ∃ c, tyX5 2 = .array c) ∧ (TX5 2).2.2.2 = true := ⟨Or.inr ⟨_, rfl⟩, by decide +kernel⟩
theorem gc_5_2 : ∀ a, fcon 5 2 a = some (16, 216) := fun _ => rfl
theorem gf_5_3 : fty 5 3 = 0 ∨ fty 5 3 = 3 := by decide +kernel
theorem pf_5_3 : tyX5 3 = .int ∧ (TX5 3).2.2.2 = false := by decide +kernel
theorem gf_5_4 : fty 5 4 = 0 ∨ fty 5 4 = 3 := by decide +kernel
theorem pf_5_4 : tyX5 4 = .int ∧ (TX5 4).2.2.2 = false := by decide +kernel
theorem gf_5_5 : fty 5 5 = 2 ∧ fref 5 5 = 40 := by decide +kernel
theorem pf_5_5 : ((∃ c, tyX5 5 = .object c) ∨ ∃ c, tyX5 5 = .array c) ∧ (TX5 5).2.2.2 = true := ⟨Or.inr ⟨_, rfl⟩, by decide +kernel⟩
theorem gc_5_5 : ∀ a, fcon 5 5 a = some (17, 8) := fun _ => rfl
theorem gf_5_6 : fty 5 6 = 0 ∨ fty 5 6 = 3 := by decide +kernel
theorem pf_5_6 : tyX5 6 = .int ∧ (TX5 6).2.2.2 = false := by decide +kernel
theorem gf_5_7 : fty 5 7 = 2 ∧ fref 5 7 = 40 := by decide +kernel
theorem pf_5_7 : ((∃ c, tyX5 7 = .object c) ∨ ∃ c, tyX5 7 = .array c) ∧ (TX5 7).2.2.2 = true := ⟨Or.inr ⟨_, rfl⟩, by decide +kernel⟩
theorem gc_5_7 : ∀ a, fcon 5 7 a = some (18, 6) := fun _ => rfl
theorem gf_5_8 : fty 5 8 = 2 ∧ fref 5 8 = 43 := by decide +kernel
theorem pf_5_8 : ((∃ c, tyX5 8 = .object c) ∨ ∃ c, tyX5 8 = .array c) ∧ (TX5 8).2.2.2 = true := ⟨Or.inr ⟨_, rfl⟩, by decide +kernel⟩
theorem gc_5_8 : ∀ a, fcon 5 8 a = some (19, 48) := fun _ => rfl
theorem gf_5_9 : fty 5 9 = 2 ∧ fref 5 9 = 40 := by decide +kernel
theorem pf_5_9 : ((∃ c, tyX5 9 = .object c) ∨ ∃ c, tyX5 9 = .array c) ∧ (TX5 9).2.2.2 = true := ⟨Or.inr ⟨_, rfl⟩, by decide +kernel⟩
theorem gc_5_9 : ∀ a, fcon 5 9 a = some (20, 8) := fun _ => rfl
theorem gf_5_10 : fty 5 10 = 2 ∧ fref 5 10 = 43 := by decide +kernel
theorem pf_5_10 : ((∃ c, tyX5 10 = .object c) ∨ ∃ c, tyX5 10 = .array c) ∧ (TX5 10).2.2.2 = true := ⟨Or.inr ⟨_, rfl⟩, by decide +kernel⟩
theorem gc_5_10 : ∀ a, fcon 5 10 a = some (21, 8) := fun _ => rfl
theorem gf_5_11 : fty 5 11 = 2 ∧ fref 5 11 = 43 := by decide +kernel
theorem pf_5_11 : ((∃ c, tyX5 11 = .object c) ∨ ∃ c, tyX5 11 = .array c) ∧ (TX5 11).2.2.2 = true := ⟨Or.inr ⟨_, rfl⟩, by decide +kernel⟩
theorem gc_5_11 : ∀ a, fcon 5 11 a = some (22, 8) := fun _ => rfl
theorem gf_5_12 : fty 5 12 = 2 ∧ fref 5 12 = 43 := by decide +kernel
theorem pf_5_12 : ((∃ c, tyX5 12 = .object c) ∨ ∃ c, tyX5 12 = .array c) ∧ (TX5 12).2.2.2 = true := ⟨Or.inr ⟨_, rfl⟩, by decide +kernel⟩
theorem gc_5_12 : ∀ a, fcon 5 12 a = some (23, 8) := fun _ => rfl
theorem gf_5_13 : fty 5 13 = 2 ∧ fref 5 13 = 40 := by decide +kernel
theorem pf_5_13 : ((∃ c, tyX5 13 = .object c) ∨ ∃ c, tyX5 13 = .array c) ∧ (TX5 13).2.2.2 = true := ⟨Or.inr ⟨_, rfl⟩, by decide +kernel⟩
theorem gc_5_13 : ∀ a, fcon 5 13 a = some (24, 8) := fun _ => rfl
theorem gf_5_14 : fty 5 14 = 2 ∧ fref 5 14 = 40 := by decide +kernel
theorem pf_5_14 : ((∃ c, tyX5 14 = .object c) ∨ ∃ c, tyX5 14 = .array c) ∧ (TX5 14).2.2.2 = true := ⟨Or.inr ⟨_, rfl⟩, by decide +kernel⟩
theorem gc_5_14 : ∀ a, fcon 5 14 a = some (25, 8) := fun _ => rfl
theorem gf_5_15 : fty 5 15 = 0 ∨ fty 5 15 = 3 := by decide +kernel
theorem pf_5_15 : tyX5 15 = .int ∧ (TX5 15).2.2.2 = false := by decide +kernel
theorem gf_5_16 : fty 5 16 = 0 ∨ fty 5 16 = 3 := by decide +kernel
theorem pf_5_16 : tyX5 16 = .int ∧ (TX5 16).2.2.2 = false := by decide +kernel
theorem gf_5_17 : fty 5 17 = 0 ∨ fty 5 17 = 3 := by decide +kernel
theorem pf_5_17 : tyX5 17 = .int ∧ (TX5 17).2.2.2 = false := by decide +kernel
theorem gf_5_18 : fty 5 18 = 0 ∨ fty 5 18 = 3 := by decide +kernel
theorem pf_5_18 : tyX5 18 = .int ∧ (TX5 18).2.2.2 = false := by decide +kernel
theorem gf_5_19 : fty 5 19 = 0 ∨ fty 5 19 = 3 := by decide +kernel
theorem pf_5_19 : tyX5 19 = .int ∧ (TX5 19).2.2.2 = false := by decide +kernel
theorem gf_6_0 : fty 6 0 = 2 ∧ fref 6 0 = 40 := by decide +kernel
theorem pf_6_0 : ((∃ c, tyX6 0 = .object c) ∨ ∃ c, tyX6 0 = .array c) ∧ (TX6 0).2.2.2 = true := ⟨Or.inr ⟨_, rfl⟩, by decide +kernel⟩
theorem gc_6_0 : ∀ a, fcon 6 0 a = some (a + 1, 96) := fun _ => rfl
theorem gf_6_1 : fty 6 1 = 0 ∨ fty 6 1 = 3 := by decide +kernel
theorem pf_6_1 : tyX6 1 = .int ∧ (TX6 1).2.2.2 = false := by decide +kernel
theorem gf_7_0 : fty 7 0 = 2 ∧ fref 7 0 = 5 := by decide +kernel
theorem pf_7_0 : ((∃ c, tyX7 0 = .object c) ∨ ∃ c, tyX7 0 = .array c) ∧ (TX7 0).2.2.2 = true := ⟨Or.inl ⟨_, rfl⟩, by decide +kernel⟩
theorem gc_7_0 : ∀ a, fcon 7 0 a = some (14, 0) := fun _ => rfl
theorem gf_7_1 : fty 7 1 = 2 ∧ fref 7 1 = 3 := by decide +kernel
theorem pf_7_1 : ((∃ c, tyX7 1 = .object c) ∨ ∃ c, tyX7 1 = .array c) ∧ (TX7 1).2.2.2 = true := ⟨Or.inl ⟨_, rfl⟩, by decide +kernel⟩
theorem gc_7_1 : ∀ a, fcon 7 1 a = some (30, 0) := fun _ => rfl
theorem gf_7_2 : fty 7 2 = 2 ∧ fref 7 2 = 51 := by decide +kernel
theorem pf_7_2 : ((∃ c, tyX7 2 = .object c) ∨ ∃ c, tyX7 2 = .array c) ∧ (TX7 2).2.2.2 = true := ⟨Or.inr ⟨_, rfl⟩, by decide +kernel⟩
theorem gc_7_2 : ∀ a, fcon 7 2 a = some (33, 10) := fun _ => rfl
theorem gf_7_3 : fty 7 3 = 0 ∨ fty 7 3 = 3 := by decide +kernel
theorem pf_7_3 : tyX7 3 = .int ∧ (TX7 3).2.2.2 = false := by decide +kernel
theorem gf_7_4 : fty 7 4 = 2 ∧ fref 7 4 = 40 := by decide +kernel
theorem pf_7_4 : ((∃ c, tyX7 4 = .object c) ∨ ∃ c, tyX7 4 = .array c) ∧ (TX7 4).2.2.2 = true := ⟨Or.inr ⟨_, rfl⟩, by decide +kernel⟩
theorem gc_7_4 : ∀ a, fcon 7 4 a = some (34, 1024) := fun _ => rfl
theorem gf_7_5 : fty 7 5 = 0 ∨ fty 7 5 = 3 := by decide +kernel
theorem pf_7_5 : tyX7 5 = .int ∧ (TX7 5).2.2.2 = false := by decide +kernel
theorem gf_7_6 : fty 7 6 = 0 ∨ fty 7 6 = 3 := by decide +kernel
theorem pf_7_6 : tyX7 6 = .int ∧ (TX7 6).2.2.2 = false := by decide +kernel
theorem gf_7_7 : fty 7 7 = 2 ∧ fref 7 7 = 40 := by decide +kernel
theorem pf_7_7 : ((∃ c, tyX7 7 = .object c) ∨ ∃ c, tyX7 7 = .array c) ∧ (TX7 7).2.2.2 = true := ⟨Or.inr ⟨_, rfl⟩, by decide +kernel⟩
theorem gc_7_7 : ∀ a, fcon 7 7 a = some (35, 1024) := fun _ => rfl
theorem gf_7_8 : fty 7 8 = 2 ∧ fref 7 8 = 40 := by decide +kernel
theorem pf_7_8 : ((∃ c, tyX7 8 = .object c) ∨ ∃ c, tyX7 8 = .array c) ∧ (TX7 8).2.2.2 = true := ⟨Or.inr ⟨_, rfl⟩, by decide +kernel⟩
theorem gc_7_8 : ∀ a, fcon 7 8 a = some (36, 10) := fun _ => rfl
theorem gf_7_9 : fty 7 9 = 2 ∧ fref 7 9 = 40 := by decide +kernel
theorem pf_7_9 : ((∃ c, tyX7 9 = .object c) ∨ ∃ c, tyX7 9 = .array c) ∧ (TX7 9).2.2.2 = true := ⟨Or.inr ⟨_, rfl⟩, by decide +kernel⟩
theorem gc_7_9 : ∀ a, fcon 7 9 a = some (37, 120) := fun _ => rfl
theorem gf_7_10 : fty 7 10 = 2 ∧ fref 7 10 = 40 := by decide +kernel
theorem pf_7_10 : ((∃ c, tyX7 10 = .object c) ∨ ∃ c, tyX7 10 = .array c) ∧ (TX7 10).2.2.2 = true := ⟨Or.inr ⟨_, rfl⟩, by decide +kernel⟩
theorem gc_7_10 : ∀ a, fcon 7 10 a = some (38, 1024) := fun _ => rfl
theorem gf_7_11 : fty 7 11 = 0 ∨ fty 7 11 = 3 := by decide +kernel
theorem pf_7_11 : tyX7 11 = .int ∧ (TX7 11).2.2.2 = false := by decide +kernel
theorem gf_7_12 : fty 7 12 = 2 ∧ fref 7 12 = 0 := by decide +kernel
theorem pf_7_12 : ((∃ c, tyX7 12 = .object c) ∨ ∃ c, tyX7 12 = .array c) ∧ (TX7 12).2.2.2 = true := ⟨Or.inl ⟨_, rfl⟩, by decide +kernel⟩
theorem gc_7_12 : ∀ a, fcon 7 12 a = some (39, 0) := fun _ => rfl
theorem gf_7_13 : fty 7 13 = 2 ∧ fref 7 13 = 43 := by decide +kernel
theorem pf_7_13 : ((∃ c, tyX7 13 = .object c) ∨ ∃ c, tyX7 13 = .array c) ∧ (TX7 13).2.2.2 = true := ⟨Or.inr ⟨_, rfl⟩, by decide +kernel⟩
theorem gc_7_13 : ∀ a, fcon 7 13 a = some (41, 480) := fun _ => rfl
theorem gf_7_14 : fty 7 14 = 2 ∧ fref 7 14 = 43 := by decide +kernel
theorem pf_7_14 : ((∃ c, tyX7 14 = .object c) ∨ ∃ c, tyX7 14 = .array c) ∧ (TX7 14).2.2.2 = true := ⟨Or.inr ⟨_, rfl⟩, by decide +kernel⟩
theorem gc_7_14 : ∀ a, fcon 7 14 a = some (42, 336) := fun _ => rfl
theorem gf_8_0 : fty 8 0 = 0 ∨ fty 8 0 = 3 := by decide +kernel
theorem pf_8_0 : tyX8 0 = .int ∧ (TX8 0).2.2.2 = false := by decide +kernel
theorem gf_8_1 : fty 8 1 = 2 ∧ fref 8 1 = 40 := by decide +kernel
theorem pf_8_1 : ((∃ c, tyX8 1 = .object c) ∨ ∃ c, tyX8 1 = .array c) ∧ (TX8 1).2.2.2 = true := ⟨Or.inr ⟨_, rfl⟩, by decide +kernel⟩
theorem gc_8_1 : ∀ a, fcon 8 1 a = some (6, 512) := fun _ => rfl
theorem gf_8_2 : fty 8 2 = 0 ∨ fty 8 2 = 3 := by decide +kernel
theorem pf_8_2 : tyX8 2 = .int ∧ (TX8 2).2.2.2 = false := by decide +kernel
theorem gf_9_0 : fty 9 0 = 0 ∨ fty 9 0 = 3 := by decide +kernel
theorem pf_9_0 : tyX9 0 = .boolean ∧ (TX9 0).2.2.2 = false := by decide +kernel
theorem gf_9_1 : fty 9 1 = 0 ∨ fty 9 1 = 3 := by decide +kernel
theorem pf_9_1 : tyX9 1 = .int ∧ (TX9 1).2.2.2 = false := by decide +kernel
theorem gf_9_2 : fty 9 2 = 2 ∧ fref 9 2 = 40 := by decide +kernel
theorem pf_9_2 : ((∃ c, tyX9 2 = .object c) ∨ ∃ c, tyX9 2 = .array c) ∧ (TX9 2).2.2.2 = true := ⟨Or.inr ⟨_, rfl⟩, by decide +kernel⟩
theorem gc_9_2 : ∀ a, fcon 9 2 a = some (27, 64) := fun _ => rfl
theorem gf_9_3 : fty 9 3 = 2 ∧ fref 9 3 = 43 := by decide +kernel
theorem pf_9_3 : ((∃ c, tyX9 3 = .object c) ∨ ∃ c, tyX9 3 = .array c) ∧ (TX9 3).2.2.2 = true := ⟨Or.inr ⟨_, rfl⟩, by decide +kernel⟩
theorem gc_9_3 : ∀ a, fcon 9 3 a = some (28, 256) := fun _ => rfl
theorem gf_9_4 : fty 9 4 = 2 ∧ fref 9 4 = 43 := by decide +kernel
theorem pf_9_4 : ((∃ c, tyX9 4 = .object c) ∨ ∃ c, tyX9 4 = .array c) ∧ (TX9 4).2.2.2 = true := ⟨Or.inr ⟨_, rfl⟩, by decide +kernel⟩
theorem gc_9_4 : ∀ a, fcon 9 4 a = some (29, 8) := fun _ => rfl
theorem gf_10_0 : fty 10 0 = 2 ∧ fref 10 0 = 40 := by decide +kernel
theorem pf_10_0 : ((∃ c, tyX10 0 = .object c) ∨ ∃ c, tyX10 0 = .array c) ∧ (TX10 0).2.2.2 = true := ⟨Or.inr ⟨_, rfl⟩, by decide +kernel⟩
theorem gc_10_0 : ∀ a, fcon 10 0 a = some (3, 600) := fun _ => rfl
theorem gf_10_1 : fty 10 1 = 0 ∨ fty 10 1 = 3 := by decide +kernel
theorem pf_10_1 : tyX10 1 = .int ∧ (TX10 1).2.2.2 = false := by decide +kernel
theorem gf_10_2 : fty 10 2 = 0 ∨ fty 10 2 = 3 := by decide +kernel
theorem pf_10_2 : tyX10 2 = .int ∧ (TX10 2).2.2.2 = false := by decide +kernel
theorem gf_10_3 : fty 10 3 = 0 ∨ fty 10 3 = 3 := by decide +kernel
theorem pf_10_3 : tyX10 3 = .int ∧ (TX10 3).2.2.2 = false := by decide +kernel
theorem gf_10_4 : fty 10 4 = 0 ∨ fty 10 4 = 3 := by decide +kernel
theorem pf_10_4 : tyX10 4 = .int ∧ (TX10 4).2.2.2 = false := by decide +kernel
theorem gf_10_5 : fty 10 5 = 0 ∨ fty 10 5 = 3 := by decide +kernel
theorem pf_10_5 : tyX10 5 = .int ∧ (TX10 5).2.2.2 = false := by decide +kernel
theorem gf_10_6 : fty 10 6 = 0 ∨ fty 10 6 = 3 := by decide +kernel
theorem pf_10_6 : tyX10 6 = .int ∧ (TX10 6).2.2.2 = false := by decide +kernel
theorem gf_11_0 : fty 11 0 = 2 ∧ fref 11 0 = 40 := by decide +kernel
theorem pf_11_0 : ((∃ c, tyX11 0 = .object c) ∨ ∃ c, tyX11 0 = .array c) ∧ (TX11 0).2.2.2 = true := ⟨Or.inr ⟨_, rfl⟩, by decide +kernel⟩
theorem gc_11_0 : ∀ a, fcon 11 0 a = some (1, 8) := fun _ => rfl
theorem gf_11_1 : fty 11 1 = 2 ∧ fref 11 1 = 10 := by decide +kernel
theorem pf_11_1 : ((∃ c, tyX11 1 = .object c) ∨ ∃ c, tyX11 1 = .array c) ∧ (TX11 1).2.2.2 = true := ⟨Or.inl ⟨_, rfl⟩, by decide +kernel⟩
theorem gc_11_1 : ∀ a, fcon 11 1 a = some (2, 0) := fun _ => rfl
theorem gf_11_2 : fty 11 2 = 2 ∧ fref 11 2 = 2 := by decide +kernel
theorem pf_11_2 : ((∃ c, tyX11 2 = .object c) ∨ ∃ c, tyX11 2 = .array c) ∧ (TX11 2).2.2.2 = true := ⟨Or.inl ⟨_, rfl⟩, by decide +kernel⟩
theorem gc_11_2 : ∀ a, fcon 11 2 a = some (4, 0) := fun _ => rfl
theorem gf_11_3 : fty 11 3 = 2 ∧ fref 11 3 = 51 := by decide +kernel
theorem pf_11_3 : ((∃ c, tyX11 3 = .object c) ∨ ∃ c, tyX11 3 = .array c) ∧ (TX11 3).2.2.2 = true := ⟨Or.inr ⟨_, rfl⟩, by decide +kernel⟩
theorem gc_11_3 : ∀ a, fcon 11 3 a = some (8, 24) := fun _ => rfl
theorem gf_11_4 : fty 11 4 = 0 ∨ fty 11 4 = 3 := by decide +kernel
theorem pf_11_4 : tyX11 4 = .int ∧ (TX11 4).2.2.2 = false := by decide +kernel
theorem gf_11_5 : fty 11 5 = 2 ∧ fref 11 5 = 56 := by decide +kernel
theorem pf_11_5 : ((∃ c, tyX11 5 = .object c) ∨ ∃ c, tyX11 5 = .array c) ∧ (TX11 5).2.2.2 = true := ⟨Or.inr ⟨_, rfl⟩, by decide +kernel⟩
theorem gc_11_5 : ∀ a, fcon 11 5 a = some (9, 6) := fun _ => rfl
theorem gf_11_6 : fty 11 6 = 0 ∨ fty 11 6 = 3 := by decide +kernel
theorem pf_11_6 : tyX11 6 = .int ∧ (TX11 6).2.2.2 = false := by decide +kernel
theorem gf_11_7 : fty 11 7 = 2 ∧ fref 11 7 = 56 := by decide +kernel
theorem pf_11_7 : ((∃ c, tyX11 7 = .object c) ∨ ∃ c, tyX11 7 = .array c) ∧ (TX11 7).2.2.2 = true := ⟨Or.inr ⟨_, rfl⟩, by decide +kernel⟩
theorem gc_11_7 : ∀ a, fcon 11 7 a = some (10, 12) := fun _ => rfl
theorem gf_11_8 : fty 11 8 = 0 ∨ fty 11 8 = 3 := by decide +kernel
theorem pf_11_8 : tyX11 8 = .int ∧ (TX11 8).2.2.2 = false := by decide +kernel
theorem gf_11_9 : fty 11 9 = 0 ∨ fty 11 9 = 3 := by decide +kernel
theorem pf_11_9 : tyX11 9 = .int ∧ (TX11 9).2.2.2 = false := by decide +kernel
theorem gf_11_10 : fty 11 10 = 2 ∧ fref 11 10 = 0 := by decide +kernel
theorem pf_11_10 : ((∃ c, tyX11 10 = .object c) ∨ ∃ c, tyX11 10 = .array c) ∧ (TX11 10).2.2.2 = true := ⟨Or.inl ⟨_, rfl⟩, by decide +kernel⟩
theorem gc_11_10 : ∀ a, fcon 11 10 a = some (11, 0) := fun _ => rfl
theorem gf_11_11 : fty 11 11 = 2 ∧ fref 11 11 = 50 := by decide +kernel
theorem pf_11_11 : ((∃ c, tyX11 11 = .object c) ∨ ∃ c, tyX11 11 = .array c) ∧ (TX11 11).2.2.2 = true := ⟨Or.inr ⟨_, rfl⟩, by decide +kernel⟩
theorem gc_11_11 : ∀ a, fcon 11 11 a = some (13, 6) := fun _ => rfl
theorem gf_11_12 : fty 11 12 = 0 ∨ fty 11 12 = 3 := by decide +kernel
theorem pf_11_12 : tyX11 12 = .int ∧ (TX11 12).2.2.2 = false := by decide +kernel
theorem gf_11_13 : fty 11 13 = 2 ∧ fref 11 13 = 5 := by decide +kernel
theorem pf_11_13 : ((∃ c, tyX11 13 = .object c) ∨ ∃ c, tyX11 13 = .array c) ∧ (TX11 13).2.2.2 = true := ⟨Or.inl ⟨_, rfl⟩, by decide +kernel⟩
theorem gc_11_13 : ∀ a, fcon 11 13 a = some (14, 0) := fun _ => rfl
theorem gf_11_14 : fty 11 14 = 2 ∧ fref 11 14 = 9 := by decide +kernel
theorem pf_11_14 : ((∃ c, tyX11 14 = .object c) ∨ ∃ c, tyX11 14 = .array c) ∧ (TX11 14).2.2.2 = true := ⟨Or.inl ⟨_, rfl⟩, by decide +kernel⟩
theorem gc_11_14 : ∀ a, fcon 11 14 a = some (26, 0) := fun _ => rfl
theorem gf_11_15 : fty 11 15 = 2 ∧ fref 11 15 = 3 := by decide +kernel
theorem pf_11_15 : ((∃ c, tyX11 15 = .object c) ∨ ∃ c, tyX11 15 = .array c) ∧ (TX11 15).2.2.2 = true := ⟨Or.inl ⟨_, rfl⟩, by decide +kernel⟩
theorem gc_11_15 : ∀ a, fcon 11 15 a = some (30, 0) := fun _ => rfl
theorem gf_11_16 : fty 11 16 = 2 ∧ fref 11 16 = 7 := by decide +kernel
theorem pf_11_16 : ((∃ c, tyX11 16 = .object c) ∨ ∃ c, tyX11 16 = .array c) ∧ (TX11 16).2.2.2 = true := ⟨Or.inl ⟨_, rfl⟩, by decide +kernel⟩
theorem gc_11_16 : ∀ a, fcon 11 16 a = some (32, 0) := fun _ => rfl
theorem gf_11_17 : fty 11 17 = 2 ∧ fref 11 17 = 4 := by decide +kernel
theorem pf_11_17 : ((∃ c, tyX11 17 = .object c) ∨ ∃ c, tyX11 17 = .array c) ∧ (TX11 17).2.2.2 = true := ⟨Or.inl ⟨_, rfl⟩, by decide +kernel⟩
theorem gc_11_17 : ∀ a, fcon 11 17 a = some (43, 0) := fun _ => rfl
theorem gf_12_0 : fty 12 0 = 2 ∧ fref 12 0 = 40 := by decide +kernel
theorem pf_12_0 : ((∃ c, tyX12 0 = .object c) ∨ ∃ c, tyX12 0 = .array c) ∧ (TX12 0).2.2.2 = true := ⟨Or.inr ⟨_, rfl⟩, by decide +kernel⟩
theorem gc_12_0 : ∀ a, fcon 12 0 a = some (52, 8) := fun _ => rfl
theorem gf_12_1 : fty 12 1 = 0 ∨ fty 12 1 = 3 := by decide +kernel
theorem pf_12_1 : tyX12 1 = .int ∧ (TX12 1).2.2.2 = false := by decide +kernel
theorem gf_12_2 : fty 12 2 = 2 ∧ fref 12 2 = 40 := by decide +kernel
theorem pf_12_2 : ((∃ c, tyX12 2 = .object c) ∨ ∃ c, tyX12 2 = .array c) ∧ (TX12 2).2.2.2 = true := ⟨Or.inr ⟨_, rfl⟩, by decide +kernel⟩
theorem gc_12_2 : ∀ a, fcon 12 2 a = some (53, 24) := fun _ => rfl
theorem gf_12_3 : fty 12 3 = 2 ∧ fref 12 3 = 40 := by decide +kernel
theorem pf_12_3 : ((∃ c, tyX12 3 = .object c) ∨ ∃ c, tyX12 3 = .array c) ∧ (TX12 3).2.2.2 = true := ⟨Or.inr ⟨_, rfl⟩, by decide +kernel⟩
theorem gc_12_3 : ∀ a, fcon 12 3 a = some (54, 24) := fun _ => rfl
theorem gf_12_4 : fty 12 4 = 2 ∧ fref 12 4 = 40 := by decide +kernel
theorem pf_12_4 : ((∃ c, tyX12 4 = .object c) ∨ ∃ c, tyX12 4 = .array c) ∧ (TX12 4).2.2.2 = true := ⟨Or.inr ⟨_, rfl⟩, by decide +kernel⟩
theorem gc_12_4 : ∀ a, fcon 12 4 a = some (55, 24) := fun _ => rfl
theorem gf_12_5 : fty 12 5 = 2 ∧ fref 12 5 = 40 := by decide +kernel
theorem pf_12_5 : ((∃ c, tyX12 5 = .object c) ∨ ∃ c, tyX12 5 = .array c) ∧ (TX12 5).2.2.2 = true := ⟨Or.inr ⟨_, rfl⟩, by decide +kernel⟩
theorem gc_12_5 : ∀ a, fcon 12 5 a = some (56, 24) := fun _ => rfl
theorem gf_12_6 : fty 12 6 = 2 ∧ fref 12 6 = 40 := by decide +kernel
theorem pf_12_6 : ((∃ c, tyX12 6 = .object c) ∨ ∃ c, tyX12 6 = .array c) ∧ (TX12 6).2.2.2 = true := ⟨Or.inr ⟨_, rfl⟩, by decide +kernel⟩
theorem gc_12_6 : ∀ a, fcon 12 6 a = some (57, 24) := fun _ => rfl
theorem gf_12_7 : fty 12 7 = 2 ∧ fref 12 7 = 40 := by decide +kernel
theorem pf_12_7 : ((∃ c, tyX12 7 = .object c) ∨ ∃ c, tyX12 7 = .array c) ∧ (TX12 7).2.2.2 = true := ⟨Or.inr ⟨_, rfl⟩, by decide +kernel⟩
theorem gc_12_7 : ∀ a, fcon 12 7 a = some (58, 2304) := fun _ => rfl
theorem gf_12_8 : fty 12 8 = 2 ∧ fref 12 8 = 40 := by decide +kernel
theorem pf_12_8 : ((∃ c, tyX12 8 = .object c) ∨ ∃ c, tyX12 8 = .array c) ∧ (TX12 8).2.2.2 = true := ⟨Or.inr ⟨_, rfl⟩, by decide +kernel⟩
theorem gc_12_8 : ∀ a, fcon 12 8 a = some (59, 2304) := fun _ => rfl
theorem gf_12_9 : fty 12 9 = 2 ∧ fref 12 9 = 40 := by decide +kernel
theorem pf_12_9 : ((∃ c, tyX12 9 = .object c) ∨ ∃ c, tyX12 9 = .array c) ∧ (TX12 9).2.2.2 = true := ⟨Or.inr ⟨_, rfl⟩, by decide +kernel⟩
theorem gc_12_9 : ∀ a, fcon 12 9 a = some (60, 2304) := fun _ => rfl
theorem gf_12_10 : fty 12 10 = 2 ∧ fref 12 10 = 40 := by decide +kernel
theorem pf_12_10 : ((∃ c, tyX12 10 = .object c) ∨ ∃ c, tyX12 10 = .array c) ∧ (TX12 10).2.2.2 = true := ⟨Or.inr ⟨_, rfl⟩, by decide +kernel⟩
theorem gc_12_10 : ∀ a, fcon 12 10 a = some (61, 2304) := fun _ => rfl
theorem gf_12_11 : fty 12 11 = 2 ∧ fref 12 11 = 40 := by decide +kernel
theorem pf_12_11 : ((∃ c, tyX12 11 = .object c) ∨ ∃ c, tyX12 11 = .array c) ∧ (TX12 11).2.2.2 = true := ⟨Or.inr ⟨_, rfl⟩, by decide +kernel⟩
theorem gc_12_11 : ∀ a, fcon 12 11 a = some (62, 2304) := fun _ => rfl
theorem gf_12_12 : fty 12 12 = 2 ∧ fref 12 12 = 40 := by decide +kernel
theorem pf_12_12 : ((∃ c, tyX12 12 = .object c) ∨ ∃ c, tyX12 12 = .array c) ∧ (TX12 12).2.2.2 = true := ⟨Or.inr ⟨_, rfl⟩, by decide +kernel⟩
theorem gc_12_12 : ∀ a, fcon 12 12 a = some (63, 2304) := fun _ => rfl
theorem gf_12_13 : fty 12 13 = 2 ∧ fref 12 13 = 40 := by decide +kernel
theorem pf_12_13 : ((∃ c, tyX12 13 = .object c) ∨ ∃ c, tyX12 13 = .array c) ∧ (TX12 13).2.2.2 = true := ⟨Or.inr ⟨_, rfl⟩, by decide +kernel⟩
theorem gc_12_13 : ∀ a, fcon 12 13 a = some (64, 2304) := fun _ => rfl
theorem gf_12_14 : fty 12 14 = 2 ∧ fref 12 14 = 40 := by decide +kernel
theorem pf_12_14 : ((∃ c, tyX12 14 = .object c) ∨ ∃ c, tyX12 14 = .array c) ∧ (TX12 14).2.2.2 = true := ⟨Or.inr ⟨_, rfl⟩, by decide +kernel⟩
theorem gc_12_14 : ∀ a, fcon 12 14 a = some (65, 2304) := fun _ => rfl
theorem gf_12_15 : fty 12 15 = 2 ∧ fref 12 15 = 40 := by decide +kernel
theorem pf_12_15 : ((∃ c, tyX12 15 = .object c) ∨ ∃ c, tyX12 15 = .array c) ∧ (TX12 15).2.2.2 = true := ⟨Or.inr ⟨_, rfl⟩, by decide +kernel⟩
theorem gc_12_15 : ∀ a, fcon 12 15 a = some (66, 2304) := fun _ => rfl
theorem gf_12_16 : fty 12 16 = 2 ∧ fref 12 16 = 40 := by decide +kernel
theorem pf_12_16 : ((∃ c, tyX12 16 = .object c) ∨ ∃ c, tyX12 16 = .array c) ∧ (TX12 16).2.2.2 = true := ⟨Or.inr ⟨_, rfl⟩, by decide +kernel⟩
theorem gc_12_16 : ∀ a, fcon 12 16 a = some (67, 2304) := fun _ => rfl
theorem gf_12_17 : fty 12 17 = 2 ∧ fref 12 17 = 40 := by decide +kernel
theorem pf_12_17 : ((∃ c, tyX12 17 = .object c) ∨ ∃ c, tyX12 17 = .array c) ∧ (TX12 17).2.2.2 = true := ⟨Or.inr ⟨_, rfl⟩, by decide +kernel⟩
theorem gc_12_17 : ∀ a, fcon 12 17 a = some (68, 2304) := fun _ => rfl
theorem gf_12_18 : fty 12 18 = 2 ∧ fref 12 18 = 40 := by decide +kernel
theorem pf_12_18 : ((∃ c, tyX12 18 = .object c) ∨ ∃ c, tyX12 18 = .array c) ∧ (TX12 18).2.2.2 = true := ⟨Or.inr ⟨_, rfl⟩, by decide +kernel⟩
theorem gc_12_18 : ∀ a, fcon 12 18 a = some (69, 2304) := fun _ => rfl
theorem gf_12_19 : fty 12 19 = 2 ∧ fref 12 19 = 40 := by decide +kernel
theorem pf_12_19 : ((∃ c, tyX12 19 = .object c) ∨ ∃ c, tyX12 19 = .array c) ∧ (TX12 19).2.2.2 = true := ⟨Or.inr ⟨_, rfl⟩, by decide +kernel⟩
theorem gc_12_19 : ∀ a, fcon 12 19 a = some (70, 2304) := fun _ => rfl
theorem gf_12_20 : fty 12 20 = 2 ∧ fref 12 20 = 41 := by decide +kernel
theorem pf_12_20 : ((∃ c, tyX12 20 = .object c) ∨ ∃ c, tyX12 20 = .array c) ∧ (TX12 20).2.2.2 = true := ⟨Or.inr ⟨_, rfl⟩, by decide +kernel⟩
theorem gc_12_20 : ∀ a, fcon 12 20 a = some (71, 600) := fun _ => rfl
theorem gf_12_21 : fty 12 21 = 0 ∨ fty 12 21 = 3 := by decide +kernel
theorem pf_12_21 : tyX12 21 = .int ∧ (TX12 21).2.2.2 = false := by decide +kernel
theorem gf_12_22 : fty 12 22 = 0 ∨ fty 12 22 = 3 := by decide +kernel
theorem pf_12_22 : tyX12 22 = .int ∧ (TX12 22).2.2.2 = false := by decide +kernel
theorem gf_12_23 : fty 12 23 = 0 ∨ fty 12 23 = 3 := by decide +kernel
theorem pf_12_23 : tyX12 23 = .int ∧ (TX12 23).2.2.2 = false := by decide +kernel
theorem gf_12_24 : fty 12 24 = 0 ∨ fty 12 24 = 3 := by decide +kernel
theorem pf_12_24 : tyX12 24 = .int ∧ (TX12 24).2.2.2 = false := by decide +kernel
theorem gf_12_25 : fty 12 25 = 0 ∨ fty 12 25 = 3 := by decide +kernel
theorem pf_12_25 : tyX12 25 = .int ∧ (TX12 25).2.2.2 = false := by decide +kernel
theorem gf_12_26 : fty 12 26 = 0 ∨ fty 12 26 = 3 := by decide +kernel
theorem pf_12_26 : tyX12 26 = .int ∧ (TX12 26).2.2.2 = false := by decide +kernel
theorem gf_12_27 : fty 12 27 = 0 ∨ fty 12 27 = 3 := by decide +kernel
theorem pf_12_27 : tyX12 27 = .int ∧ (TX12 27).2.2.2 = false := by decide +kernel
theorem gf_12_28 : fty 12 28 = 1 := by decide +kernel
theorem pf_12_28 : tyX12 28 = .long ∧ (TX12 28).2.2.2 = false := by decide +kernel
theorem gf_12_29 : fty 12 29 = 0 ∨ fty 12 29 = 3 := by decide +kernel
theorem pf_12_29 : tyX12 29 = .boolean ∧ (TX12 29).2.2.2 = false := by decide +kernel
theorem gf_12_30 : fty 12 30 = 2 ∧ fref 12 30 = 40 := by decide +kernel
theorem pf_12_30 : ((∃ c, tyX12 30 = .object c) ∨ ∃ c, tyX12 30 = .array c) ∧ (TX12 30).2.2.2 = true := ⟨Or.inr ⟨_, rfl⟩, by decide +kernel⟩
theorem gc_12_30 : ∀ a, fcon 12 30 a = some (72, 6) := fun _ => rfl
theorem gf_12_31 : fty 12 31 = 2 ∧ fref 12 31 = 40 := by decide +kernel
theorem pf_12_31 : ((∃ c, tyX12 31 = .object c) ∨ ∃ c, tyX12 31 = .array c) ∧ (TX12 31).2.2.2 = true := ⟨Or.inr ⟨_, rfl⟩, by decide +kernel⟩
theorem gc_12_31 : ∀ a, fcon 12 31 a = some (73, 6) := fun _ => rfl
theorem gf_12_32 : fty 12 32 = 0 ∨ fty 12 32 = 3 := by decide +kernel
theorem pf_12_32 : tyX12 32 = .int ∧ (TX12 32).2.2.2 = false := by decide +kernel
theorem gf_12_33 : fty 12 33 = 0 ∨ fty 12 33 = 3 := by decide +kernel
theorem pf_12_33 : tyX12 33 = .int ∧ (TX12 33).2.2.2 = false := by decide +kernel
theorem gf_12_34 : fty 12 34 = 0 ∨ fty 12 34 = 3 := by decide +kernel
theorem pf_12_34 : tyX12 34 = .int ∧ (TX12 34).2.2.2 = false := by decide +kernel
theorem gf_12_35 : fty 12 35 = 0 ∨ fty 12 35 = 3 := by decide +kernel
theorem pf_12_35 : tyX12 35 = .int ∧ (TX12 35).2.2.2 = false := by decide +kernel
theorem gf_12_36 : fty 12 36 = 0 ∨ fty 12 36 = 3 := by decide +kernel
theorem pf_12_36 : tyX12 36 = .int ∧ (TX12 36).2.2.2 = false := by decide +kernel
theorem gf_12_37 : fty 12 37 = 0 ∨ fty 12 37 = 3 := by decide +kernel
theorem pf_12_37 : tyX12 37 = .int ∧ (TX12 37).2.2.2 = false := by decide +kernel
theorem gf_12_38 : fty 12 38 = 2 ∧ fref 12 38 = 42 := by decide +kernel
theorem pf_12_38 : ((∃ c, tyX12 38 = .object c) ∨ ∃ c, tyX12 38 = .array c) ∧ (TX12 38).2.2.2 = true := ⟨Or.inr ⟨_, rfl⟩, by decide +kernel⟩
theorem gc_12_38 : ∀ a, fcon 12 38 a = some (74, 96) := fun _ => rfl
theorem gf_12_39 : fty 12 39 = 2 ∧ fref 12 39 = 42 := by decide +kernel
theorem pf_12_39 : ((∃ c, tyX12 39 = .object c) ∨ ∃ c, tyX12 39 = .array c) ∧ (TX12 39).2.2.2 = true := ⟨Or.inr ⟨_, rfl⟩, by decide +kernel⟩
theorem gc_12_39 : ∀ a, fcon 12 39 a = some (75, 96) := fun _ => rfl
theorem gf_12_40 : fty 12 40 = 2 ∧ fref 12 40 = 40 := by decide +kernel
theorem pf_12_40 : ((∃ c, tyX12 40 = .object c) ∨ ∃ c, tyX12 40 = .array c) ∧ (TX12 40).2.2.2 = true := ⟨Or.inr ⟨_, rfl⟩, by decide +kernel⟩
theorem gc_12_40 : ∀ a, fcon 12 40 a = some (76, 96) := fun _ => rfl
theorem gf_12_41 : fty 12 41 = 0 ∨ fty 12 41 = 3 := by decide +kernel
theorem pf_12_41 : tyX12 41 = .int ∧ (TX12 41).2.2.2 = false := by decide +kernel
theorem gf_12_42 : fty 12 42 = 0 ∨ fty 12 42 = 3 := by decide +kernel
theorem pf_12_42 : tyX12 42 = .int ∧ (TX12 42).2.2.2 = false := by decide +kernel
theorem gf_12_43 : fty 12 43 = 0 ∨ fty 12 43 = 3 := by decide +kernel
theorem pf_12_43 : tyX12 43 = .int ∧ (TX12 43).2.2.2 = false := by decide +kernel
theorem gf_12_44 : fty 12 44 = 2 ∧ fref 12 44 = 40 := by decide +kernel
theorem pf_12_44 : ((∃ c, tyX12 44 = .object c) ∨ ∃ c, tyX12 44 = .array c) ∧ (TX12 44).2.2.2 = true := ⟨Or.inr ⟨_, rfl⟩, by decide +kernel⟩
theorem gc_12_44 : ∀ a, fcon 12 44 a = some (77, 1600) := fun _ => rfl
theorem gf_12_45 : fty 12 45 = 0 ∨ fty 12 45 = 3 := by decide +kernel
theorem pf_12_45 : tyX12 45 = .int ∧ (TX12 45).2.2.2 = false := by decide +kernel
theorem gf_12_46 : fty 12 46 = 2 ∧ fref 12 46 = 40 := by decide +kernel
theorem pf_12_46 : ((∃ c, tyX12 46 = .object c) ∨ ∃ c, tyX12 46 = .array c) ∧ (TX12 46).2.2.2 = true := ⟨Or.inr ⟨_, rfl⟩, by decide +kernel⟩
theorem gc_12_46 : ∀ a, fcon 12 46 a = some (78, 8) := fun _ => rfl
theorem gf_12_47 : fty 12 47 = 0 ∨ fty 12 47 = 3 := by decide +kernel
theorem pf_12_47 : tyX12 47 = .int ∧ (TX12 47).2.2.2 = false := by decide +kernel
theorem gf_12_48 : fty 12 48 = 0 ∨ fty 12 48 = 3 := by decide +kernel
theorem pf_12_48 : tyX12 48 = .int ∧ (TX12 48).2.2.2 = false := by decide +kernel
theorem gf_12_49 : fty 12 49 = 2 ∧ fref 12 49 = 40 := by decide +kernel
theorem pf_12_49 : ((∃ c, tyX12 49 = .object c) ∨ ∃ c, tyX12 49 = .array c) ∧ (TX12 49).2.2.2 = true := ⟨Or.inr ⟨_, rfl⟩, by decide +kernel⟩
theorem gc_12_49 : ∀ a, fcon 12 49 a = some (79, 256) := fun _ => rfl
theorem gf_12_50 : fty 12 50 = 2 ∧ fref 12 50 = 40 := by decide +kernel
theorem pf_12_50 : ((∃ c, tyX12 50 = .object c) ∨ ∃ c, tyX12 50 = .array c) ∧ (TX12 50).2.2.2 = true := ⟨Or.inr ⟨_, rfl⟩, by decide +kernel⟩
theorem gc_12_50 : ∀ a, fcon 12 50 a = some (80, 256) := fun _ => rfl
theorem gf_12_51 : fty 12 51 = 2 ∧ fref 12 51 = 40 := by decide +kernel
theorem pf_12_51 : ((∃ c, tyX12 51 = .object c) ∨ ∃ c, tyX12 51 = .array c) ∧ (TX12 51).2.2.2 = true := ⟨Or.inr ⟨_, rfl⟩, by decide +kernel⟩
theorem gc_12_51 : ∀ a, fcon 12 51 a = some (81, 256) := fun _ => rfl
theorem gf_12_52 : fty 12 52 = 2 ∧ fref 12 52 = 40 := by decide +kernel
theorem pf_12_52 : ((∃ c, tyX12 52 = .object c) ∨ ∃ c, tyX12 52 = .array c) ∧ (TX12 52).2.2.2 = true := ⟨Or.inr ⟨_, rfl⟩, by decide +kernel⟩
theorem gc_12_52 : ∀ a, fcon 12 52 a = some (82, 256) := fun _ => rfl
theorem gf_12_53 : fty 12 53 = 2 ∧ fref 12 53 = 43 := by decide +kernel
theorem pf_12_53 : ((∃ c, tyX12 53 = .object c) ∨ ∃ c, tyX12 53 = .array c) ∧ (TX12 53).2.2.2 = true := ⟨Or.inr ⟨_, rfl⟩, by decide +kernel⟩
theorem gc_12_53 : ∀ a, fcon 12 53 a = some (83, 256) := fun _ => rfl
theorem gf_12_54 : fty 12 54 = 0 ∨ fty 12 54 = 3 := by decide +kernel
theorem pf_12_54 : tyX12 54 = .int ∧ (TX12 54).2.2.2 = false := by decide +kernel
theorem gf_12_55 : fty 12 55 = 0 ∨ fty 12 55 = 3 := by decide +kernel
theorem pf_12_55 : tyX12 55 = .int ∧ (TX12 55).2.2.2 = false := by decide +kernel
theorem gf_12_56 : fty 12 56 = 2 ∧ fref 12 56 = 40 := by decide +kernel
theorem pf_12_56 : ((∃ c, tyX12 56 = .object c) ∨ ∃ c, tyX12 56 = .array c) ∧ (TX12 56).2.2.2 = true := ⟨Or.inr ⟨_, rfl⟩, by decide +kernel⟩
theorem gc_12_56 : ∀ a, fcon 12 56 a = some (84, 6) := fun _ => rfl
theorem gf_12_57 : fty 12 57 = 2 ∧ fref 12 57 = 40 := by decide +kernel
theorem pf_12_57 : ((∃ c, tyX12 57 = .object c) ∨ ∃ c, tyX12 57 = .array c) ∧ (TX12 57).2.2.2 = true := ⟨Or.inr ⟨_, rfl⟩, by decide +kernel⟩
theorem gc_12_57 : ∀ a, fcon 12 57 a = some (85, 6) := fun _ => rfl
theorem gf_12_58 : fty 12 58 = 0 ∨ fty 12 58 = 3 := by decide +kernel
theorem pf_12_58 : tyX12 58 = .int ∧ (TX12 58).2.2.2 = false := by decide +kernel
theorem gf_12_59 : fty 12 59 = 0 ∨ fty 12 59 = 3 := by decide +kernel
theorem pf_12_59 : tyX12 59 = .int ∧ (TX12 59).2.2.2 = false := by decide +kernel
theorem gf_12_60 : fty 12 60 = 1 := by decide +kernel
theorem pf_12_60 : tyX12 60 = .long ∧ (TX12 60).2.2.2 = false := by decide +kernel
theorem gf_12_61 : fty 12 61 = 0 ∨ fty 12 61 = 3 := by decide +kernel
theorem pf_12_61 : tyX12 61 = .int ∧ (TX12 61).2.2.2 = false := by decide +kernel
theorem gf_12_62 : fty 12 62 = 2 ∧ fref 12 62 = 40 := by decide +kernel
theorem pf_12_62 : ((∃ c, tyX12 62 = .object c) ∨ ∃ c, tyX12 62 = .array c) ∧ (TX12 62).2.2.2 = true := ⟨Or.inr ⟨_, rfl⟩, by decide +kernel⟩
theorem gc_12_62 : ∀ a, fcon 12 62 a = some (86, 256) := fun _ => rfl
theorem gf_12_63 : fty 12 63 = 2 ∧ fref 12 63 = 42 := by decide +kernel
theorem pf_12_63 : ((∃ c, tyX12 63 = .object c) ∨ ∃ c, tyX12 63 = .array c) ∧ (TX12 63).2.2.2 = true := ⟨Or.inr ⟨_, rfl⟩, by decide +kernel⟩
theorem gc_12_63 : ∀ a, fcon 12 63 a = some (87, 8) := fun _ => rfl
theorem gf_12_64 : fty 12 64 = 2 ∧ fref 12 64 = 43 := by decide +kernel
theorem pf_12_64 : ((∃ c, tyX12 64 = .object c) ∨ ∃ c, tyX12 64 = .array c) ∧ (TX12 64).2.2.2 = true := ⟨Or.inr ⟨_, rfl⟩, by decide +kernel⟩
theorem gc_12_64 : ∀ a, fcon 12 64 a = some (88, 8) := fun _ => rfl
theorem gf_12_65 : fty 12 65 = 2 ∧ fref 12 65 = 40 := by decide +kernel
theorem pf_12_65 : ((∃ c, tyX12 65 = .object c) ∨ ∃ c, tyX12 65 = .array c) ∧ (TX12 65).2.2.2 = true := ⟨Or.inr ⟨_, rfl⟩, by decide +kernel⟩
theorem gc_12_65 : ∀ a, fcon 12 65 a = some (89, 8) := fun _ => rfl
theorem gf_12_66 : fty 12 66 = 2 ∧ fref 12 66 = 40 := by decide +kernel
theorem pf_12_66 : ((∃ c, tyX12 66 = .object c) ∨ ∃ c, tyX12 66 = .array c) ∧ (TX12 66).2.2.2 = true := ⟨Or.inr ⟨_, rfl⟩, by decide +kernel⟩
theorem gc_12_66 : ∀ a, fcon 12 66 a = some (90, 8) := fun _ => rfl
theorem gf_12_67 : fty 12 67 = 0 ∨ fty 12 67 = 3 := by decide +kernel
theorem pf_12_67 : tyX12 67 = .int ∧ (TX12 67).2.2.2 = false := by decide +kernel
theorem gf_12_68 : fty 12 68 = 0 ∨ fty 12 68 = 3 := by decide +kernel
theorem pf_12_68 : tyX12 68 = .int ∧ (TX12 68).2.2.2 = false := by decide +kernel
theorem gf_12_69 : fty 12 69 = 2 ∧ fref 12 69 = 40 := by decide +kernel
theorem pf_12_69 : ((∃ c, tyX12 69 = .object c) ∨ ∃ c, tyX12 69 = .array c) ∧ (TX12 69).2.2.2 = true := ⟨Or.inr ⟨_, rfl⟩, by decide +kernel⟩
theorem gc_12_69 : ∀ a, fcon 12 69 a = some (91, 6) := fun _ => rfl
theorem gf_12_70 : fty 12 70 = 2 ∧ fref 12 70 = 40 := by decide +kernel
theorem pf_12_70 : ((∃ c, tyX12 70 = .object c) ∨ ∃ c, tyX12 70 = .array c) ∧ (TX12 70).2.2.2 = true := ⟨Or.inr ⟨_, rfl⟩, by decide +kernel⟩
theorem gc_12_70 : ∀ a, fcon 12 70 a = some (92, 12) := fun _ => rfl
theorem gf_12_71 : fty 12 71 = 2 ∧ fref 12 71 = 40 := by decide +kernel
theorem pf_12_71 : ((∃ c, tyX12 71 = .object c) ∨ ∃ c, tyX12 71 = .array c) ∧ (TX12 71).2.2.2 = true := ⟨Or.inr ⟨_, rfl⟩, by decide +kernel⟩
theorem gc_12_71 : ∀ a, fcon 12 71 a = some (93, 240) := fun _ => rfl
theorem gf_12_72 : fty 12 72 = 2 ∧ fref 12 72 = 40 := by decide +kernel
theorem pf_12_72 : ((∃ c, tyX12 72 = .object c) ∨ ∃ c, tyX12 72 = .array c) ∧ (TX12 72).2.2.2 = true := ⟨Or.inr ⟨_, rfl⟩, by decide +kernel⟩
theorem gc_12_72 : ∀ a, fcon 12 72 a = some (94, 240) := fun _ => rfl
theorem gf_12_73 : fty 12 73 = 2 ∧ fref 12 73 = 40 := by decide +kernel
theorem pf_12_73 : ((∃ c, tyX12 73 = .object c) ∨ ∃ c, tyX12 73 = .array c) ∧ (TX12 73).2.2.2 = true := ⟨Or.inr ⟨_, rfl⟩, by decide +kernel⟩
theorem gc_12_73 : ∀ a, fcon 12 73 a = some (95, 240) := fun _ => rfl
theorem gf_12_74 : fty 12 74 = 2 ∧ fref 12 74 = 40 := by decide +kernel
theorem pf_12_74 : ((∃ c, tyX12 74 = .object c) ∨ ∃ c, tyX12 74 = .array c) ∧ (TX12 74).2.2.2 = true := ⟨Or.inr ⟨_, rfl⟩, by decide +kernel⟩
theorem gc_12_74 : ∀ a, fcon 12 74 a = some (96, 240) := fun _ => rfl
theorem gf_12_75 : fty 12 75 = 2 ∧ fref 12 75 = 40 := by decide +kernel
theorem pf_12_75 : ((∃ c, tyX12 75 = .object c) ∨ ∃ c, tyX12 75 = .array c) ∧ (TX12 75).2.2.2 = true := ⟨Or.inr ⟨_, rfl⟩, by decide +kernel⟩
theorem gc_12_75 : ∀ a, fcon 12 75 a = some (97, 240) := fun _ => rfl
theorem gf_12_76 : fty 12 76 = 2 ∧ fref 12 76 = 40 := by decide +kernel
theorem pf_12_76 : ((∃ c, tyX12 76 = .object c) ∨ ∃ c, tyX12 76 = .array c) ∧ (TX12 76).2.2.2 = true := ⟨Or.inr ⟨_, rfl⟩, by decide +kernel⟩
theorem gc_12_76 : ∀ a, fcon 12 76 a = some (98, 240) := fun _ => rfl
theorem gf_12_77 : fty 12 77 = 2 ∧ fref 12 77 = 42 := by decide +kernel
theorem pf_12_77 : ((∃ c, tyX12 77 = .object c) ∨ ∃ c, tyX12 77 = .array c) ∧ (TX12 77).2.2.2 = true := ⟨Or.inr ⟨_, rfl⟩, by decide +kernel⟩
theorem gc_12_77 : ∀ a, fcon 12 77 a = some (99, 240) := fun _ => rfl
theorem gf_12_78 : fty 12 78 = 0 ∨ fty 12 78 = 3 := by decide +kernel
theorem pf_12_78 : tyX12 78 = .int ∧ (TX12 78).2.2.2 = false := by decide +kernel
theorem gf_12_79 : fty 12 79 = 0 ∨ fty 12 79 = 3 := by decide +kernel
theorem pf_12_79 : tyX12 79 = .int ∧ (TX12 79).2.2.2 = false := by decide +kernel
theorem gf_12_80 : fty 12 80 = 0 ∨ fty 12 80 = 3 := by decide +kernel
theorem pf_12_80 : tyX12 80 = .int ∧ (TX12 80).2.2.2 = false := by decide +kernel
theorem gf_12_81 : fty 12 81 = 2 ∧ fref 12 81 = 40 := by decide +kernel
theorem pf_12_81 : ((∃ c, tyX12 81 = .object c) ∨ ∃ c, tyX12 81 = .array c) ∧ (TX12 81).2.2.2 = true := ⟨Or.inr ⟨_, rfl⟩, by decide +kernel⟩
theorem gc_12_81 : ∀ a, fcon 12 81 a = some (100, 72) := fun _ => rfl
theorem gf_12_82 : fty 12 82 = 2 ∧ fref 12 82 = 40 := by decide +kernel
theorem pf_12_82 : ((∃ c, tyX12 82 = .object c) ∨ ∃ c, tyX12 82 = .array c) ∧ (TX12 82).2.2.2 = true := ⟨Or.inr ⟨_, rfl⟩, by decide +kernel⟩
theorem gc_12_82 : ∀ a, fcon 12 82 a = some (101, 72) := fun _ => rfl
theorem gf_12_83 : fty 12 83 = 0 ∨ fty 12 83 = 3 := by decide +kernel
theorem pf_12_83 : tyX12 83 = .int ∧ (TX12 83).2.2.2 = false := by decide +kernel
theorem gf_12_84 : fty 12 84 = 0 ∨ fty 12 84 = 3 := by decide +kernel
theorem pf_12_84 : tyX12 84 = .int ∧ (TX12 84).2.2.2 = false := by decide +kernel
theorem gf_12_85 : fty 12 85 = 0 ∨ fty 12 85 = 3 := by decide +kernel
theorem pf_12_85 : tyX12 85 = .int ∧ (TX12 85).2.2.2 = false := by decide +kernel
theorem gf_12_86 : fty 12 86 = 2 ∧ fref 12 86 = 40 := by decide +kernel
theorem pf_12_86 : ((∃ c, tyX12 86 = .object c) ∨ ∃ c, tyX12 86 = .array c) ∧ (TX12 86).2.2.2 = true := ⟨Or.inr ⟨_, rfl⟩, by decide +kernel⟩
theorem gc_12_86 : ∀ a, fcon 12 86 a = some (102, 10) := fun _ => rfl
theorem gf_12_87 : fty 12 87 = 2 ∧ fref 12 87 = 40 := by decide +kernel
theorem pf_12_87 : ((∃ c, tyX12 87 = .object c) ∨ ∃ c, tyX12 87 = .array c) ∧ (TX12 87).2.2.2 = true := ⟨Or.inr ⟨_, rfl⟩, by decide +kernel⟩
theorem gc_12_87 : ∀ a, fcon 12 87 a = some (103, 1024) := fun _ => rfl
theorem gf_12_88 : fty 12 88 = 0 ∨ fty 12 88 = 3 := by decide +kernel
theorem pf_12_88 : tyX12 88 = .int ∧ (TX12 88).2.2.2 = false := by decide +kernel
theorem gf_12_89 : fty 12 89 = 2 ∧ fref 12 89 = 40 := by decide +kernel
theorem pf_12_89 : ((∃ c, tyX12 89 = .object c) ∨ ∃ c, tyX12 89 = .array c) ∧ (TX12 89).2.2.2 = true := ⟨Or.inr ⟨_, rfl⟩, by decide +kernel⟩
theorem gc_12_89 : ∀ a, fcon 12 89 a = some (104, 6) := fun _ => rfl
theorem gf_12_90 : fty 12 90 = 2 ∧ fref 12 90 = 40 := by decide +kernel
theorem pf_12_90 : ((∃ c, tyX12 90 = .object c) ∨ ∃ c, tyX12 90 = .array c) ∧ (TX12 90).2.2.2 = true := ⟨Or.inr ⟨_, rfl⟩, by decide +kernel⟩
theorem gc_12_90 : ∀ a, fcon 12 90 a = some (105, 36) := fun _ => rfl
theorem gf_12_91 : fty 12 91 = 2 ∧ fref 12 91 = 43 := by decide +kernel
theorem pf_12_91 : ((∃ c, tyX12 91 = .object c) ∨ ∃ c, tyX12 91 = .array c) ∧ (TX12 91).2.2.2 = true := ⟨Or.inr ⟨_, rfl⟩, by decide +kernel⟩
theorem gc_12_91 : ∀ a, fcon 12 91 a = some (106, 48) := fun _ => rfl
theorem gf_12_92 : fty 12 92 = 2 ∧ fref 12 92 = 40 := by decide +kernel
theorem pf_12_92 : ((∃ c, tyX12 92 = .object c) ∨ ∃ c, tyX12 92 = .array c) ∧ (TX12 92).2.2.2 = true := ⟨Or.inr ⟨_, rfl⟩, by decide +kernel⟩
theorem gc_12_92 : ∀ a, fcon 12 92 a = some (107, 24) := fun _ => rfl
end
section
theorem GWt1 (i : Nat) {w : Cond} (h : tables_1_1[i]? = some w) (hg : goodWord w = true) : w ∈ GW := List.mem_filter.mpr ⟨List.mem_append_right _ (List.mem_append_left _ (List.mem_of_getElem? h)), hg⟩
theorem GWt2 (i : Nat) {w : Cond} (h : tables_1_2[i]? = some w) (hg : goodWord w = true) : w ∈ GW := List.mem_filter.mpr ⟨List.mem_append_right _ (List.mem_append_right _ (List.mem_append_left _ (List.mem_of_getElem? h))), hg⟩
theorem GWt3 (i : Nat) {w : Cond} (h : tables_1_3[i]? = some w) (hg : goodWord w = true) : w ∈ GW := List.mem_filter.mpr ⟨List.mem_append_right _ (List.mem_append_right _ (List.mem_append_right _ (List.mem_append_left _ (List.mem_of_getElem? h)))), hg⟩
theorem GWt4 (i : Nat) {w : Cond} (h : tables_1_4[i]? = some w) (hg : goodWord w = true) : w ∈ GW := List.mem_filter.mpr ⟨List.mem_append_right _ (List.mem_append_right _ (List.mem_append_right _ (List.mem_append_right _ (List.mem_append_left _ (List.mem_of_getElem? h))))), hg⟩
theorem GWt5 (i : Nat) {w : Cond} (h : tables_1_5[i]? = some w) (hg : goodWord w = true) : w ∈ GW := List.mem_filter.mpr ⟨List.mem_append_right _ (List.mem_append_right _ (List.mem_append_right _ (List.mem_append_right _ (List.mem_append_right _ (List.mem_append_left _ (List.mem_of_getElem? h)))))), hg⟩
theorem GWt6 (i : Nat) {w : Cond} (h : tables_1_6[i]? = some w) (hg : goodWord w = true) : w ∈ GW := List.mem_filter.mpr ⟨List.mem_append_right _ (List.mem_append_right _ (List.mem_append_right _ (List.mem_append_right _ (List.mem_append_right _ (List.mem_append_right _ (List.mem_append_left _ (List.mem_of_getElem? h))))))), hg⟩
theorem GWt7 (i : Nat) {w : Cond} (h : tables_1_7[i]? = some w) (hg : goodWord w = true) : w ∈ GW := List.mem_filter.mpr ⟨List.mem_append_right _ (List.mem_append_right _ (List.mem_append_right _ (List.mem_append_right _ (List.mem_append_right _ (List.mem_append_right _ (List.mem_append_right _ (List.mem_append_left _ (List.mem_of_getElem? h)))))))), hg⟩
theorem GWt8 (i : Nat) {w : Cond} (h : tables_1_8[i]? = some w) (hg : goodWord w = true) : w ∈ GW := List.mem_filter.mpr ⟨List.mem_append_right _ (List.mem_append_right _ (List.mem_append_right _ (List.mem_append_right _ (List.mem_append_right _ (List.mem_append_right _ (List.mem_append_right _ (List.mem_append_right _ (List.mem_append_left _ (List.mem_of_getElem? h))))))))), hg⟩
theorem GWt9 (i : Nat) {w : Cond} (h : tables_1_9[i]? = some w) (hg : goodWord w = true) : w ∈ GW := List.mem_filter.mpr ⟨List.mem_append_right _ (List.mem_append_right _ (List.mem_append_right _ (List.mem_append_right _ (List.mem_append_right _ (List.mem_append_right _ (List.mem_append_right _ (List.mem_append_right _ (List.mem_append_right _ ((List.mem_of_getElem? h)))))))))), hg⟩
theorem GWp (q : MethodName × Nat) (h : q ∈ lw_privs) : Cond.selects q.1.cls q.1 q.1 ∈ GW := List.mem_filter.mpr ⟨List.mem_append_left _ (List.mem_map.mpr ⟨q, h, rfl⟩), rfl⟩
theorem GWp1 (i : Nat) {q : MethodName × Nat} (h : lw_privs_1[i]? = some q) : Cond.selects q.1.cls q.1 q.1 ∈ GW := GWp q (List.mem_append_left _ (List.mem_of_getElem? h))
theorem GWp2 (i : Nat) {q : MethodName × Nat} (h : lw_privs_2[i]? = some q) : Cond.selects q.1.cls q.1 q.1 ∈ GW := GWp q (List.mem_append_right _ (List.mem_append_left _ (List.mem_of_getElem? h)))
theorem GWp3 (i : Nat) {q : MethodName × Nat} (h : lw_privs_3[i]? = some q) : Cond.selects q.1.cls q.1 q.1 ∈ GW := GWp q (List.mem_append_right _ (List.mem_append_right _ (List.mem_append_left _ (List.mem_of_getElem? h))))
theorem GWp4 (i : Nat) {q : MethodName × Nat} (h : lw_privs_4[i]? = some q) : Cond.selects q.1.cls q.1 q.1 ∈ GW := GWp q (List.mem_append_right _ (List.mem_append_right _ (List.mem_append_right _ (List.mem_append_left _ (List.mem_of_getElem? h)))))
theorem GWp5 (i : Nat) {q : MethodName × Nat} (h : lw_privs_5[i]? = some q) : Cond.selects q.1.cls q.1 q.1 ∈ GW := GWp q (List.mem_append_right _ (List.mem_append_right _ (List.mem_append_right _ (List.mem_append_right _ (List.mem_append_left _ (List.mem_of_getElem? h))))))
theorem GWp6 (i : Nat) {q : MethodName × Nat} (h : lw_privs_6[i]? = some q) : Cond.selects q.1.cls q.1 q.1 ∈ GW := GWp q (List.mem_append_right _ (List.mem_append_right _ (List.mem_append_right _ (List.mem_append_right _ (List.mem_append_right _ (List.mem_append_left _ (List.mem_of_getElem? h)))))))
theorem GWp7 (i : Nat) {q : MethodName × Nat} (h : lw_privs_7[i]? = some q) : Cond.selects q.1.cls q.1 q.1 ∈ GW := GWp q (List.mem_append_right _ (List.mem_append_right _ (List.mem_append_right _ (List.mem_append_right _ (List.mem_append_right _ (List.mem_append_right _ (List.mem_append_left _ (List.mem_of_getElem? h))))))))
theorem GWp8 (i : Nat) {q : MethodName × Nat} (h : lw_privs_8[i]? = some q) : Cond.selects q.1.cls q.1 q.1 ∈ GW := GWp q (List.mem_append_right _ (List.mem_append_right _ (List.mem_append_right _ (List.mem_append_right _ (List.mem_append_right _ (List.mem_append_right _ (List.mem_append_right _ ((List.mem_of_getElem? h)))))))))
set_option maxRecDepth 100000 in
theorem t_0 : Cond.initialized RL ∈ GW := GWt1 0 rfl rfl
set_option maxRecDepth 100000 in
theorem t_1 : Cond.initialized RX11 ∈ GW := GWt1 1 rfl rfl
set_option maxRecDepth 100000 in
theorem t_2 : Cond.initialized RX10 ∈ GW := GWt1 2 rfl rfl
set_option maxRecDepth 100000 in
theorem t_3 : Cond.initialized RX2 ∈ GW := GWt1 3 rfl rfl
set_option maxRecDepth 100000 in
theorem t_4 : Cond.initialized RX8 ∈ GW := GWt1 4 rfl rfl
set_option maxRecDepth 100000 in
theorem t_5 : Cond.initialized RX0 ∈ GW := GWt1 5 rfl rfl
set_option maxRecDepth 100000 in
theorem t_6 : Cond.initialized RX5 ∈ GW := GWt1 6 rfl rfl
set_option maxRecDepth 100000 in
theorem t_7 : Cond.initialized RX9 ∈ GW := GWt1 7 rfl rfl
set_option maxRecDepth 100000 in
theorem t_8 : Cond.initialized RX3 ∈ GW := GWt1 8 rfl rfl
set_option maxRecDepth 100000 in
theorem t_9 : Cond.initialized RX7 ∈ GW := GWt1 9 rfl rfl
set_option maxRecDepth 100000 in
theorem t_10 : Cond.initialized RX4 ∈ GW := GWt1 10 rfl rfl
set_option maxRecDepth 100000 in
theorem t_11 : Cond.initialized RX12 ∈ GW := GWt1 11 rfl rfl
set_option maxRecDepth 100000 in
theorem t_12 : Cond.initialized RJ7 ∈ GW := GWt1 12 rfl rfl
set_option maxRecDepth 100000 in
theorem t_13 : Cond.initialized RX1 ∈ GW := GWt1 13 rfl rfl
set_option maxRecDepth 100000 in
theorem t_14 : Cond.initialized RJ9 ∈ GW := GWt1 14 rfl rfl
set_option maxRecDepth 100000 in
theorem t_15 : Cond.initialized RJ0 ∈ GW := GWt1 15 rfl rfl
set_option maxRecDepth 100000 in
theorem t_16 : Cond.initialized RJ1 ∈ GW := GWt1 16 rfl rfl
set_option maxRecDepth 100000 in
theorem t_17 : Cond.initialized RJ3 ∈ GW := GWt1 17 rfl rfl
set_option maxRecDepth 100000 in
theorem t_18 : Cond.initialized RJ2 ∈ GW := GWt1 18 rfl rfl
set_option maxRecDepth 100000 in
theorem t_19 : Cond.initialized RJ10 ∈ GW := GWt1 19 rfl rfl
set_option maxRecDepth 100000 in
theorem t_20 : Cond.initialized RX6 ∈ GW := GWt1 20 rfl rfl
set_option maxRecDepth 100000 in
theorem t_21 : Cond.initialized RJ6 ∈ GW := GWt1 21 rfl rfl
set_option maxRecDepth 100000 in
theorem t_22 : Cond.initialized RJ13 ∈ GW := GWt1 22 rfl rfl
set_option maxRecDepth 100000 in
theorem t_23 : Cond.classLink RL 7 RX11 ∈ GW := GWt1 23 rfl rfl
set_option maxRecDepth 100000 in
theorem t_24 : Cond.instantiable RX11 18 ∈ GW := GWt1 24 rfl rfl
set_option maxRecDepth 100000 in
theorem t_25 : Cond.methodLink RL 9 yX11_init ∈ GW := GWt1 25 rfl rfl
set_option maxRecDepth 100000 in
theorem t_26 : Cond.instanceMethod yX11_init ∈ GW := GWt1 26 rfl rfl
set_option maxRecDepth 100000 in
theorem t_27 : Cond.code yX11_init cX11_init 2 (none) ∈ GW := GWt1 27 rfl rfl
set_option maxRecDepth 100000 in
theorem t_28 : Cond.methodLink RX11 1 Lib.objectInit ∈ GW := GWt1 28 rfl rfl
set_option maxRecDepth 100000 in
theorem t_29 : Cond.instanceMethod Lib.objectInit ∈ GW := GWt1 29 rfl rfl
set_option maxRecDepth 100000 in
theorem t_30 : Cond.code Lib.objectInit ⟨#[0xb1]⟩ 1 none ∈ GW := GWt1 30 rfl rfl
set_option maxRecDepth 100000 in
theorem t_31 : Cond.classLink RX11 13 RX10 ∈ GW := GWt1 31 rfl rfl
set_option maxRecDepth 100000 in
theorem t_32 : Cond.instantiable RX10 7 ∈ GW := GWt1 32 rfl rfl
set_option maxRecDepth 100000 in
theorem t_34 : Cond.instanceMethod yX10_init ∈ GW := GWt1 34 rfl rfl
set_option maxRecDepth 100000 in
theorem t_35 : Cond.code yX10_init cX10_init 1 (none) ∈ GW := GWt1 35 rfl rfl
set_option maxRecDepth 100000 in
theorem t_36 : Cond.methodLink RX10 3 Lib.objectInit ∈ GW := GWt1 36 rfl rfl
set_option maxRecDepth 100000 in
theorem t_37 : Cond.fieldLink RX10 9 (TX10 0).1 (TX10 0).2.1 (TX10 0).2.2.1 ∈ GW := GWt1 37 rfl rfl
set_option maxRecDepth 100000 in
theorem t_38 : Cond.fieldLink RX10 19 (TX10 1).1 (TX10 1).2.1 (TX10 1).2.2.1 ∈ GW := GWt1 38 rfl rfl
set_option maxRecDepth 100000 in
theorem t_39 : Cond.fieldLink RX11 109 (TX10 1).1 (TX10 1).2.1 (TX10 1).2.2.1 ∈ GW := GWt1 39 rfl rfl
set_option maxRecDepth 100000 in
theorem t_40 : Cond.fieldLink RX10 15 (TX10 2).1 (TX10 2).2.1 (TX10 2).2.2.1 ∈ GW := GWt1 40 rfl rfl
set_option maxRecDepth 100000 in
theorem t_41 : Cond.fieldLink RX11 332 (TX10 2).1 (TX10 2).2.1 (TX10 2).2.2.1 ∈ GW := GWt1 41 rfl rfl
set_option maxRecDepth 100000 in
theorem t_42 : Cond.fieldLink RX10 28 (TX10 3).1 (TX10 3).2.1 (TX10 3).2.2.1 ∈ GW := GWt1 42 rfl rfl
set_option maxRecDepth 100000 in
theorem t_43 : Cond.fieldLink RX10 40 (TX10 4).1 (TX10 4).2.1 (TX10 4).2.2.1 ∈ GW := GWt1 43 rfl rfl
set_option maxRecDepth 100000 in
theorem t_44 : Cond.fieldLink RX10 37 (TX10 5).1 (TX10 5).2.1 (TX10 5).2.2.1 ∈ GW := GWt1 44 rfl rfl
set_option maxRecDepth 100000 in
theorem t_45 : Cond.fieldLink RX10 31 (TX10 6).1 (TX10 6).2.1 (TX10 6).2.2.1 ∈ GW := GWt1 45 rfl rfl
set_option maxRecDepth 100000 in
theorem t_61 : Cond.arrayClass .int ∈ GW := GWt1 61 rfl rfl
set_option maxRecDepth 100000 in
theorem t_62 : Cond.classLink RX11 20 RX2 ∈ GW := GWt1 62 rfl rfl
set_option maxRecDepth 100000 in
theorem t_63 : Cond.instantiable RX2 8 ∈ GW := GWt1 63 rfl rfl
set_option maxRecDepth 100000 in
theorem t_64 : Cond.methodLink RX11 22 yX2_init ∈ GW := GWt1 64 rfl rfl
set_option maxRecDepth 100000 in
theorem t_65 : Cond.instanceMethod yX2_init ∈ GW := GWt1 65 rfl rfl
set_option maxRecDepth 100000 in
theorem t_66 : Cond.code yX2_init cX2_init 2 (none) ∈ GW := GWt1 66 rfl rfl
set_option maxRecDepth 100000 in
theorem t_67 : Cond.methodLink RX2 3 Lib.objectInit ∈ GW := GWt1 67 rfl rfl
set_option maxRecDepth 100000 in
theorem t_68 : Cond.classLink RX2 9 RX8 ∈ GW := GWt1 68 rfl rfl
set_option maxRecDepth 100000 in
theorem t_69 : Cond.instantiable RX8 3 ∈ GW := GWt1 69 rfl rfl
set_option maxRecDepth 100000 in
theorem t_71 : Cond.instanceMethod yX8_init ∈ GW := GWt1 71 rfl rfl
set_option maxRecDepth 100000 in
theorem t_72 : Cond.code yX8_init cX8_init 1 (none) ∈ GW := GWt1 72 rfl rfl
set_option maxRecDepth 100000 in
theorem t_73 : Cond.methodLink RX8 3 Lib.objectInit ∈ GW := GWt1 73 rfl rfl
set_option maxRecDepth 100000 in
theorem t_74 : Cond.fieldLink RX8 15 (TX8 0).1 (TX8 0).2.1 (TX8 0).2.2.1 ∈ GW := GWt1 74 rfl rfl
set_option maxRecDepth 100000 in
theorem t_75 : Cond.fieldLink RX2 65 (TX8 0).1 (TX8 0).2.1 (TX8 0).2.2.1 ∈ GW := GWt1 75 rfl rfl
set_option maxRecDepth 100000 in
theorem t_76 : Cond.fieldLink RX8 11 (TX8 1).1 (TX8 1).2.1 (TX8 1).2.2.1 ∈ GW := GWt1 76 rfl rfl
set_option maxRecDepth 100000 in
theorem t_77 : Cond.fieldLink RX8 19 (TX8 2).1 (TX8 2).2.1 (TX8 2).2.2.1 ∈ GW := GWt1 77 rfl rfl
set_option maxRecDepth 100000 in
theorem t_85 : Cond.fieldLink RX2 22 (TX2 0).1 (TX2 0).2.1 (TX2 0).2.2.1 ∈ GW := GWt1 85 rfl rfl
set_option maxRecDepth 100000 in
theorem t_86 : Cond.fieldLink RX2 12 (TX2 1).1 (TX2 1).2.1 (TX2 1).2.2.1 ∈ GW := GWt1 86 rfl rfl
set_option maxRecDepth 100000 in
theorem t_87 : Cond.fieldLink RX2 18 (TX2 2).1 (TX2 2).2.1 (TX2 2).2.2.1 ∈ GW := GWt1 87 rfl rfl
set_option maxRecDepth 100000 in
theorem t_88 : Cond.fieldLink RX2 26 (TX2 3).1 (TX2 3).2.1 (TX2 3).2.2.1 ∈ GW := GWt1 88 rfl rfl
set_option maxRecDepth 100000 in
theorem t_89 : Cond.fieldLink RX2 36 (TX2 4).1 (TX2 4).2.1 (TX2 4).2.2.1 ∈ GW := GWt1 89 rfl rfl
set_option maxRecDepth 100000 in
theorem t_90 : Cond.fieldLink RX2 40 (TX2 5).1 (TX2 5).2.1 (TX2 5).2.2.1 ∈ GW := GWt1 90 rfl rfl
set_option maxRecDepth 100000 in
theorem t_91 : Cond.fieldLink RX2 43 (TX2 6).1 (TX2 6).2.1 (TX2 6).2.2.1 ∈ GW := GWt1 91 rfl rfl
set_option maxRecDepth 100000 in
theorem t_92 : Cond.fieldLink RX2 46 (TX2 7).1 (TX2 7).2.1 (TX2 7).2.2.1 ∈ GW := GWt1 92 rfl rfl
set_option maxRecDepth 100000 in
theorem t_110 : Cond.classLink RX11 29 RX1 ∈ GW := GWt1 110 rfl rfl
set_option maxRecDepth 100000 in
theorem t_112 : Cond.classLink RX11 35 RX6 ∈ GW := GWt1 112 rfl rfl
set_option maxRecDepth 100000 in
theorem t_114 : Cond.classLink RX11 48 RX0 ∈ GW := GWt1 114 rfl rfl
set_option maxRecDepth 100000 in
theorem t_115 : Cond.instantiable RX0 2 ∈ GW := GWt1 115 rfl rfl
set_option maxRecDepth 100000 in
theorem t_117 : Cond.instanceMethod yX0_init ∈ GW := GWt1 117 rfl rfl
set_option maxRecDepth 100000 in
theorem t_118 : Cond.code yX0_init cX0_init 1 (none) ∈ GW := GWt1 118 rfl rfl
set_option maxRecDepth 100000 in
theorem t_119 : Cond.methodLink RX0 3 Lib.objectInit ∈ GW := GWt1 119 rfl rfl
set_option maxRecDepth 100000 in
theorem t_120 : Cond.classLink RX0 9 RX1 ∈ GW := GWt1 120 rfl rfl
set_option maxRecDepth 100000 in
theorem t_121 : Cond.fieldLink RX0 11 (TX0 0).1 (TX0 0).2.1 (TX0 0).2.2.1 ∈ GW := GWt1 121 rfl rfl
set_option maxRecDepth 100000 in
theorem t_122 : Cond.fieldLink RX3 27 (TX0 0).1 (TX0 0).2.1 (TX0 0).2.2.1 ∈ GW := GWt1 122 rfl rfl
set_option maxRecDepth 100000 in
theorem t_123 : Cond.fieldLink RX5 55 (TX0 0).1 (TX0 0).2.1 (TX0 0).2.2.1 ∈ GW := GWt1 123 rfl rfl
set_option maxRecDepth 100000 in
theorem t_124 : Cond.fieldLink RX11 287 (TX0 0).1 (TX0 0).2.1 (TX0 0).2.2.1 ∈ GW := GWt1 124 rfl rfl
set_option maxRecDepth 100000 in
theorem t_125 : Cond.fieldLink RX0 17 (TX0 1).1 (TX0 1).2.1 (TX0 1).2.2.1 ∈ GW := GWt1 125 rfl rfl
set_option maxRecDepth 100000 in
theorem t_126 : Cond.fieldLink RX3 22 (TX0 1).1 (TX0 1).2.1 (TX0 1).2.2.1 ∈ GW := GWt1 126 rfl rfl
set_option maxRecDepth 100000 in
theorem t_127 : Cond.fieldLink RX5 49 (TX0 1).1 (TX0 1).2.1 (TX0 1).2.2.1 ∈ GW := GWt1 127 rfl rfl
set_option maxRecDepth 100000 in
theorem t_128 : Cond.fieldLink RX7 74 (TX0 1).1 (TX0 1).2.1 (TX0 1).2.2.1 ∈ GW := GWt1 128 rfl rfl
set_option maxRecDepth 100000 in
theorem t_129 : Cond.fieldLink RX4 117 (TX0 1).1 (TX0 1).2.1 (TX0 1).2.2.1 ∈ GW := GWt1 129 rfl rfl
set_option maxRecDepth 100000 in
theorem t_130 : Cond.fieldLink RX11 181 (TX0 1).1 (TX0 1).2.1 (TX0 1).2.2.1 ∈ GW := GWt1 130 rfl rfl
set_option maxRecDepth 100000 in
theorem t_137 : Cond.classLink RX11 59 RX5 ∈ GW := GWt1 137 rfl rfl
set_option maxRecDepth 100000 in
theorem t_138 : Cond.instantiable RX5 20 ∈ GW := GWt1 138 rfl rfl
set_option maxRecDepth 100000 in
theorem t_139 : Cond.methodLink RX11 61 yX5_init ∈ GW := GWt1 139 rfl rfl
set_option maxRecDepth 100000 in
theorem t_140 : Cond.instanceMethod yX5_init ∈ GW := GWt1 140 rfl rfl
set_option maxRecDepth 100000 in
theorem t_141 : Cond.code yX5_init cX5_init 2 (none) ∈ GW := GWt1 141 rfl rfl
set_option maxRecDepth 100000 in
theorem t_142 : Cond.methodLink RX5 3 Lib.objectInit ∈ GW := GWt1 142 rfl rfl
set_option maxRecDepth 100000 in
theorem t_143 : Cond.fieldLink RX5 46 (TX5 0).1 (TX5 0).2.1 (TX5 0).2.2.1 ∈ GW := GWt1 143 rfl rfl
set_option maxRecDepth 100000 in
theorem t_144 : Cond.fieldLink RX5 11 (TX5 1).1 (TX5 1).2.1 (TX5 1).2.2.1 ∈ GW := GWt1 144 rfl rfl
set_option maxRecDepth 100000 in
theorem t_145 : Cond.fieldLink RX5 15 (TX5 2).1 (TX5 2).2.1 (TX5 2).2.2.1 ∈ GW := GWt1 145 rfl rfl
set_option maxRecDepth 100000 in
theorem t_146 : Cond.fieldLink RX5 129 (TX5 3).1 (TX5 3).2.1 (TX5 3).2.2.1 ∈ GW := GWt1 146 rfl rfl
set_option maxRecDepth 100000 in
theorem t_147 : Cond.fieldLink RX5 111 (TX5 4).1 (TX5 4).2.1 (TX5 4).2.2.1 ∈ GW := GWt1 147 rfl rfl
set_option maxRecDepth 100000 in
theorem t_148 : Cond.fieldLink RX5 19 (TX5 5).1 (TX5 5).2.1 (TX5 5).2.2.1 ∈ GW := GWt1 148 rfl rfl
set_option maxRecDepth 100000 in
theorem t_149 : Cond.fieldLink RX5 108 (TX5 6).1 (TX5 6).2.1 (TX5 6).2.2.1 ∈ GW := GWt1 149 rfl rfl
set_option maxRecDepth 100000 in
theorem t_150 : Cond.fieldLink RX5 22 (TX5 7).1 (TX5 7).2.1 (TX5 7).2.2.1 ∈ GW := GWt1 150 rfl rfl
set_option maxRecDepth 100000 in
theorem t_151 : Cond.fieldLink RX5 25 (TX5 8).1 (TX5 8).2.1 (TX5 8).2.2.1 ∈ GW := GWt1 151 rfl rfl
set_option maxRecDepth 100000 in
theorem t_152 : Cond.fieldLink RX5 28 (TX5 9).1 (TX5 9).2.1 (TX5 9).2.2.1 ∈ GW := GWt1 152 rfl rfl
set_option maxRecDepth 100000 in
theorem t_153 : Cond.fieldLink RX5 31 (TX5 10).1 (TX5 10).2.1 (TX5 10).2.2.1 ∈ GW := GWt1 153 rfl rfl
set_option maxRecDepth 100000 in
theorem t_154 : Cond.fieldLink RX9 55 (TX5 10).1 (TX5 10).2.1 (TX5 10).2.2.1 ∈ GW := GWt1 154 rfl rfl
set_option maxRecDepth 100000 in
theorem t_155 : Cond.fieldLink RX5 34 (TX5 11).1 (TX5 11).2.1 (TX5 11).2.2.1 ∈ GW := GWt1 155 rfl rfl
set_option maxRecDepth 100000 in
theorem t_156 : Cond.fieldLink RX9 75 (TX5 11).1 (TX5 11).2.1 (TX5 11).2.2.1 ∈ GW := GWt1 156 rfl rfl
set_option maxRecDepth 100000 in
theorem t_157 : Cond.fieldLink RX5 37 (TX5 12).1 (TX5 12).2.1 (TX5 12).2.2.1 ∈ GW := GWt1 157 rfl rfl
set_option maxRecDepth 100000 in
theorem t_158 : Cond.fieldLink RX5 40 (TX5 13).1 (TX5 13).2.1 (TX5 13).2.2.1 ∈ GW := GWt1 158 rfl rfl
set_option maxRecDepth 100000 in
theorem t_159 : Cond.fieldLink RX5 43 (TX5 14).1 (TX5 14).2.1 (TX5 14).2.2.1 ∈ GW := GWt1 159 rfl rfl
set_option maxRecDepth 100000 in
theorem t_160 : Cond.fieldLink RX5 149 (TX5 15).1 (TX5 15).2.1 (TX5 15).2.2.1 ∈ GW := GWt1 160 rfl rfl
set_option maxRecDepth 100000 in
theorem t_161 : Cond.fieldLink RX5 152 (TX5 16).1 (TX5 16).2.1 (TX5 16).2.2.1 ∈ GW := GWt1 161 rfl rfl
set_option maxRecDepth 100000 in
theorem t_162 : Cond.fieldLink RX5 155 (TX5 17).1 (TX5 17).2.1 (TX5 17).2.2.1 ∈ GW := GWt1 162 rfl rfl
set_option maxRecDepth 100000 in
theorem t_163 : Cond.fieldLink RX5 168 (TX5 18).1 (TX5 18).2.1 (TX5 18).2.2.1 ∈ GW := GWt1 163 rfl rfl
set_option maxRecDepth 100000 in
theorem t_164 : Cond.fieldLink RX5 171 (TX5 19).1 (TX5 19).2.1 (TX5 19).2.2.1 ∈ GW := GWt1 164 rfl rfl
set_option maxRecDepth 100000 in
theorem t_206 : Cond.arrayClass .long ∈ GW := GWt1 206 rfl rfl
set_option maxRecDepth 100000 in
theorem t_207 : Cond.classLink RX11 68 RX9 ∈ GW := GWt1 207 rfl rfl
set_option maxRecDepth 100000 in
theorem t_208 : Cond.instantiable RX9 5 ∈ GW := GWt1 208 rfl rfl
set_option maxRecDepth 100000 in
theorem t_210 : Cond.instanceMethod yX9_init ∈ GW := GWt1 210 rfl rfl
set_option maxRecDepth 100000 in
theorem t_211 : Cond.code yX9_init cX9_init 1 (none) ∈ GW := GWt1 211 rfl rfl
set_option maxRecDepth 100000 in
theorem t_212 : Cond.methodLink RX9 3 Lib.objectInit ∈ GW := GWt1 212 rfl rfl
set_option maxRecDepth 100000 in
theorem t_213 : Cond.fieldLink RX9 26 (TX9 0).1 (TX9 0).2.1 (TX9 0).2.2.1 ∈ GW := GWt1 213 rfl rfl
set_option maxRecDepth 100000 in
theorem t_214 : Cond.fieldLink RX11 102 (TX9 0).1 (TX9 0).2.1 (TX9 0).2.2.1 ∈ GW := GWt1 214 rfl rfl
set_option maxRecDepth 100000 in
theorem t_215 : Cond.fieldLink RX9 9 (TX9 1).1 (TX9 1).2.1 (TX9 1).2.2.1 ∈ GW := GWt1 215 rfl rfl
set_option maxRecDepth 100000 in
theorem t_216 : Cond.fieldLink RX11 233 (TX9 1).1 (TX9 1).2.1 (TX9 1).2.2.1 ∈ GW := GWt1 216 rfl rfl
set_option maxRecDepth 100000 in
theorem t_217 : Cond.fieldLink RX9 15 (TX9 2).1 (TX9 2).2.1 (TX9 2).2.2.1 ∈ GW := GWt1 217 rfl rfl
set_option maxRecDepth 100000 in
theorem t_218 : Cond.fieldLink RX11 226 (TX9 2).1 (TX9 2).2.1 (TX9 2).2.2.1 ∈ GW := GWt1 218 rfl rfl
set_option maxRecDepth 100000 in
theorem t_219 : Cond.fieldLink RX9 19 (TX9 3).1 (TX9 3).2.1 (TX9 3).2.2.1 ∈ GW := GWt1 219 rfl rfl
set_option maxRecDepth 100000 in
theorem t_220 : Cond.fieldLink RX11 229 (TX9 3).1 (TX9 3).2.1 (TX9 3).2.2.1 ∈ GW := GWt1 220 rfl rfl
set_option maxRecDepth 100000 in
theorem t_221 : Cond.fieldLink RX9 23 (TX9 4).1 (TX9 4).2.1 (TX9 4).2.2.1 ∈ GW := GWt1 221 rfl rfl
set_option maxRecDepth 100000 in
theorem t_222 : Cond.fieldLink RX11 236 (TX9 4).1 (TX9 4).2.1 (TX9 4).2.2.1 ∈ GW := GWt1 222 rfl rfl
set_option maxRecDepth 100000 in
theorem t_234 : Cond.classLink RX11 75 RX3 ∈ GW := GWt1 234 rfl rfl
set_option maxRecDepth 100000 in
theorem t_235 : Cond.instantiable RX3 5 ∈ GW := GWt1 235 rfl rfl
set_option maxRecDepth 100000 in
theorem t_236 : Cond.methodLink RX11 77 yX3_init ∈ GW := GWt1 236 rfl rfl
set_option maxRecDepth 100000 in
theorem t_237 : Cond.instanceMethod yX3_init ∈ GW := GWt1 237 rfl rfl
set_option maxRecDepth 100000 in
theorem t_238 : Cond.code yX3_init cX3_init 2 (none) ∈ GW := GWt1 238 rfl rfl
set_option maxRecDepth 100000 in
theorem t_239 : Cond.methodLink RX3 3 Lib.objectInit ∈ GW := GWt1 239 rfl rfl
set_option maxRecDepth 100000 in
theorem t_240 : Cond.fieldLink RX3 15 (TX3 0).1 (TX3 0).2.1 (TX3 0).2.2.1 ∈ GW := GWt2 0 rfl rfl
set_option maxRecDepth 100000 in
theorem t_241 : Cond.fieldLink RX3 9 (TX3 1).1 (TX3 1).2.1 (TX3 1).2.2.1 ∈ GW := GWt2 1 rfl rfl
set_option maxRecDepth 100000 in
theorem t_242 : Cond.fieldLink RX3 18 (TX3 2).1 (TX3 2).2.1 (TX3 2).2.2.1 ∈ GW := GWt2 2 rfl rfl
set_option maxRecDepth 100000 in
theorem t_243 : Cond.fieldLink RX3 63 (TX3 3).1 (TX3 3).2.1 (TX3 3).2.2.1 ∈ GW := GWt2 3 rfl rfl
set_option maxRecDepth 100000 in
theorem t_244 : Cond.fieldLink RX11 251 (TX3 3).1 (TX3 3).2.1 (TX3 3).2.2.1 ∈ GW := GWt2 4 rfl rfl
set_option maxRecDepth 100000 in
theorem t_245 : Cond.fieldLink RX3 66 (TX3 4).1 (TX3 4).2.1 (TX3 4).2.2.1 ∈ GW := GWt2 5 rfl rfl
set_option maxRecDepth 100000 in
theorem t_246 : Cond.fieldLink RX11 254 (TX3 4).1 (TX3 4).2.1 (TX3 4).2.2.1 ∈ GW := GWt2 6 rfl rfl
set_option maxRecDepth 100000 in
theorem t_258 : Cond.classLink RX11 82 RX7 ∈ GW := GWt2 18 rfl rfl
set_option maxRecDepth 100000 in
theorem t_259 : Cond.instantiable RX7 15 ∈ GW := GWt2 19 rfl rfl
set_option maxRecDepth 100000 in
theorem t_260 : Cond.methodLink RX11 84 yX7_init ∈ GW := GWt2 20 rfl rfl
set_option maxRecDepth 100000 in
theorem t_261 : Cond.instanceMethod yX7_init ∈ GW := GWt2 21 rfl rfl
set_option maxRecDepth 100000 in
theorem t_262 : Cond.code yX7_init cX7_init 3 (none) ∈ GW := GWt2 22 rfl rfl
set_option maxRecDepth 100000 in
theorem t_263 : Cond.methodLink RX7 3 Lib.objectInit ∈ GW := GWt2 23 rfl rfl
set_option maxRecDepth 100000 in
theorem t_264 : Cond.classLink RX7 9 RX1 ∈ GW := GWt2 24 rfl rfl
set_option maxRecDepth 100000 in
theorem t_265 : Cond.classLink RX7 33 RX0 ∈ GW := GWt2 25 rfl rfl
set_option maxRecDepth 100000 in
theorem t_267 : Cond.fieldLink RX7 47 (TX7 0).1 (TX7 0).2.1 (TX7 0).2.2.1 ∈ GW := GWt2 27 rfl rfl
set_option maxRecDepth 100000 in
theorem t_268 : Cond.fieldLink RX7 51 (TX7 1).1 (TX7 1).2.1 (TX7 1).2.2.1 ∈ GW := GWt2 28 rfl rfl
set_option maxRecDepth 100000 in
theorem t_269 : Cond.fieldLink RX7 11 (TX7 2).1 (TX7 2).2.1 (TX7 2).2.2.1 ∈ GW := GWt2 29 rfl rfl
set_option maxRecDepth 100000 in
theorem t_270 : Cond.fieldLink RX7 65 (TX7 3).1 (TX7 3).2.1 (TX7 3).2.2.1 ∈ GW := GWt2 30 rfl rfl
set_option maxRecDepth 100000 in
theorem t_271 : Cond.fieldLink RX11 260 (TX7 3).1 (TX7 3).2.1 (TX7 3).2.2.1 ∈ GW := GWt2 31 rfl rfl
set_option maxRecDepth 100000 in
theorem t_272 : Cond.fieldLink RX7 17 (TX7 4).1 (TX7 4).2.1 (TX7 4).2.2.1 ∈ GW := GWt2 32 rfl rfl
set_option maxRecDepth 100000 in
theorem t_273 : Cond.fieldLink RX7 71 (TX7 5).1 (TX7 5).2.1 (TX7 5).2.2.1 ∈ GW := GWt2 33 rfl rfl
set_option maxRecDepth 100000 in
theorem t_274 : Cond.fieldLink RX7 55 (TX7 6).1 (TX7 6).2.1 (TX7 6).2.2.1 ∈ GW := GWt2 34 rfl rfl
set_option maxRecDepth 100000 in
theorem t_275 : Cond.fieldLink RX7 21 (TX7 7).1 (TX7 7).2.1 (TX7 7).2.2.1 ∈ GW := GWt2 35 rfl rfl
set_option maxRecDepth 100000 in
theorem t_276 : Cond.fieldLink RX7 24 (TX7 8).1 (TX7 8).2.1 (TX7 8).2.2.1 ∈ GW := GWt2 36 rfl rfl
set_option maxRecDepth 100000 in
theorem t_277 : Cond.fieldLink RX7 27 (TX7 9).1 (TX7 9).2.1 (TX7 9).2.2.1 ∈ GW := GWt2 37 rfl rfl
set_option maxRecDepth 100000 in
theorem t_278 : Cond.fieldLink RX7 30 (TX7 10).1 (TX7 10).2.1 (TX7 10).2.2.1 ∈ GW := GWt2 38 rfl rfl
set_option maxRecDepth 100000 in
theorem t_279 : Cond.fieldLink RX7 133 (TX7 11).1 (TX7 11).2.1 (TX7 11).2.2.1 ∈ GW := GWt2 39 rfl rfl
set_option maxRecDepth 100000 in
theorem t_280 : Cond.fieldLink RX7 36 (TX7 12).1 (TX7 12).2.1 (TX7 12).2.2.1 ∈ GW := GWt2 40 rfl rfl
set_option maxRecDepth 100000 in
theorem t_281 : Cond.fieldLink RX7 40 (TX7 13).1 (TX7 13).2.1 (TX7 13).2.2.1 ∈ GW := GWt2 41 rfl rfl
set_option maxRecDepth 100000 in
theorem t_282 : Cond.fieldLink RX7 44 (TX7 14).1 (TX7 14).2.1 (TX7 14).2.2.1 ∈ GW := GWt2 42 rfl rfl
set_option maxRecDepth 100000 in
theorem t_314 : Cond.classLink RX11 91 RX4 ∈ GW := GWt2 74 rfl rfl
set_option maxRecDepth 100000 in
theorem t_315 : Cond.instantiable RX4 7 ∈ GW := GWt2 75 rfl rfl
set_option maxRecDepth 100000 in
theorem t_317 : Cond.instanceMethod yX4_init ∈ GW := GWt2 77 rfl rfl
set_option maxRecDepth 100000 in
theorem t_318 : Cond.code yX4_init cX4_init 1 (none) ∈ GW := GWt2 78 rfl rfl
set_option maxRecDepth 100000 in
theorem t_319 : Cond.methodLink RX4 3 Lib.objectInit ∈ GW := GWt2 79 rfl rfl
set_option maxRecDepth 100000 in
theorem t_320 : Cond.classLink RX4 25 RX0 ∈ GW := GWt2 80 rfl rfl
set_option maxRecDepth 100000 in
theorem t_322 : Cond.fieldLink RX4 9 (TX4 0).1 (TX4 0).2.1 (TX4 0).2.2.1 ∈ GW := GWt2 82 rfl rfl
set_option maxRecDepth 100000 in
theorem t_323 : Cond.fieldLink RX4 15 (TX4 1).1 (TX4 1).2.1 (TX4 1).2.2.1 ∈ GW := GWt2 83 rfl rfl
set_option maxRecDepth 100000 in
theorem t_324 : Cond.fieldLink RX4 18 (TX4 2).1 (TX4 2).2.1 (TX4 2).2.2.1 ∈ GW := GWt2 84 rfl rfl
set_option maxRecDepth 100000 in
theorem t_325 : Cond.fieldLink RX4 35 (TX4 3).1 (TX4 3).2.1 (TX4 3).2.2.1 ∈ GW := GWt2 85 rfl rfl
set_option maxRecDepth 100000 in
theorem t_326 : Cond.fieldLink RX4 22 (TX4 4).1 (TX4 4).2.1 (TX4 4).2.2.1 ∈ GW := GWt2 86 rfl rfl
set_option maxRecDepth 100000 in
theorem t_327 : Cond.fieldLink RX11 310 (TX4 4).1 (TX4 4).2.1 (TX4 4).2.2.1 ∈ GW := GWt2 87 rfl rfl
set_option maxRecDepth 100000 in
theorem t_328 : Cond.fieldLink RX4 28 (TX4 5).1 (TX4 5).2.1 (TX4 5).2.2.1 ∈ GW := GWt2 88 rfl rfl
set_option maxRecDepth 100000 in
theorem t_329 : Cond.fieldLink RX11 317 (TX4 5).1 (TX4 5).2.1 (TX4 5).2.2.1 ∈ GW := GWt2 89 rfl rfl
set_option maxRecDepth 100000 in
theorem t_330 : Cond.fieldLink RX4 32 (TX4 6).1 (TX4 6).2.1 (TX4 6).2.2.1 ∈ GW := GWt2 90 rfl rfl
set_option maxRecDepth 100000 in
theorem t_346 : Cond.fieldLink RX11 9 (TX11 0).1 (TX11 0).2.1 (TX11 0).2.2.1 ∈ GW := GWt2 106 rfl rfl
set_option maxRecDepth 100000 in
theorem t_347 : Cond.fieldLink RX11 16 (TX11 1).1 (TX11 1).2.1 (TX11 1).2.2.1 ∈ GW := GWt2 107 rfl rfl
set_option maxRecDepth 100000 in
theorem t_348 : Cond.fieldLink RX11 25 (TX11 2).1 (TX11 2).2.1 (TX11 2).2.2.1 ∈ GW := GWt2 108 rfl rfl
set_option maxRecDepth 100000 in
theorem t_349 : Cond.fieldLink RX11 31 (TX11 3).1 (TX11 3).2.1 (TX11 3).2.2.1 ∈ GW := GWt2 109 rfl rfl
set_option maxRecDepth 100000 in
theorem t_350 : Cond.fieldLink RX11 116 (TX11 4).1 (TX11 4).2.1 (TX11 4).2.2.1 ∈ GW := GWt2 110 rfl rfl
set_option maxRecDepth 100000 in
theorem t_351 : Cond.fieldLink RX11 37 (TX11 5).1 (TX11 5).2.1 (TX11 5).2.2.1 ∈ GW := GWt2 111 rfl rfl
set_option maxRecDepth 100000 in
theorem t_352 : Cond.fieldLink RX11 139 (TX11 6).1 (TX11 6).2.1 (TX11 6).2.2.1 ∈ GW := GWt2 112 rfl rfl
set_option maxRecDepth 100000 in
theorem t_353 : Cond.fieldLink RX11 41 (TX11 7).1 (TX11 7).2.1 (TX11 7).2.2.1 ∈ GW := GWt2 113 rfl rfl
set_option maxRecDepth 100000 in
theorem t_354 : Cond.fieldLink RX11 149 (TX11 8).1 (TX11 8).2.1 (TX11 8).2.2.1 ∈ GW := GWt2 114 rfl rfl
set_option maxRecDepth 100000 in
theorem t_355 : Cond.fieldLink RX11 44 (TX11 9).1 (TX11 9).2.1 (TX11 9).2.2.1 ∈ GW := GWt2 115 rfl rfl
set_option maxRecDepth 100000 in
theorem t_356 : Cond.fieldLink RX11 51 (TX11 10).1 (TX11 10).2.1 (TX11 10).2.2.1 ∈ GW := GWt2 116 rfl rfl
set_option maxRecDepth 100000 in
theorem t_357 : Cond.fieldLink RX11 55 (TX11 11).1 (TX11 11).2.1 (TX11 11).2.2.1 ∈ GW := GWt2 117 rfl rfl
set_option maxRecDepth 100000 in
theorem t_358 : Cond.fieldLink RX11 273 (TX11 12).1 (TX11 12).2.1 (TX11 12).2.2.1 ∈ GW := GWt2 118 rfl rfl
set_option maxRecDepth 100000 in
theorem t_359 : Cond.fieldLink RX11 64 (TX11 13).1 (TX11 13).2.1 (TX11 13).2.2.1 ∈ GW := GWt2 119 rfl rfl
set_option maxRecDepth 100000 in
theorem t_360 : Cond.fieldLink RX11 71 (TX11 14).1 (TX11 14).2.1 (TX11 14).2.2.1 ∈ GW := GWt2 120 rfl rfl
set_option maxRecDepth 100000 in
theorem t_361 : Cond.fieldLink RX11 78 (TX11 15).1 (TX11 15).2.1 (TX11 15).2.2.1 ∈ GW := GWt2 121 rfl rfl
set_option maxRecDepth 100000 in
theorem t_362 : Cond.fieldLink RX11 87 (TX11 16).1 (TX11 16).2.1 (TX11 16).2.2.1 ∈ GW := GWt2 122 rfl rfl
set_option maxRecDepth 100000 in
theorem t_363 : Cond.fieldLink RX11 94 (TX11 17).1 (TX11 17).2.1 (TX11 17).2.2.1 ∈ GW := GWt2 123 rfl rfl
set_option maxRecDepth 100000 in
theorem t_401 : Cond.methodLink RL 13 yX11_family ∈ GW := GWt2 161 rfl rfl
set_option maxRecDepth 100000 in
theorem t_402 : Cond.instanceMethod yX11_family ∈ GW := GWt2 162 rfl rfl
set_option maxRecDepth 100000 in
theorem t_403 : Cond.selects RX11 yX11_family yX11_family ∈ GW := GWt2 163 rfl rfl
set_option maxRecDepth 100000 in
theorem t_404 : Cond.code yX11_family cX11_family 3 (some .boolean) ∈ GW := GWt2 164 rfl rfl
set_option maxRecDepth 100000 in
theorem t_405 : Cond.methodLink RX11 98 yX11_isWithin ∈ GW := GWt2 165 rfl rfl
set_option maxRecDepth 100000 in
theorem t_406 : Cond.static yX11_isWithin ∈ GW := GWt2 166 rfl rfl
set_option maxRecDepth 100000 in
theorem t_407 : Cond.code yX11_isWithin cX11_isWithin 2 (some .boolean) ∈ GW := GWt2 167 rfl rfl
set_option maxRecDepth 100000 in
theorem t_408 : Cond.methodLink RX11 106 yX7_forgetAll ∈ GW := GWt2 168 rfl rfl
set_option maxRecDepth 100000 in
theorem t_409 : Cond.instanceMethod yX7_forgetAll ∈ GW := GWt2 169 rfl rfl
set_option maxRecDepth 100000 in
theorem t_410 : Cond.selects RX7 yX7_forgetAll yX7_forgetAll ∈ GW := GWt2 170 rfl rfl
set_option maxRecDepth 100000 in
theorem t_411 : Cond.code yX7_forgetAll cX7_forgetAll 1 (none) ∈ GW := GWt2 171 rfl rfl
set_option maxRecDepth 100000 in
theorem t_412 : Cond.methodLink RX7 59 yJ7_fill_53178 ∈ GW := GWt2 172 rfl rfl
set_option maxRecDepth 100000 in
theorem t_413 : Cond.static yJ7_fill_53178 ∈ GW := GWt2 173 rfl rfl
set_option maxRecDepth 100000 in
theorem t_414 : Cond.code yJ7_fill_53178 cJ7_fill_53178 4 (none) ∈ GW := GWt2 174 rfl rfl
set_option maxRecDepth 100000 in
theorem t_415 : Cond.methodLink RL 18 yX11_feed ∈ GW := GWt2 175 rfl rfl
set_option maxRecDepth 100000 in
theorem t_416 : Cond.instanceMethod yX11_feed ∈ GW := GWt2 176 rfl rfl
set_option maxRecDepth 100000 in
theorem t_417 : Cond.selects RX11 yX11_feed yX11_feed ∈ GW := GWt2 177 rfl rfl
set_option maxRecDepth 100000 in
theorem t_418 : Cond.code yX11_feed cX11_feed 6 (some .int) ∈ GW := GWt2 178 rfl rfl
set_option maxRecDepth 100000 in
theorem t_419 : Cond.methodLink RX11 112 yX10_putFour ∈ GW := GWt2 179 rfl rfl
set_option maxRecDepth 100000 in
theorem t_420 : Cond.instanceMethod yX10_putFour ∈ GW := GWt2 180 rfl rfl
set_option maxRecDepth 100000 in
theorem t_421 : Cond.selects RX10 yX10_putFour yX10_putFour ∈ GW := GWt2 181 rfl rfl
set_option maxRecDepth 100000 in
theorem t_422 : Cond.code yX10_putFour cX10_putFour 3 (none) ∈ GW := GWt2 182 rfl rfl
set_option maxRecDepth 100000 in
theorem t_423 : Cond.methodLink RL 23 yX11_deal ∈ GW := GWt2 183 rfl rfl
set_option maxRecDepth 100000 in
theorem t_424 : Cond.instanceMethod yX11_deal ∈ GW := GWt2 184 rfl rfl
set_option maxRecDepth 100000 in
theorem t_425 : Cond.selects RX11 yX11_deal yX11_deal ∈ GW := GWt2 185 rfl rfl
set_option maxRecDepth 100000 in
theorem t_426 : Cond.code yX11_deal cX11_deal 5 (some .int) ∈ GW := GWt2 186 rfl rfl
set_option maxRecDepth 100000 in
theorem t_427 : Cond.methodLink RX11 119 yX11_refusalOf ∈ GW := GWt2 187 rfl rfl
set_option maxRecDepth 100000 in
theorem t_429 : Cond.instanceMethod yX11_refusalOf ∈ GW := GWt2 189 rfl rfl
set_option maxRecDepth 100000 in
theorem t_430 : Cond.code yX11_refusalOf cX11_refusalOf 4 (some .int) ∈ GW := GWt2 190 rfl rfl
set_option maxRecDepth 100000 in
theorem t_431 : Cond.instantiable RX1 13 ∈ GW := GWt2 191 rfl rfl
set_option maxRecDepth 100000 in
theorem t_432 : Cond.methodLink RX11 123 yX1_init ∈ GW := GWt2 192 rfl rfl
set_option maxRecDepth 100000 in
theorem t_433 : Cond.instanceMethod yX1_init ∈ GW := GWt2 193 rfl rfl
set_option maxRecDepth 100000 in
theorem t_434 : Cond.code yX1_init cX1_init 2 (none) ∈ GW := GWt2 194 rfl rfl
set_option maxRecDepth 100000 in
theorem t_435 : Cond.methodLink RX1 3 Lib.objectInit ∈ GW := GWt2 195 rfl rfl
set_option maxRecDepth 100000 in
theorem t_436 : Cond.fieldLink RX1 25 (TX1 0).1 (TX1 0).2.1 (TX1 0).2.2.1 ∈ GW := GWt2 196 rfl rfl
set_option maxRecDepth 100000 in
theorem t_437 : Cond.fieldLink RX4 105 (TX1 0).1 (TX1 0).2.1 (TX1 0).2.2.1 ∈ GW := GWt2 197 rfl rfl
set_option maxRecDepth 100000 in
theorem t_438 : Cond.fieldLink RX11 288 (TX1 0).1 (TX1 0).2.1 (TX1 0).2.2.1 ∈ GW := GWt2 198 rfl rfl
set_option maxRecDepth 100000 in
theorem t_439 : Cond.fieldLink RX11 132 (TX1 1).1 (TX1 1).2.1 (TX1 1).2.2.1 ∈ GW := GWt2 199 rfl rfl
set_option maxRecDepth 100000 in
theorem t_440 : Cond.fieldLink RX4 108 (TX1 1).1 (TX1 1).2.1 (TX1 1).2.2.1 ∈ GW := GWt2 200 rfl rfl
set_option maxRecDepth 100000 in
theorem t_441 : Cond.fieldLink RX1 29 (TX1 2).1 (TX1 2).2.1 (TX1 2).2.2.1 ∈ GW := GWt2 201 rfl rfl
set_option maxRecDepth 100000 in
theorem t_442 : Cond.fieldLink RX3 35 (TX1 2).1 (TX1 2).2.1 (TX1 2).2.2.1 ∈ GW := GWt2 202 rfl rfl
set_option maxRecDepth 100000 in
theorem t_443 : Cond.fieldLink RX2 109 (TX1 2).1 (TX1 2).2.1 (TX1 2).2.2.1 ∈ GW := GWt2 203 rfl rfl
set_option maxRecDepth 100000 in
theorem t_444 : Cond.fieldLink RX0 28 (TX1 2).1 (TX1 2).2.1 (TX1 2).2.2.1 ∈ GW := GWt2 204 rfl rfl
set_option maxRecDepth 100000 in
theorem t_445 : Cond.fieldLink RX11 152 (TX1 2).1 (TX1 2).2.1 (TX1 2).2.2.1 ∈ GW := GWt2 205 rfl rfl
set_option maxRecDepth 100000 in
theorem t_446 : Cond.fieldLink RX1 32 (TX1 3).1 (TX1 3).2.1 (TX1 3).2.2.1 ∈ GW := GWt2 206 rfl rfl
set_option maxRecDepth 100000 in
theorem t_447 : Cond.fieldLink RX4 43 (TX1 3).1 (TX1 3).2.1 (TX1 3).2.2.1 ∈ GW := GWt2 207 rfl rfl
set_option maxRecDepth 100000 in
theorem t_448 : Cond.fieldLink RX5 83 (TX1 3).1 (TX1 3).2.1 (TX1 3).2.2.1 ∈ GW := GWt2 208 rfl rfl
set_option maxRecDepth 100000 in
theorem t_449 : Cond.fieldLink RX0 25 (TX1 3).1 (TX1 3).2.1 (TX1 3).2.2.1 ∈ GW := GWt2 209 rfl rfl
set_option maxRecDepth 100000 in
theorem t_450 : Cond.fieldLink RX11 155 (TX1 3).1 (TX1 3).2.1 (TX1 3).2.2.1 ∈ GW := GWt2 210 rfl rfl
set_option maxRecDepth 100000 in
theorem t_451 : Cond.fieldLink RX2 182 (TX1 3).1 (TX1 3).2.1 (TX1 3).2.2.1 ∈ GW := GWt2 211 rfl rfl
set_option maxRecDepth 100000 in
theorem t_452 : Cond.fieldLink RX1 35 (TX1 4).1 (TX1 4).2.1 (TX1 4).2.2.1 ∈ GW := GWt2 212 rfl rfl
set_option maxRecDepth 100000 in
theorem t_453 : Cond.fieldLink RX4 54 (TX1 4).1 (TX1 4).2.1 (TX1 4).2.2.1 ∈ GW := GWt2 213 rfl rfl
set_option maxRecDepth 100000 in
theorem t_454 : Cond.fieldLink RX0 35 (TX1 4).1 (TX1 4).2.1 (TX1 4).2.2.1 ∈ GW := GWt2 214 rfl rfl
set_option maxRecDepth 100000 in
theorem t_455 : Cond.fieldLink RX11 158 (TX1 4).1 (TX1 4).2.1 (TX1 4).2.2.1 ∈ GW := GWt2 215 rfl rfl
set_option maxRecDepth 100000 in
theorem t_456 : Cond.fieldLink RX2 173 (TX1 4).1 (TX1 4).2.1 (TX1 4).2.2.1 ∈ GW := GWt2 216 rfl rfl
set_option maxRecDepth 100000 in
theorem t_457 : Cond.fieldLink RX1 38 (TX1 5).1 (TX1 5).2.1 (TX1 5).2.2.1 ∈ GW := GWt2 217 rfl rfl
set_option maxRecDepth 100000 in
theorem t_458 : Cond.fieldLink RX4 102 (TX1 5).1 (TX1 5).2.1 (TX1 5).2.2.1 ∈ GW := GWt2 218 rfl rfl
set_option maxRecDepth 100000 in
theorem t_459 : Cond.fieldLink RX11 165 (TX1 5).1 (TX1 5).2.1 (TX1 5).2.2.1 ∈ GW := GWt2 219 rfl rfl
set_option maxRecDepth 100000 in
theorem t_460 : Cond.fieldLink RX1 41 (TX1 6).1 (TX1 6).2.1 (TX1 6).2.2.1 ∈ GW := GWt2 220 rfl rfl
set_option maxRecDepth 100000 in
theorem t_461 : Cond.fieldLink RX5 63 (TX1 6).1 (TX1 6).2.1 (TX1 6).2.2.1 ∈ GW := GWt2 221 rfl rfl
set_option maxRecDepth 100000 in
theorem t_462 : Cond.fieldLink RX4 77 (TX1 6).1 (TX1 6).2.1 (TX1 6).2.2.1 ∈ GW := GWt2 222 rfl rfl
set_option maxRecDepth 100000 in
theorem t_463 : Cond.fieldLink RX0 54 (TX1 6).1 (TX1 6).2.1 (TX1 6).2.2.1 ∈ GW := GWt2 223 rfl rfl
set_option maxRecDepth 100000 in
theorem t_464 : Cond.fieldLink RX2 68 (TX1 7).1 (TX1 7).2.1 (TX1 7).2.2.1 ∈ GW := GWt2 224 rfl rfl
set_option maxRecDepth 100000 in
theorem t_465 : Cond.fieldLink RX11 171 (TX1 7).1 (TX1 7).2.1 (TX1 7).2.2.1 ∈ GW := GWt2 225 rfl rfl
set_option maxRecDepth 100000 in
theorem t_466 : Cond.fieldLink RX2 75 (TX1 8).1 (TX1 8).2.1 (TX1 8).2.2.1 ∈ GW := GWt2 226 rfl rfl
set_option maxRecDepth 100000 in
theorem t_467 : Cond.fieldLink RX11 174 (TX1 8).1 (TX1 8).2.1 (TX1 8).2.2.1 ∈ GW := GWt2 227 rfl rfl
set_option maxRecDepth 100000 in
theorem t_468 : Cond.fieldLink RX1 9 (TX1 9).1 (TX1 9).2.1 (TX1 9).2.2.1 ∈ GW := GWt2 228 rfl rfl
set_option maxRecDepth 100000 in
theorem t_469 : Cond.fieldLink RX3 38 (TX1 9).1 (TX1 9).2.1 (TX1 9).2.2.1 ∈ GW := GWt2 229 rfl rfl
set_option maxRecDepth 100000 in
theorem t_470 : Cond.fieldLink RX11 168 (TX1 9).1 (TX1 9).2.1 (TX1 9).2.2.1 ∈ GW := GWt2 230 rfl rfl
set_option maxRecDepth 100000 in
theorem t_471 : Cond.fieldLink RX1 15 (TX1 10).1 (TX1 10).2.1 (TX1 10).2.2.1 ∈ GW := GWt2 231 rfl rfl
set_option maxRecDepth 100000 in
theorem t_472 : Cond.fieldLink RX5 68 (TX1 10).1 (TX1 10).2.1 (TX1 10).2.2.1 ∈ GW := GWt2 232 rfl rfl
set_option maxRecDepth 100000 in
theorem t_473 : Cond.fieldLink RX4 80 (TX1 10).1 (TX1 10).2.1 (TX1 10).2.2.1 ∈ GW := GWt2 233 rfl rfl
set_option maxRecDepth 100000 in
theorem t_474 : Cond.fieldLink RX0 65 (TX1 10).1 (TX1 10).2.1 (TX1 10).2.2.1 ∈ GW := GWt2 234 rfl rfl
set_option maxRecDepth 100000 in
theorem t_475 : Cond.fieldLink RX1 18 (TX1 11).1 (TX1 11).2.1 (TX1 11).2.2.1 ∈ GW := GWt2 235 rfl rfl
set_option maxRecDepth 100000 in
theorem t_476 : Cond.fieldLink RX5 86 (TX1 11).1 (TX1 11).2.1 (TX1 11).2.2.1 ∈ GW := GWt2 236 rfl rfl
set_option maxRecDepth 100000 in
theorem t_477 : Cond.fieldLink RX4 87 (TX1 11).1 (TX1 11).2.1 (TX1 11).2.2.1 ∈ GW := GWt2 237 rfl rfl
set_option maxRecDepth 100000 in
theorem t_478 : Cond.fieldLink RX0 61 (TX1 11).1 (TX1 11).2.1 (TX1 11).2.2.1 ∈ GW := GWt2 238 rfl rfl
set_option maxRecDepth 100000 in
theorem t_479 : Cond.fieldLink RX1 22 (TX1 12).1 (TX1 12).2.1 (TX1 12).2.2.1 ∈ GW := GWt2 239 rfl rfl
set_option maxRecDepth 100000 in
theorem t_480 : Cond.fieldLink RX5 136 (TX1 12).1 (TX1 12).2.1 (TX1 12).2.2.1 ∈ GW := GWt3 0 rfl rfl
set_option maxRecDepth 100000 in
theorem t_508 : Cond.methodLink RX11 125 yX10_open ∈ GW := GWt3 28 rfl rfl
set_option maxRecDepth 100000 in
theorem t_509 : Cond.instanceMethod yX10_open ∈ GW := GWt3 29 rfl rfl
set_option maxRecDepth 100000 in
theorem t_510 : Cond.selects RX10 yX10_open yX10_open ∈ GW := GWt3 30 rfl rfl
set_option maxRecDepth 100000 in
theorem t_511 : Cond.code yX10_open cX10_open 2 (none) ∈ GW := GWt3 31 rfl rfl
set_option maxRecDepth 100000 in
theorem t_512 : Cond.methodLink RX10 22 yJ9_min_7cf53 ∈ GW := GWt3 32 rfl rfl
set_option maxRecDepth 100000 in
theorem t_513 : Cond.static yJ9_min_7cf53 ∈ GW := GWt3 33 rfl rfl
set_option maxRecDepth 100000 in
theorem t_514 : Cond.code yJ9_min_7cf53 cJ9_min_7cf53 2 (some .int) ∈ GW := GWt3 34 rfl rfl
set_option maxRecDepth 100000 in
theorem t_515 : Cond.methodLink RX10 34 yX10_advance ∈ GW := GWt3 35 rfl rfl
set_option maxRecDepth 100000 in
theorem t_516 : Cond.instanceMethod yX10_advance ∈ GW := GWt3 36 rfl rfl
set_option maxRecDepth 100000 in
theorem t_517 : Cond.selects RX10 yX10_advance yX10_advance ∈ GW := GWt3 37 rfl rfl
set_option maxRecDepth 100000 in
theorem t_518 : Cond.code yX10_advance cX10_advance 1 (none) ∈ GW := GWt3 38 rfl rfl
set_option maxRecDepth 100000 in
theorem t_519 : Cond.methodLink RX11 128 yX2_readDeal ∈ GW := GWt3 39 rfl rfl
set_option maxRecDepth 100000 in
theorem t_520 : Cond.instanceMethod yX2_readDeal ∈ GW := GWt3 40 rfl rfl
set_option maxRecDepth 100000 in
theorem t_521 : Cond.selects RX2 yX2_readDeal yX2_readDeal ∈ GW := GWt3 41 rfl rfl
set_option maxRecDepth 100000 in
theorem t_522 : Cond.code yX2_readDeal cX2_readDeal 2 (some .boolean) ∈ GW := GWt3 42 rfl rfl
set_option maxRecDepth 100000 in
theorem t_523 : Cond.methodLink RX2 30 yX1_empty ∈ GW := GWt3 43 rfl rfl
set_option maxRecDepth 100000 in
theorem t_524 : Cond.instanceMethod yX1_empty ∈ GW := GWt3 44 rfl rfl
set_option maxRecDepth 100000 in
theorem t_525 : Cond.selects RX1 yX1_empty yX1_empty ∈ GW := GWt3 45 rfl rfl
set_option maxRecDepth 100000 in
theorem t_526 : Cond.code yX1_empty cX1_empty 1 (none) ∈ GW := GWt3 46 rfl rfl
set_option maxRecDepth 100000 in
theorem t_527 : Cond.methodLink RX2 35 yX8_empty ∈ GW := GWt3 47 rfl rfl
set_option maxRecDepth 100000 in
theorem t_528 : Cond.instanceMethod yX8_empty ∈ GW := GWt3 48 rfl rfl
set_option maxRecDepth 100000 in
theorem t_529 : Cond.selects RX8 yX8_empty yX8_empty ∈ GW := GWt3 49 rfl rfl
set_option maxRecDepth 100000 in
theorem t_530 : Cond.code yX8_empty cX8_empty 1 (none) ∈ GW := GWt3 50 rfl rfl
set_option maxRecDepth 100000 in
theorem t_531 : Cond.methodLink RX2 49 yX2_readAll ∈ GW := GWt3 51 rfl rfl
set_option maxRecDepth 100000 in
theorem t_533 : Cond.instanceMethod yX2_readAll ∈ GW := GWt3 53 rfl rfl
set_option maxRecDepth 100000 in
theorem t_534 : Cond.code yX2_readAll cX2_readAll 3 (some .boolean) ∈ GW := GWt3 54 rfl rfl
set_option maxRecDepth 100000 in
theorem t_535 : Cond.methodLink RX2 78 yX2_readPart ∈ GW := GWt3 55 rfl rfl
set_option maxRecDepth 100000 in
theorem t_537 : Cond.instanceMethod yX2_readPart ∈ GW := GWt3 57 rfl rfl
set_option maxRecDepth 100000 in
theorem t_538 : Cond.code yX2_readPart cX2_readPart 3 (some .boolean) ∈ GW := GWt3 58 rfl rfl
set_option maxRecDepth 100000 in
theorem t_540 : Cond.methodLink RX2 90 yX10_placeIn ∈ GW := GWt3 60 rfl rfl
set_option maxRecDepth 100000 in
theorem t_541 : Cond.instanceMethod yX10_placeIn ∈ GW := GWt3 61 rfl rfl
set_option maxRecDepth 100000 in
theorem t_542 : Cond.selects RX10 yX10_placeIn yX10_placeIn ∈ GW := GWt3 62 rfl rfl
set_option maxRecDepth 100000 in
theorem t_543 : Cond.code yX10_placeIn cX10_placeIn 6 (some .int) ∈ GW := GWt3 63 rfl rfl
set_option maxRecDepth 100000 in
theorem t_544 : Cond.methodLink RX10 51 yJ0_length_8abf5 ∈ GW := GWt3 64 rfl rfl
set_option maxRecDepth 100000 in
theorem t_545 : Cond.instanceMethod yJ0_length_8abf5 ∈ GW := GWt3 65 rfl rfl
set_option maxRecDepth 100000 in
theorem t_546 : Cond.selects RJ0 yJ0_length_8abf5 yJ0_length_8abf5 ∈ GW := GWt3 66 rfl rfl
set_option maxRecDepth 100000 in
theorem t_547 : Cond.code yJ0_length_8abf5 cJ0_length_8abf5 1 (some .int) ∈ GW := GWt3 67 rfl rfl
set_option maxRecDepth 100000 in
theorem t_548 : Cond.methodLink RJ0 335 yJ0_coder_7d493 ∈ GW := GWt3 68 rfl rfl
set_option maxRecDepth 100000 in
theorem t_549 : Cond.instanceMethod yJ0_coder_7d493 ∈ GW := GWt3 69 rfl rfl
set_option maxRecDepth 100000 in
theorem t_550 : Cond.selects RJ0 yJ0_coder_7d493 yJ0_coder_7d493 ∈ GW := GWt3 70 rfl rfl
set_option maxRecDepth 100000 in
theorem t_551 : Cond.code yJ0_coder_7d493 cJ0_coder_7d493 1 (some .byte) ∈ GW := GWt3 71 rfl rfl
set_option maxRecDepth 100000 in
theorem t_552 : Cond.fieldLink RJ0 38 "java/lang/String" "COMPACT_STRINGS" "Z" ∈ GW := GWt3 72 rfl rfl
set_option maxRecDepth 100000 in
theorem t_554 : Cond.methodLink RX10 56 yJ0_charAt_5068e ∈ GW := GWt3 74 rfl rfl
set_option maxRecDepth 100000 in
theorem t_555 : Cond.instanceMethod yJ0_charAt_5068e ∈ GW := GWt3 75 rfl rfl
set_option maxRecDepth 100000 in
theorem t_556 : Cond.selects RJ0 yJ0_charAt_5068e yJ0_charAt_5068e ∈ GW := GWt3 76 rfl rfl
set_option maxRecDepth 100000 in
theorem t_557 : Cond.code yJ0_charAt_5068e cJ0_charAt_5068e 2 (some .char) ∈ GW := GWt3 77 rfl rfl
set_option maxRecDepth 100000 in
theorem t_558 : Cond.methodLink RJ0 492 yJ0_isLatin1_aae02 ∈ GW := GWt3 78 rfl rfl
set_option maxRecDepth 100000 in
theorem t_559 : Cond.instanceMethod yJ0_isLatin1_aae02 ∈ GW := GWt3 79 rfl rfl
set_option maxRecDepth 100000 in
theorem t_560 : Cond.selects RJ0 yJ0_isLatin1_aae02 yJ0_isLatin1_aae02 ∈ GW := GWt3 80 rfl rfl
set_option maxRecDepth 100000 in
theorem t_561 : Cond.code yJ0_isLatin1_aae02 cJ0_isLatin1_aae02 1 (some .boolean) ∈ GW := GWt3 81 rfl rfl
set_option maxRecDepth 100000 in
theorem t_562 : Cond.methodLink RJ0 495 yJ1_charAt_3b067 ∈ GW := GWt3 82 rfl rfl
set_option maxRecDepth 100000 in
theorem t_563 : Cond.static yJ1_charAt_3b067 ∈ GW := GWt3 83 rfl rfl
set_option maxRecDepth 100000 in
theorem t_564 : Cond.code yJ1_charAt_3b067 cJ1_charAt_3b067 2 (some .char) ∈ GW := GWt3 84 rfl rfl
set_option maxRecDepth 100000 in
theorem t_565 : Cond.methodLink RJ1 9 yJ0_checkIndex_df160 ∈ GW := GWt3 85 rfl rfl
set_option maxRecDepth 100000 in
theorem t_566 : Cond.static yJ0_checkIndex_df160 ∈ GW := GWt3 86 rfl rfl
set_option maxRecDepth 100000 in
theorem t_567 : Cond.code yJ0_checkIndex_df160 cJ0_checkIndex_df160 2 (none) ∈ GW := GWt3 87 rfl rfl
set_option maxRecDepth 100000 in
theorem t_568 : Cond.fieldLink RJ0 1053 "jdk/internal/util/Preconditions" "SIOOBE_FORMATTER" "Ljava/util/function/BiFunction;" ∈ GW := GWt3 88 rfl rfl
set_option maxRecDepth 100000 in
theorem t_570 : Cond.methodLink RJ0 1059 yJ3_checkIndex_8e157 ∈ GW := GWt3 90 rfl rfl
set_option maxRecDepth 100000 in
theorem t_571 : Cond.static yJ3_checkIndex_8e157 ∈ GW := GWt3 91 rfl rfl
set_option maxRecDepth 100000 in
theorem t_572 : Cond.code yJ3_checkIndex_8e157 cJ3_checkIndex_8e157 3 (some .int) ∈ GW := GWt3 92 rfl rfl
set_option maxRecDepth 100000 in
theorem t_573 : Cond.methodLink RJ0 498 yJ2_charAt_3b067 ∈ GW := GWt3 93 rfl rfl
set_option maxRecDepth 100000 in
theorem t_574 : Cond.static yJ2_charAt_3b067 ∈ GW := GWt3 94 rfl rfl
set_option maxRecDepth 100000 in
theorem t_575 : Cond.code yJ2_charAt_3b067 cJ2_charAt_3b067 2 (some .char) ∈ GW := GWt3 95 rfl rfl
set_option maxRecDepth 100000 in
theorem t_576 : Cond.methodLink RJ2 67 yJ2_checkIndex_2214a ∈ GW := GWt3 96 rfl rfl
set_option maxRecDepth 100000 in
theorem t_577 : Cond.static yJ2_checkIndex_2214a ∈ GW := GWt3 97 rfl rfl
set_option maxRecDepth 100000 in
theorem t_578 : Cond.code yJ2_checkIndex_2214a cJ2_checkIndex_2214a 2 (none) ∈ GW := GWt3 98 rfl rfl
set_option maxRecDepth 100000 in
theorem t_579 : Cond.methodLink RJ2 48 yJ2_length_9d52b ∈ GW := GWt3 99 rfl rfl
set_option maxRecDepth 100000 in
theorem t_580 : Cond.static yJ2_length_9d52b ∈ GW := GWt3 100 rfl rfl
set_option maxRecDepth 100000 in
theorem t_581 : Cond.code yJ2_length_9d52b cJ2_length_9d52b 1 (some .int) ∈ GW := GWt3 101 rfl rfl
set_option maxRecDepth 100000 in
theorem t_582 : Cond.methodLink RJ2 414 yJ0_checkIndex_df160 ∈ GW := GWt3 102 rfl rfl
set_option maxRecDepth 100000 in
theorem t_583 : Cond.methodLink RJ2 71 yJ2_getChar_3b067 ∈ GW := GWt3 103 rfl rfl
set_option maxRecDepth 100000 in
theorem t_584 : Cond.static yJ2_getChar_3b067 ∈ GW := GWt3 104 rfl rfl
set_option maxRecDepth 100000 in
theorem t_585 : Cond.code yJ2_getChar_3b067 cJ2_getChar_3b067 2 (some .char) ∈ GW := GWt3 105 rfl rfl
set_option maxRecDepth 100000 in
theorem t_586 : Cond.fieldLink RJ2 44 "java/lang/StringUTF16" "$assertionsDisabled" "Z" ∈ GW := GWt3 106 rfl rfl
set_option maxRecDepth 100000 in
theorem t_588 : Cond.fieldLink RJ2 59 "java/lang/StringUTF16" "HI_BYTE_SHIFT" "I" ∈ GW := GWt3 108 rfl rfl
set_option maxRecDepth 100000 in
theorem t_590 : Cond.fieldLink RJ2 63 "java/lang/StringUTF16" "LO_BYTE_SHIFT" "I" ∈ GW := GWt3 110 rfl rfl
set_option maxRecDepth 100000 in
theorem t_592 : Cond.methodLink RX2 94 yX2_readLeaf ∈ GW := GWt3 112 rfl rfl
set_option maxRecDepth 100000 in
theorem t_594 : Cond.instanceMethod yX2_readLeaf ∈ GW := GWt3 114 rfl rfl
set_option maxRecDepth 100000 in
theorem t_595 : Cond.code yX2_readLeaf cX2_readLeaf 2 (some .boolean) ∈ GW := GWt3 115 rfl rfl
set_option maxRecDepth 100000 in
theorem t_596 : Cond.methodLink RX2 59 yX10_refuse ∈ GW := GWt3 116 rfl rfl
set_option maxRecDepth 100000 in
theorem t_597 : Cond.instanceMethod yX10_refuse ∈ GW := GWt3 117 rfl rfl
set_option maxRecDepth 100000 in
theorem t_598 : Cond.selects RX10 yX10_refuse yX10_refuse ∈ GW := GWt3 118 rfl rfl
set_option maxRecDepth 100000 in
theorem t_599 : Cond.code yX10_refuse cX10_refuse 1 (some .boolean) ∈ GW := GWt3 119 rfl rfl
set_option maxRecDepth 100000 in
theorem t_600 : Cond.methodLink RX2 85 yX10_advance ∈ GW := GWt3 120 rfl rfl
set_option maxRecDepth 100000 in
theorem t_601 : Cond.methodLink RX2 112 yX2_readTwo ∈ GW := GWt3 121 rfl rfl
set_option maxRecDepth 100000 in
theorem t_603 : Cond.instanceMethod yX2_readTwo ∈ GW := GWt3 123 rfl rfl
set_option maxRecDepth 100000 in
theorem t_604 : Cond.code yX2_readTwo cX2_readTwo 1 (some .boolean) ∈ GW := GWt3 124 rfl rfl
set_option maxRecDepth 100000 in
theorem t_606 : Cond.methodLink RX2 137 yX10_takeOneOf ∈ GW := GWt3 126 rfl rfl
set_option maxRecDepth 100000 in
theorem t_607 : Cond.instanceMethod yX10_takeOneOf ∈ GW := GWt3 127 rfl rfl
set_option maxRecDepth 100000 in
theorem t_608 : Cond.selects RX10 yX10_takeOneOf yX10_takeOneOf ∈ GW := GWt3 128 rfl rfl
set_option maxRecDepth 100000 in
theorem t_609 : Cond.code yX10_takeOneOf cX10_takeOneOf 3 (some .int) ∈ GW := GWt3 129 rfl rfl
set_option maxRecDepth 100000 in
theorem t_610 : Cond.methodLink RX10 60 yX10_placeIn ∈ GW := GWt3 130 rfl rfl
set_option maxRecDepth 100000 in
theorem t_611 : Cond.methodLink RX10 47 yX10_refuse ∈ GW := GWt3 131 rfl rfl
set_option maxRecDepth 100000 in
theorem t_612 : Cond.methodLink RX2 115 yX2_readSo ∈ GW := GWt3 132 rfl rfl
set_option maxRecDepth 100000 in
theorem t_614 : Cond.instanceMethod yX2_readSo ∈ GW := GWt3 134 rfl rfl
set_option maxRecDepth 100000 in
theorem t_615 : Cond.code yX2_readSo cX2_readSo 1 (some .boolean) ∈ GW := GWt3 135 rfl rfl
set_option maxRecDepth 100000 in
theorem t_617 : Cond.methodLink RX2 142 yX10_takeNumber ∈ GW := GWt3 137 rfl rfl
set_option maxRecDepth 100000 in
theorem t_618 : Cond.instanceMethod yX10_takeNumber ∈ GW := GWt3 138 rfl rfl
set_option maxRecDepth 100000 in
theorem t_619 : Cond.selects RX10 yX10_takeNumber yX10_takeNumber ∈ GW := GWt3 139 rfl rfl
set_option maxRecDepth 100000 in
theorem t_620 : Cond.code yX10_takeNumber cX10_takeNumber 5 (some .int) ∈ GW := GWt3 140 rfl rfl
set_option maxRecDepth 100000 in
theorem t_621 : Cond.methodLink RX2 118 yX2_readPay ∈ GW := GWt3 141 rfl rfl
set_option maxRecDepth 100000 in
theorem t_623 : Cond.instanceMethod yX2_readPay ∈ GW := GWt3 143 rfl rfl
set_option maxRecDepth 100000 in
theorem t_624 : Cond.code yX2_readPay cX2_readPay 2 (some .boolean) ∈ GW := GWt3 144 rfl rfl
set_option maxRecDepth 100000 in
theorem t_626 : Cond.methodLink RX2 148 yX10_takeWord ∈ GW := GWt3 146 rfl rfl
set_option maxRecDepth 100000 in
theorem t_627 : Cond.instanceMethod yX10_takeWord ∈ GW := GWt3 147 rfl rfl
set_option maxRecDepth 100000 in
theorem t_628 : Cond.selects RX10 yX10_takeWord yX10_takeWord ∈ GW := GWt3 148 rfl rfl
set_option maxRecDepth 100000 in
theorem t_629 : Cond.code yX10_takeWord cX10_takeWord 2 (some .boolean) ∈ GW := GWt3 149 rfl rfl
set_option maxRecDepth 100000 in
theorem t_630 : Cond.methodLink RX10 64 yX10_isWord ∈ GW := GWt3 150 rfl rfl
set_option maxRecDepth 100000 in
theorem t_631 : Cond.instanceMethod yX10_isWord ∈ GW := GWt3 151 rfl rfl
set_option maxRecDepth 100000 in
theorem t_632 : Cond.selects RX10 yX10_isWord yX10_isWord ∈ GW := GWt3 152 rfl rfl
set_option maxRecDepth 100000 in
theorem t_633 : Cond.code yX10_isWord cX10_isWord 2 (some .boolean) ∈ GW := GWt3 153 rfl rfl
set_option maxRecDepth 100000 in
theorem t_634 : Cond.methodLink RX2 121 yX2_readDays ∈ GW := GWt3 154 rfl rfl
set_option maxRecDepth 100000 in
theorem t_636 : Cond.instanceMethod yX2_readDays ∈ GW := GWt3 156 rfl rfl
set_option maxRecDepth 100000 in
theorem t_637 : Cond.code yX2_readDays cX2_readDays 3 (some .boolean) ∈ GW := GWt3 157 rfl rfl
set_option maxRecDepth 100000 in
theorem t_640 : Cond.methodLink RX2 156 yX10_isWord ∈ GW := GWt3 160 rfl rfl
set_option maxRecDepth 100000 in
theorem t_642 : Cond.methodLink RX2 124 yX8_putLeaf ∈ GW := GWt3 162 rfl rfl
set_option maxRecDepth 100000 in
theorem t_643 : Cond.instanceMethod yX8_putLeaf ∈ GW := GWt3 163 rfl rfl
set_option maxRecDepth 100000 in
theorem t_644 : Cond.selects RX8 yX8_putLeaf yX8_putLeaf ∈ GW := GWt3 164 rfl rfl
set_option maxRecDepth 100000 in
theorem t_645 : Cond.code yX8_putLeaf cX8_putLeaf 2 (none) ∈ GW := GWt3 165 rfl rfl
set_option maxRecDepth 100000 in
theorem t_646 : Cond.methodLink RX8 22 yX8_hasRoom ∈ GW := GWt3 166 rfl rfl
set_option maxRecDepth 100000 in
theorem t_648 : Cond.instanceMethod yX8_hasRoom ∈ GW := GWt3 168 rfl rfl
set_option maxRecDepth 100000 in
theorem t_649 : Cond.code yX8_hasRoom cX8_hasRoom 2 (some .boolean) ∈ GW := GWt3 169 rfl rfl
set_option maxRecDepth 100000 in
theorem t_650 : Cond.methodLink RX8 26 arraycopyName ∈ GW := GWt3 170 rfl rfl
set_option maxRecDepth 100000 in
theorem t_651 : Cond.static arraycopyName ∈ GW := GWt3 171 rfl rfl
set_option maxRecDepth 100000 in
theorem t_652 : Cond.native arraycopyName ∈ GW := GWt3 172 rfl rfl
set_option maxRecDepth 100000 in
theorem t_653 : Cond.methodLink RX2 128 yX1_putLeaf ∈ GW := GWt3 173 rfl rfl
set_option maxRecDepth 100000 in
theorem t_654 : Cond.instanceMethod yX1_putLeaf ∈ GW := GWt3 174 rfl rfl
set_option maxRecDepth 100000 in
theorem t_655 : Cond.selects RX1 yX1_putLeaf yX1_putLeaf ∈ GW := GWt3 175 rfl rfl
set_option maxRecDepth 100000 in
theorem t_656 : Cond.code yX1_putLeaf cX1_putLeaf 4 (none) ∈ GW := GWt3 176 rfl rfl
set_option maxRecDepth 100000 in
theorem t_657 : Cond.methodLink RX1 44 arraycopyName ∈ GW := GWt3 177 rfl rfl
set_option maxRecDepth 100000 in
theorem t_658 : Cond.methodLink RX2 131 yX1_putRows ∈ GW := GWt3 178 rfl rfl
set_option maxRecDepth 100000 in
theorem t_659 : Cond.instanceMethod yX1_putRows ∈ GW := GWt3 179 rfl rfl
set_option maxRecDepth 100000 in
theorem t_660 : Cond.selects RX1 yX1_putRows yX1_putRows ∈ GW := GWt3 180 rfl rfl
set_option maxRecDepth 100000 in
theorem t_661 : Cond.code yX1_putRows cX1_putRows 9 (none) ∈ GW := GWt3 181 rfl rfl
set_option maxRecDepth 100000 in
theorem t_662 : Cond.methodLink RX1 50 yX1_putRow ∈ GW := GWt3 182 rfl rfl
set_option maxRecDepth 100000 in
theorem t_664 : Cond.instanceMethod yX1_putRow ∈ GW := GWt3 184 rfl rfl
set_option maxRecDepth 100000 in
theorem t_665 : Cond.code yX1_putRow cX1_putRow 9 (none) ∈ GW := GWt3 185 rfl rfl
set_option maxRecDepth 100000 in
theorem t_666 : Cond.methodLink RX2 97 yX2_readAfter ∈ GW := GWt3 186 rfl rfl
set_option maxRecDepth 100000 in
theorem t_668 : Cond.instanceMethod yX2_readAfter ∈ GW := GWt3 188 rfl rfl
set_option maxRecDepth 100000 in
theorem t_669 : Cond.code yX2_readAfter cX2_readAfter 5 (some .boolean) ∈ GW := GWt3 189 rfl rfl
set_option maxRecDepth 100000 in
theorem t_670 : Cond.methodLink RX2 161 yX8_begin ∈ GW := GWt3 190 rfl rfl
set_option maxRecDepth 100000 in
theorem t_671 : Cond.instanceMethod yX8_begin ∈ GW := GWt3 191 rfl rfl
set_option maxRecDepth 100000 in
theorem t_672 : Cond.selects RX8 yX8_begin yX8_begin ∈ GW := GWt3 192 rfl rfl
set_option maxRecDepth 100000 in
theorem t_673 : Cond.code yX8_begin cX8_begin 4 (some .int) ∈ GW := GWt3 193 rfl rfl
set_option maxRecDepth 100000 in
theorem t_674 : Cond.methodLink RX2 164 yX2_readBlock ∈ GW := GWt3 194 rfl rfl
set_option maxRecDepth 100000 in
theorem t_676 : Cond.instanceMethod yX2_readBlock ∈ GW := GWt3 196 rfl rfl
set_option maxRecDepth 100000 in
theorem t_677 : Cond.code yX2_readBlock cX2_readBlock 2 (some .boolean) ∈ GW := GWt3 197 rfl rfl
set_option maxRecDepth 100000 in
theorem t_678 : Cond.methodLink RX2 197 yX10_takeSign ∈ GW := GWt3 198 rfl rfl
set_option maxRecDepth 100000 in
theorem t_679 : Cond.instanceMethod yX10_takeSign ∈ GW := GWt3 199 rfl rfl
set_option maxRecDepth 100000 in
theorem t_680 : Cond.selects RX10 yX10_takeSign yX10_takeSign ∈ GW := GWt3 200 rfl rfl
set_option maxRecDepth 100000 in
theorem t_681 : Cond.code yX10_takeSign cX10_takeSign 2 (some .boolean) ∈ GW := GWt3 201 rfl rfl
set_option maxRecDepth 100000 in
theorem t_682 : Cond.methodLink RX10 43 yX10_isSign ∈ GW := GWt3 202 rfl rfl
set_option maxRecDepth 100000 in
theorem t_683 : Cond.instanceMethod yX10_isSign ∈ GW := GWt3 203 rfl rfl
set_option maxRecDepth 100000 in
theorem t_684 : Cond.selects RX10 yX10_isSign yX10_isSign ∈ GW := GWt3 204 rfl rfl
set_option maxRecDepth 100000 in
theorem t_685 : Cond.code yX10_isSign cX10_isSign 2 (some .boolean) ∈ GW := GWt3 205 rfl rfl
set_option maxRecDepth 100000 in
theorem t_686 : Cond.methodLink RX2 167 yX8_endOne ∈ GW := GWt3 206 rfl rfl
set_option maxRecDepth 100000 in
theorem t_687 : Cond.instanceMethod yX8_endOne ∈ GW := GWt3 207 rfl rfl
set_option maxRecDepth 100000 in
theorem t_688 : Cond.selects RX8 yX8_endOne yX8_endOne ∈ GW := GWt3 208 rfl rfl
set_option maxRecDepth 100000 in
theorem t_689 : Cond.code yX8_endOne cX8_endOne 6 (none) ∈ GW := GWt3 209 rfl rfl
set_option maxRecDepth 100000 in
theorem t_690 : Cond.methodLink RX8 32 yX8_isBegun ∈ GW := GWt3 210 rfl rfl
set_option maxRecDepth 100000 in
theorem t_692 : Cond.instanceMethod yX8_isBegun ∈ GW := GWt3 212 rfl rfl
set_option maxRecDepth 100000 in
theorem t_693 : Cond.code yX8_isBegun cX8_isBegun 2 (some .boolean) ∈ GW := GWt3 213 rfl rfl
set_option maxRecDepth 100000 in
theorem t_694 : Cond.methodLink RX8 35 yX8_lift ∈ GW := GWt3 214 rfl rfl
set_option maxRecDepth 100000 in
theorem t_696 : Cond.instanceMethod yX8_lift ∈ GW := GWt3 216 rfl rfl
set_option maxRecDepth 100000 in
theorem t_697 : Cond.code yX8_lift cX8_lift 4 (none) ∈ GW := GWt3 217 rfl rfl
set_option maxRecDepth 100000 in
theorem t_698 : Cond.methodLink RX8 39 yX8_isJustAfter ∈ GW := GWt3 218 rfl rfl
set_option maxRecDepth 100000 in
theorem t_700 : Cond.instanceMethod yX8_isJustAfter ∈ GW := GWt3 220 rfl rfl
set_option maxRecDepth 100000 in
theorem t_701 : Cond.code yX8_isJustAfter cX8_isJustAfter 3 (some .boolean) ∈ GW := GWt3 221 rfl rfl
set_option maxRecDepth 100000 in
theorem t_702 : Cond.methodLink RX2 100 yX2_readTimes ∈ GW := GWt3 222 rfl rfl
set_option maxRecDepth 100000 in
theorem t_704 : Cond.instanceMethod yX2_readTimes ∈ GW := GWt3 224 rfl rfl
set_option maxRecDepth 100000 in
theorem t_705 : Cond.code yX2_readTimes cX2_readTimes 6 (some .boolean) ∈ GW := GWt3 225 rfl rfl
set_option maxRecDepth 100000 in
theorem t_706 : Cond.methodLink RX2 103 yX2_readIf ∈ GW := GWt3 226 rfl rfl
set_option maxRecDepth 100000 in
theorem t_708 : Cond.instanceMethod yX2_readIf ∈ GW := GWt3 228 rfl rfl
set_option maxRecDepth 100000 in
theorem t_709 : Cond.code yX2_readIf cX2_readIf 3 (some .boolean) ∈ GW := GWt3 229 rfl rfl
set_option maxRecDepth 100000 in
theorem t_712 : Cond.methodLink RX2 178 yX2_readBranches ∈ GW := GWt3 232 rfl rfl
set_option maxRecDepth 100000 in
theorem t_714 : Cond.instanceMethod yX2_readBranches ∈ GW := GWt3 234 rfl rfl
set_option maxRecDepth 100000 in
theorem t_715 : Cond.code yX2_readBranches cX2_readBranches 7 (some .boolean) ∈ GW := GWt3 235 rfl rfl
set_option maxRecDepth 100000 in
theorem t_716 : Cond.methodLink RX2 187 yX2_readBranch ∈ GW := GWt3 236 rfl rfl
set_option maxRecDepth 100000 in
theorem t_718 : Cond.instanceMethod yX2_readBranch ∈ GW := GWt3 238 rfl rfl
set_option maxRecDepth 100000 in
theorem t_719 : Cond.code yX2_readBranch cX2_readBranch 8 (some .boolean) ∈ GW := GWt3 239 rfl rfl
set_option maxRecDepth 100000 in
theorem t_720 : Cond.methodLink RX2 191 yX8_turn ∈ GW := GWt4 0 rfl rfl
set_option maxRecDepth 100000 in
theorem t_721 : Cond.instanceMethod yX8_turn ∈ GW := GWt4 1 rfl rfl
set_option maxRecDepth 100000 in
theorem t_722 : Cond.selects RX8 yX8_turn yX8_turn ∈ GW := GWt4 2 rfl rfl
set_option maxRecDepth 100000 in
theorem t_723 : Cond.code yX8_turn cX8_turn 2 (none) ∈ GW := GWt4 3 rfl rfl
set_option maxRecDepth 100000 in
theorem t_724 : Cond.methodLink RX2 194 yX8_endTwo ∈ GW := GWt4 4 rfl rfl
set_option maxRecDepth 100000 in
theorem t_725 : Cond.instanceMethod yX8_endTwo ∈ GW := GWt4 5 rfl rfl
set_option maxRecDepth 100000 in
theorem t_726 : Cond.selects RX8 yX8_endTwo yX8_endTwo ∈ GW := GWt4 6 rfl rfl
set_option maxRecDepth 100000 in
theorem t_727 : Cond.code yX8_endTwo cX8_endTwo 6 (none) ∈ GW := GWt4 7 rfl rfl
set_option maxRecDepth 100000 in
theorem t_728 : Cond.methodLink RX8 43 yX8_isAlike ∈ GW := GWt4 8 rfl rfl
set_option maxRecDepth 100000 in
theorem t_730 : Cond.instanceMethod yX8_isAlike ∈ GW := GWt4 10 rfl rfl
set_option maxRecDepth 100000 in
theorem t_731 : Cond.code yX8_isAlike cX8_isAlike 5 (some .boolean) ∈ GW := GWt4 11 rfl rfl
set_option maxRecDepth 100000 in
theorem t_732 : Cond.methodLink RX2 106 yX2_readChoice ∈ GW := GWt4 12 rfl rfl
set_option maxRecDepth 100000 in
theorem t_734 : Cond.instanceMethod yX2_readChoice ∈ GW := GWt4 14 rfl rfl
set_option maxRecDepth 100000 in
theorem t_735 : Cond.code yX2_readChoice cX2_readChoice 4 (some .boolean) ∈ GW := GWt4 15 rfl rfl
set_option maxRecDepth 100000 in
theorem t_737 : Cond.methodLink RX2 81 yX10_isSign ∈ GW := GWt4 17 rfl rfl
set_option maxRecDepth 100000 in
theorem t_738 : Cond.methodLink RX2 53 yX10_isAtEnd ∈ GW := GWt4 18 rfl rfl
set_option maxRecDepth 100000 in
theorem t_739 : Cond.instanceMethod yX10_isAtEnd ∈ GW := GWt4 19 rfl rfl
set_option maxRecDepth 100000 in
theorem t_740 : Cond.selects RX10 yX10_isAtEnd yX10_isAtEnd ∈ GW := GWt4 20 rfl rfl
set_option maxRecDepth 100000 in
theorem t_741 : Cond.code yX10_isAtEnd cX10_isAtEnd 1 (some .boolean) ∈ GW := GWt4 21 rfl rfl
set_option maxRecDepth 100000 in
theorem t_742 : Cond.methodLink RX2 62 yX1_sortByDay ∈ GW := GWt4 22 rfl rfl
set_option maxRecDepth 100000 in
theorem t_743 : Cond.instanceMethod yX1_sortByDay ∈ GW := GWt4 23 rfl rfl
set_option maxRecDepth 100000 in
theorem t_744 : Cond.selects RX1 yX1_sortByDay yX1_sortByDay ∈ GW := GWt4 24 rfl rfl
set_option maxRecDepth 100000 in
theorem t_745 : Cond.code yX1_sortByDay cX1_sortByDay 3 (none) ∈ GW := GWt4 25 rfl rfl
set_option maxRecDepth 100000 in
theorem t_746 : Cond.methodLink RX1 54 yX1_dayOf ∈ GW := GWt4 26 rfl rfl
set_option maxRecDepth 100000 in
theorem t_747 : Cond.instanceMethod yX1_dayOf ∈ GW := GWt4 27 rfl rfl
set_option maxRecDepth 100000 in
theorem t_748 : Cond.selects RX1 yX1_dayOf yX1_dayOf ∈ GW := GWt4 28 rfl rfl
set_option maxRecDepth 100000 in
theorem t_749 : Cond.code yX1_dayOf cX1_dayOf 2 (some .int) ∈ GW := GWt4 29 rfl rfl
set_option maxRecDepth 100000 in
theorem t_750 : Cond.methodLink RX2 71 yX8_leavesLeft ∈ GW := GWt4 30 rfl rfl
set_option maxRecDepth 100000 in
theorem t_751 : Cond.instanceMethod yX8_leavesLeft ∈ GW := GWt4 31 rfl rfl
set_option maxRecDepth 100000 in
theorem t_752 : Cond.selects RX8 yX8_leavesLeft yX8_leavesLeft ∈ GW := GWt4 32 rfl rfl
set_option maxRecDepth 100000 in
theorem t_753 : Cond.code yX8_leavesLeft cX8_leavesLeft 3 (some .int) ∈ GW := GWt4 33 rfl rfl
set_option maxRecDepth 100000 in
theorem t_754 : Cond.methodLink RX11 135 yX11_closeText ∈ GW := GWt4 34 rfl rfl
set_option maxRecDepth 100000 in
theorem t_756 : Cond.instanceMethod yX11_closeText ∈ GW := GWt4 36 rfl rfl
set_option maxRecDepth 100000 in
theorem t_757 : Cond.code yX11_closeText cX11_closeText 3 (some .int) ∈ GW := GWt4 37 rfl rfl
set_option maxRecDepth 100000 in
theorem t_758 : Cond.arrayClass .byte ∈ GW := GWt4 38 rfl rfl
set_option maxRecDepth 100000 in
theorem t_759 : Cond.methodLink RL 28 yX11_law ∈ GW := GWt4 39 rfl rfl
set_option maxRecDepth 100000 in
theorem t_760 : Cond.instanceMethod yX11_law ∈ GW := GWt4 40 rfl rfl
set_option maxRecDepth 100000 in
theorem t_761 : Cond.selects RX11 yX11_law yX11_law ∈ GW := GWt4 41 rfl rfl
set_option maxRecDepth 100000 in
theorem t_762 : Cond.code yX11_law cX11_law 3 (some .int) ∈ GW := GWt4 42 rfl rfl
set_option maxRecDepth 100000 in
theorem t_763 : Cond.methodLink RX11 142 yX11_tellRules ∈ GW := GWt4 43 rfl rfl
set_option maxRecDepth 100000 in
theorem t_765 : Cond.instanceMethod yX11_tellRules ∈ GW := GWt4 45 rfl rfl
set_option maxRecDepth 100000 in
theorem t_766 : Cond.code yX11_tellRules cX11_tellRules 7 (some .int) ∈ GW := GWt4 46 rfl rfl
set_option maxRecDepth 100000 in
theorem t_767 : Cond.instantiable RX6 2 ∈ GW := GWt4 47 rfl rfl
set_option maxRecDepth 100000 in
theorem t_769 : Cond.instanceMethod yX6_init ∈ GW := GWt4 49 rfl rfl
set_option maxRecDepth 100000 in
theorem t_770 : Cond.code yX6_init cX6_init 1 (none) ∈ GW := GWt4 50 rfl rfl
set_option maxRecDepth 100000 in
theorem t_771 : Cond.methodLink RX6 3 Lib.objectInit ∈ GW := GWt4 51 rfl rfl
set_option maxRecDepth 100000 in
theorem t_772 : Cond.fieldLink RX6 11 (TX6 0).1 (TX6 0).2.1 (TX6 0).2.2.1 ∈ GW := GWt4 52 rfl rfl
set_option maxRecDepth 100000 in
theorem t_773 : Cond.fieldLink RX3 48 (TX6 0).1 (TX6 0).2.1 (TX6 0).2.2.1 ∈ GW := GWt4 53 rfl rfl
set_option maxRecDepth 100000 in
theorem t_774 : Cond.fieldLink RX6 15 (TX6 1).1 (TX6 1).2.1 (TX6 1).2.2.1 ∈ GW := GWt4 54 rfl rfl
set_option maxRecDepth 100000 in
theorem t_775 : Cond.fieldLink RX3 45 (TX6 1).1 (TX6 1).2.1 (TX6 1).2.2.1 ∈ GW := GWt4 55 rfl rfl
set_option maxRecDepth 100000 in
theorem t_776 : Cond.fieldLink RX11 320 (TX6 1).1 (TX6 1).2.1 (TX6 1).2.2.1 ∈ GW := GWt4 56 rfl rfl
set_option maxRecDepth 100000 in
theorem t_782 : Cond.methodLink RX11 328 yX6_readRules ∈ GW := GWt4 62 rfl rfl
set_option maxRecDepth 100000 in
theorem t_783 : Cond.instanceMethod yX6_readRules ∈ GW := GWt4 63 rfl rfl
set_option maxRecDepth 100000 in
theorem t_784 : Cond.selects RX6 yX6_readRules yX6_readRules ∈ GW := GWt4 64 rfl rfl
set_option maxRecDepth 100000 in
theorem t_785 : Cond.code yX6_readRules cX6_readRules 5 (some .boolean) ∈ GW := GWt4 65 rfl rfl
set_option maxRecDepth 100000 in
theorem t_786 : Cond.methodLink RX6 19 yX10_isAtEnd ∈ GW := GWt4 66 rfl rfl
set_option maxRecDepth 100000 in
theorem t_787 : Cond.methodLink RX6 25 yX6_readStatement ∈ GW := GWt4 67 rfl rfl
set_option maxRecDepth 100000 in
theorem t_789 : Cond.instanceMethod yX6_readStatement ∈ GW := GWt4 69 rfl rfl
set_option maxRecDepth 100000 in
theorem t_790 : Cond.code yX6_readStatement cX6_readStatement 3 (some .boolean) ∈ GW := GWt4 70 rfl rfl
set_option maxRecDepth 100000 in
theorem t_792 : Cond.methodLink RX6 34 yX10_takeWord ∈ GW := GWt4 72 rfl rfl
set_option maxRecDepth 100000 in
theorem t_793 : Cond.methodLink RX6 38 yX6_readForm ∈ GW := GWt4 73 rfl rfl
set_option maxRecDepth 100000 in
theorem t_795 : Cond.instanceMethod yX6_readForm ∈ GW := GWt4 75 rfl rfl
set_option maxRecDepth 100000 in
theorem t_796 : Cond.code yX6_readForm cX6_readForm 3 (some .boolean) ∈ GW := GWt4 76 rfl rfl
set_option maxRecDepth 100000 in
theorem t_798 : Cond.methodLink RX6 62 yX10_takeOneOf ∈ GW := GWt4 78 rfl rfl
set_option maxRecDepth 100000 in
theorem t_800 : Cond.methodLink RX6 43 yX10_isWord ∈ GW := GWt4 80 rfl rfl
set_option maxRecDepth 100000 in
theorem t_801 : Cond.methodLink RX6 46 yX10_advance ∈ GW := GWt4 81 rfl rfl
set_option maxRecDepth 100000 in
theorem t_804 : Cond.methodLink RX6 49 yX6_readTies ∈ GW := GWt4 84 rfl rfl
set_option maxRecDepth 100000 in
theorem t_806 : Cond.instanceMethod yX6_readTies ∈ GW := GWt4 86 rfl rfl
set_option maxRecDepth 100000 in
theorem t_807 : Cond.code yX6_readTies cX6_readTies 5 (none) ∈ GW := GWt4 87 rfl rfl
set_option maxRecDepth 100000 in
theorem t_809 : Cond.methodLink RX6 72 yX10_placeIn ∈ GW := GWt4 89 rfl rfl
set_option maxRecDepth 100000 in
theorem t_810 : Cond.methodLink RX6 53 yX6_readWithin ∈ GW := GWt4 90 rfl rfl
set_option maxRecDepth 100000 in
theorem t_812 : Cond.instanceMethod yX6_readWithin ∈ GW := GWt4 92 rfl rfl
set_option maxRecDepth 100000 in
theorem t_813 : Cond.code yX6_readWithin cX6_readWithin 3 (some .boolean) ∈ GW := GWt4 93 rfl rfl
set_option maxRecDepth 100000 in
theorem t_815 : Cond.methodLink RX6 77 yX10_takeNumber ∈ GW := GWt4 95 rfl rfl
set_option maxRecDepth 100000 in
theorem t_816 : Cond.methodLink RX6 56 yX10_takeSign ∈ GW := GWt4 96 rfl rfl
set_option maxRecDepth 100000 in
theorem t_817 : Cond.methodLink RX6 29 yX10_refuse ∈ GW := GWt4 97 rfl rfl
set_option maxRecDepth 100000 in
theorem t_818 : Cond.methodLink RX11 146 yX7_forget ∈ GW := GWt4 98 rfl rfl
set_option maxRecDepth 100000 in
theorem t_819 : Cond.instanceMethod yX7_forget ∈ GW := GWt4 99 rfl rfl
set_option maxRecDepth 100000 in
theorem t_820 : Cond.selects RX7 yX7_forget yX7_forget ∈ GW := GWt4 100 rfl rfl
set_option maxRecDepth 100000 in
theorem t_821 : Cond.code yX7_forget cX7_forget 1 (none) ∈ GW := GWt4 101 rfl rfl
set_option maxRecDepth 100000 in
theorem t_822 : Cond.methodLink RL 33 yX11_word ∈ GW := GWt4 102 rfl rfl
set_option maxRecDepth 100000 in
theorem t_823 : Cond.instanceMethod yX11_word ∈ GW := GWt4 103 rfl rfl
set_option maxRecDepth 100000 in
theorem t_824 : Cond.selects RX11 yX11_word yX11_word ∈ GW := GWt4 104 rfl rfl
set_option maxRecDepth 100000 in
theorem t_825 : Cond.code yX11_word cX11_word 3 (some .int) ∈ GW := GWt4 105 rfl rfl
set_option maxRecDepth 100000 in
theorem t_826 : Cond.methodLink RL 37 yX11_fault ∈ GW := GWt4 106 rfl rfl
set_option maxRecDepth 100000 in
theorem t_827 : Cond.instanceMethod yX11_fault ∈ GW := GWt4 107 rfl rfl
set_option maxRecDepth 100000 in
theorem t_828 : Cond.selects RX11 yX11_fault yX11_fault ∈ GW := GWt4 108 rfl rfl
set_option maxRecDepth 100000 in
theorem t_829 : Cond.code yX11_fault cX11_fault 1 (some .int) ∈ GW := GWt4 109 rfl rfl
set_option maxRecDepth 100000 in
theorem t_830 : Cond.methodLink RL 42 yX11_size ∈ GW := GWt4 110 rfl rfl
set_option maxRecDepth 100000 in
theorem t_831 : Cond.instanceMethod yX11_size ∈ GW := GWt4 111 rfl rfl
set_option maxRecDepth 100000 in
theorem t_832 : Cond.selects RX11 yX11_size yX11_size ∈ GW := GWt4 112 rfl rfl
set_option maxRecDepth 100000 in
theorem t_833 : Cond.code yX11_size cX11_size 4 (some .int) ∈ GW := GWt4 113 rfl rfl
set_option maxRecDepth 100000 in
theorem t_834 : Cond.methodLink RX11 161 yX1_familiesIn ∈ GW := GWt4 114 rfl rfl
set_option maxRecDepth 100000 in
theorem t_835 : Cond.instanceMethod yX1_familiesIn ∈ GW := GWt4 115 rfl rfl
set_option maxRecDepth 100000 in
theorem t_836 : Cond.selects RX1 yX1_familiesIn yX1_familiesIn ∈ GW := GWt4 116 rfl rfl
set_option maxRecDepth 100000 in
theorem t_837 : Cond.code yX1_familiesIn cX1_familiesIn 4 (some .int) ∈ GW := GWt4 117 rfl rfl
set_option maxRecDepth 100000 in
theorem t_838 : Cond.methodLink RL 46 yX11_leaf ∈ GW := GWt4 118 rfl rfl
set_option maxRecDepth 100000 in
theorem t_839 : Cond.instanceMethod yX11_leaf ∈ GW := GWt4 119 rfl rfl
set_option maxRecDepth 100000 in
theorem t_840 : Cond.selects RX11 yX11_leaf yX11_leaf ∈ GW := GWt4 120 rfl rfl
set_option maxRecDepth 100000 in
theorem t_841 : Cond.code yX11_leaf cX11_leaf 5 (some .int) ∈ GW := GWt4 121 rfl rfl
set_option maxRecDepth 100000 in
theorem t_842 : Cond.methodLink RL 51 yX11_plain ∈ GW := GWt4 122 rfl rfl
set_option maxRecDepth 100000 in
theorem t_843 : Cond.instanceMethod yX11_plain ∈ GW := GWt4 123 rfl rfl
set_option maxRecDepth 100000 in
theorem t_844 : Cond.selects RX11 yX11_plain yX11_plain ∈ GW := GWt4 124 rfl rfl
set_option maxRecDepth 100000 in
theorem t_845 : Cond.code yX11_plain cX11_plain 3 (some .int) ∈ GW := GWt4 125 rfl rfl
set_option maxRecDepth 100000 in
theorem t_846 : Cond.methodLink RL 55 yX11_same ∈ GW := GWt4 126 rfl rfl
set_option maxRecDepth 100000 in
theorem t_847 : Cond.instanceMethod yX11_same ∈ GW := GWt4 127 rfl rfl
set_option maxRecDepth 100000 in
theorem t_848 : Cond.selects RX11 yX11_same yX11_same ∈ GW := GWt4 128 rfl rfl
set_option maxRecDepth 100000 in
theorem t_849 : Cond.code yX11_same cX11_same 3 (some .int) ∈ GW := GWt4 129 rfl rfl
set_option maxRecDepth 100000 in
theorem t_850 : Cond.methodLink RX11 177 yX4_firstApart ∈ GW := GWt4 130 rfl rfl
set_option maxRecDepth 100000 in
theorem t_851 : Cond.instanceMethod yX4_firstApart ∈ GW := GWt4 131 rfl rfl
set_option maxRecDepth 100000 in
theorem t_852 : Cond.selects RX4 yX4_firstApart yX4_firstApart ∈ GW := GWt4 132 rfl rfl
set_option maxRecDepth 100000 in
theorem t_853 : Cond.code yX4_firstApart cX4_firstApart 8 (some .int) ∈ GW := GWt4 133 rfl rfl
set_option maxRecDepth 100000 in
theorem t_854 : Cond.methodLink RX4 39 yX4_giveSlots ∈ GW := GWt4 134 rfl rfl
set_option maxRecDepth 100000 in
theorem t_856 : Cond.instanceMethod yX4_giveSlots ∈ GW := GWt4 136 rfl rfl
set_option maxRecDepth 100000 in
theorem t_857 : Cond.code yX4_giveSlots cX4_giveSlots 7 (none) ∈ GW := GWt4 137 rfl rfl
set_option maxRecDepth 100000 in
theorem t_858 : Cond.methodLink RX4 48 yJ9_max_7cf53 ∈ GW := GWt4 138 rfl rfl
set_option maxRecDepth 100000 in
theorem t_859 : Cond.static yJ9_max_7cf53 ∈ GW := GWt4 139 rfl rfl
set_option maxRecDepth 100000 in
theorem t_860 : Cond.code yJ9_max_7cf53 cJ9_max_7cf53 2 (some .int) ∈ GW := GWt4 140 rfl rfl
set_option maxRecDepth 100000 in
theorem t_861 : Cond.methodLink RX4 57 yJ6_bitCount_0f7a4 ∈ GW := GWt4 141 rfl rfl
set_option maxRecDepth 100000 in
theorem t_862 : Cond.static yJ6_bitCount_0f7a4 ∈ GW := GWt4 142 rfl rfl
set_option maxRecDepth 100000 in
theorem t_863 : Cond.code yJ6_bitCount_0f7a4 cJ6_bitCount_0f7a4 1 (some .int) ∈ GW := GWt4 143 rfl rfl
set_option maxRecDepth 100000 in
theorem t_864 : Cond.constant RJ6 265 (1431655765) ∈ GW := GWt4 144 rfl rfl
set_option maxRecDepth 100000 in
theorem t_865 : Cond.constant RJ6 266 (858993459) ∈ GW := GWt4 145 rfl rfl
set_option maxRecDepth 100000 in
theorem t_866 : Cond.constant RJ6 267 (252645135) ∈ GW := GWt4 146 rfl rfl
set_option maxRecDepth 100000 in
theorem t_867 : Cond.methodLink RX4 63 yJ7_fill_d0a16 ∈ GW := GWt4 147 rfl rfl
set_option maxRecDepth 100000 in
theorem t_868 : Cond.static yJ7_fill_d0a16 ∈ GW := GWt4 148 rfl rfl
set_option maxRecDepth 100000 in
theorem t_869 : Cond.code yJ7_fill_d0a16 cJ7_fill_d0a16 5 (none) ∈ GW := GWt4 149 rfl rfl
set_option maxRecDepth 100000 in
theorem t_870 : Cond.methodLink RX4 69 yX4_pour ∈ GW := GWt4 150 rfl rfl
set_option maxRecDepth 100000 in
theorem t_872 : Cond.instanceMethod yX4_pour ∈ GW := GWt4 152 rfl rfl
set_option maxRecDepth 100000 in
theorem t_873 : Cond.code yX4_pour cX4_pour 6 (none) ∈ GW := GWt4 153 rfl rfl
set_option maxRecDepth 100000 in
theorem t_874 : Cond.methodLink RX4 83 yX1_isPassing ∈ GW := GWt4 154 rfl rfl
set_option maxRecDepth 100000 in
theorem t_875 : Cond.instanceMethod yX1_isPassing ∈ GW := GWt4 155 rfl rfl
set_option maxRecDepth 100000 in
theorem t_876 : Cond.selects RX1 yX1_isPassing yX1_isPassing ∈ GW := GWt4 156 rfl rfl
set_option maxRecDepth 100000 in
theorem t_877 : Cond.code yX1_isPassing cX1_isPassing 3 (some .boolean) ∈ GW := GWt4 157 rfl rfl
set_option maxRecDepth 100000 in
theorem t_878 : Cond.methodLink RX4 73 yX4_isLevel ∈ GW := GWt4 158 rfl rfl
set_option maxRecDepth 100000 in
theorem t_880 : Cond.instanceMethod yX4_isLevel ∈ GW := GWt4 160 rfl rfl
set_option maxRecDepth 100000 in
theorem t_881 : Cond.code yX4_isLevel cX4_isLevel 2 (some .boolean) ∈ GW := GWt4 161 rfl rfl
set_option maxRecDepth 100000 in
theorem t_882 : Cond.methodLink RL 59 yX11_add ∈ GW := GWt4 162 rfl rfl
set_option maxRecDepth 100000 in
theorem t_883 : Cond.instanceMethod yX11_add ∈ GW := GWt4 163 rfl rfl
set_option maxRecDepth 100000 in
theorem t_884 : Cond.selects RX11 yX11_add yX11_add ∈ GW := GWt4 164 rfl rfl
set_option maxRecDepth 100000 in
theorem t_885 : Cond.code yX11_add cX11_add 2 (some .int) ∈ GW := GWt4 165 rfl rfl
set_option maxRecDepth 100000 in
theorem t_886 : Cond.methodLink RX11 184 yX0_holds ∈ GW := GWt4 166 rfl rfl
set_option maxRecDepth 100000 in
theorem t_887 : Cond.instanceMethod yX0_holds ∈ GW := GWt4 167 rfl rfl
set_option maxRecDepth 100000 in
theorem t_888 : Cond.selects RX0 yX0_holds yX0_holds ∈ GW := GWt4 168 rfl rfl
set_option maxRecDepth 100000 in
theorem t_889 : Cond.code yX0_holds cX0_holds 3 (some .boolean) ∈ GW := GWt4 169 rfl rfl
set_option maxRecDepth 100000 in
theorem t_890 : Cond.methodLink RX11 187 yX0_push ∈ GW := GWt4 170 rfl rfl
set_option maxRecDepth 100000 in
theorem t_891 : Cond.instanceMethod yX0_push ∈ GW := GWt4 171 rfl rfl
set_option maxRecDepth 100000 in
theorem t_892 : Cond.selects RX0 yX0_push yX0_push ∈ GW := GWt4 172 rfl rfl
set_option maxRecDepth 100000 in
theorem t_893 : Cond.code yX0_push cX0_push 2 (none) ∈ GW := GWt4 173 rfl rfl
set_option maxRecDepth 100000 in
theorem t_894 : Cond.methodLink RL 63 yX11_clear ∈ GW := GWt4 174 rfl rfl
set_option maxRecDepth 100000 in
theorem t_895 : Cond.instanceMethod yX11_clear ∈ GW := GWt4 175 rfl rfl
set_option maxRecDepth 100000 in
theorem t_896 : Cond.selects RX11 yX11_clear yX11_clear ∈ GW := GWt4 176 rfl rfl
set_option maxRecDepth 100000 in
theorem t_897 : Cond.code yX11_clear cX11_clear 2 (some .int) ∈ GW := GWt4 177 rfl rfl
set_option maxRecDepth 100000 in
theorem t_898 : Cond.methodLink RL 67 yX11_passed ∈ GW := GWt4 178 rfl rfl
set_option maxRecDepth 100000 in
theorem t_899 : Cond.instanceMethod yX11_passed ∈ GW := GWt4 179 rfl rfl
set_option maxRecDepth 100000 in
theorem t_900 : Cond.selects RX11 yX11_passed yX11_passed ∈ GW := GWt4 180 rfl rfl
set_option maxRecDepth 100000 in
theorem t_901 : Cond.code yX11_passed cX11_passed 4 (some .long) ∈ GW := GWt4 181 rfl rfl
set_option maxRecDepth 100000 in
theorem t_902 : Cond.methodLink RX11 191 yX0_hasCode ∈ GW := GWt4 182 rfl rfl
set_option maxRecDepth 100000 in
theorem t_903 : Cond.instanceMethod yX0_hasCode ∈ GW := GWt4 183 rfl rfl
set_option maxRecDepth 100000 in
theorem t_904 : Cond.selects RX0 yX0_hasCode yX0_hasCode ∈ GW := GWt4 184 rfl rfl
set_option maxRecDepth 100000 in
theorem t_905 : Cond.code yX0_hasCode cX0_hasCode 2 (some .boolean) ∈ GW := GWt4 185 rfl rfl
set_option maxRecDepth 100000 in
theorem t_906 : Cond.methodLink RX0 38 yX0_allChoices ∈ GW := GWt4 186 rfl rfl
set_option maxRecDepth 100000 in
theorem t_907 : Cond.instanceMethod yX0_allChoices ∈ GW := GWt4 187 rfl rfl
set_option maxRecDepth 100000 in
theorem t_908 : Cond.selects RX0 yX0_allChoices yX0_allChoices ∈ GW := GWt4 188 rfl rfl
set_option maxRecDepth 100000 in
theorem t_909 : Cond.code yX0_allChoices cX0_allChoices 1 (some .int) ∈ GW := GWt4 189 rfl rfl
set_option maxRecDepth 100000 in
theorem t_910 : Cond.methodLink RX0 31 yX0_choicesBefore ∈ GW := GWt4 190 rfl rfl
set_option maxRecDepth 100000 in
theorem t_911 : Cond.instanceMethod yX0_choicesBefore ∈ GW := GWt4 191 rfl rfl
set_option maxRecDepth 100000 in
theorem t_912 : Cond.selects RX0 yX0_choicesBefore yX0_choicesBefore ∈ GW := GWt4 192 rfl rfl
set_option maxRecDepth 100000 in
theorem t_913 : Cond.code yX0_choicesBefore cX0_choicesBefore 4 (some .int) ∈ GW := GWt4 193 rfl rfl
set_option maxRecDepth 100000 in
theorem t_914 : Cond.constantLong RX11 195 (-1) ∈ GW := GWt4 194 rfl rfl
set_option maxRecDepth 100000 in
theorem t_915 : Cond.methodLink RX11 197 yX0_rowsBy ∈ GW := GWt4 195 rfl rfl
set_option maxRecDepth 100000 in
theorem t_916 : Cond.instanceMethod yX0_rowsBy ∈ GW := GWt4 196 rfl rfl
set_option maxRecDepth 100000 in
theorem t_917 : Cond.selects RX0 yX0_rowsBy yX0_rowsBy ∈ GW := GWt4 197 rfl rfl
set_option maxRecDepth 100000 in
theorem t_918 : Cond.code yX0_rowsBy cX0_rowsBy 7 (some .int) ∈ GW := GWt4 198 rfl rfl
set_option maxRecDepth 100000 in
theorem t_919 : Cond.methodLink RX0 50 yX0_codeFor ∈ GW := GWt4 199 rfl rfl
set_option maxRecDepth 100000 in
theorem t_920 : Cond.static yX0_codeFor ∈ GW := GWt4 200 rfl rfl
set_option maxRecDepth 100000 in
theorem t_921 : Cond.code yX0_codeFor cX0_codeFor 2 (some .int) ∈ GW := GWt4 201 rfl rfl
set_option maxRecDepth 100000 in
theorem t_922 : Cond.methodLink RX0 57 yX1_isPassing ∈ GW := GWt4 202 rfl rfl
set_option maxRecDepth 100000 in
theorem t_923 : Cond.methodLink RX11 201 yX0_toldOfRow ∈ GW := GWt4 203 rfl rfl
set_option maxRecDepth 100000 in
theorem t_924 : Cond.instanceMethod yX0_toldOfRow ∈ GW := GWt4 204 rfl rfl
set_option maxRecDepth 100000 in
theorem t_925 : Cond.selects RX0 yX0_toldOfRow yX0_toldOfRow ∈ GW := GWt4 205 rfl rfl
set_option maxRecDepth 100000 in
theorem t_926 : Cond.code yX0_toldOfRow cX0_toldOfRow 9 (some .long) ∈ GW := GWt4 206 rfl rfl
set_option maxRecDepth 100000 in
theorem t_927 : Cond.constantLong RX0 69 (-1) ∈ GW := GWt4 207 rfl rfl
set_option maxRecDepth 100000 in
theorem t_928 : Cond.methodLink RL 72 yX11_net ∈ GW := GWt4 208 rfl rfl
set_option maxRecDepth 100000 in
theorem t_929 : Cond.instanceMethod yX11_net ∈ GW := GWt4 209 rfl rfl
set_option maxRecDepth 100000 in
theorem t_930 : Cond.selects RX11 yX11_net yX11_net ∈ GW := GWt4 210 rfl rfl
set_option maxRecDepth 100000 in
theorem t_931 : Cond.code yX11_net cX11_net 5 (some .long) ∈ GW := GWt4 211 rfl rfl
set_option maxRecDepth 100000 in
theorem t_932 : Cond.constantLong RX11 205 (-1000000000000) ∈ GW := GWt4 212 rfl rfl
set_option maxRecDepth 100000 in
theorem t_933 : Cond.methodLink RX11 207 yX5_sumOf ∈ GW := GWt4 213 rfl rfl
set_option maxRecDepth 100000 in
theorem t_934 : Cond.instanceMethod yX5_sumOf ∈ GW := GWt4 214 rfl rfl
set_option maxRecDepth 100000 in
theorem t_935 : Cond.selects RX5 yX5_sumOf yX5_sumOf ∈ GW := GWt4 215 rfl rfl
set_option maxRecDepth 100000 in
theorem t_936 : Cond.code yX5_sumOf cX5_sumOf 14 (some .long) ∈ GW := GWt4 216 rfl rfl
set_option maxRecDepth 100000 in
theorem t_937 : Cond.methodLink RX5 59 yX0_codeFor ∈ GW := GWt4 217 rfl rfl
set_option maxRecDepth 100000 in
theorem t_938 : Cond.methodLink RX5 71 yX1_isPassing ∈ GW := GWt4 218 rfl rfl
set_option maxRecDepth 100000 in
theorem t_939 : Cond.methodLink RX5 75 yX1_dayOf ∈ GW := GWt4 219 rfl rfl
set_option maxRecDepth 100000 in
theorem t_940 : Cond.methodLink RX5 79 yX5_shareOf ∈ GW := GWt4 220 rfl rfl
set_option maxRecDepth 100000 in
theorem t_942 : Cond.instanceMethod yX5_shareOf ∈ GW := GWt4 222 rfl rfl
set_option maxRecDepth 100000 in
theorem t_943 : Cond.code yX5_shareOf cX5_shareOf 6 (some .long) ∈ GW := GWt4 223 rfl rfl
set_option maxRecDepth 100000 in
theorem t_944 : Cond.methodLink RL 77 yX11_codes ∈ GW := GWt4 224 rfl rfl
set_option maxRecDepth 100000 in
theorem t_945 : Cond.instanceMethod yX11_codes ∈ GW := GWt4 225 rfl rfl
set_option maxRecDepth 100000 in
theorem t_946 : Cond.selects RX11 yX11_codes yX11_codes ∈ GW := GWt4 226 rfl rfl
set_option maxRecDepth 100000 in
theorem t_947 : Cond.code yX11_codes cX11_codes 1 (some .int) ∈ GW := GWt4 227 rfl rfl
set_option maxRecDepth 100000 in
theorem t_948 : Cond.methodLink RX11 211 yX0_isLooked ∈ GW := GWt4 228 rfl rfl
set_option maxRecDepth 100000 in
theorem t_949 : Cond.instanceMethod yX0_isLooked ∈ GW := GWt4 229 rfl rfl
set_option maxRecDepth 100000 in
theorem t_950 : Cond.selects RX0 yX0_isLooked yX0_isLooked ∈ GW := GWt4 230 rfl rfl
set_option maxRecDepth 100000 in
theorem t_951 : Cond.code yX0_isLooked cX0_isLooked 1 (some .boolean) ∈ GW := GWt4 231 rfl rfl
set_option maxRecDepth 100000 in
theorem t_952 : Cond.methodLink RX0 42 yX0_namedBits ∈ GW := GWt4 232 rfl rfl
set_option maxRecDepth 100000 in
theorem t_953 : Cond.instanceMethod yX0_namedBits ∈ GW := GWt4 233 rfl rfl
set_option maxRecDepth 100000 in
theorem t_954 : Cond.selects RX0 yX0_namedBits yX0_namedBits ∈ GW := GWt4 234 rfl rfl
set_option maxRecDepth 100000 in
theorem t_955 : Cond.code yX0_namedBits cX0_namedBits 3 (some .int) ∈ GW := GWt4 235 rfl rfl
set_option maxRecDepth 100000 in
theorem t_956 : Cond.methodLink RX0 45 yJ6_bitCount_0f7a4 ∈ GW := GWt4 236 rfl rfl
set_option maxRecDepth 100000 in
theorem t_957 : Cond.methodLink RX11 215 yX0_codesLooked ∈ GW := GWt4 237 rfl rfl
set_option maxRecDepth 100000 in
theorem t_958 : Cond.instanceMethod yX0_codesLooked ∈ GW := GWt4 238 rfl rfl
set_option maxRecDepth 100000 in
theorem t_959 : Cond.selects RX0 yX0_codesLooked yX0_codesLooked ∈ GW := GWt4 239 rfl rfl
set_option maxRecDepth 100000 in
theorem t_960 : Cond.code yX0_codesLooked cX0_codesLooked 1 (some .int) ∈ GW := GWt5 0 rfl rfl
set_option maxRecDepth 100000 in
theorem t_961 : Cond.methodLink RL 81 yX11_lends ∈ GW := GWt5 1 rfl rfl
set_option maxRecDepth 100000 in
theorem t_962 : Cond.instanceMethod yX11_lends ∈ GW := GWt5 2 rfl rfl
set_option maxRecDepth 100000 in
theorem t_963 : Cond.selects RX11 yX11_lends yX11_lends ∈ GW := GWt5 3 rfl rfl
set_option maxRecDepth 100000 in
theorem t_964 : Cond.code yX11_lends cX11_lends 3 (some .int) ∈ GW := GWt5 4 rfl rfl
set_option maxRecDepth 100000 in
theorem t_965 : Cond.methodLink RX11 219 yX11_isPair ∈ GW := GWt5 5 rfl rfl
set_option maxRecDepth 100000 in
theorem t_966 : Cond.static yX11_isPair ∈ GW := GWt5 6 rfl rfl
set_option maxRecDepth 100000 in
theorem t_967 : Cond.code yX11_isPair cX11_isPair 2 (some .boolean) ∈ GW := GWt5 7 rfl rfl
set_option maxRecDepth 100000 in
theorem t_968 : Cond.methodLink RX11 222 yX9_learn ∈ GW := GWt5 8 rfl rfl
set_option maxRecDepth 100000 in
theorem t_969 : Cond.instanceMethod yX9_learn ∈ GW := GWt5 9 rfl rfl
set_option maxRecDepth 100000 in
theorem t_970 : Cond.selects RX9 yX9_learn yX9_learn ∈ GW := GWt5 10 rfl rfl
set_option maxRecDepth 100000 in
theorem t_971 : Cond.code yX9_learn cX9_learn 8 (none) ∈ GW := GWt5 11 rfl rfl
set_option maxRecDepth 100000 in
theorem t_972 : Cond.methodLink RX9 30 yJ7_fill_53178 ∈ GW := GWt5 12 rfl rfl
set_option maxRecDepth 100000 in
theorem t_973 : Cond.methodLink RX9 36 yX0_namedBits ∈ GW := GWt5 13 rfl rfl
set_option maxRecDepth 100000 in
theorem t_974 : Cond.methodLink RX9 42 yX0_codesLooked ∈ GW := GWt5 14 rfl rfl
set_option maxRecDepth 100000 in
theorem t_975 : Cond.methodLink RX9 45 yX5_take ∈ GW := GWt5 15 rfl rfl
set_option maxRecDepth 100000 in
theorem t_976 : Cond.instanceMethod yX5_take ∈ GW := GWt5 16 rfl rfl
set_option maxRecDepth 100000 in
theorem t_977 : Cond.selects RX5 yX5_take yX5_take ∈ GW := GWt5 17 rfl rfl
set_option maxRecDepth 100000 in
theorem t_978 : Cond.code yX5_take cX5_take 6 (none) ∈ GW := GWt5 18 rfl rfl
set_option maxRecDepth 100000 in
theorem t_979 : Cond.methodLink RX5 105 yJ7_fill_53178 ∈ GW := GWt5 19 rfl rfl
set_option maxRecDepth 100000 in
theorem t_980 : Cond.methodLink RX5 132 yX5_earliestHead ∈ GW := GWt5 20 rfl rfl
set_option maxRecDepth 100000 in
theorem t_982 : Cond.instanceMethod yX5_earliestHead ∈ GW := GWt5 22 rfl rfl
set_option maxRecDepth 100000 in
theorem t_983 : Cond.code yX5_earliestHead cX5_earliestHead 7 (some .int) ∈ GW := GWt5 23 rfl rfl
set_option maxRecDepth 100000 in
theorem t_984 : Cond.methodLink RX5 139 yX0_choicesBefore ∈ GW := GWt5 24 rfl rfl
set_option maxRecDepth 100000 in
theorem t_985 : Cond.methodLink RX5 142 yX5_putEntry ∈ GW := GWt5 25 rfl rfl
set_option maxRecDepth 100000 in
theorem t_987 : Cond.instanceMethod yX5_putEntry ∈ GW := GWt5 27 rfl rfl
set_option maxRecDepth 100000 in
theorem t_988 : Cond.code yX5_putEntry cX5_putEntry 8 (some .int) ∈ GW := GWt5 28 rfl rfl
set_option maxRecDepth 100000 in
theorem t_989 : Cond.methodLink RX5 146 yX5_bitsBehind ∈ GW := GWt5 29 rfl rfl
set_option maxRecDepth 100000 in
theorem t_990 : Cond.static yX5_bitsBehind ∈ GW := GWt5 30 rfl rfl
set_option maxRecDepth 100000 in
theorem t_991 : Cond.code yX5_bitsBehind cX5_bitsBehind 3 (some .int) ∈ GW := GWt5 31 rfl rfl
set_option maxRecDepth 100000 in
theorem t_992 : Cond.methodLink RX9 51 yX5_weigh ∈ GW := GWt5 32 rfl rfl
set_option maxRecDepth 100000 in
theorem t_993 : Cond.instanceMethod yX5_weigh ∈ GW := GWt5 33 rfl rfl
set_option maxRecDepth 100000 in
theorem t_994 : Cond.selects RX5 yX5_weigh yX5_weigh ∈ GW := GWt5 34 rfl rfl
set_option maxRecDepth 100000 in
theorem t_995 : Cond.code yX5_weigh cX5_weigh 6 (none) ∈ GW := GWt5 35 rfl rfl
set_option maxRecDepth 100000 in
theorem t_996 : Cond.methodLink RX5 87 yJ7_fill_d0a16 ∈ GW := GWt5 36 rfl rfl
set_option maxRecDepth 100000 in
theorem t_997 : Cond.methodLink RX5 158 yX5_endDay ∈ GW := GWt5 37 rfl rfl
set_option maxRecDepth 100000 in
theorem t_999 : Cond.instanceMethod yX5_endDay ∈ GW := GWt5 39 rfl rfl
set_option maxRecDepth 100000 in
theorem t_1000 : Cond.code yX5_endDay cX5_endDay 4 (none) ∈ GW := GWt5 40 rfl rfl
set_option maxRecDepth 100000 in
theorem t_1001 : Cond.methodLink RX5 164 yX5_book ∈ GW := GWt5 41 rfl rfl
set_option maxRecDepth 100000 in
theorem t_1003 : Cond.instanceMethod yX5_book ∈ GW := GWt5 43 rfl rfl
set_option maxRecDepth 100000 in
theorem t_1004 : Cond.code yX5_book cX5_book 7 (none) ∈ GW := GWt5 44 rfl rfl
set_option maxRecDepth 100000 in
theorem t_1005 : Cond.methodLink RX5 161 yX5_findUneven ∈ GW := GWt5 45 rfl rfl
set_option maxRecDepth 100000 in
theorem t_1007 : Cond.instanceMethod yX5_findUneven ∈ GW := GWt5 47 rfl rfl
set_option maxRecDepth 100000 in
theorem t_1008 : Cond.code yX5_findUneven cX5_findUneven 4 (none) ∈ GW := GWt5 48 rfl rfl
set_option maxRecDepth 100000 in
theorem t_1009 : Cond.methodLink RX9 58 yJ9_min_f86c9 ∈ GW := GWt5 49 rfl rfl
set_option maxRecDepth 100000 in
theorem t_1010 : Cond.static yJ9_min_f86c9 ∈ GW := GWt5 50 rfl rfl
set_option maxRecDepth 100000 in
theorem t_1011 : Cond.code yJ9_min_f86c9 cJ9_min_f86c9 4 (some .long) ∈ GW := GWt5 51 rfl rfl
set_option maxRecDepth 100000 in
theorem t_1012 : Cond.methodLink RX9 64 yX9_noteLender ∈ GW := GWt5 52 rfl rfl
set_option maxRecDepth 100000 in
theorem t_1014 : Cond.instanceMethod yX9_noteLender ∈ GW := GWt5 54 rfl rfl
set_option maxRecDepth 100000 in
theorem t_1015 : Cond.code yX9_noteLender cX9_noteLender 11 (none) ∈ GW := GWt5 55 rfl rfl
set_option maxRecDepth 100000 in
theorem t_1016 : Cond.methodLink RX9 72 yX5_borrowersOf ∈ GW := GWt5 56 rfl rfl
set_option maxRecDepth 100000 in
theorem t_1017 : Cond.instanceMethod yX5_borrowersOf ∈ GW := GWt5 57 rfl rfl
set_option maxRecDepth 100000 in
theorem t_1018 : Cond.selects RX5 yX5_borrowersOf yX5_borrowersOf ∈ GW := GWt5 58 rfl rfl
set_option maxRecDepth 100000 in
theorem t_1019 : Cond.code yX5_borrowersOf cX5_borrowersOf 2 (some .int) ∈ GW := GWt5 59 rfl rfl
set_option maxRecDepth 100000 in
theorem t_1020 : Cond.methodLink RX9 78 yX9_commonDivisor ∈ GW := GWt5 60 rfl rfl
set_option maxRecDepth 100000 in
theorem t_1021 : Cond.static yX9_commonDivisor ∈ GW := GWt5 61 rfl rfl
set_option maxRecDepth 100000 in
theorem t_1022 : Cond.code yX9_commonDivisor cX9_commonDivisor 11 (some .long) ∈ GW := GWt5 62 rfl rfl
set_option maxRecDepth 100000 in
theorem t_1023 : Cond.methodLink RX9 81 yX9_notePrice ∈ GW := GWt5 63 rfl rfl
set_option maxRecDepth 100000 in
theorem t_1025 : Cond.instanceMethod yX9_notePrice ∈ GW := GWt5 65 rfl rfl
set_option maxRecDepth 100000 in
theorem t_1026 : Cond.code yX9_notePrice cX9_notePrice 7 (none) ∈ GW := GWt5 66 rfl rfl
set_option maxRecDepth 100000 in
theorem t_1027 : Cond.methodLink RX9 85 yX9_compareShares ∈ GW := GWt5 67 rfl rfl
set_option maxRecDepth 100000 in
theorem t_1028 : Cond.static yX9_compareShares ∈ GW := GWt5 68 rfl rfl
set_option maxRecDepth 100000 in
theorem t_1029 : Cond.code yX9_compareShares cX9_compareShares 18 (some .int) ∈ GW := GWt5 69 rfl rfl
set_option maxRecDepth 100000 in
theorem t_1030 : Cond.methodLink RX9 89 yJ13_compare_74951 ∈ GW := GWt5 70 rfl rfl
set_option maxRecDepth 100000 in
theorem t_1031 : Cond.static yJ13_compare_74951 ∈ GW := GWt5 71 rfl rfl
set_option maxRecDepth 100000 in
theorem t_1032 : Cond.code yJ13_compare_74951 cJ13_compare_74951 4 (some .int) ∈ GW := GWt5 72 rfl rfl
set_option maxRecDepth 100000 in
theorem t_1033 : Cond.methodLink RX9 68 yX9_leastPair ∈ GW := GWt5 73 rfl rfl
set_option maxRecDepth 100000 in
theorem t_1035 : Cond.instanceMethod yX9_leastPair ∈ GW := GWt5 75 rfl rfl
set_option maxRecDepth 100000 in
theorem t_1036 : Cond.code yX9_leastPair cX9_leastPair 3 (some .int) ∈ GW := GWt5 76 rfl rfl
set_option maxRecDepth 100000 in
theorem t_1037 : Cond.methodLink RL 85 yX11_price ∈ GW := GWt5 77 rfl rfl
set_option maxRecDepth 100000 in
theorem t_1038 : Cond.instanceMethod yX11_price ∈ GW := GWt5 78 rfl rfl
set_option maxRecDepth 100000 in
theorem t_1039 : Cond.selects RX11 yX11_price yX11_price ∈ GW := GWt5 79 rfl rfl
set_option maxRecDepth 100000 in
theorem t_1040 : Cond.code yX11_price cX11_price 5 (some .long) ∈ GW := GWt5 80 rfl rfl
set_option maxRecDepth 100000 in
theorem t_1041 : Cond.methodLink RL 89 yX11_loan ∈ GW := GWt5 81 rfl rfl
set_option maxRecDepth 100000 in
theorem t_1042 : Cond.instanceMethod yX11_loan ∈ GW := GWt5 82 rfl rfl
set_option maxRecDepth 100000 in
theorem t_1043 : Cond.selects RX11 yX11_loan yX11_loan ∈ GW := GWt5 83 rfl rfl
set_option maxRecDepth 100000 in
theorem t_1044 : Cond.code yX11_loan cX11_loan 1 (some .int) ∈ GW := GWt5 84 rfl rfl
set_option maxRecDepth 100000 in
theorem t_1045 : Cond.methodLink RL 93 yX11_step ∈ GW := GWt5 85 rfl rfl
set_option maxRecDepth 100000 in
theorem t_1046 : Cond.instanceMethod yX11_step ∈ GW := GWt5 86 rfl rfl
set_option maxRecDepth 100000 in
theorem t_1047 : Cond.selects RX11 yX11_step yX11_step ∈ GW := GWt5 87 rfl rfl
set_option maxRecDepth 100000 in
theorem t_1048 : Cond.code yX11_step cX11_step 1 (some .long) ∈ GW := GWt5 88 rfl rfl
set_option maxRecDepth 100000 in
theorem t_1049 : Cond.methodLink RL 98 yX11_bears ∈ GW := GWt5 89 rfl rfl
set_option maxRecDepth 100000 in
theorem t_1050 : Cond.instanceMethod yX11_bears ∈ GW := GWt5 90 rfl rfl
set_option maxRecDepth 100000 in
theorem t_1051 : Cond.selects RX11 yX11_bears yX11_bears ∈ GW := GWt5 91 rfl rfl
set_option maxRecDepth 100000 in
theorem t_1052 : Cond.code yX11_bears cX11_bears 3 (some .long) ∈ GW := GWt5 92 rfl rfl
set_option maxRecDepth 100000 in
theorem t_1053 : Cond.methodLink RL 103 yX11_cost ∈ GW := GWt5 93 rfl rfl
set_option maxRecDepth 100000 in
theorem t_1054 : Cond.instanceMethod yX11_cost ∈ GW := GWt5 94 rfl rfl
set_option maxRecDepth 100000 in
theorem t_1055 : Cond.selects RX11 yX11_cost yX11_cost ∈ GW := GWt5 95 rfl rfl
set_option maxRecDepth 100000 in
theorem t_1056 : Cond.code yX11_cost cX11_cost 12 (some .long) ∈ GW := GWt5 96 rfl rfl
set_option maxRecDepth 100000 in
theorem t_1057 : Cond.methodLink RL 107 yX11_breach ∈ GW := GWt5 97 rfl rfl
set_option maxRecDepth 100000 in
theorem t_1058 : Cond.instanceMethod yX11_breach ∈ GW := GWt5 98 rfl rfl
set_option maxRecDepth 100000 in
theorem t_1059 : Cond.selects RX11 yX11_breach yX11_breach ∈ GW := GWt5 99 rfl rfl
set_option maxRecDepth 100000 in
theorem t_1060 : Cond.code yX11_breach cX11_breach 4 (some .int) ∈ GW := GWt5 100 rfl rfl
set_option maxRecDepth 100000 in
theorem t_1061 : Cond.methodLink RX11 239 yX11_lawInForce ∈ GW := GWt5 101 rfl rfl
set_option maxRecDepth 100000 in
theorem t_1063 : Cond.instanceMethod yX11_lawInForce ∈ GW := GWt5 103 rfl rfl
set_option maxRecDepth 100000 in
theorem t_1064 : Cond.code yX11_lawInForce cX11_lawInForce 1 (some (.object "LoanNames$Rules")) ∈ GW := GWt5 104 rfl rfl
set_option maxRecDepth 100000 in
theorem t_1065 : Cond.methodLink RX11 243 yX3_hear ∈ GW := GWt5 105 rfl rfl
set_option maxRecDepth 100000 in
theorem t_1066 : Cond.instanceMethod yX3_hear ∈ GW := GWt5 106 rfl rfl
set_option maxRecDepth 100000 in
theorem t_1067 : Cond.selects RX3 yX3_hear yX3_hear ∈ GW := GWt5 107 rfl rfl
set_option maxRecDepth 100000 in
theorem t_1068 : Cond.code yX3_hear cX3_hear 3 (none) ∈ GW := GWt5 108 rfl rfl
set_option maxRecDepth 100000 in
theorem t_1069 : Cond.methodLink RX3 31 yX3_hearAlso ∈ GW := GWt5 109 rfl rfl
set_option maxRecDepth 100000 in
theorem t_1071 : Cond.instanceMethod yX3_hearAlso ∈ GW := GWt5 111 rfl rfl
set_option maxRecDepth 100000 in
theorem t_1072 : Cond.code yX3_hearAlso cX3_hearAlso 2 (none) ∈ GW := GWt5 112 rfl rfl
set_option maxRecDepth 100000 in
theorem t_1073 : Cond.methodLink RX3 39 arraycopyName ∈ GW := GWt5 113 rfl rfl
set_option maxRecDepth 100000 in
theorem t_1074 : Cond.methodLink RX11 247 yX3_firstThatBars ∈ GW := GWt5 114 rfl rfl
set_option maxRecDepth 100000 in
theorem t_1075 : Cond.instanceMethod yX3_firstThatBars ∈ GW := GWt5 115 rfl rfl
set_option maxRecDepth 100000 in
theorem t_1076 : Cond.selects RX3 yX3_firstThatBars yX3_firstThatBars ∈ GW := GWt5 116 rfl rfl
set_option maxRecDepth 100000 in
theorem t_1077 : Cond.code yX3_firstThatBars cX3_firstThatBars 3 (some .int) ∈ GW := GWt5 117 rfl rfl
set_option maxRecDepth 100000 in
theorem t_1078 : Cond.methodLink RX3 51 yX3_findLeaves ∈ GW := GWt5 118 rfl rfl
set_option maxRecDepth 100000 in
theorem t_1080 : Cond.instanceMethod yX3_findLeaves ∈ GW := GWt5 120 rfl rfl
set_option maxRecDepth 100000 in
theorem t_1081 : Cond.code yX3_findLeaves cX3_findLeaves 6 (some .boolean) ∈ GW := GWt5 121 rfl rfl
set_option maxRecDepth 100000 in
theorem t_1082 : Cond.methodLink RX3 55 yX3_isOf ∈ GW := GWt5 122 rfl rfl
set_option maxRecDepth 100000 in
theorem t_1084 : Cond.instanceMethod yX3_isOf ∈ GW := GWt5 124 rfl rfl
set_option maxRecDepth 100000 in
theorem t_1085 : Cond.code yX3_isOf cX3_isOf 5 (some .boolean) ∈ GW := GWt5 125 rfl rfl
set_option maxRecDepth 100000 in
theorem t_1086 : Cond.methodLink RX3 59 yX3_findSecond ∈ GW := GWt5 126 rfl rfl
set_option maxRecDepth 100000 in
theorem t_1088 : Cond.instanceMethod yX3_findSecond ∈ GW := GWt5 128 rfl rfl
set_option maxRecDepth 100000 in
theorem t_1089 : Cond.code yX3_findSecond cX3_findSecond 5 (some .int) ∈ GW := GWt5 129 rfl rfl
set_option maxRecDepth 100000 in
theorem t_1090 : Cond.methodLink RX3 69 yX3_isLater ∈ GW := GWt5 130 rfl rfl
set_option maxRecDepth 100000 in
theorem t_1092 : Cond.instanceMethod yX3_isLater ∈ GW := GWt5 132 rfl rfl
set_option maxRecDepth 100000 in
theorem t_1093 : Cond.code yX3_isLater cX3_isLater 5 (some .boolean) ∈ GW := GWt5 133 rfl rfl
set_option maxRecDepth 100000 in
theorem t_1094 : Cond.methodLink RX3 72 yX3_isTied ∈ GW := GWt5 134 rfl rfl
set_option maxRecDepth 100000 in
theorem t_1096 : Cond.instanceMethod yX3_isTied ∈ GW := GWt5 136 rfl rfl
set_option maxRecDepth 100000 in
theorem t_1097 : Cond.code yX3_isTied cX3_isTied 4 (some .boolean) ∈ GW := GWt5 137 rfl rfl
set_option maxRecDepth 100000 in
theorem t_1098 : Cond.methodLink RL 111 yX11_bars ∈ GW := GWt5 138 rfl rfl
set_option maxRecDepth 100000 in
theorem t_1099 : Cond.instanceMethod yX11_bars ∈ GW := GWt5 139 rfl rfl
set_option maxRecDepth 100000 in
theorem t_1100 : Cond.selects RX11 yX11_bars yX11_bars ∈ GW := GWt5 140 rfl rfl
set_option maxRecDepth 100000 in
theorem t_1101 : Cond.code yX11_bars cX11_bars 2 (some .int) ∈ GW := GWt5 141 rfl rfl
set_option maxRecDepth 100000 in
theorem t_1102 : Cond.methodLink RL 115 yX11_offer ∈ GW := GWt5 142 rfl rfl
set_option maxRecDepth 100000 in
theorem t_1103 : Cond.instanceMethod yX11_offer ∈ GW := GWt5 143 rfl rfl
set_option maxRecDepth 100000 in
theorem t_1104 : Cond.selects RX11 yX11_offer yX11_offer ∈ GW := GWt5 144 rfl rfl
set_option maxRecDepth 100000 in
theorem t_1105 : Cond.code yX11_offer cX11_offer 2 (some .int) ∈ GW := GWt5 145 rfl rfl
set_option maxRecDepth 100000 in
theorem t_1106 : Cond.methodLink RX11 257 yX7_putOffered ∈ GW := GWt5 146 rfl rfl
set_option maxRecDepth 100000 in
theorem t_1107 : Cond.instanceMethod yX7_putOffered ∈ GW := GWt5 147 rfl rfl
set_option maxRecDepth 100000 in
theorem t_1108 : Cond.selects RX7 yX7_putOffered yX7_putOffered ∈ GW := GWt5 148 rfl rfl
set_option maxRecDepth 100000 in
theorem t_1109 : Cond.code yX7_putOffered cX7_putOffered 3 (some .boolean) ∈ GW := GWt5 149 rfl rfl
set_option maxRecDepth 100000 in
theorem t_1110 : Cond.methodLink RX7 68 yX7_forget ∈ GW := GWt5 150 rfl rfl
set_option maxRecDepth 100000 in
theorem t_1111 : Cond.methodLink RL 119 yX11_sly ∈ GW := GWt5 151 rfl rfl
set_option maxRecDepth 100000 in
theorem t_1112 : Cond.instanceMethod yX11_sly ∈ GW := GWt5 152 rfl rfl
set_option maxRecDepth 100000 in
theorem t_1113 : Cond.selects RX11 yX11_sly yX11_sly ∈ GW := GWt5 153 rfl rfl
set_option maxRecDepth 100000 in
theorem t_1114 : Cond.code yX11_sly cX11_sly 3 (some .int) ∈ GW := GWt5 154 rfl rfl
set_option maxRecDepth 100000 in
theorem t_1115 : Cond.methodLink RX11 263 yX7_look ∈ GW := GWt5 155 rfl rfl
set_option maxRecDepth 100000 in
theorem t_1116 : Cond.instanceMethod yX7_look ∈ GW := GWt5 156 rfl rfl
set_option maxRecDepth 100000 in
theorem t_1117 : Cond.selects RX7 yX7_look yX7_look ∈ GW := GWt5 157 rfl rfl
set_option maxRecDepth 100000 in
theorem t_1118 : Cond.code yX7_look cX7_look 4 (none) ∈ GW := GWt5 158 rfl rfl
set_option maxRecDepth 100000 in
theorem t_1119 : Cond.methodLink RX7 77 yX7_findBarred ∈ GW := GWt5 159 rfl rfl
set_option maxRecDepth 100000 in
theorem t_1121 : Cond.instanceMethod yX7_findBarred ∈ GW := GWt5 161 rfl rfl
set_option maxRecDepth 100000 in
theorem t_1122 : Cond.code yX7_findBarred cX7_findBarred 6 (none) ∈ GW := GWt5 162 rfl rfl
set_option maxRecDepth 100000 in
theorem t_1123 : Cond.methodLink RX7 94 yX3_hearPair ∈ GW := GWt5 163 rfl rfl
set_option maxRecDepth 100000 in
theorem t_1124 : Cond.instanceMethod yX3_hearPair ∈ GW := GWt5 164 rfl rfl
set_option maxRecDepth 100000 in
theorem t_1125 : Cond.selects RX3 yX3_hearPair yX3_hearPair ∈ GW := GWt5 165 rfl rfl
set_option maxRecDepth 100000 in
theorem t_1126 : Cond.code yX3_hearPair cX3_hearPair 3 (none) ∈ GW := GWt5 166 rfl rfl
set_option maxRecDepth 100000 in
theorem t_1127 : Cond.methodLink RX7 100 yX3_firstThatBars ∈ GW := GWt5 167 rfl rfl
set_option maxRecDepth 100000 in
theorem t_1128 : Cond.methodLink RX7 81 yJ7_fill_d0a16 ∈ GW := GWt5 168 rfl rfl
set_option maxRecDepth 100000 in
theorem t_1129 : Cond.methodLink RX7 84 yX5_sumInto ∈ GW := GWt5 169 rfl rfl
set_option maxRecDepth 100000 in
theorem t_1130 : Cond.instanceMethod yX5_sumInto ∈ GW := GWt5 170 rfl rfl
set_option maxRecDepth 100000 in
theorem t_1131 : Cond.selects RX5 yX5_sumInto yX5_sumInto ∈ GW := GWt5 171 rfl rfl
set_option maxRecDepth 100000 in
theorem t_1132 : Cond.code yX5_sumInto cX5_sumInto 9 (none) ∈ GW := GWt5 172 rfl rfl
set_option maxRecDepth 100000 in
theorem t_1133 : Cond.methodLink RX7 90 yX7_grow ∈ GW := GWt5 173 rfl rfl
set_option maxRecDepth 100000 in
theorem t_1135 : Cond.instanceMethod yX7_grow ∈ GW := GWt5 175 rfl rfl
set_option maxRecDepth 100000 in
theorem t_1136 : Cond.code yX7_grow cX7_grow 7 (none) ∈ GW := GWt5 176 rfl rfl
set_option maxRecDepth 100000 in
theorem t_1137 : Cond.methodLink RX7 104 yX0_push ∈ GW := GWt5 177 rfl rfl
set_option maxRecDepth 100000 in
theorem t_1138 : Cond.methodLink RX7 108 yX0_isLooked ∈ GW := GWt5 178 rfl rfl
set_option maxRecDepth 100000 in
theorem t_1139 : Cond.methodLink RX7 112 yX7_mayLend ∈ GW := GWt5 179 rfl rfl
set_option maxRecDepth 100000 in
theorem t_1141 : Cond.instanceMethod yX7_mayLend ∈ GW := GWt5 181 rfl rfl
set_option maxRecDepth 100000 in
theorem t_1142 : Cond.code yX7_mayLend cX7_mayLend 8 (some .boolean) ∈ GW := GWt5 182 rfl rfl
set_option maxRecDepth 100000 in
theorem t_1143 : Cond.methodLink RX7 116 yX7_isLoan ∈ GW := GWt5 183 rfl rfl
set_option maxRecDepth 100000 in
theorem t_1145 : Cond.instanceMethod yX7_isLoan ∈ GW := GWt5 185 rfl rfl
set_option maxRecDepth 100000 in
theorem t_1146 : Cond.code yX7_isLoan cX7_isLoan 2 (some .boolean) ∈ GW := GWt5 186 rfl rfl
set_option maxRecDepth 100000 in
theorem t_1147 : Cond.methodLink RX7 119 yX5_findLoan ∈ GW := GWt5 187 rfl rfl
set_option maxRecDepth 100000 in
theorem t_1148 : Cond.instanceMethod yX5_findLoan ∈ GW := GWt5 188 rfl rfl
set_option maxRecDepth 100000 in
theorem t_1149 : Cond.selects RX5 yX5_findLoan yX5_findLoan ∈ GW := GWt5 189 rfl rfl
set_option maxRecDepth 100000 in
theorem t_1150 : Cond.code yX5_findLoan cX5_findLoan 8 (some .int) ∈ GW := GWt5 190 rfl rfl
set_option maxRecDepth 100000 in
theorem t_1151 : Cond.methodLink RX5 97 yX0_isLooked ∈ GW := GWt5 191 rfl rfl
set_option maxRecDepth 100000 in
theorem t_1152 : Cond.methodLink RX5 101 yX5_take ∈ GW := GWt5 192 rfl rfl
set_option maxRecDepth 100000 in
theorem t_1153 : Cond.methodLink RX5 114 yJ6_bitCount_0f7a4 ∈ GW := GWt5 193 rfl rfl
set_option maxRecDepth 100000 in
theorem t_1154 : Cond.methodLink RX5 119 yX5_weigh ∈ GW := GWt5 194 rfl rfl
set_option maxRecDepth 100000 in
theorem t_1155 : Cond.methodLink RX5 123 yX5_borrowersOf ∈ GW := GWt5 195 rfl rfl
set_option maxRecDepth 100000 in
theorem t_1156 : Cond.methodLink RX5 126 yJ6_numberOfTrailingZeros_0f7a4 ∈ GW := GWt5 196 rfl rfl
set_option maxRecDepth 100000 in
theorem t_1157 : Cond.static yJ6_numberOfTrailingZeros_0f7a4 ∈ GW := GWt5 197 rfl rfl
set_option maxRecDepth 100000 in
theorem t_1158 : Cond.code yJ6_numberOfTrailingZeros_0f7a4 cJ6_numberOfTrailingZeros_0f7a4 2 (some .int) ∈ GW := GWt5 198 rfl rfl
set_option maxRecDepth 100000 in
theorem t_1159 : Cond.constant RJ6 264 (65536) ∈ GW := GWt5 199 rfl rfl
set_option maxRecDepth 100000 in
theorem t_1160 : Cond.methodLink RX11 267 yX7_howMany ∈ GW := GWt5 200 rfl rfl
set_option maxRecDepth 100000 in
theorem t_1161 : Cond.instanceMethod yX7_howMany ∈ GW := GWt5 201 rfl rfl
set_option maxRecDepth 100000 in
theorem t_1162 : Cond.selects RX7 yX7_howMany yX7_howMany ∈ GW := GWt5 202 rfl rfl
set_option maxRecDepth 100000 in
theorem t_1163 : Cond.code yX7_howMany cX7_howMany 4 (some .int) ∈ GW := GWt5 203 rfl rfl
set_option maxRecDepth 100000 in
theorem t_1164 : Cond.methodLink RX7 123 yJ6_bitCount_0f7a4 ∈ GW := GWt5 204 rfl rfl
set_option maxRecDepth 100000 in
theorem t_1165 : Cond.methodLink RX11 270 yX7_fewest ∈ GW := GWt5 205 rfl rfl
set_option maxRecDepth 100000 in
theorem t_1166 : Cond.instanceMethod yX7_fewest ∈ GW := GWt5 206 rfl rfl
set_option maxRecDepth 100000 in
theorem t_1167 : Cond.selects RX7 yX7_fewest yX7_fewest ∈ GW := GWt5 207 rfl rfl
set_option maxRecDepth 100000 in
theorem t_1168 : Cond.code yX7_fewest cX7_fewest 4 (some .int) ∈ GW := GWt5 208 rfl rfl
set_option maxRecDepth 100000 in
theorem t_1169 : Cond.methodLink RX7 129 yX7_isLess ∈ GW := GWt5 209 rfl rfl
set_option maxRecDepth 100000 in
theorem t_1170 : Cond.static yX7_isLess ∈ GW := GWt5 210 rfl rfl
set_option maxRecDepth 100000 in
theorem t_1171 : Cond.code yX7_isLess cX7_isLess 4 (some .boolean) ∈ GW := GWt5 211 rfl rfl
set_option maxRecDepth 100000 in
theorem t_1172 : Cond.methodLink RL 123 yX11_honest ∈ GW := GWt5 212 rfl rfl
set_option maxRecDepth 100000 in
theorem t_1173 : Cond.instanceMethod yX11_honest ∈ GW := GWt5 213 rfl rfl
set_option maxRecDepth 100000 in
theorem t_1174 : Cond.selects RX11 yX11_honest yX11_honest ∈ GW := GWt5 214 rfl rfl
set_option maxRecDepth 100000 in
theorem t_1175 : Cond.code yX11_honest cX11_honest 2 (some .int) ∈ GW := GWt5 215 rfl rfl
set_option maxRecDepth 100000 in
theorem t_1176 : Cond.methodLink RX11 276 yX0_copyFrom ∈ GW := GWt5 216 rfl rfl
set_option maxRecDepth 100000 in
theorem t_1177 : Cond.instanceMethod yX0_copyFrom ∈ GW := GWt5 217 rfl rfl
set_option maxRecDepth 100000 in
theorem t_1178 : Cond.selects RX0 yX0_copyFrom yX0_copyFrom ∈ GW := GWt5 218 rfl rfl
set_option maxRecDepth 100000 in
theorem t_1179 : Cond.code yX0_copyFrom cX0_copyFrom 3 (none) ∈ GW := GWt5 219 rfl rfl
set_option maxRecDepth 100000 in
theorem t_1180 : Cond.methodLink RX0 21 yX0_push ∈ GW := GWt5 220 rfl rfl
set_option maxRecDepth 100000 in
theorem t_1181 : Cond.methodLink RL 127 yX11_innocent ∈ GW := GWt5 221 rfl rfl
set_option maxRecDepth 100000 in
theorem t_1182 : Cond.instanceMethod yX11_innocent ∈ GW := GWt5 222 rfl rfl
set_option maxRecDepth 100000 in
theorem t_1183 : Cond.selects RX11 yX11_innocent yX11_innocent ∈ GW := GWt5 223 rfl rfl
set_option maxRecDepth 100000 in
theorem t_1184 : Cond.code yX11_innocent cX11_innocent 4 (some .int) ∈ GW := GWt5 224 rfl rfl
set_option maxRecDepth 100000 in
theorem t_1185 : Cond.methodLink RX11 279 yX11_isLet ∈ GW := GWt5 225 rfl rfl
set_option maxRecDepth 100000 in
theorem t_1187 : Cond.instanceMethod yX11_isLet ∈ GW := GWt5 227 rfl rfl
set_option maxRecDepth 100000 in
theorem t_1188 : Cond.code yX11_isLet cX11_isLet 3 (some .boolean) ∈ GW := GWt5 228 rfl rfl
set_option maxRecDepth 100000 in
theorem t_1189 : Cond.methodLink RX11 283 yX5_findLoan ∈ GW := GWt5 229 rfl rfl
set_option maxRecDepth 100000 in
theorem t_1190 : Cond.methodLink RL 131 yX11_parts ∈ GW := GWt5 230 rfl rfl
set_option maxRecDepth 100000 in
theorem t_1191 : Cond.instanceMethod yX11_parts ∈ GW := GWt5 231 rfl rfl
set_option maxRecDepth 100000 in
theorem t_1192 : Cond.selects RX11 yX11_parts yX11_parts ∈ GW := GWt5 232 rfl rfl
set_option maxRecDepth 100000 in
theorem t_1193 : Cond.code yX11_parts cX11_parts 4 (some .int) ∈ GW := GWt5 233 rfl rfl
set_option maxRecDepth 100000 in
theorem t_1194 : Cond.methodLink RX11 291 yX5_isEven ∈ GW := GWt5 234 rfl rfl
set_option maxRecDepth 100000 in
theorem t_1195 : Cond.instanceMethod yX5_isEven ∈ GW := GWt5 235 rfl rfl
set_option maxRecDepth 100000 in
theorem t_1196 : Cond.selects RX5 yX5_isEven yX5_isEven ∈ GW := GWt5 236 rfl rfl
set_option maxRecDepth 100000 in
theorem t_1197 : Cond.code yX5_isEven cX5_isEven 5 (some .boolean) ∈ GW := GWt5 237 rfl rfl
set_option maxRecDepth 100000 in
theorem t_1198 : Cond.methodLink RX5 93 yX5_sumInto ∈ GW := GWt5 238 rfl rfl
set_option maxRecDepth 100000 in
theorem t_1199 : Cond.methodLink RL 135 yX11_stop ∈ GW := GWt5 239 rfl rfl
set_option maxRecDepth 100000 in
theorem t_1200 : Cond.instanceMethod yX11_stop ∈ GW := GWt6 0 rfl rfl
set_option maxRecDepth 100000 in
theorem t_1201 : Cond.selects RX11 yX11_stop yX11_stop ∈ GW := GWt6 1 rfl rfl
set_option maxRecDepth 100000 in
theorem t_1202 : Cond.code yX11_stop cX11_stop 4 (some .int) ∈ GW := GWt6 2 rfl rfl
set_option maxRecDepth 100000 in
theorem t_1203 : Cond.methodLink RX11 295 yX11_sparesHonest ∈ GW := GWt6 3 rfl rfl
set_option maxRecDepth 100000 in
theorem t_1205 : Cond.instanceMethod yX11_sparesHonest ∈ GW := GWt6 5 rfl rfl
set_option maxRecDepth 100000 in
theorem t_1206 : Cond.code yX11_sparesHonest cX11_sparesHonest 3 (some .boolean) ∈ GW := GWt6 6 rfl rfl
set_option maxRecDepth 100000 in
theorem t_1207 : Cond.methodLink RX11 299 yX7_fewestWords ∈ GW := GWt6 7 rfl rfl
set_option maxRecDepth 100000 in
theorem t_1208 : Cond.instanceMethod yX7_fewestWords ∈ GW := GWt6 8 rfl rfl
set_option maxRecDepth 100000 in
theorem t_1209 : Cond.selects RX7 yX7_fewestWords yX7_fewestWords ∈ GW := GWt6 9 rfl rfl
set_option maxRecDepth 100000 in
theorem t_1210 : Cond.code yX7_fewestWords cX7_fewestWords 6 (some .int) ∈ GW := GWt6 10 rfl rfl
set_option maxRecDepth 100000 in
theorem t_1211 : Cond.methodLink RX7 136 yX7_wordsThatBar ∈ GW := GWt6 11 rfl rfl
set_option maxRecDepth 100000 in
theorem t_1213 : Cond.instanceMethod yX7_wordsThatBar ∈ GW := GWt6 13 rfl rfl
set_option maxRecDepth 100000 in
theorem t_1214 : Cond.code yX7_wordsThatBar cX7_wordsThatBar 6 (some .int) ∈ GW := GWt6 14 rfl rfl
set_option maxRecDepth 100000 in
theorem t_1215 : Cond.methodLink RX7 140 yX7_putNeed ∈ GW := GWt6 15 rfl rfl
set_option maxRecDepth 100000 in
theorem t_1217 : Cond.instanceMethod yX7_putNeed ∈ GW := GWt6 17 rfl rfl
set_option maxRecDepth 100000 in
theorem t_1218 : Cond.code yX7_putNeed cX7_putNeed 3 (none) ∈ GW := GWt6 18 rfl rfl
set_option maxRecDepth 100000 in
theorem t_1219 : Cond.methodLink RX7 144 yX7_meetsNeeds ∈ GW := GWt6 19 rfl rfl
set_option maxRecDepth 100000 in
theorem t_1221 : Cond.instanceMethod yX7_meetsNeeds ∈ GW := GWt6 21 rfl rfl
set_option maxRecDepth 100000 in
theorem t_1222 : Cond.code yX7_meetsNeeds cX7_meetsNeeds 3 (some .boolean) ∈ GW := GWt6 22 rfl rfl
set_option maxRecDepth 100000 in
theorem t_1223 : Cond.methodLink RL 139 yX11_heap ∈ GW := GWt6 23 rfl rfl
set_option maxRecDepth 100000 in
theorem t_1224 : Cond.instanceMethod yX11_heap ∈ GW := GWt6 24 rfl rfl
set_option maxRecDepth 100000 in
theorem t_1225 : Cond.selects RX11 yX11_heap yX11_heap ∈ GW := GWt6 25 rfl rfl
set_option maxRecDepth 100000 in
theorem t_1226 : Cond.code yX11_heap cX11_heap 3 (some .int) ∈ GW := GWt6 26 rfl rfl
set_option maxRecDepth 100000 in
theorem t_1227 : Cond.methodLink RX11 303 yX4_gather ∈ GW := GWt6 27 rfl rfl
set_option maxRecDepth 100000 in
theorem t_1228 : Cond.instanceMethod yX4_gather ∈ GW := GWt6 28 rfl rfl
set_option maxRecDepth 100000 in
theorem t_1229 : Cond.selects RX4 yX4_gather yX4_gather ∈ GW := GWt6 29 rfl rfl
set_option maxRecDepth 100000 in
theorem t_1230 : Cond.code yX4_gather cX4_gather 7 (none) ∈ GW := GWt6 30 rfl rfl
set_option maxRecDepth 100000 in
theorem t_1231 : Cond.methodLink RX4 90 yX1_familiesIn ∈ GW := GWt6 31 rfl rfl
set_option maxRecDepth 100000 in
theorem t_1232 : Cond.methodLink RX4 94 yX4_hangTogether ∈ GW := GWt6 32 rfl rfl
set_option maxRecDepth 100000 in
theorem t_1234 : Cond.instanceMethod yX4_hangTogether ∈ GW := GWt6 34 rfl rfl
set_option maxRecDepth 100000 in
theorem t_1235 : Cond.code yX4_hangTogether cX4_hangTogether 5 (some .boolean) ∈ GW := GWt6 35 rfl rfl
set_option maxRecDepth 100000 in
theorem t_1236 : Cond.methodLink RX4 111 yJ9_abs_0f7a4 ∈ GW := GWt6 36 rfl rfl
set_option maxRecDepth 100000 in
theorem t_1237 : Cond.static yJ9_abs_0f7a4 ∈ GW := GWt6 37 rfl rfl
set_option maxRecDepth 100000 in
theorem t_1238 : Cond.code yJ9_abs_0f7a4 cJ9_abs_0f7a4 1 (some .int) ∈ GW := GWt6 38 rfl rfl
set_option maxRecDepth 100000 in
theorem t_1239 : Cond.methodLink RX4 98 yX4_join ∈ GW := GWt6 39 rfl rfl
set_option maxRecDepth 100000 in
theorem t_1241 : Cond.instanceMethod yX4_join ∈ GW := GWt6 41 rfl rfl
set_option maxRecDepth 100000 in
theorem t_1242 : Cond.code yX4_join cX4_join 6 (none) ∈ GW := GWt6 42 rfl rfl
set_option maxRecDepth 100000 in
theorem t_1243 : Cond.methodLink RX4 114 yJ9_min_7cf53 ∈ GW := GWt6 43 rfl rfl
set_option maxRecDepth 100000 in
theorem t_1244 : Cond.methodLink RX11 307 yX4_heaps ∈ GW := GWt6 44 rfl rfl
set_option maxRecDepth 100000 in
theorem t_1245 : Cond.instanceMethod yX4_heaps ∈ GW := GWt6 45 rfl rfl
set_option maxRecDepth 100000 in
theorem t_1246 : Cond.selects RX4 yX4_heaps yX4_heaps ∈ GW := GWt6 46 rfl rfl
set_option maxRecDepth 100000 in
theorem t_1247 : Cond.code yX4_heaps cX4_heaps 4 (some .int) ∈ GW := GWt6 47 rfl rfl
set_option maxRecDepth 100000 in
theorem t_1248 : Cond.methodLink RL 143 yX11_group ∈ GW := GWt6 48 rfl rfl
set_option maxRecDepth 100000 in
theorem t_1249 : Cond.instanceMethod yX11_group ∈ GW := GWt6 49 rfl rfl
set_option maxRecDepth 100000 in
theorem t_1250 : Cond.selects RX11 yX11_group yX11_group ∈ GW := GWt6 50 rfl rfl
set_option maxRecDepth 100000 in
theorem t_1251 : Cond.code yX11_group cX11_group 3 (some .int) ∈ GW := GWt6 51 rfl rfl
set_option maxRecDepth 100000 in
theorem t_1252 : Cond.methodLink RX11 313 yX4_fillBundle ∈ GW := GWt6 52 rfl rfl
set_option maxRecDepth 100000 in
theorem t_1253 : Cond.instanceMethod yX4_fillBundle ∈ GW := GWt6 53 rfl rfl
set_option maxRecDepth 100000 in
theorem t_1254 : Cond.selects RX4 yX4_fillBundle yX4_fillBundle ∈ GW := GWt6 54 rfl rfl
set_option maxRecDepth 100000 in
theorem t_1255 : Cond.code yX4_fillBundle cX4_fillBundle 5 (some .boolean) ∈ GW := GWt6 55 rfl rfl
set_option maxRecDepth 100000 in
theorem t_1256 : Cond.methodLink RX4 120 yX0_push ∈ GW := GWt6 56 rfl rfl
set_option maxRecDepth 100000 in
theorem t_1257 : Cond.methodLink RL 147 yX11_count ∈ GW := GWt6 57 rfl rfl
set_option maxRecDepth 100000 in
theorem t_1258 : Cond.instanceMethod yX11_count ∈ GW := GWt6 58 rfl rfl
set_option maxRecDepth 100000 in
theorem t_1259 : Cond.selects RX11 yX11_count yX11_count ∈ GW := GWt6 59 rfl rfl
set_option maxRecDepth 100000 in
theorem t_1260 : Cond.code yX11_count cX11_count 2 (some .int) ∈ GW := GWt6 60 rfl rfl
set_option maxRecDepth 100000 in
theorem t_1261 : Cond.methodLink RX11 321 yX0_allLeaves ∈ GW := GWt6 61 rfl rfl
set_option maxRecDepth 100000 in
theorem t_1262 : Cond.instanceMethod yX0_allLeaves ∈ GW := GWt6 62 rfl rfl
set_option maxRecDepth 100000 in
theorem t_1263 : Cond.selects RX0 yX0_allLeaves yX0_allLeaves ∈ GW := GWt6 63 rfl rfl
set_option maxRecDepth 100000 in
theorem t_1264 : Cond.code yX0_allLeaves cX0_allLeaves 3 (some .int) ∈ GW := GWt6 64 rfl rfl
set_option maxRecDepth 100000 in
theorem t_1265 : Cond.methodLink RX11 324 yX0_allChoices ∈ GW := GWt6 65 rfl rfl
set_option maxRecDepth 100000 in
theorem t_1266 : Cond.classLink RL 10 RX12 ∈ GW := GWt6 66 rfl rfl
set_option maxRecDepth 100000 in
theorem t_1267 : Cond.instantiable RX12 93 ∈ GW := GWt6 67 rfl rfl
set_option maxRecDepth 100000 in
theorem t_1268 : Cond.methodLink RL 12 yX12_init ∈ GW := GWt6 68 rfl rfl
set_option maxRecDepth 100000 in
theorem t_1269 : Cond.instanceMethod yX12_init ∈ GW := GWt6 69 rfl rfl
set_option maxRecDepth 100000 in
theorem t_1270 : Cond.code yX12_init cX12_init 2 (none) ∈ GW := GWt6 70 rfl rfl
set_option maxRecDepth 100000 in
theorem t_1271 : Cond.methodLink RX12 1 Lib.objectInit ∈ GW := GWt6 71 rfl rfl
set_option maxRecDepth 100000 in
theorem t_1272 : Cond.fieldLink RX12 7 (TX12 0).1 (TX12 0).2.1 (TX12 0).2.2.1 ∈ GW := GWt6 72 rfl rfl
set_option maxRecDepth 100000 in
theorem t_1273 : Cond.fieldLink RX12 332 (TX12 1).1 (TX12 1).2.1 (TX12 1).2.2.1 ∈ GW := GWt6 73 rfl rfl
set_option maxRecDepth 100000 in
theorem t_1274 : Cond.fieldLink RX12 13 (TX12 2).1 (TX12 2).2.1 (TX12 2).2.2.1 ∈ GW := GWt6 74 rfl rfl
set_option maxRecDepth 100000 in
theorem t_1275 : Cond.fieldLink RX12 16 (TX12 3).1 (TX12 3).2.1 (TX12 3).2.2.1 ∈ GW := GWt6 75 rfl rfl
set_option maxRecDepth 100000 in
theorem t_1276 : Cond.fieldLink RX12 19 (TX12 4).1 (TX12 4).2.1 (TX12 4).2.2.1 ∈ GW := GWt6 76 rfl rfl
set_option maxRecDepth 100000 in
theorem t_1277 : Cond.fieldLink RX12 22 (TX12 5).1 (TX12 5).2.1 (TX12 5).2.2.1 ∈ GW := GWt6 77 rfl rfl
set_option maxRecDepth 100000 in
theorem t_1278 : Cond.fieldLink RX12 25 (TX12 6).1 (TX12 6).2.1 (TX12 6).2.2.1 ∈ GW := GWt6 78 rfl rfl
set_option maxRecDepth 100000 in
theorem t_1279 : Cond.fieldLink RX12 28 (TX12 7).1 (TX12 7).2.1 (TX12 7).2.2.1 ∈ GW := GWt6 79 rfl rfl
set_option maxRecDepth 100000 in
theorem t_1280 : Cond.fieldLink RX12 31 (TX12 8).1 (TX12 8).2.1 (TX12 8).2.2.1 ∈ GW := GWt6 80 rfl rfl
set_option maxRecDepth 100000 in
theorem t_1281 : Cond.fieldLink RX12 34 (TX12 9).1 (TX12 9).2.1 (TX12 9).2.2.1 ∈ GW := GWt6 81 rfl rfl
set_option maxRecDepth 100000 in
theorem t_1282 : Cond.fieldLink RX12 37 (TX12 10).1 (TX12 10).2.1 (TX12 10).2.2.1 ∈ GW := GWt6 82 rfl rfl
set_option maxRecDepth 100000 in
theorem t_1283 : Cond.fieldLink RX12 40 (TX12 11).1 (TX12 11).2.1 (TX12 11).2.2.1 ∈ GW := GWt6 83 rfl rfl
set_option maxRecDepth 100000 in
theorem t_1284 : Cond.fieldLink RX12 43 (TX12 12).1 (TX12 12).2.1 (TX12 12).2.2.1 ∈ GW := GWt6 84 rfl rfl
set_option maxRecDepth 100000 in
theorem t_1285 : Cond.fieldLink RX12 46 (TX12 13).1 (TX12 13).2.1 (TX12 13).2.2.1 ∈ GW := GWt6 85 rfl rfl
set_option maxRecDepth 100000 in
theorem t_1286 : Cond.fieldLink RX12 49 (TX12 14).1 (TX12 14).2.1 (TX12 14).2.2.1 ∈ GW := GWt6 86 rfl rfl
set_option maxRecDepth 100000 in
theorem t_1287 : Cond.fieldLink RX12 52 (TX12 15).1 (TX12 15).2.1 (TX12 15).2.2.1 ∈ GW := GWt6 87 rfl rfl
set_option maxRecDepth 100000 in
theorem t_1288 : Cond.fieldLink RX12 55 (TX12 16).1 (TX12 16).2.1 (TX12 16).2.2.1 ∈ GW := GWt6 88 rfl rfl
set_option maxRecDepth 100000 in
theorem t_1289 : Cond.fieldLink RX12 58 (TX12 17).1 (TX12 17).2.1 (TX12 17).2.2.1 ∈ GW := GWt6 89 rfl rfl
set_option maxRecDepth 100000 in
theorem t_1290 : Cond.fieldLink RX12 61 (TX12 18).1 (TX12 18).2.1 (TX12 18).2.2.1 ∈ GW := GWt6 90 rfl rfl
set_option maxRecDepth 100000 in
theorem t_1291 : Cond.fieldLink RX12 64 (TX12 19).1 (TX12 19).2.1 (TX12 19).2.2.1 ∈ GW := GWt6 91 rfl rfl
set_option maxRecDepth 100000 in
theorem t_1292 : Cond.fieldLink RX12 67 (TX12 20).1 (TX12 20).2.1 (TX12 20).2.2.1 ∈ GW := GWt6 92 rfl rfl
set_option maxRecDepth 100000 in
theorem t_1293 : Cond.fieldLink RX12 189 (TX12 21).1 (TX12 21).2.1 (TX12 21).2.2.1 ∈ GW := GWt6 93 rfl rfl
set_option maxRecDepth 100000 in
theorem t_1294 : Cond.fieldLink RX12 71 (TX12 22).1 (TX12 22).2.1 (TX12 22).2.2.1 ∈ GW := GWt6 94 rfl rfl
set_option maxRecDepth 100000 in
theorem t_1295 : Cond.fieldLink RX12 195 (TX12 23).1 (TX12 23).2.1 (TX12 23).2.2.1 ∈ GW := GWt6 95 rfl rfl
set_option maxRecDepth 100000 in
theorem t_1296 : Cond.fieldLink RX12 192 (TX12 24).1 (TX12 24).2.1 (TX12 24).2.2.1 ∈ GW := GWt6 96 rfl rfl
set_option maxRecDepth 100000 in
theorem t_1297 : Cond.fieldLink RX12 202 (TX12 25).1 (TX12 25).2.1 (TX12 25).2.2.1 ∈ GW := GWt6 97 rfl rfl
set_option maxRecDepth 100000 in
theorem t_1298 : Cond.fieldLink RX12 214 (TX12 26).1 (TX12 26).2.1 (TX12 26).2.2.1 ∈ GW := GWt6 98 rfl rfl
set_option maxRecDepth 100000 in
theorem t_1299 : Cond.fieldLink RX12 211 (TX12 27).1 (TX12 27).2.1 (TX12 27).2.2.1 ∈ GW := GWt6 99 rfl rfl
set_option maxRecDepth 100000 in
theorem t_1300 : Cond.fieldLink RX12 207 (TX12 28).1 (TX12 28).2.1 (TX12 28).2.2.1 ∈ GW := GWt6 100 rfl rfl
set_option maxRecDepth 100000 in
theorem t_1301 : Cond.fieldLink RX12 220 (TX12 29).1 (TX12 29).2.1 (TX12 29).2.2.1 ∈ GW := GWt6 101 rfl rfl
set_option maxRecDepth 100000 in
theorem t_1302 : Cond.fieldLink RX12 75 (TX12 30).1 (TX12 30).2.1 (TX12 30).2.2.1 ∈ GW := GWt6 102 rfl rfl
set_option maxRecDepth 100000 in
theorem t_1303 : Cond.fieldLink RX12 78 (TX12 31).1 (TX12 31).2.1 (TX12 31).2.2.1 ∈ GW := GWt6 103 rfl rfl
set_option maxRecDepth 100000 in
theorem t_1304 : Cond.fieldLink RX12 283 (TX12 32).1 (TX12 32).2.1 (TX12 32).2.2.1 ∈ GW := GWt6 104 rfl rfl
set_option maxRecDepth 100000 in
theorem t_1305 : Cond.fieldLink RX12 280 (TX12 33).1 (TX12 33).2.1 (TX12 33).2.2.1 ∈ GW := GWt6 105 rfl rfl
set_option maxRecDepth 100000 in
theorem t_1306 : Cond.fieldLink RX12 286 (TX12 34).1 (TX12 34).2.1 (TX12 34).2.2.1 ∈ GW := GWt6 106 rfl rfl
set_option maxRecDepth 100000 in
theorem t_1307 : Cond.fieldLink RX12 315 (TX12 35).1 (TX12 35).2.1 (TX12 35).2.2.1 ∈ GW := GWt6 107 rfl rfl
set_option maxRecDepth 100000 in
theorem t_1308 : Cond.fieldLink RX12 321 (TX12 36).1 (TX12 36).2.1 (TX12 36).2.2.1 ∈ GW := GWt6 108 rfl rfl
set_option maxRecDepth 100000 in
theorem t_1309 : Cond.fieldLink RX12 277 (TX12 37).1 (TX12 37).2.1 (TX12 37).2.2.1 ∈ GW := GWt6 109 rfl rfl
set_option maxRecDepth 100000 in
theorem t_1310 : Cond.fieldLink RX12 81 (TX12 38).1 (TX12 38).2.1 (TX12 38).2.2.1 ∈ GW := GWt6 110 rfl rfl
set_option maxRecDepth 100000 in
theorem t_1311 : Cond.fieldLink RX12 85 (TX12 39).1 (TX12 39).2.1 (TX12 39).2.2.1 ∈ GW := GWt6 111 rfl rfl
set_option maxRecDepth 100000 in
theorem t_1312 : Cond.fieldLink RX12 88 (TX12 40).1 (TX12 40).2.1 (TX12 40).2.2.1 ∈ GW := GWt6 112 rfl rfl
set_option maxRecDepth 100000 in
theorem t_1313 : Cond.fieldLink RX12 394 (TX12 41).1 (TX12 41).2.1 (TX12 41).2.2.1 ∈ GW := GWt6 113 rfl rfl
set_option maxRecDepth 100000 in
theorem t_1314 : Cond.fieldLink RX12 365 (TX12 42).1 (TX12 42).2.1 (TX12 42).2.2.1 ∈ GW := GWt6 114 rfl rfl
set_option maxRecDepth 100000 in
theorem t_1315 : Cond.fieldLink RX12 368 (TX12 43).1 (TX12 43).2.1 (TX12 43).2.2.1 ∈ GW := GWt6 115 rfl rfl
set_option maxRecDepth 100000 in
theorem t_1316 : Cond.fieldLink RX12 91 (TX12 44).1 (TX12 44).2.1 (TX12 44).2.2.1 ∈ GW := GWt6 116 rfl rfl
set_option maxRecDepth 100000 in
theorem t_1317 : Cond.fieldLink RX12 371 (TX12 45).1 (TX12 45).2.1 (TX12 45).2.2.1 ∈ GW := GWt6 117 rfl rfl
set_option maxRecDepth 100000 in
theorem t_1318 : Cond.fieldLink RX12 94 (TX12 46).1 (TX12 46).2.1 (TX12 46).2.2.1 ∈ GW := GWt6 118 rfl rfl
set_option maxRecDepth 100000 in
theorem t_1319 : Cond.fieldLink RX12 374 (TX12 47).1 (TX12 47).2.1 (TX12 47).2.2.1 ∈ GW := GWt6 119 rfl rfl
set_option maxRecDepth 100000 in
theorem t_1320 : Cond.fieldLink RX12 404 (TX12 48).1 (TX12 48).2.1 (TX12 48).2.2.1 ∈ GW := GWt6 120 rfl rfl
set_option maxRecDepth 100000 in
theorem t_1321 : Cond.fieldLink RX12 97 (TX12 49).1 (TX12 49).2.1 (TX12 49).2.2.1 ∈ GW := GWt6 121 rfl rfl
set_option maxRecDepth 100000 in
theorem t_1322 : Cond.fieldLink RX12 100 (TX12 50).1 (TX12 50).2.1 (TX12 50).2.2.1 ∈ GW := GWt6 122 rfl rfl
set_option maxRecDepth 100000 in
theorem t_1323 : Cond.fieldLink RX12 103 (TX12 51).1 (TX12 51).2.1 (TX12 51).2.2.1 ∈ GW := GWt6 123 rfl rfl
set_option maxRecDepth 100000 in
theorem t_1324 : Cond.fieldLink RX12 106 (TX12 52).1 (TX12 52).2.1 (TX12 52).2.2.1 ∈ GW := GWt6 124 rfl rfl
set_option maxRecDepth 100000 in
theorem t_1325 : Cond.fieldLink RX12 109 (TX12 53).1 (TX12 53).2.1 (TX12 53).2.2.1 ∈ GW := GWt6 125 rfl rfl
set_option maxRecDepth 100000 in
theorem t_1326 : Cond.fieldLink RX12 422 (TX12 54).1 (TX12 54).2.1 (TX12 54).2.2.1 ∈ GW := GWt6 126 rfl rfl
set_option maxRecDepth 100000 in
theorem t_1327 : Cond.fieldLink RX12 425 (TX12 55).1 (TX12 55).2.1 (TX12 55).2.2.1 ∈ GW := GWt6 127 rfl rfl
set_option maxRecDepth 100000 in
theorem t_1328 : Cond.fieldLink RX12 113 (TX12 56).1 (TX12 56).2.1 (TX12 56).2.2.1 ∈ GW := GWt6 128 rfl rfl
set_option maxRecDepth 100000 in
theorem t_1329 : Cond.fieldLink RX12 116 (TX12 57).1 (TX12 57).2.1 (TX12 57).2.2.1 ∈ GW := GWt6 129 rfl rfl
set_option maxRecDepth 100000 in
theorem t_1330 : Cond.fieldLink RX12 443 (TX12 58).1 (TX12 58).2.1 (TX12 58).2.2.1 ∈ GW := GWt6 130 rfl rfl
set_option maxRecDepth 100000 in
theorem t_1331 : Cond.fieldLink RX12 446 (TX12 59).1 (TX12 59).2.1 (TX12 59).2.2.1 ∈ GW := GWt6 131 rfl rfl
set_option maxRecDepth 100000 in
theorem t_1332 : Cond.fieldLink RX12 449 (TX12 60).1 (TX12 60).2.1 (TX12 60).2.2.1 ∈ GW := GWt6 132 rfl rfl
set_option maxRecDepth 100000 in
theorem t_1333 : Cond.fieldLink RX12 477 (TX12 61).1 (TX12 61).2.1 (TX12 61).2.2.1 ∈ GW := GWt6 133 rfl rfl
set_option maxRecDepth 100000 in
theorem t_1334 : Cond.fieldLink RX12 119 (TX12 62).1 (TX12 62).2.1 (TX12 62).2.2.1 ∈ GW := GWt6 134 rfl rfl
set_option maxRecDepth 100000 in
theorem t_1335 : Cond.fieldLink RX12 122 (TX12 63).1 (TX12 63).2.1 (TX12 63).2.2.1 ∈ GW := GWt6 135 rfl rfl
set_option maxRecDepth 100000 in
theorem t_1336 : Cond.fieldLink RX12 125 (TX12 64).1 (TX12 64).2.1 (TX12 64).2.2.1 ∈ GW := GWt6 136 rfl rfl
set_option maxRecDepth 100000 in
theorem t_1337 : Cond.fieldLink RX12 128 (TX12 65).1 (TX12 65).2.1 (TX12 65).2.2.1 ∈ GW := GWt6 137 rfl rfl
set_option maxRecDepth 100000 in
theorem t_1338 : Cond.fieldLink RX12 131 (TX12 66).1 (TX12 66).2.1 (TX12 66).2.2.1 ∈ GW := GWt6 138 rfl rfl
set_option maxRecDepth 100000 in
theorem t_1339 : Cond.fieldLink RX12 535 (TX12 67).1 (TX12 67).2.1 (TX12 67).2.2.1 ∈ GW := GWt6 139 rfl rfl
set_option maxRecDepth 100000 in
theorem t_1340 : Cond.fieldLink RX12 541 (TX12 68).1 (TX12 68).2.1 (TX12 68).2.2.1 ∈ GW := GWt6 140 rfl rfl
set_option maxRecDepth 100000 in
theorem t_1341 : Cond.fieldLink RX12 134 (TX12 69).1 (TX12 69).2.1 (TX12 69).2.2.1 ∈ GW := GWt6 141 rfl rfl
set_option maxRecDepth 100000 in
theorem t_1342 : Cond.fieldLink RX12 137 (TX12 70).1 (TX12 70).2.1 (TX12 70).2.2.1 ∈ GW := GWt6 142 rfl rfl
set_option maxRecDepth 100000 in
theorem t_1343 : Cond.fieldLink RX12 140 (TX12 71).1 (TX12 71).2.1 (TX12 71).2.2.1 ∈ GW := GWt6 143 rfl rfl
set_option maxRecDepth 100000 in
theorem t_1344 : Cond.fieldLink RX12 143 (TX12 72).1 (TX12 72).2.1 (TX12 72).2.2.1 ∈ GW := GWt6 144 rfl rfl
set_option maxRecDepth 100000 in
theorem t_1345 : Cond.fieldLink RX12 146 (TX12 73).1 (TX12 73).2.1 (TX12 73).2.2.1 ∈ GW := GWt6 145 rfl rfl
set_option maxRecDepth 100000 in
theorem t_1346 : Cond.fieldLink RX12 149 (TX12 74).1 (TX12 74).2.1 (TX12 74).2.2.1 ∈ GW := GWt6 146 rfl rfl
set_option maxRecDepth 100000 in
theorem t_1347 : Cond.fieldLink RX12 152 (TX12 75).1 (TX12 75).2.1 (TX12 75).2.2.1 ∈ GW := GWt6 147 rfl rfl
set_option maxRecDepth 100000 in
theorem t_1348 : Cond.fieldLink RX12 155 (TX12 76).1 (TX12 76).2.1 (TX12 76).2.2.1 ∈ GW := GWt6 148 rfl rfl
set_option maxRecDepth 100000 in
theorem t_1349 : Cond.fieldLink RX12 158 (TX12 77).1 (TX12 77).2.1 (TX12 77).2.2.1 ∈ GW := GWt6 149 rfl rfl
set_option maxRecDepth 100000 in
theorem t_1350 : Cond.fieldLink RX12 544 (TX12 78).1 (TX12 78).2.1 (TX12 78).2.2.1 ∈ GW := GWt6 150 rfl rfl
set_option maxRecDepth 100000 in
theorem t_1351 : Cond.fieldLink RX12 550 (TX12 79).1 (TX12 79).2.1 (TX12 79).2.2.1 ∈ GW := GWt6 151 rfl rfl
set_option maxRecDepth 100000 in
theorem t_1352 : Cond.fieldLink RX12 553 (TX12 80).1 (TX12 80).2.1 (TX12 80).2.2.1 ∈ GW := GWt6 152 rfl rfl
set_option maxRecDepth 100000 in
theorem t_1353 : Cond.fieldLink RX12 161 (TX12 81).1 (TX12 81).2.1 (TX12 81).2.2.1 ∈ GW := GWt6 153 rfl rfl
set_option maxRecDepth 100000 in
theorem t_1354 : Cond.fieldLink RX12 164 (TX12 82).1 (TX12 82).2.1 (TX12 82).2.2.1 ∈ GW := GWt6 154 rfl rfl
set_option maxRecDepth 100000 in
theorem t_1355 : Cond.fieldLink RX12 571 (TX12 83).1 (TX12 83).2.1 (TX12 83).2.2.1 ∈ GW := GWt6 155 rfl rfl
set_option maxRecDepth 100000 in
theorem t_1356 : Cond.fieldLink RX12 574 (TX12 84).1 (TX12 84).2.1 (TX12 84).2.2.1 ∈ GW := GWt6 156 rfl rfl
set_option maxRecDepth 100000 in
theorem t_1357 : Cond.fieldLink RX12 577 (TX12 85).1 (TX12 85).2.1 (TX12 85).2.2.1 ∈ GW := GWt6 157 rfl rfl
set_option maxRecDepth 100000 in
theorem t_1358 : Cond.fieldLink RX12 167 (TX12 86).1 (TX12 86).2.1 (TX12 86).2.2.1 ∈ GW := GWt6 158 rfl rfl
set_option maxRecDepth 100000 in
theorem t_1359 : Cond.fieldLink RX12 170 (TX12 87).1 (TX12 87).2.1 (TX12 87).2.2.1 ∈ GW := GWt6 159 rfl rfl
set_option maxRecDepth 100000 in
theorem t_1360 : Cond.fieldLink RX12 586 (TX12 88).1 (TX12 88).2.1 (TX12 88).2.2.1 ∈ GW := GWt6 160 rfl rfl
set_option maxRecDepth 100000 in
theorem t_1361 : Cond.fieldLink RX12 173 (TX12 89).1 (TX12 89).2.1 (TX12 89).2.2.1 ∈ GW := GWt6 161 rfl rfl
set_option maxRecDepth 100000 in
theorem t_1362 : Cond.fieldLink RX12 176 (TX12 90).1 (TX12 90).2.1 (TX12 90).2.2.1 ∈ GW := GWt6 162 rfl rfl
set_option maxRecDepth 100000 in
theorem t_1363 : Cond.fieldLink RX12 179 (TX12 91).1 (TX12 91).2.1 (TX12 91).2.2.1 ∈ GW := GWt6 163 rfl rfl
set_option maxRecDepth 100000 in
theorem t_1364 : Cond.fieldLink RX12 182 (TX12 92).1 (TX12 92).2.1 (TX12 92).2.2.1 ∈ GW := GWt6 164 rfl rfl
set_option maxRecDepth 100000 in
theorem t_1552 : Cond.arrayClass .boolean ∈ GW := GWt7 112 rfl rfl
set_option maxRecDepth 100000 in
theorem t_1553 : Cond.methodLink RL 17 yX12_family ∈ GW := GWt7 113 rfl rfl
set_option maxRecDepth 100000 in
theorem t_1554 : Cond.instanceMethod yX12_family ∈ GW := GWt7 114 rfl rfl
set_option maxRecDepth 100000 in
theorem t_1555 : Cond.selects RX12 yX12_family yX12_family ∈ GW := GWt7 115 rfl rfl
set_option maxRecDepth 100000 in
theorem t_1556 : Cond.code yX12_family cX12_family 3 (some .boolean) ∈ GW := GWt7 116 rfl rfl
set_option maxRecDepth 100000 in
theorem t_1557 : Cond.methodLink RX12 185 yX12_within ∈ GW := GWt7 117 rfl rfl
set_option maxRecDepth 100000 in
theorem t_1558 : Cond.static yX12_within ∈ GW := GWt7 118 rfl rfl
set_option maxRecDepth 100000 in
theorem t_1559 : Cond.code yX12_within cX12_within 3 (some .boolean) ∈ GW := GWt7 119 rfl rfl
set_option maxRecDepth 100000 in
theorem t_1560 : Cond.methodLink RL 22 yX12_feed ∈ GW := GWt7 120 rfl rfl
set_option maxRecDepth 100000 in
theorem t_1561 : Cond.instanceMethod yX12_feed ∈ GW := GWt7 121 rfl rfl
set_option maxRecDepth 100000 in
theorem t_1562 : Cond.selects RX12 yX12_feed yX12_feed ∈ GW := GWt7 122 rfl rfl
set_option maxRecDepth 100000 in
theorem t_1563 : Cond.code yX12_feed cX12_feed 8 (some .int) ∈ GW := GWt7 123 rfl rfl
set_option maxRecDepth 100000 in
theorem t_1564 : Cond.methodLink RL 27 yX12_deal ∈ GW := GWt7 124 rfl rfl
set_option maxRecDepth 100000 in
theorem t_1565 : Cond.instanceMethod yX12_deal ∈ GW := GWt7 125 rfl rfl
set_option maxRecDepth 100000 in
theorem t_1566 : Cond.selects RX12 yX12_deal yX12_deal ∈ GW := GWt7 126 rfl rfl
set_option maxRecDepth 100000 in
theorem t_1567 : Cond.code yX12_deal cX12_deal 5 (some .int) ∈ GW := GWt7 127 rfl rfl
set_option maxRecDepth 100000 in
theorem t_1568 : Cond.methodLink RX12 335 yX12_beginsText ∈ GW := GWt7 128 rfl rfl
set_option maxRecDepth 100000 in
theorem t_1570 : Cond.instanceMethod yX12_beginsText ∈ GW := GWt7 130 rfl rfl
set_option maxRecDepth 100000 in
theorem t_1571 : Cond.code yX12_beginsText cX12_beginsText 2 (none) ∈ GW := GWt7 131 rfl rfl
set_option maxRecDepth 100000 in
theorem t_1572 : Cond.methodLink RX12 228 yX12_next ∈ GW := GWt7 132 rfl rfl
set_option maxRecDepth 100000 in
theorem t_1574 : Cond.instanceMethod yX12_next ∈ GW := GWt7 134 rfl rfl
set_option maxRecDepth 100000 in
theorem t_1575 : Cond.code yX12_next cX12_next 2 (none) ∈ GW := GWt7 135 rfl rfl
set_option maxRecDepth 100000 in
theorem t_1576 : Cond.methodLink RX12 198 yX12_here ∈ GW := GWt7 136 rfl rfl
set_option maxRecDepth 100000 in
theorem t_1578 : Cond.instanceMethod yX12_here ∈ GW := GWt7 138 rfl rfl
set_option maxRecDepth 100000 in
theorem t_1579 : Cond.code yX12_here cX12_here 1 (some .int) ∈ GW := GWt7 139 rfl rfl
set_option maxRecDepth 100000 in
theorem t_1580 : Cond.constantLong RX12 205 (-1) ∈ GW := GWt7 140 rfl rfl
set_option maxRecDepth 100000 in
theorem t_1581 : Cond.constantLong RX12 217 (27) ∈ GW := GWt7 141 rfl rfl
set_option maxRecDepth 100000 in
theorem t_1582 : Cond.constant RX12 219 (1000000) ∈ GW := GWt7 142 rfl rfl
set_option maxRecDepth 100000 in
theorem t_1583 : Cond.methodLink RX12 339 yX12_kindHere ∈ GW := GWt7 143 rfl rfl
set_option maxRecDepth 100000 in
theorem t_1585 : Cond.instanceMethod yX12_kindHere ∈ GW := GWt7 145 rfl rfl
set_option maxRecDepth 100000 in
theorem t_1586 : Cond.code yX12_kindHere cX12_kindHere 1 (some .int) ∈ GW := GWt7 146 rfl rfl
set_option maxRecDepth 100000 in
theorem t_1587 : Cond.constantLong RX12 256 (316189) ∈ GW := GWt7 147 rfl rfl
set_option maxRecDepth 100000 in
theorem t_1588 : Cond.constantLong RX12 258 (144524) ∈ GW := GWt7 148 rfl rfl
set_option maxRecDepth 100000 in
theorem t_1589 : Cond.constantLong RX12 260 (375035) ∈ GW := GWt7 149 rfl rfl
set_option maxRecDepth 100000 in
theorem t_1590 : Cond.constantLong RX12 262 (164516) ∈ GW := GWt7 150 rfl rfl
set_option maxRecDepth 100000 in
theorem t_1591 : Cond.constantLong RX12 264 (664272) ∈ GW := GWt7 151 rfl rfl
set_option maxRecDepth 100000 in
theorem t_1592 : Cond.constantLong RX12 266 (10815598) ∈ GW := GWt7 152 rfl rfl
set_option maxRecDepth 100000 in
theorem t_1593 : Cond.constantLong RX12 268 (249) ∈ GW := GWt7 153 rfl rfl
set_option maxRecDepth 100000 in
theorem t_1594 : Cond.constantLong RX12 270 (47600141) ∈ GW := GWt7 154 rfl rfl
set_option maxRecDepth 100000 in
theorem t_1595 : Cond.methodLink RX12 231 yX12_errs ∈ GW := GWt7 155 rfl rfl
set_option maxRecDepth 100000 in
theorem t_1597 : Cond.instanceMethod yX12_errs ∈ GW := GWt7 157 rfl rfl
set_option maxRecDepth 100000 in
theorem t_1598 : Cond.code yX12_errs cX12_errs 1 (none) ∈ GW := GWt7 158 rfl rfl
set_option maxRecDepth 100000 in
theorem t_1599 : Cond.methodLink RX12 342 yX12_readLeaf ∈ GW := GWt7 159 rfl rfl
set_option maxRecDepth 100000 in
theorem t_1601 : Cond.instanceMethod yX12_readLeaf ∈ GW := GWt7 161 rfl rfl
set_option maxRecDepth 100000 in
theorem t_1602 : Cond.code yX12_readLeaf cX12_readLeaf 3 (none) ∈ GW := GWt7 162 rfl rfl
set_option maxRecDepth 100000 in
theorem t_1603 : Cond.methodLink RX12 289 yX12_newNode ∈ GW := GWt7 163 rfl rfl
set_option maxRecDepth 100000 in
theorem t_1605 : Cond.instanceMethod yX12_newNode ∈ GW := GWt7 165 rfl rfl
set_option maxRecDepth 100000 in
theorem t_1606 : Cond.code yX12_newNode cX12_newNode 3 (some .int) ∈ GW := GWt7 166 rfl rfl
set_option maxRecDepth 100000 in
theorem t_1607 : Cond.methodLink RX12 293 yX12_hand ∈ GW := GWt7 167 rfl rfl
set_option maxRecDepth 100000 in
theorem t_1609 : Cond.instanceMethod yX12_hand ∈ GW := GWt7 169 rfl rfl
set_option maxRecDepth 100000 in
theorem t_1610 : Cond.code yX12_hand cX12_hand 3 (some .int) ∈ GW := GWt7 170 rfl rfl
set_option maxRecDepth 100000 in
theorem t_1611 : Cond.constantLong RX12 272 (8) ∈ GW := GWt7 171 rfl rfl
set_option maxRecDepth 100000 in
theorem t_1612 : Cond.methodLink RX12 296 yX12_thingOf ∈ GW := GWt7 172 rfl rfl
set_option maxRecDepth 100000 in
theorem t_1614 : Cond.instanceMethod yX12_thingOf ∈ GW := GWt7 174 rfl rfl
set_option maxRecDepth 100000 in
theorem t_1615 : Cond.code yX12_thingOf cX12_thingOf 2 (some .int) ∈ GW := GWt7 175 rfl rfl
set_option maxRecDepth 100000 in
theorem t_1616 : Cond.methodLink RX12 274 yX12_thingHere ∈ GW := GWt7 176 rfl rfl
set_option maxRecDepth 100000 in
theorem t_1618 : Cond.instanceMethod yX12_thingHere ∈ GW := GWt7 178 rfl rfl
set_option maxRecDepth 100000 in
theorem t_1619 : Cond.code yX12_thingHere cX12_thingHere 1 (some .int) ∈ GW := GWt7 179 rfl rfl
set_option maxRecDepth 100000 in
theorem t_1620 : Cond.constantLong RX12 234 (70241) ∈ GW := GWt7 180 rfl rfl
set_option maxRecDepth 100000 in
theorem t_1621 : Cond.constantLong RX12 236 (271517) ∈ GW := GWt7 181 rfl rfl
set_option maxRecDepth 100000 in
theorem t_1622 : Cond.constantLong RX12 238 (1842002) ∈ GW := GWt7 182 rfl rfl
set_option maxRecDepth 100000 in
theorem t_1623 : Cond.constantLong RX12 240 (4562600) ∈ GW := GWt7 183 rfl rfl
set_option maxRecDepth 100000 in
theorem t_1624 : Cond.constantLong RX12 242 (464141) ∈ GW := GWt7 184 rfl rfl
set_option maxRecDepth 100000 in
theorem t_1625 : Cond.constantLong RX12 244 (4075367) ∈ GW := GWt7 185 rfl rfl
set_option maxRecDepth 100000 in
theorem t_1626 : Cond.methodLink RX12 299 yX12_numeral ∈ GW := GWt7 186 rfl rfl
set_option maxRecDepth 100000 in
theorem t_1628 : Cond.instanceMethod yX12_numeral ∈ GW := GWt7 188 rfl rfl
set_option maxRecDepth 100000 in
theorem t_1629 : Cond.code yX12_numeral cX12_numeral 4 (some .int) ∈ GW := GWt7 189 rfl rfl
set_option maxRecDepth 100000 in
theorem t_1630 : Cond.constantLong RX12 303 (4797) ∈ GW := GWt7 190 rfl rfl
set_option maxRecDepth 100000 in
theorem t_1631 : Cond.methodLink RX12 305 yX12_mustBe ∈ GW := GWt7 191 rfl rfl
set_option maxRecDepth 100000 in
theorem t_1633 : Cond.instanceMethod yX12_mustBe ∈ GW := GWt7 193 rfl rfl
set_option maxRecDepth 100000 in
theorem t_1634 : Cond.code yX12_mustBe cX12_mustBe 3 (none) ∈ GW := GWt7 194 rfl rfl
set_option maxRecDepth 100000 in
theorem t_1635 : Cond.methodLink RX12 224 yX12_is ∈ GW := GWt7 195 rfl rfl
set_option maxRecDepth 100000 in
theorem t_1637 : Cond.instanceMethod yX12_is ∈ GW := GWt7 197 rfl rfl
set_option maxRecDepth 100000 in
theorem t_1638 : Cond.code yX12_is cX12_is 3 (some .boolean) ∈ GW := GWt7 198 rfl rfl
set_option maxRecDepth 100000 in
theorem t_1639 : Cond.constantLong RX12 309 (47) ∈ GW := GWt7 199 rfl rfl
set_option maxRecDepth 100000 in
theorem t_1640 : Cond.constantLong RX12 311 (315904) ∈ GW := GWt7 200 rfl rfl
set_option maxRecDepth 100000 in
theorem t_1641 : Cond.constantLong RX12 313 (40187) ∈ GW := GWt7 201 rfl rfl
set_option maxRecDepth 100000 in
theorem t_1642 : Cond.methodLink RX12 345 yX12_closes ∈ GW := GWt7 202 rfl rfl
set_option maxRecDepth 100000 in
theorem t_1644 : Cond.instanceMethod yX12_closes ∈ GW := GWt7 204 rfl rfl
set_option maxRecDepth 100000 in
theorem t_1645 : Cond.code yX12_closes cX12_closes 3 (some .boolean) ∈ GW := GWt7 205 rfl rfl
set_option maxRecDepth 100000 in
theorem t_1646 : Cond.constantLong RX12 328 (107681) ∈ GW := GWt7 206 rfl rfl
set_option maxRecDepth 100000 in
theorem t_1647 : Cond.constantLong RX12 330 (423) ∈ GW := GWt7 207 rfl rfl
set_option maxRecDepth 100000 in
theorem t_1648 : Cond.methodLink RX12 324 yX12_opens ∈ GW := GWt7 208 rfl rfl
set_option maxRecDepth 100000 in
theorem t_1650 : Cond.instanceMethod yX12_opens ∈ GW := GWt7 210 rfl rfl
set_option maxRecDepth 100000 in
theorem t_1651 : Cond.code yX12_opens cX12_opens 3 (none) ∈ GW := GWt7 211 rfl rfl
set_option maxRecDepth 100000 in
theorem t_1652 : Cond.methodLink RX12 349 yX12_readGroup ∈ GW := GWt7 212 rfl rfl
set_option maxRecDepth 100000 in
theorem t_1654 : Cond.instanceMethod yX12_readGroup ∈ GW := GWt7 214 rfl rfl
set_option maxRecDepth 100000 in
theorem t_1655 : Cond.code yX12_readGroup cX12_readGroup 3 (none) ∈ GW := GWt7 215 rfl rfl
set_option maxRecDepth 100000 in
theorem t_1656 : Cond.methodLink RX12 318 yX12_eventHere ∈ GW := GWt7 216 rfl rfl
set_option maxRecDepth 100000 in
theorem t_1658 : Cond.instanceMethod yX12_eventHere ∈ GW := GWt7 218 rfl rfl
set_option maxRecDepth 100000 in
theorem t_1659 : Cond.code yX12_eventHere cX12_eventHere 1 (some .int) ∈ GW := GWt7 219 rfl rfl
set_option maxRecDepth 100000 in
theorem t_1660 : Cond.constantLong RX12 246 (85447) ∈ GW := GWt7 220 rfl rfl
set_option maxRecDepth 100000 in
theorem t_1661 : Cond.constantLong RX12 248 (355280) ∈ GW := GWt7 221 rfl rfl
set_option maxRecDepth 100000 in
theorem t_1662 : Cond.constantLong RX12 250 (16812) ∈ GW := GWt7 222 rfl rfl
set_option maxRecDepth 100000 in
theorem t_1663 : Cond.constantLong RX12 252 (82422) ∈ GW := GWt7 223 rfl rfl
set_option maxRecDepth 100000 in
theorem t_1664 : Cond.constantLong RX12 254 (3436186) ∈ GW := GWt7 224 rfl rfl
set_option maxRecDepth 100000 in
theorem t_1665 : Cond.methodLink RL 41 yX12_fault ∈ GW := GWt7 225 rfl rfl
set_option maxRecDepth 100000 in
theorem t_1666 : Cond.instanceMethod yX12_fault ∈ GW := GWt7 226 rfl rfl
set_option maxRecDepth 100000 in
theorem t_1667 : Cond.selects RX12 yX12_fault yX12_fault ∈ GW := GWt7 227 rfl rfl
set_option maxRecDepth 100000 in
theorem t_1668 : Cond.code yX12_fault cX12_fault 1 (some .int) ∈ GW := GWt7 228 rfl rfl
set_option maxRecDepth 100000 in
theorem t_1669 : Cond.methodLink RL 45 yX12_size ∈ GW := GWt7 229 rfl rfl
set_option maxRecDepth 100000 in
theorem t_1670 : Cond.instanceMethod yX12_size ∈ GW := GWt7 230 rfl rfl
set_option maxRecDepth 100000 in
theorem t_1671 : Cond.selects RX12 yX12_size yX12_size ∈ GW := GWt7 231 rfl rfl
set_option maxRecDepth 100000 in
theorem t_1672 : Cond.code yX12_size cX12_size 5 (some .int) ∈ GW := GWt7 232 rfl rfl
set_option maxRecDepth 100000 in
theorem t_1673 : Cond.methodLink RX12 352 yX12_isDeal ∈ GW := GWt7 233 rfl rfl
set_option maxRecDepth 100000 in
theorem t_1675 : Cond.instanceMethod yX12_isDeal ∈ GW := GWt7 235 rfl rfl
set_option maxRecDepth 100000 in
theorem t_1676 : Cond.code yX12_isDeal cX12_isDeal 2 (some .boolean) ∈ GW := GWt7 236 rfl rfl
set_option maxRecDepth 100000 in
theorem t_1677 : Cond.methodLink RX12 356 yX12_isLeaf ∈ GW := GWt7 237 rfl rfl
set_option maxRecDepth 100000 in
theorem t_1679 : Cond.instanceMethod yX12_isLeaf ∈ GW := GWt7 239 rfl rfl
set_option maxRecDepth 100000 in
theorem t_1680 : Cond.code yX12_isLeaf cX12_isLeaf 2 (some .boolean) ∈ GW := GWt8 0 rfl rfl
set_option maxRecDepth 100000 in
theorem t_1681 : Cond.methodLink RL 50 yX12_leaf ∈ GW := GWt8 1 rfl rfl
set_option maxRecDepth 100000 in
theorem t_1682 : Cond.instanceMethod yX12_leaf ∈ GW := GWt8 2 rfl rfl
set_option maxRecDepth 100000 in
theorem t_1683 : Cond.selects RX12 yX12_leaf yX12_leaf ∈ GW := GWt8 3 rfl rfl
set_option maxRecDepth 100000 in
theorem t_1684 : Cond.code yX12_leaf cX12_leaf 6 (some .int) ∈ GW := GWt8 4 rfl rfl
set_option maxRecDepth 100000 in
theorem t_1685 : Cond.methodLink RX12 359 yX12_told ∈ GW := GWt8 5 rfl rfl
set_option maxRecDepth 100000 in
theorem t_1687 : Cond.instanceMethod yX12_told ∈ GW := GWt8 7 rfl rfl
set_option maxRecDepth 100000 in
theorem t_1688 : Cond.code yX12_told cX12_told 3 (some .int) ∈ GW := GWt8 8 rfl rfl
set_option maxRecDepth 100000 in
theorem t_1689 : Cond.methodLink RX12 362 yX12_later ∈ GW := GWt8 9 rfl rfl
set_option maxRecDepth 100000 in
theorem t_1691 : Cond.instanceMethod yX12_later ∈ GW := GWt8 11 rfl rfl
set_option maxRecDepth 100000 in
theorem t_1692 : Cond.code yX12_later cX12_later 4 (some .int) ∈ GW := GWt8 12 rfl rfl
set_option maxRecDepth 100000 in
theorem t_1693 : Cond.methodLink RL 54 yX12_plain ∈ GW := GWt8 13 rfl rfl
set_option maxRecDepth 100000 in
theorem t_1694 : Cond.instanceMethod yX12_plain ∈ GW := GWt8 14 rfl rfl
set_option maxRecDepth 100000 in
theorem t_1695 : Cond.selects RX12 yX12_plain yX12_plain ∈ GW := GWt8 15 rfl rfl
set_option maxRecDepth 100000 in
theorem t_1696 : Cond.code yX12_plain cX12_plain 6 (some .int) ∈ GW := GWt8 16 rfl rfl
set_option maxRecDepth 100000 in
theorem t_1697 : Cond.methodLink RX12 401 yX12_simplifies ∈ GW := GWt8 17 rfl rfl
set_option maxRecDepth 100000 in
theorem t_1699 : Cond.instanceMethod yX12_simplifies ∈ GW := GWt8 19 rfl rfl
set_option maxRecDepth 100000 in
theorem t_1700 : Cond.code yX12_simplifies cX12_simplifies 7 (none) ∈ GW := GWt8 20 rfl rfl
set_option maxRecDepth 100000 in
theorem t_1701 : Cond.methodLink RX12 391 yX12_partsLeft ∈ GW := GWt8 21 rfl rfl
set_option maxRecDepth 100000 in
theorem t_1703 : Cond.instanceMethod yX12_partsLeft ∈ GW := GWt8 23 rfl rfl
set_option maxRecDepth 100000 in
theorem t_1704 : Cond.code yX12_partsLeft cX12_partsLeft 6 (some .int) ∈ GW := GWt8 24 rfl rfl
set_option maxRecDepth 100000 in
theorem t_1705 : Cond.methodLink RX12 397 yX12_areAlike ∈ GW := GWt8 25 rfl rfl
set_option maxRecDepth 100000 in
theorem t_1707 : Cond.instanceMethod yX12_areAlike ∈ GW := GWt8 27 rfl rfl
set_option maxRecDepth 100000 in
theorem t_1708 : Cond.code yX12_areAlike cX12_areAlike 6 (some .boolean) ∈ GW := GWt8 28 rfl rfl
set_option maxRecDepth 100000 in
theorem t_1709 : Cond.methodLink RX12 387 yX12_laysOut ∈ GW := GWt8 29 rfl rfl
set_option maxRecDepth 100000 in
theorem t_1711 : Cond.instanceMethod yX12_laysOut ∈ GW := GWt8 31 rfl rfl
set_option maxRecDepth 100000 in
theorem t_1712 : Cond.code yX12_laysOut cX12_laysOut 7 (some .int) ∈ GW := GWt8 32 rfl rfl
set_option maxRecDepth 100000 in
theorem t_1713 : Cond.methodLink RX12 380 yX12_closesUp ∈ GW := GWt8 33 rfl rfl
set_option maxRecDepth 100000 in
theorem t_1715 : Cond.instanceMethod yX12_closesUp ∈ GW := GWt8 35 rfl rfl
set_option maxRecDepth 100000 in
theorem t_1716 : Cond.code yX12_closesUp cX12_closesUp 3 (none) ∈ GW := GWt8 36 rfl rfl
set_option maxRecDepth 100000 in
theorem t_1717 : Cond.methodLink RX12 377 yX12_sign ∈ GW := GWt8 37 rfl rfl
set_option maxRecDepth 100000 in
theorem t_1719 : Cond.instanceMethod yX12_sign ∈ GW := GWt8 39 rfl rfl
set_option maxRecDepth 100000 in
theorem t_1720 : Cond.code yX12_sign cX12_sign 3 (none) ∈ GW := GWt8 40 rfl rfl
set_option maxRecDepth 100000 in
theorem t_1721 : Cond.methodLink RX12 383 yX12_partLeft ∈ GW := GWt8 41 rfl rfl
set_option maxRecDepth 100000 in
theorem t_1723 : Cond.instanceMethod yX12_partLeft ∈ GW := GWt8 43 rfl rfl
set_option maxRecDepth 100000 in
theorem t_1724 : Cond.code yX12_partLeft cX12_partLeft 6 (some .int) ∈ GW := GWt8 44 rfl rfl
set_option maxRecDepth 100000 in
theorem t_1725 : Cond.methodLink RL 58 yX12_same ∈ GW := GWt8 45 rfl rfl
set_option maxRecDepth 100000 in
theorem t_1726 : Cond.instanceMethod yX12_same ∈ GW := GWt8 46 rfl rfl
set_option maxRecDepth 100000 in
theorem t_1727 : Cond.selects RX12 yX12_same yX12_same ∈ GW := GWt8 47 rfl rfl
set_option maxRecDepth 100000 in
theorem t_1728 : Cond.code yX12_same cX12_same 7 (some .int) ∈ GW := GWt8 48 rfl rfl
set_option maxRecDepth 100000 in
theorem t_1729 : Cond.methodLink RX12 415 yX12_passes ∈ GW := GWt8 49 rfl rfl
set_option maxRecDepth 100000 in
theorem t_1731 : Cond.instanceMethod yX12_passes ∈ GW := GWt8 51 rfl rfl
set_option maxRecDepth 100000 in
theorem t_1732 : Cond.code yX12_passes cX12_passes 8 (none) ∈ GW := GWt8 52 rfl rfl
set_option maxRecDepth 100000 in
theorem t_1733 : Cond.methodLink RX12 407 yX12_times ∈ GW := GWt8 53 rfl rfl
set_option maxRecDepth 100000 in
theorem t_1735 : Cond.instanceMethod yX12_times ∈ GW := GWt8 55 rfl rfl
set_option maxRecDepth 100000 in
theorem t_1736 : Cond.code yX12_times cX12_times 8 (some .long) ∈ GW := GWt8 56 rfl rfl
set_option maxRecDepth 100000 in
theorem t_1737 : Cond.methodLink RX12 411 yX12_flow ∈ GW := GWt8 57 rfl rfl
set_option maxRecDepth 100000 in
theorem t_1739 : Cond.instanceMethod yX12_flow ∈ GW := GWt8 59 rfl rfl
set_option maxRecDepth 100000 in
theorem t_1740 : Cond.code yX12_flow cX12_flow 7 (none) ∈ GW := GWt8 60 rfl rfl
set_option maxRecDepth 100000 in
theorem t_1741 : Cond.methodLink RX12 419 yX12_among ∈ GW := GWt8 61 rfl rfl
set_option maxRecDepth 100000 in
theorem t_1743 : Cond.instanceMethod yX12_among ∈ GW := GWt8 63 rfl rfl
set_option maxRecDepth 100000 in
theorem t_1744 : Cond.code yX12_among cX12_among 7 (some .long) ∈ GW := GWt8 64 rfl rfl
set_option maxRecDepth 100000 in
theorem t_1745 : Cond.methodLink RL 62 yX12_add ∈ GW := GWt8 65 rfl rfl
set_option maxRecDepth 100000 in
theorem t_1746 : Cond.instanceMethod yX12_add ∈ GW := GWt8 66 rfl rfl
set_option maxRecDepth 100000 in
theorem t_1747 : Cond.selects RX12 yX12_add yX12_add ∈ GW := GWt8 67 rfl rfl
set_option maxRecDepth 100000 in
theorem t_1748 : Cond.code yX12_add cX12_add 3 (some .int) ∈ GW := GWt8 68 rfl rfl
set_option maxRecDepth 100000 in
theorem t_1749 : Cond.methodLink RL 66 yX12_clear ∈ GW := GWt8 69 rfl rfl
set_option maxRecDepth 100000 in
theorem t_1750 : Cond.instanceMethod yX12_clear ∈ GW := GWt8 70 rfl rfl
set_option maxRecDepth 100000 in
theorem t_1751 : Cond.selects RX12 yX12_clear yX12_clear ∈ GW := GWt8 71 rfl rfl
set_option maxRecDepth 100000 in
theorem t_1752 : Cond.code yX12_clear cX12_clear 2 (some .int) ∈ GW := GWt8 72 rfl rfl
set_option maxRecDepth 100000 in
theorem t_1753 : Cond.methodLink RL 71 yX12_passed ∈ GW := GWt8 73 rfl rfl
set_option maxRecDepth 100000 in
theorem t_1754 : Cond.instanceMethod yX12_passed ∈ GW := GWt8 74 rfl rfl
set_option maxRecDepth 100000 in
theorem t_1755 : Cond.selects RX12 yX12_passed yX12_passed ∈ GW := GWt8 75 rfl rfl
set_option maxRecDepth 100000 in
theorem t_1756 : Cond.code yX12_passed cX12_passed 8 (some .long) ∈ GW := GWt8 76 rfl rfl
set_option maxRecDepth 100000 in
theorem t_1757 : Cond.methodLink RX12 452 yX12_bundleAtHand ∈ GW := GWt8 77 rfl rfl
set_option maxRecDepth 100000 in
theorem t_1759 : Cond.instanceMethod yX12_bundleAtHand ∈ GW := GWt8 79 rfl rfl
set_option maxRecDepth 100000 in
theorem t_1760 : Cond.code yX12_bundleAtHand cX12_bundleAtHand 2 (none) ∈ GW := GWt8 80 rfl rfl
set_option maxRecDepth 100000 in
theorem t_1761 : Cond.methodLink RX12 437 yX12_codesAtHand ∈ GW := GWt8 81 rfl rfl
set_option maxRecDepth 100000 in
theorem t_1763 : Cond.instanceMethod yX12_codesAtHand ∈ GW := GWt8 83 rfl rfl
set_option maxRecDepth 100000 in
theorem t_1764 : Cond.code yX12_codesAtHand cX12_codesAtHand 1 (some .int) ∈ GW := GWt8 84 rfl rfl
set_option maxRecDepth 100000 in
theorem t_1765 : Cond.methodLink RX12 434 yX12_choicesAtHand ∈ GW := GWt8 85 rfl rfl
set_option maxRecDepth 100000 in
theorem t_1767 : Cond.instanceMethod yX12_choicesAtHand ∈ GW := GWt8 87 rfl rfl
set_option maxRecDepth 100000 in
theorem t_1768 : Cond.code yX12_choicesAtHand cX12_choicesAtHand 3 (some .int) ∈ GW := GWt8 88 rfl rfl
set_option maxRecDepth 100000 in
theorem t_1769 : Cond.methodLink RX12 455 yX12_rowsOfDeal ∈ GW := GWt8 89 rfl rfl
set_option maxRecDepth 100000 in
theorem t_1771 : Cond.instanceMethod yX12_rowsOfDeal ∈ GW := GWt8 91 rfl rfl
set_option maxRecDepth 100000 in
theorem t_1772 : Cond.code yX12_rowsOfDeal cX12_rowsOfDeal 6 (some .int) ∈ GW := GWt8 92 rfl rfl
set_option maxRecDepth 100000 in
theorem t_1773 : Cond.methodLink RX12 440 yX12_rowsOf ∈ GW := GWt8 93 rfl rfl
set_option maxRecDepth 100000 in
theorem t_1775 : Cond.instanceMethod yX12_rowsOf ∈ GW := GWt8 95 rfl rfl
set_option maxRecDepth 100000 in
theorem t_1776 : Cond.code yX12_rowsOf cX12_rowsOf 2 (some .int) ∈ GW := GWt8 96 rfl rfl
set_option maxRecDepth 100000 in
theorem t_1777 : Cond.methodLink RX12 458 yX12_findRow ∈ GW := GWt8 97 rfl rfl
set_option maxRecDepth 100000 in
theorem t_1779 : Cond.instanceMethod yX12_findRow ∈ GW := GWt8 99 rfl rfl
set_option maxRecDepth 100000 in
theorem t_1780 : Cond.code yX12_findRow cX12_findRow 9 (none) ∈ GW := GWt8 100 rfl rfl
set_option maxRecDepth 100000 in
theorem t_1781 : Cond.methodLink RX12 462 yX12_rowTold ∈ GW := GWt8 101 rfl rfl
set_option maxRecDepth 100000 in
theorem t_1783 : Cond.instanceMethod yX12_rowTold ∈ GW := GWt8 103 rfl rfl
set_option maxRecDepth 100000 in
theorem t_1784 : Cond.code yX12_rowTold cX12_rowTold 5 (some .long) ∈ GW := GWt8 104 rfl rfl
set_option maxRecDepth 100000 in
theorem t_1785 : Cond.methodLink RL 76 yX12_net ∈ GW := GWt8 105 rfl rfl
set_option maxRecDepth 100000 in
theorem t_1786 : Cond.instanceMethod yX12_net ∈ GW := GWt8 106 rfl rfl
set_option maxRecDepth 100000 in
theorem t_1787 : Cond.selects RX12 yX12_net yX12_net ∈ GW := GWt8 107 rfl rfl
set_option maxRecDepth 100000 in
theorem t_1788 : Cond.code yX12_net cX12_net 5 (some .long) ∈ GW := GWt8 108 rfl rfl
set_option maxRecDepth 100000 in
theorem t_1789 : Cond.constantLong RX12 466 (-1000000000000) ∈ GW := GWt8 109 rfl rfl
set_option maxRecDepth 100000 in
theorem t_1790 : Cond.methodLink RX12 468 yX12_passesAll ∈ GW := GWt8 110 rfl rfl
set_option maxRecDepth 100000 in
theorem t_1792 : Cond.instanceMethod yX12_passesAll ∈ GW := GWt8 112 rfl rfl
set_option maxRecDepth 100000 in
theorem t_1793 : Cond.code yX12_passesAll cX12_passesAll 4 (none) ∈ GW := GWt8 113 rfl rfl
set_option maxRecDepth 100000 in
theorem t_1794 : Cond.methodLink RX12 471 yX12_netOf ∈ GW := GWt8 114 rfl rfl
set_option maxRecDepth 100000 in
theorem t_1796 : Cond.instanceMethod yX12_netOf ∈ GW := GWt8 116 rfl rfl
set_option maxRecDepth 100000 in
theorem t_1797 : Cond.code yX12_netOf cX12_netOf 7 (some .long) ∈ GW := GWt8 117 rfl rfl
set_option maxRecDepth 100000 in
theorem t_1798 : Cond.methodLink RL 80 yX12_codes ∈ GW := GWt8 118 rfl rfl
set_option maxRecDepth 100000 in
theorem t_1799 : Cond.instanceMethod yX12_codes ∈ GW := GWt8 119 rfl rfl
set_option maxRecDepth 100000 in
theorem t_1800 : Cond.selects RX12 yX12_codes yX12_codes ∈ GW := GWt8 120 rfl rfl
set_option maxRecDepth 100000 in
theorem t_1801 : Cond.code yX12_codes cX12_codes 1 (some .int) ∈ GW := GWt8 121 rfl rfl
set_option maxRecDepth 100000 in
theorem t_1802 : Cond.methodLink RX12 474 yX12_isLookedAt ∈ GW := GWt8 122 rfl rfl
set_option maxRecDepth 100000 in
theorem t_1804 : Cond.instanceMethod yX12_isLookedAt ∈ GW := GWt8 124 rfl rfl
set_option maxRecDepth 100000 in
theorem t_1805 : Cond.code yX12_isLookedAt cX12_isLookedAt 1 (some .boolean) ∈ GW := GWt8 125 rfl rfl
set_option maxRecDepth 100000 in
theorem t_1806 : Cond.methodLink RX12 428 yX12_eventsAtHand ∈ GW := GWt8 126 rfl rfl
set_option maxRecDepth 100000 in
theorem t_1808 : Cond.instanceMethod yX12_eventsAtHand ∈ GW := GWt8 128 rfl rfl
set_option maxRecDepth 100000 in
theorem t_1809 : Cond.code yX12_eventsAtHand cX12_eventsAtHand 3 (some .int) ∈ GW := GWt8 129 rfl rfl
set_option maxRecDepth 100000 in
theorem t_1810 : Cond.methodLink RX12 431 yX12_bitsOf ∈ GW := GWt8 130 rfl rfl
set_option maxRecDepth 100000 in
theorem t_1811 : Cond.static yX12_bitsOf ∈ GW := GWt8 131 rfl rfl
set_option maxRecDepth 100000 in
theorem t_1812 : Cond.code yX12_bitsOf cX12_bitsOf 3 (some .int) ∈ GW := GWt8 132 rfl rfl
set_option maxRecDepth 100000 in
theorem t_1813 : Cond.methodLink RL 84 yX12_lends ∈ GW := GWt8 133 rfl rfl
set_option maxRecDepth 100000 in
theorem t_1814 : Cond.instanceMethod yX12_lends ∈ GW := GWt8 134 rfl rfl
set_option maxRecDepth 100000 in
theorem t_1815 : Cond.selects RX12 yX12_lends yX12_lends ∈ GW := GWt8 135 rfl rfl
set_option maxRecDepth 100000 in
theorem t_1816 : Cond.code yX12_lends cX12_lends 5 (some .int) ∈ GW := GWt8 136 rfl rfl
set_option maxRecDepth 100000 in
theorem t_1817 : Cond.methodLink RX12 486 yX12_areTwo ∈ GW := GWt8 137 rfl rfl
set_option maxRecDepth 100000 in
theorem t_1818 : Cond.static yX12_areTwo ∈ GW := GWt8 138 rfl rfl
set_option maxRecDepth 100000 in
theorem t_1819 : Cond.code yX12_areTwo cX12_areTwo 2 (some .boolean) ∈ GW := GWt8 139 rfl rfl
set_option maxRecDepth 100000 in
theorem t_1820 : Cond.methodLink RX12 489 yX12_codeFrom ∈ GW := GWt8 140 rfl rfl
set_option maxRecDepth 100000 in
theorem t_1822 : Cond.instanceMethod yX12_codeFrom ∈ GW := GWt8 142 rfl rfl
set_option maxRecDepth 100000 in
theorem t_1823 : Cond.code yX12_codeFrom cX12_codeFrom 4 (some .int) ∈ GW := GWt8 143 rfl rfl
set_option maxRecDepth 100000 in
theorem t_1824 : Cond.methodLink RX12 492 yX12_findLending ∈ GW := GWt8 144 rfl rfl
set_option maxRecDepth 100000 in
theorem t_1826 : Cond.instanceMethod yX12_findLending ∈ GW := GWt8 146 rfl rfl
set_option maxRecDepth 100000 in
theorem t_1827 : Cond.code yX12_findLending cX12_findLending 5 (none) ∈ GW := GWt8 147 rfl rfl
set_option maxRecDepth 100000 in
theorem t_1828 : Cond.methodLink RX12 480 yX12_findDays ∈ GW := GWt8 148 rfl rfl
set_option maxRecDepth 100000 in
theorem t_1830 : Cond.instanceMethod yX12_findDays ∈ GW := GWt8 150 rfl rfl
set_option maxRecDepth 100000 in
theorem t_1831 : Cond.code yX12_findDays cX12_findDays 4 (none) ∈ GW := GWt8 151 rfl rfl
set_option maxRecDepth 100000 in
theorem t_1832 : Cond.methodLink RX12 483 yX12_lendingDay ∈ GW := GWt8 152 rfl rfl
set_option maxRecDepth 100000 in
theorem t_1834 : Cond.instanceMethod yX12_lendingDay ∈ GW := GWt8 154 rfl rfl
set_option maxRecDepth 100000 in
theorem t_1835 : Cond.code yX12_lendingDay cX12_lendingDay 7 (some .int) ∈ GW := GWt8 155 rfl rfl
set_option maxRecDepth 100000 in
theorem t_1836 : Cond.methodLink RL 88 yX12_price ∈ GW := GWt8 156 rfl rfl
set_option maxRecDepth 100000 in
theorem t_1837 : Cond.instanceMethod yX12_price ∈ GW := GWt8 157 rfl rfl
set_option maxRecDepth 100000 in
theorem t_1838 : Cond.selects RX12 yX12_price yX12_price ∈ GW := GWt8 158 rfl rfl
set_option maxRecDepth 100000 in
theorem t_1839 : Cond.code yX12_price cX12_price 14 (some .long) ∈ GW := GWt8 159 rfl rfl
set_option maxRecDepth 100000 in
theorem t_1840 : Cond.methodLink RX12 495 yX12_outOf ∈ GW := GWt8 160 rfl rfl
set_option maxRecDepth 100000 in
theorem t_1842 : Cond.instanceMethod yX12_outOf ∈ GW := GWt8 162 rfl rfl
set_option maxRecDepth 100000 in
theorem t_1843 : Cond.code yX12_outOf cX12_outOf 7 (some .long) ∈ GW := GWt8 163 rfl rfl
set_option maxRecDepth 100000 in
theorem t_1844 : Cond.methodLink RX12 498 yX12_isLess ∈ GW := GWt8 164 rfl rfl
set_option maxRecDepth 100000 in
theorem t_1845 : Cond.static yX12_isLess ∈ GW := GWt8 165 rfl rfl
set_option maxRecDepth 100000 in
theorem t_1846 : Cond.code yX12_isLess cX12_isLess 25 (some .boolean) ∈ GW := GWt8 166 rfl rfl
set_option maxRecDepth 100000 in
theorem t_1847 : Cond.methodLink RX12 502 yX12_divisor ∈ GW := GWt8 167 rfl rfl
set_option maxRecDepth 100000 in
theorem t_1848 : Cond.static yX12_divisor ∈ GW := GWt8 168 rfl rfl
set_option maxRecDepth 100000 in
theorem t_1849 : Cond.code yX12_divisor cX12_divisor 10 (some .long) ∈ GW := GWt8 169 rfl rfl
set_option maxRecDepth 100000 in
theorem t_1850 : Cond.methodLink RL 92 yX12_loan ∈ GW := GWt8 170 rfl rfl
set_option maxRecDepth 100000 in
theorem t_1851 : Cond.instanceMethod yX12_loan ∈ GW := GWt8 171 rfl rfl
set_option maxRecDepth 100000 in
theorem t_1852 : Cond.selects RX12 yX12_loan yX12_loan ∈ GW := GWt8 172 rfl rfl
set_option maxRecDepth 100000 in
theorem t_1853 : Cond.code yX12_loan cX12_loan 1 (some .int) ∈ GW := GWt8 173 rfl rfl
set_option maxRecDepth 100000 in
theorem t_1854 : Cond.methodLink RX12 506 yX12_loanAtHand ∈ GW := GWt8 174 rfl rfl
set_option maxRecDepth 100000 in
theorem t_1856 : Cond.instanceMethod yX12_loanAtHand ∈ GW := GWt8 176 rfl rfl
set_option maxRecDepth 100000 in
theorem t_1857 : Cond.code yX12_loanAtHand cX12_loanAtHand 4 (some .int) ∈ GW := GWt8 177 rfl rfl
set_option maxRecDepth 100000 in
theorem t_1858 : Cond.methodLink RL 97 yX12_step ∈ GW := GWt8 178 rfl rfl
set_option maxRecDepth 100000 in
theorem t_1859 : Cond.instanceMethod yX12_step ∈ GW := GWt8 179 rfl rfl
set_option maxRecDepth 100000 in
theorem t_1860 : Cond.selects RX12 yX12_step yX12_step ∈ GW := GWt8 180 rfl rfl
set_option maxRecDepth 100000 in
theorem t_1861 : Cond.code yX12_step cX12_step 7 (some .long) ∈ GW := GWt8 181 rfl rfl
set_option maxRecDepth 100000 in
theorem t_1862 : Cond.methodLink RL 102 yX12_bears ∈ GW := GWt8 182 rfl rfl
set_option maxRecDepth 100000 in
theorem t_1863 : Cond.instanceMethod yX12_bears ∈ GW := GWt8 183 rfl rfl
set_option maxRecDepth 100000 in
theorem t_1864 : Cond.selects RX12 yX12_bears yX12_bears ∈ GW := GWt8 184 rfl rfl
set_option maxRecDepth 100000 in
theorem t_1865 : Cond.code yX12_bears cX12_bears 5 (some .long) ∈ GW := GWt8 185 rfl rfl
set_option maxRecDepth 100000 in
theorem t_1866 : Cond.methodLink RL 106 yX12_cost ∈ GW := GWt8 186 rfl rfl
set_option maxRecDepth 100000 in
theorem t_1867 : Cond.instanceMethod yX12_cost ∈ GW := GWt8 187 rfl rfl
set_option maxRecDepth 100000 in
theorem t_1868 : Cond.selects RX12 yX12_cost yX12_cost ∈ GW := GWt8 188 rfl rfl
set_option maxRecDepth 100000 in
theorem t_1869 : Cond.code yX12_cost cX12_cost 12 (some .long) ∈ GW := GWt8 189 rfl rfl
set_option maxRecDepth 100000 in
theorem t_1870 : Cond.methodLink RL 32 yX12_law ∈ GW := GWt8 190 rfl rfl
set_option maxRecDepth 100000 in
theorem t_1871 : Cond.instanceMethod yX12_law ∈ GW := GWt8 191 rfl rfl
set_option maxRecDepth 100000 in
theorem t_1872 : Cond.selects RX12 yX12_law yX12_law ∈ GW := GWt8 192 rfl rfl
set_option maxRecDepth 100000 in
theorem t_1873 : Cond.code yX12_law cX12_law 3 (some .int) ∈ GW := GWt8 193 rfl rfl
set_option maxRecDepth 100000 in
theorem t_1874 : Cond.methodLink RX12 538 yX12_readBars ∈ GW := GWt8 194 rfl rfl
set_option maxRecDepth 100000 in
theorem t_1876 : Cond.instanceMethod yX12_readBars ∈ GW := GWt8 196 rfl rfl
set_option maxRecDepth 100000 in
theorem t_1877 : Cond.code yX12_readBars cX12_readBars 4 (some .int) ∈ GW := GWt8 197 rfl rfl
set_option maxRecDepth 100000 in
theorem t_1878 : Cond.methodLink RX12 532 yX12_readBar ∈ GW := GWt8 198 rfl rfl
set_option maxRecDepth 100000 in
theorem t_1880 : Cond.instanceMethod yX12_readBar ∈ GW := GWt8 200 rfl rfl
set_option maxRecDepth 100000 in
theorem t_1881 : Cond.code yX12_readBar cX12_readBar 2 (none) ∈ GW := GWt8 201 rfl rfl
set_option maxRecDepth 100000 in
theorem t_1882 : Cond.constantLong RX12 517 (1503) ∈ GW := GWt8 202 rfl rfl
set_option maxRecDepth 100000 in
theorem t_1883 : Cond.methodLink RX12 519 yX12_formHere ∈ GW := GWt8 203 rfl rfl
set_option maxRecDepth 100000 in
theorem t_1885 : Cond.instanceMethod yX12_formHere ∈ GW := GWt8 205 rfl rfl
set_option maxRecDepth 100000 in
theorem t_1886 : Cond.code yX12_formHere cX12_formHere 3 (some .int) ∈ GW := GWt8 206 rfl rfl
set_option maxRecDepth 100000 in
theorem t_1887 : Cond.constantLong RX12 509 (1132) ∈ GW := GWt8 207 rfl rfl
set_option maxRecDepth 100000 in
theorem t_1888 : Cond.methodLink RX12 522 yX12_ofHere ∈ GW := GWt8 208 rfl rfl
set_option maxRecDepth 100000 in
theorem t_1890 : Cond.instanceMethod yX12_ofHere ∈ GW := GWt8 210 rfl rfl
set_option maxRecDepth 100000 in
theorem t_1891 : Cond.code yX12_ofHere cX12_ofHere 1 (some .int) ∈ GW := GWt8 211 rfl rfl
set_option maxRecDepth 100000 in
theorem t_1892 : Cond.constantLong RX12 511 (411) ∈ GW := GWt8 212 rfl rfl
set_option maxRecDepth 100000 in
theorem t_1893 : Cond.constantLong RX12 525 (399641) ∈ GW := GWt8 213 rfl rfl
set_option maxRecDepth 100000 in
theorem t_1894 : Cond.methodLink RX12 527 yX12_askedHere ∈ GW := GWt8 214 rfl rfl
set_option maxRecDepth 100000 in
theorem t_1896 : Cond.instanceMethod yX12_askedHere ∈ GW := GWt8 216 rfl rfl
set_option maxRecDepth 100000 in
theorem t_1897 : Cond.code yX12_askedHere cX12_askedHere 1 (some .int) ∈ GW := GWt8 217 rfl rfl
set_option maxRecDepth 100000 in
theorem t_1898 : Cond.constantLong RX12 513 (375062) ∈ GW := GWt8 218 rfl rfl
set_option maxRecDepth 100000 in
theorem t_1899 : Cond.constantLong RX12 515 (267305) ∈ GW := GWt8 219 rfl rfl
set_option maxRecDepth 100000 in
theorem t_1900 : Cond.constantLong RX12 530 (335207579) ∈ GW := GWt8 220 rfl rfl
set_option maxRecDepth 100000 in
theorem t_1901 : Cond.methodLink RL 36 yX12_word ∈ GW := GWt8 221 rfl rfl
set_option maxRecDepth 100000 in
theorem t_1902 : Cond.instanceMethod yX12_word ∈ GW := GWt8 222 rfl rfl
set_option maxRecDepth 100000 in
theorem t_1903 : Cond.selects RX12 yX12_word yX12_word ∈ GW := GWt8 223 rfl rfl
set_option maxRecDepth 100000 in
theorem t_1904 : Cond.code yX12_word cX12_word 3 (some .int) ∈ GW := GWt8 224 rfl rfl
set_option maxRecDepth 100000 in
theorem t_1905 : Cond.methodLink RL 110 yX12_breach ∈ GW := GWt8 225 rfl rfl
set_option maxRecDepth 100000 in
theorem t_1906 : Cond.instanceMethod yX12_breach ∈ GW := GWt8 226 rfl rfl
set_option maxRecDepth 100000 in
theorem t_1907 : Cond.selects RX12 yX12_breach yX12_breach ∈ GW := GWt8 227 rfl rfl
set_option maxRecDepth 100000 in
theorem t_1908 : Cond.code yX12_breach cX12_breach 3 (some .int) ∈ GW := GWt8 228 rfl rfl
set_option maxRecDepth 100000 in
theorem t_1909 : Cond.methodLink RX12 565 yX12_breachNow ∈ GW := GWt8 229 rfl rfl
set_option maxRecDepth 100000 in
theorem t_1911 : Cond.instanceMethod yX12_breachNow ∈ GW := GWt8 231 rfl rfl
set_option maxRecDepth 100000 in
theorem t_1912 : Cond.code yX12_breachNow cX12_breachNow 3 (some .int) ∈ GW := GWt8 232 rfl rfl
set_option maxRecDepth 100000 in
theorem t_1913 : Cond.methodLink RX12 559 yX12_findLeaves ∈ GW := GWt8 233 rfl rfl
set_option maxRecDepth 100000 in
theorem t_1915 : Cond.instanceMethod yX12_findLeaves ∈ GW := GWt8 235 rfl rfl
set_option maxRecDepth 100000 in
theorem t_1916 : Cond.code yX12_findLeaves cX12_findLeaves 3 (none) ∈ GW := GWt8 236 rfl rfl
set_option maxRecDepth 100000 in
theorem t_1917 : Cond.methodLink RX12 562 yX12_doesBar ∈ GW := GWt8 237 rfl rfl
set_option maxRecDepth 100000 in
theorem t_1919 : Cond.instanceMethod yX12_doesBar ∈ GW := GWt8 239 rfl rfl
set_option maxRecDepth 100000 in
theorem t_1920 : Cond.code yX12_doesBar cX12_doesBar 4 (some .boolean) ∈ GW := GWt9 0 rfl rfl
set_option maxRecDepth 100000 in
theorem t_1921 : Cond.methodLink RX12 547 yX12_isOf ∈ GW := GWt9 1 rfl rfl
set_option maxRecDepth 100000 in
theorem t_1923 : Cond.instanceMethod yX12_isOf ∈ GW := GWt9 3 rfl rfl
set_option maxRecDepth 100000 in
theorem t_1924 : Cond.code yX12_isOf cX12_isOf 5 (some .boolean) ∈ GW := GWt9 4 rfl rfl
set_option maxRecDepth 100000 in
theorem t_1925 : Cond.methodLink RX12 556 yX12_isPair ∈ GW := GWt9 5 rfl rfl
set_option maxRecDepth 100000 in
theorem t_1927 : Cond.instanceMethod yX12_isPair ∈ GW := GWt9 7 rfl rfl
set_option maxRecDepth 100000 in
theorem t_1928 : Cond.code yX12_isPair cX12_isPair 7 (some .boolean) ∈ GW := GWt9 8 rfl rfl
set_option maxRecDepth 100000 in
theorem t_1929 : Cond.methodLink RL 114 yX12_bars ∈ GW := GWt9 9 rfl rfl
set_option maxRecDepth 100000 in
theorem t_1930 : Cond.instanceMethod yX12_bars ∈ GW := GWt9 10 rfl rfl
set_option maxRecDepth 100000 in
theorem t_1931 : Cond.selects RX12 yX12_bars yX12_bars ∈ GW := GWt9 11 rfl rfl
set_option maxRecDepth 100000 in
theorem t_1932 : Cond.code yX12_bars cX12_bars 2 (some .int) ∈ GW := GWt9 12 rfl rfl
set_option maxRecDepth 100000 in
theorem t_1933 : Cond.methodLink RX12 568 yX12_doesWordBar ∈ GW := GWt9 13 rfl rfl
set_option maxRecDepth 100000 in
theorem t_1935 : Cond.instanceMethod yX12_doesWordBar ∈ GW := GWt9 15 rfl rfl
set_option maxRecDepth 100000 in
theorem t_1936 : Cond.code yX12_doesWordBar cX12_doesWordBar 3 (some .boolean) ∈ GW := GWt9 16 rfl rfl
set_option maxRecDepth 100000 in
theorem t_1937 : Cond.methodLink RL 118 yX12_offer ∈ GW := GWt9 17 rfl rfl
set_option maxRecDepth 100000 in
theorem t_1938 : Cond.instanceMethod yX12_offer ∈ GW := GWt9 18 rfl rfl
set_option maxRecDepth 100000 in
theorem t_1939 : Cond.selects RX12 yX12_offer yX12_offer ∈ GW := GWt9 19 rfl rfl
set_option maxRecDepth 100000 in
theorem t_1940 : Cond.code yX12_offer cX12_offer 3 (some .int) ∈ GW := GWt9 20 rfl rfl
set_option maxRecDepth 100000 in
theorem t_1941 : Cond.methodLink RL 122 yX12_sly ∈ GW := GWt9 21 rfl rfl
set_option maxRecDepth 100000 in
theorem t_1942 : Cond.instanceMethod yX12_sly ∈ GW := GWt9 22 rfl rfl
set_option maxRecDepth 100000 in
theorem t_1943 : Cond.selects RX12 yX12_sly yX12_sly ∈ GW := GWt9 23 rfl rfl
set_option maxRecDepth 100000 in
theorem t_1944 : Cond.code yX12_sly cX12_sly 3 (some .int) ∈ GW := GWt9 24 rfl rfl
set_option maxRecDepth 100000 in
theorem t_1945 : Cond.methodLink RX12 583 yX12_findSly ∈ GW := GWt9 25 rfl rfl
set_option maxRecDepth 100000 in
theorem t_1947 : Cond.instanceMethod yX12_findSly ∈ GW := GWt9 27 rfl rfl
set_option maxRecDepth 100000 in
theorem t_1948 : Cond.code yX12_findSly cX12_findSly 4 (none) ∈ GW := GWt9 28 rfl rfl
set_option maxRecDepth 100000 in
theorem t_1949 : Cond.methodLink RX12 580 yX12_wordsThatBar ∈ GW := GWt9 29 rfl rfl
set_option maxRecDepth 100000 in
theorem t_1951 : Cond.instanceMethod yX12_wordsThatBar ∈ GW := GWt9 31 rfl rfl
set_option maxRecDepth 100000 in
theorem t_1952 : Cond.code yX12_wordsThatBar cX12_wordsThatBar 3 (some .int) ∈ GW := GWt9 32 rfl rfl
set_option maxRecDepth 100000 in
theorem t_1953 : Cond.methodLink RL 126 yX12_honest ∈ GW := GWt9 33 rfl rfl
set_option maxRecDepth 100000 in
theorem t_1954 : Cond.instanceMethod yX12_honest ∈ GW := GWt9 34 rfl rfl
set_option maxRecDepth 100000 in
theorem t_1955 : Cond.selects RX12 yX12_honest yX12_honest ∈ GW := GWt9 35 rfl rfl
set_option maxRecDepth 100000 in
theorem t_1956 : Cond.code yX12_honest cX12_honest 2 (some .int) ∈ GW := GWt9 36 rfl rfl
set_option maxRecDepth 100000 in
theorem t_1957 : Cond.methodLink RL 130 yX12_innocent ∈ GW := GWt9 37 rfl rfl
set_option maxRecDepth 100000 in
theorem t_1958 : Cond.instanceMethod yX12_innocent ∈ GW := GWt9 38 rfl rfl
set_option maxRecDepth 100000 in
theorem t_1959 : Cond.selects RX12 yX12_innocent yX12_innocent ∈ GW := GWt9 39 rfl rfl
set_option maxRecDepth 100000 in
theorem t_1960 : Cond.code yX12_innocent cX12_innocent 3 (some .int) ∈ GW := GWt9 40 rfl rfl
set_option maxRecDepth 100000 in
theorem t_1961 : Cond.methodLink RX12 589 yX12_honestAtHand ∈ GW := GWt9 41 rfl rfl
set_option maxRecDepth 100000 in
theorem t_1963 : Cond.instanceMethod yX12_honestAtHand ∈ GW := GWt9 43 rfl rfl
set_option maxRecDepth 100000 in
theorem t_1964 : Cond.code yX12_honestAtHand cX12_honestAtHand 3 (none) ∈ GW := GWt9 44 rfl rfl
set_option maxRecDepth 100000 in
theorem t_1965 : Cond.methodLink RL 134 yX12_parts ∈ GW := GWt9 45 rfl rfl
set_option maxRecDepth 100000 in
theorem t_1966 : Cond.instanceMethod yX12_parts ∈ GW := GWt9 46 rfl rfl
set_option maxRecDepth 100000 in
theorem t_1967 : Cond.selects RX12 yX12_parts yX12_parts ∈ GW := GWt9 47 rfl rfl
set_option maxRecDepth 100000 in
theorem t_1968 : Cond.code yX12_parts cX12_parts 4 (some .int) ∈ GW := GWt9 48 rfl rfl
set_option maxRecDepth 100000 in
theorem t_1969 : Cond.methodLink RX12 592 yX12_doPart ∈ GW := GWt9 49 rfl rfl
set_option maxRecDepth 100000 in
theorem t_1971 : Cond.instanceMethod yX12_doPart ∈ GW := GWt9 51 rfl rfl
set_option maxRecDepth 100000 in
theorem t_1972 : Cond.code yX12_doPart cX12_doPart 5 (some .boolean) ∈ GW := GWt9 52 rfl rfl
set_option maxRecDepth 100000 in
theorem t_1973 : Cond.methodLink RL 138 yX12_stop ∈ GW := GWt9 53 rfl rfl
set_option maxRecDepth 100000 in
theorem t_1974 : Cond.instanceMethod yX12_stop ∈ GW := GWt9 54 rfl rfl
set_option maxRecDepth 100000 in
theorem t_1975 : Cond.selects RX12 yX12_stop yX12_stop ∈ GW := GWt9 55 rfl rfl
set_option maxRecDepth 100000 in
theorem t_1976 : Cond.code yX12_stop cX12_stop 7 (some .int) ∈ GW := GWt9 56 rfl rfl
set_option maxRecDepth 100000 in
theorem t_1977 : Cond.methodLink RL 142 yX12_heap ∈ GW := GWt9 57 rfl rfl
set_option maxRecDepth 100000 in
theorem t_1978 : Cond.instanceMethod yX12_heap ∈ GW := GWt9 58 rfl rfl
set_option maxRecDepth 100000 in
theorem t_1979 : Cond.selects RX12 yX12_heap yX12_heap ∈ GW := GWt9 59 rfl rfl
set_option maxRecDepth 100000 in
theorem t_1980 : Cond.code yX12_heap cX12_heap 5 (some .int) ∈ GW := GWt9 60 rfl rfl
set_option maxRecDepth 100000 in
theorem t_1981 : Cond.methodLink RX12 601 yX12_findGroups ∈ GW := GWt9 61 rfl rfl
set_option maxRecDepth 100000 in
theorem t_1983 : Cond.instanceMethod yX12_findGroups ∈ GW := GWt9 63 rfl rfl
set_option maxRecDepth 100000 in
theorem t_1984 : Cond.code yX12_findGroups cX12_findGroups 5 (none) ∈ GW := GWt9 64 rfl rfl
set_option maxRecDepth 100000 in
theorem t_1985 : Cond.methodLink RX12 598 yX12_doHang ∈ GW := GWt9 65 rfl rfl
set_option maxRecDepth 100000 in
theorem t_1987 : Cond.instanceMethod yX12_doHang ∈ GW := GWt9 67 rfl rfl
set_option maxRecDepth 100000 in
theorem t_1988 : Cond.code yX12_doHang cX12_doHang 5 (some .boolean) ∈ GW := GWt9 68 rfl rfl
set_option maxRecDepth 100000 in
theorem t_1989 : Cond.methodLink RX12 595 yX12_size ∈ GW := GWt9 69 rfl rfl
set_option maxRecDepth 100000 in
theorem t_1990 : Cond.methodLink RL 146 yX12_group ∈ GW := GWt9 70 rfl rfl
set_option maxRecDepth 100000 in
theorem t_1991 : Cond.instanceMethod yX12_group ∈ GW := GWt9 71 rfl rfl
set_option maxRecDepth 100000 in
theorem t_1992 : Cond.selects RX12 yX12_group yX12_group ∈ GW := GWt9 72 rfl rfl
set_option maxRecDepth 100000 in
theorem t_1993 : Cond.code yX12_group cX12_group 4 (some .int) ∈ GW := GWt9 73 rfl rfl
set_option maxRecDepth 100000 in
theorem t_1994 : Cond.methodLink RL 150 yX12_count ∈ GW := GWt9 74 rfl rfl
set_option maxRecDepth 100000 in
theorem t_1995 : Cond.instanceMethod yX12_count ∈ GW := GWt9 75 rfl rfl
set_option maxRecDepth 100000 in
theorem t_1996 : Cond.selects RX12 yX12_count yX12_count ∈ GW := GWt9 76 rfl rfl
set_option maxRecDepth 100000 in
theorem t_1997 : Cond.code yX12_count cX12_count 2 (some .int) ∈ GW := GWt9 77 rfl rfl
set_option maxRecDepth 100000 in
theorem t_1998 : Cond.methodLink RX12 604 yX12_leavesTold ∈ GW := GWt9 78 rfl rfl
set_option maxRecDepth 100000 in
theorem t_2000 : Cond.instanceMethod yX12_leavesTold ∈ GW := GWt9 80 rfl rfl
set_option maxRecDepth 100000 in
theorem t_2001 : Cond.code yX12_leavesTold cX12_leavesTold 3 (some .int) ∈ GW := GWt9 81 rfl rfl
set_option maxRecDepth 100000 in
theorem t_2002 : Cond.methodLink RX12 607 yX12_choicesTold ∈ GW := GWt9 82 rfl rfl
set_option maxRecDepth 100000 in
theorem t_2004 : Cond.instanceMethod yX12_choicesTold ∈ GW := GWt9 84 rfl rfl
set_option maxRecDepth 100000 in
theorem t_2005 : Cond.code yX12_choicesTold cX12_choicesTold 3 (some .int) ∈ GW := GWt9 85 rfl rfl
set_option maxRecDepth 100000 in
theorem t_2006 : Cond.fieldLink RJ0 9 "java/lang/String" "value" "[B" ∈ GW := GWt9 86 rfl rfl
set_option maxRecDepth 100000 in
theorem t_2007 : Cond.fieldLink RJ0 15 "java/lang/String" "coder" "B" ∈ GW := GWt9 87 rfl rfl
theorem ts_0 : Cond.selects RX11 yX11_refusalOf yX11_refusalOf ∈ GW := GWp1 0 (q := (yX11_refusalOf, 18)) rfl
theorem ts_1 : Cond.selects RX2 yX2_readAll yX2_readAll ∈ GW := GWp1 1 (q := (yX2_readAll, 8)) rfl
theorem ts_2 : Cond.selects RX2 yX2_readPart yX2_readPart ∈ GW := GWp1 2 (q := (yX2_readPart, 8)) rfl
theorem ts_3 : Cond.selects RX2 yX2_readLeaf yX2_readLeaf ∈ GW := GWp1 3 (q := (yX2_readLeaf, 8)) rfl
theorem ts_4 : Cond.selects RX2 yX2_readTwo yX2_readTwo ∈ GW := GWp1 4 (q := (yX2_readTwo, 8)) rfl
theorem ts_5 : Cond.selects RX2 yX2_readSo yX2_readSo ∈ GW := GWp1 5 (q := (yX2_readSo, 8)) rfl
theorem ts_6 : Cond.selects RX2 yX2_readPay yX2_readPay ∈ GW := GWp1 6 (q := (yX2_readPay, 8)) rfl
theorem ts_7 : Cond.selects RX2 yX2_readDays yX2_readDays ∈ GW := GWp1 7 (q := (yX2_readDays, 8)) rfl
theorem ts_8 : Cond.selects RX8 yX8_hasRoom yX8_hasRoom ∈ GW := GWp1 8 (q := (yX8_hasRoom, 3)) rfl
theorem ts_9 : Cond.selects RX1 yX1_putRow yX1_putRow ∈ GW := GWp1 9 (q := (yX1_putRow, 13)) rfl
theorem ts_10 : Cond.selects RX2 yX2_readAfter yX2_readAfter ∈ GW := GWp1 10 (q := (yX2_readAfter, 8)) rfl
theorem ts_11 : Cond.selects RX2 yX2_readBlock yX2_readBlock ∈ GW := GWp1 11 (q := (yX2_readBlock, 8)) rfl
theorem ts_12 : Cond.selects RX8 yX8_isBegun yX8_isBegun ∈ GW := GWp1 12 (q := (yX8_isBegun, 3)) rfl
theorem ts_13 : Cond.selects RX8 yX8_lift yX8_lift ∈ GW := GWp1 13 (q := (yX8_lift, 3)) rfl
theorem ts_14 : Cond.selects RX8 yX8_isJustAfter yX8_isJustAfter ∈ GW := GWp1 14 (q := (yX8_isJustAfter, 3)) rfl
theorem ts_15 : Cond.selects RX2 yX2_readTimes yX2_readTimes ∈ GW := GWp1 15 (q := (yX2_readTimes, 8)) rfl
theorem ts_16 : Cond.selects RX2 yX2_readIf yX2_readIf ∈ GW := GWp2 0 (q := (yX2_readIf, 8)) rfl
theorem ts_17 : Cond.selects RX2 yX2_readBranches yX2_readBranches ∈ GW := GWp2 1 (q := (yX2_readBranches, 8)) rfl
theorem ts_18 : Cond.selects RX2 yX2_readBranch yX2_readBranch ∈ GW := GWp2 2 (q := (yX2_readBranch, 8)) rfl
theorem ts_19 : Cond.selects RX8 yX8_isAlike yX8_isAlike ∈ GW := GWp2 3 (q := (yX8_isAlike, 3)) rfl
theorem ts_20 : Cond.selects RX2 yX2_readChoice yX2_readChoice ∈ GW := GWp2 4 (q := (yX2_readChoice, 8)) rfl
theorem ts_21 : Cond.selects RX11 yX11_closeText yX11_closeText ∈ GW := GWp2 5 (q := (yX11_closeText, 18)) rfl
theorem ts_22 : Cond.selects RX11 yX11_tellRules yX11_tellRules ∈ GW := GWp2 6 (q := (yX11_tellRules, 18)) rfl
theorem ts_23 : Cond.selects RX6 yX6_readStatement yX6_readStatement ∈ GW := GWp2 7 (q := (yX6_readStatement, 2)) rfl
theorem ts_24 : Cond.selects RX6 yX6_readForm yX6_readForm ∈ GW := GWp2 8 (q := (yX6_readForm, 2)) rfl
theorem ts_25 : Cond.selects RX6 yX6_readTies yX6_readTies ∈ GW := GWp2 9 (q := (yX6_readTies, 2)) rfl
theorem ts_26 : Cond.selects RX6 yX6_readWithin yX6_readWithin ∈ GW := GWp2 10 (q := (yX6_readWithin, 2)) rfl
theorem ts_27 : Cond.selects RX4 yX4_giveSlots yX4_giveSlots ∈ GW := GWp2 11 (q := (yX4_giveSlots, 7)) rfl
theorem ts_28 : Cond.selects RX4 yX4_pour yX4_pour ∈ GW := GWp2 12 (q := (yX4_pour, 7)) rfl
theorem ts_29 : Cond.selects RX4 yX4_isLevel yX4_isLevel ∈ GW := GWp2 13 (q := (yX4_isLevel, 7)) rfl
theorem ts_30 : Cond.selects RX5 yX5_shareOf yX5_shareOf ∈ GW := GWp2 14 (q := (yX5_shareOf, 20)) rfl
theorem ts_31 : Cond.selects RX5 yX5_earliestHead yX5_earliestHead ∈ GW := GWp2 15 (q := (yX5_earliestHead, 20)) rfl
theorem ts_32 : Cond.selects RX5 yX5_putEntry yX5_putEntry ∈ GW := GWp3 0 (q := (yX5_putEntry, 20)) rfl
theorem ts_33 : Cond.selects RX5 yX5_endDay yX5_endDay ∈ GW := GWp3 1 (q := (yX5_endDay, 20)) rfl
theorem ts_34 : Cond.selects RX5 yX5_book yX5_book ∈ GW := GWp3 2 (q := (yX5_book, 20)) rfl
theorem ts_35 : Cond.selects RX5 yX5_findUneven yX5_findUneven ∈ GW := GWp3 3 (q := (yX5_findUneven, 20)) rfl
theorem ts_36 : Cond.selects RX9 yX9_noteLender yX9_noteLender ∈ GW := GWp3 4 (q := (yX9_noteLender, 5)) rfl
theorem ts_37 : Cond.selects RX9 yX9_notePrice yX9_notePrice ∈ GW := GWp3 5 (q := (yX9_notePrice, 5)) rfl
theorem ts_38 : Cond.selects RX9 yX9_leastPair yX9_leastPair ∈ GW := GWp3 6 (q := (yX9_leastPair, 5)) rfl
theorem ts_39 : Cond.selects RX11 yX11_lawInForce yX11_lawInForce ∈ GW := GWp3 7 (q := (yX11_lawInForce, 18)) rfl
theorem ts_40 : Cond.selects RX3 yX3_hearAlso yX3_hearAlso ∈ GW := GWp3 8 (q := (yX3_hearAlso, 5)) rfl
theorem ts_41 : Cond.selects RX3 yX3_findLeaves yX3_findLeaves ∈ GW := GWp3 9 (q := (yX3_findLeaves, 5)) rfl
theorem ts_42 : Cond.selects RX3 yX3_isOf yX3_isOf ∈ GW := GWp3 10 (q := (yX3_isOf, 5)) rfl
theorem ts_43 : Cond.selects RX3 yX3_findSecond yX3_findSecond ∈ GW := GWp3 11 (q := (yX3_findSecond, 5)) rfl
theorem ts_44 : Cond.selects RX3 yX3_isLater yX3_isLater ∈ GW := GWp3 12 (q := (yX3_isLater, 5)) rfl
theorem ts_45 : Cond.selects RX3 yX3_isTied yX3_isTied ∈ GW := GWp3 13 (q := (yX3_isTied, 5)) rfl
theorem ts_46 : Cond.selects RX7 yX7_findBarred yX7_findBarred ∈ GW := GWp3 14 (q := (yX7_findBarred, 15)) rfl
theorem ts_47 : Cond.selects RX7 yX7_grow yX7_grow ∈ GW := GWp3 15 (q := (yX7_grow, 15)) rfl
theorem ts_48 : Cond.selects RX7 yX7_mayLend yX7_mayLend ∈ GW := GWp4 0 (q := (yX7_mayLend, 15)) rfl
theorem ts_49 : Cond.selects RX7 yX7_isLoan yX7_isLoan ∈ GW := GWp4 1 (q := (yX7_isLoan, 15)) rfl
theorem ts_50 : Cond.selects RX11 yX11_isLet yX11_isLet ∈ GW := GWp4 2 (q := (yX11_isLet, 18)) rfl
theorem ts_51 : Cond.selects RX11 yX11_sparesHonest yX11_sparesHonest ∈ GW := GWp4 3 (q := (yX11_sparesHonest, 18)) rfl
theorem ts_52 : Cond.selects RX7 yX7_wordsThatBar yX7_wordsThatBar ∈ GW := GWp4 4 (q := (yX7_wordsThatBar, 15)) rfl
theorem ts_53 : Cond.selects RX7 yX7_putNeed yX7_putNeed ∈ GW := GWp4 5 (q := (yX7_putNeed, 15)) rfl
theorem ts_54 : Cond.selects RX7 yX7_meetsNeeds yX7_meetsNeeds ∈ GW := GWp4 6 (q := (yX7_meetsNeeds, 15)) rfl
theorem ts_55 : Cond.selects RX4 yX4_hangTogether yX4_hangTogether ∈ GW := GWp4 7 (q := (yX4_hangTogether, 7)) rfl
theorem ts_56 : Cond.selects RX4 yX4_join yX4_join ∈ GW := GWp4 8 (q := (yX4_join, 7)) rfl
theorem ts_57 : Cond.selects RX12 yX12_beginsText yX12_beginsText ∈ GW := GWp4 9 (q := (yX12_beginsText, 93)) rfl
theorem ts_58 : Cond.selects RX12 yX12_next yX12_next ∈ GW := GWp4 10 (q := (yX12_next, 93)) rfl
theorem ts_59 : Cond.selects RX12 yX12_here yX12_here ∈ GW := GWp4 11 (q := (yX12_here, 93)) rfl
theorem ts_60 : Cond.selects RX12 yX12_kindHere yX12_kindHere ∈ GW := GWp4 12 (q := (yX12_kindHere, 93)) rfl
theorem ts_61 : Cond.selects RX12 yX12_errs yX12_errs ∈ GW := GWp4 13 (q := (yX12_errs, 93)) rfl
theorem ts_62 : Cond.selects RX12 yX12_readLeaf yX12_readLeaf ∈ GW := GWp4 14 (q := (yX12_readLeaf, 93)) rfl
theorem ts_63 : Cond.selects RX12 yX12_newNode yX12_newNode ∈ GW := GWp4 15 (q := (yX12_newNode, 93)) rfl
theorem ts_64 : Cond.selects RX12 yX12_hand yX12_hand ∈ GW := GWp5 0 (q := (yX12_hand, 93)) rfl
theorem ts_65 : Cond.selects RX12 yX12_thingOf yX12_thingOf ∈ GW := GWp5 1 (q := (yX12_thingOf, 93)) rfl
theorem ts_66 : Cond.selects RX12 yX12_thingHere yX12_thingHere ∈ GW := GWp5 2 (q := (yX12_thingHere, 93)) rfl
theorem ts_67 : Cond.selects RX12 yX12_numeral yX12_numeral ∈ GW := GWp5 3 (q := (yX12_numeral, 93)) rfl
theorem ts_68 : Cond.selects RX12 yX12_mustBe yX12_mustBe ∈ GW := GWp5 4 (q := (yX12_mustBe, 93)) rfl
theorem ts_69 : Cond.selects RX12 yX12_is yX12_is ∈ GW := GWp5 5 (q := (yX12_is, 93)) rfl
theorem ts_70 : Cond.selects RX12 yX12_closes yX12_closes ∈ GW := GWp5 6 (q := (yX12_closes, 93)) rfl
theorem ts_71 : Cond.selects RX12 yX12_opens yX12_opens ∈ GW := GWp5 7 (q := (yX12_opens, 93)) rfl
theorem ts_72 : Cond.selects RX12 yX12_readGroup yX12_readGroup ∈ GW := GWp5 8 (q := (yX12_readGroup, 93)) rfl
theorem ts_73 : Cond.selects RX12 yX12_eventHere yX12_eventHere ∈ GW := GWp5 9 (q := (yX12_eventHere, 93)) rfl
theorem ts_74 : Cond.selects RX12 yX12_isDeal yX12_isDeal ∈ GW := GWp5 10 (q := (yX12_isDeal, 93)) rfl
theorem ts_75 : Cond.selects RX12 yX12_isLeaf yX12_isLeaf ∈ GW := GWp5 11 (q := (yX12_isLeaf, 93)) rfl
theorem ts_76 : Cond.selects RX12 yX12_told yX12_told ∈ GW := GWp5 12 (q := (yX12_told, 93)) rfl
theorem ts_77 : Cond.selects RX12 yX12_later yX12_later ∈ GW := GWp5 13 (q := (yX12_later, 93)) rfl
theorem ts_78 : Cond.selects RX12 yX12_simplifies yX12_simplifies ∈ GW := GWp5 14 (q := (yX12_simplifies, 93)) rfl
theorem ts_79 : Cond.selects RX12 yX12_partsLeft yX12_partsLeft ∈ GW := GWp5 15 (q := (yX12_partsLeft, 93)) rfl
theorem ts_80 : Cond.selects RX12 yX12_areAlike yX12_areAlike ∈ GW := GWp6 0 (q := (yX12_areAlike, 93)) rfl
theorem ts_81 : Cond.selects RX12 yX12_laysOut yX12_laysOut ∈ GW := GWp6 1 (q := (yX12_laysOut, 93)) rfl
theorem ts_82 : Cond.selects RX12 yX12_closesUp yX12_closesUp ∈ GW := GWp6 2 (q := (yX12_closesUp, 93)) rfl
theorem ts_83 : Cond.selects RX12 yX12_sign yX12_sign ∈ GW := GWp6 3 (q := (yX12_sign, 93)) rfl
theorem ts_84 : Cond.selects RX12 yX12_partLeft yX12_partLeft ∈ GW := GWp6 4 (q := (yX12_partLeft, 93)) rfl
theorem ts_85 : Cond.selects RX12 yX12_passes yX12_passes ∈ GW := GWp6 5 (q := (yX12_passes, 93)) rfl
theorem ts_86 : Cond.selects RX12 yX12_times yX12_times ∈ GW := GWp6 6 (q := (yX12_times, 93)) rfl
theorem ts_87 : Cond.selects RX12 yX12_flow yX12_flow ∈ GW := GWp6 7 (q := (yX12_flow, 93)) rfl
theorem ts_88 : Cond.selects RX12 yX12_among yX12_among ∈ GW := GWp6 8 (q := (yX12_among, 93)) rfl
theorem ts_89 : Cond.selects RX12 yX12_bundleAtHand yX12_bundleAtHand ∈ GW := GWp6 9 (q := (yX12_bundleAtHand, 93)) rfl
theorem ts_90 : Cond.selects RX12 yX12_codesAtHand yX12_codesAtHand ∈ GW := GWp6 10 (q := (yX12_codesAtHand, 93)) rfl
theorem ts_91 : Cond.selects RX12 yX12_choicesAtHand yX12_choicesAtHand ∈ GW := GWp6 11 (q := (yX12_choicesAtHand, 93)) rfl
theorem ts_92 : Cond.selects RX12 yX12_rowsOfDeal yX12_rowsOfDeal ∈ GW := GWp6 12 (q := (yX12_rowsOfDeal, 93)) rfl
theorem ts_93 : Cond.selects RX12 yX12_rowsOf yX12_rowsOf ∈ GW := GWp6 13 (q := (yX12_rowsOf, 93)) rfl
theorem ts_94 : Cond.selects RX12 yX12_findRow yX12_findRow ∈ GW := GWp6 14 (q := (yX12_findRow, 93)) rfl
theorem ts_95 : Cond.selects RX12 yX12_rowTold yX12_rowTold ∈ GW := GWp6 15 (q := (yX12_rowTold, 93)) rfl
theorem ts_96 : Cond.selects RX12 yX12_passesAll yX12_passesAll ∈ GW := GWp7 0 (q := (yX12_passesAll, 93)) rfl
theorem ts_97 : Cond.selects RX12 yX12_netOf yX12_netOf ∈ GW := GWp7 1 (q := (yX12_netOf, 93)) rfl
theorem ts_98 : Cond.selects RX12 yX12_isLookedAt yX12_isLookedAt ∈ GW := GWp7 2 (q := (yX12_isLookedAt, 93)) rfl
theorem ts_99 : Cond.selects RX12 yX12_eventsAtHand yX12_eventsAtHand ∈ GW := GWp7 3 (q := (yX12_eventsAtHand, 93)) rfl
theorem ts_100 : Cond.selects RX12 yX12_codeFrom yX12_codeFrom ∈ GW := GWp7 4 (q := (yX12_codeFrom, 93)) rfl
theorem ts_101 : Cond.selects RX12 yX12_findLending yX12_findLending ∈ GW := GWp7 5 (q := (yX12_findLending, 93)) rfl
theorem ts_102 : Cond.selects RX12 yX12_findDays yX12_findDays ∈ GW := GWp7 6 (q := (yX12_findDays, 93)) rfl
theorem ts_103 : Cond.selects RX12 yX12_lendingDay yX12_lendingDay ∈ GW := GWp7 7 (q := (yX12_lendingDay, 93)) rfl
theorem ts_104 : Cond.selects RX12 yX12_outOf yX12_outOf ∈ GW := GWp7 8 (q := (yX12_outOf, 93)) rfl
theorem ts_105 : Cond.selects RX12 yX12_loanAtHand yX12_loanAtHand ∈ GW := GWp7 9 (q := (yX12_loanAtHand, 93)) rfl
theorem ts_106 : Cond.selects RX12 yX12_readBars yX12_readBars ∈ GW := GWp7 10 (q := (yX12_readBars, 93)) rfl
theorem ts_107 : Cond.selects RX12 yX12_readBar yX12_readBar ∈ GW := GWp7 11 (q := (yX12_readBar, 93)) rfl
theorem ts_108 : Cond.selects RX12 yX12_formHere yX12_formHere ∈ GW := GWp7 12 (q := (yX12_formHere, 93)) rfl
theorem ts_109 : Cond.selects RX12 yX12_ofHere yX12_ofHere ∈ GW := GWp7 13 (q := (yX12_ofHere, 93)) rfl
theorem ts_110 : Cond.selects RX12 yX12_askedHere yX12_askedHere ∈ GW := GWp7 14 (q := (yX12_askedHere, 93)) rfl
theorem ts_111 : Cond.selects RX12 yX12_breachNow yX12_breachNow ∈ GW := GWp7 15 (q := (yX12_breachNow, 93)) rfl
theorem ts_112 : Cond.selects RX12 yX12_findLeaves yX12_findLeaves ∈ GW := GWp8 0 (q := (yX12_findLeaves, 93)) rfl
theorem ts_113 : Cond.selects RX12 yX12_doesBar yX12_doesBar ∈ GW := GWp8 1 (q := (yX12_doesBar, 93)) rfl
theorem ts_114 : Cond.selects RX12 yX12_isOf yX12_isOf ∈ GW := GWp8 2 (q := (yX12_isOf, 93)) rfl
theorem ts_115 : Cond.selects RX12 yX12_isPair yX12_isPair ∈ GW := GWp8 3 (q := (yX12_isPair, 93)) rfl
theorem ts_116 : Cond.selects RX12 yX12_doesWordBar yX12_doesWordBar ∈ GW := GWp8 4 (q := (yX12_doesWordBar, 93)) rfl
theorem ts_117 : Cond.selects RX12 yX12_findSly yX12_findSly ∈ GW := GWp8 5 (q := (yX12_findSly, 93)) rfl
theorem ts_118 : Cond.selects RX12 yX12_wordsThatBar yX12_wordsThatBar ∈ GW := GWp8 6 (q := (yX12_wordsThatBar, 93)) rfl
theorem ts_119 : Cond.selects RX12 yX12_honestAtHand yX12_honestAtHand ∈ GW := GWp8 7 (q := (yX12_honestAtHand, 93)) rfl
theorem ts_120 : Cond.selects RX12 yX12_doPart yX12_doPart ∈ GW := GWp8 8 (q := (yX12_doPart, 93)) rfl
theorem ts_121 : Cond.selects RX12 yX12_findGroups yX12_findGroups ∈ GW := GWp8 9 (q := (yX12_findGroups, 93)) rfl
theorem ts_122 : Cond.selects RX12 yX12_doHang yX12_doHang ∈ GW := GWp8 10 (q := (yX12_doHang, 93)) rfl
theorem ts_123 : Cond.selects RX12 yX12_leavesTold yX12_leavesTold ∈ GW := GWp8 11 (q := (yX12_leavesTold, 93)) rfl
theorem ts_124 : Cond.selects RX12 yX12_choicesTold yX12_choicesTold ∈ GW := GWp8 12 (q := (yX12_choicesTold, 93)) rfl
abbrev MX0_init : Mth := (cX0_init, 1, none, RX0, "<init>")
theorem mi_X0_init : MI yX0_init MX0_init 0 := ⟨t_118, t_5, by decide +kernel, by decide +kernel, by decide +kernel, by decide⟩
abbrev MX0_push : Mth := (cX0_push, 2, none, RX0, "push")
theorem mi_X0_push : MI yX0_push MX0_push 1 := ⟨t_893, t_5, by decide +kernel, by decide +kernel, by decide +kernel, by decide⟩
abbrev MX0_copyFrom : Mth := (cX0_copyFrom, 3, none, RX0, "copyFrom")
theorem mi_X0_copyFrom : MI yX0_copyFrom MX0_copyFrom 1 := ⟨t_1179, t_5, by decide +kernel, by decide +kernel, by decide +kernel, by decide⟩
abbrev MX0_holds : Mth := (cX0_holds, 3, some .boolean, RX0, "holds")
theorem mi_X0_holds : MI yX0_holds MX0_holds 1 := ⟨t_889, t_5, by decide +kernel, by decide +kernel, by decide +kernel, by decide⟩
abbrev MX0_choicesBefore : Mth := (cX0_choicesBefore, 4, some .int, RX0, "choicesBefore")
theorem mi_X0_choicesBefore : MI yX0_choicesBefore MX0_choicesBefore 1 := ⟨t_913, t_5, by decide +kernel, by decide +kernel, by decide +kernel, by decide⟩
abbrev MX0_allLeaves : Mth := (cX0_allLeaves, 3, some .int, RX0, "allLeaves")
theorem mi_X0_allLeaves : MI yX0_allLeaves MX0_allLeaves 0 := ⟨t_1264, t_5, by decide +kernel, by decide +kernel, by decide +kernel, by decide⟩
abbrev MX0_allChoices : Mth := (cX0_allChoices, 1, some .int, RX0, "allChoices")
theorem mi_X0_allChoices : MI yX0_allChoices MX0_allChoices 0 := ⟨t_909, t_5, by decide +kernel, by decide +kernel, by decide +kernel, by decide⟩
abbrev MX0_namedBits : Mth := (cX0_namedBits, 3, some .int, RX0, "namedBits")
theorem mi_X0_namedBits : MI yX0_namedBits MX0_namedBits 0 := ⟨t_955, t_5, by decide +kernel, by decide +kernel, by decide +kernel, by decide⟩
abbrev MX0_isLooked : Mth := (cX0_isLooked, 1, some .boolean, RX0, "isLooked")
theorem mi_X0_isLooked : MI yX0_isLooked MX0_isLooked 0 := ⟨t_951, t_5, by decide +kernel, by decide +kernel, by decide +kernel, by decide⟩
abbrev MX0_codesLooked : Mth := (cX0_codesLooked, 1, some .int, RX0, "codesLooked")
theorem mi_X0_codesLooked : MI yX0_codesLooked MX0_codesLooked 0 := ⟨t_960, t_5, by decide +kernel, by decide +kernel, by decide +kernel, by decide⟩
abbrev MX0_hasCode : Mth := (cX0_hasCode, 2, some .boolean, RX0, "hasCode")
theorem mi_X0_hasCode : MI yX0_hasCode MX0_hasCode 1 := ⟨t_905, t_5, by decide +kernel, by decide +kernel, by decide +kernel, by decide⟩
abbrev MX0_codeFor : Mth := (cX0_codeFor, 2, some .int, RX0, "codeFor")
theorem mi_X0_codeFor : MI yX0_codeFor MX0_codeFor 2 := ⟨t_921, t_5, by decide +kernel, by decide +kernel, by decide +kernel, by decide⟩
abbrev MX0_rowsBy : Mth := (cX0_rowsBy, 7, some .int, RX0, "rowsBy")
theorem mi_X0_rowsBy : MI yX0_rowsBy MX0_rowsBy 1 := ⟨t_918, t_5, by decide +kernel, by decide +kernel, by decide +kernel, by decide⟩
abbrev MX0_toldOfRow : Mth := (cX0_toldOfRow, 9, some .long, RX0, "toldOfRow")
theorem mi_X0_toldOfRow : MI yX0_toldOfRow MX0_toldOfRow 3 := ⟨t_926, t_5, by decide +kernel, by decide +kernel, by decide +kernel, by decide⟩
abbrev MX1_init : Mth := (cX1_init, 2, none, RX1, "<init>")
theorem mi_X1_init : MI yX1_init MX1_init 1 := ⟨t_434, t_13, by decide +kernel, by decide +kernel, by decide +kernel, by decide⟩
abbrev MX1_empty : Mth := (cX1_empty, 1, none, RX1, "empty")
theorem mi_X1_empty : MI yX1_empty MX1_empty 0 := ⟨t_526, t_13, by decide +kernel, by decide +kernel, by decide +kernel, by decide⟩
abbrev MX1_putLeaf : Mth := (cX1_putLeaf, 4, none, RX1, "putLeaf")
theorem mi_X1_putLeaf : MI yX1_putLeaf MX1_putLeaf 2 := ⟨t_656, t_13, by decide +kernel, by decide +kernel, by decide +kernel, by decide⟩
abbrev MX1_putRows : Mth := (cX1_putRows, 9, none, RX1, "putRows")
theorem mi_X1_putRows : MI yX1_putRows MX1_putRows 3 := ⟨t_661, t_13, by decide +kernel, by decide +kernel, by decide +kernel, by decide⟩
abbrev MX1_putRow : Mth := (cX1_putRow, 9, none, RX1, "putRow")
theorem mi_X1_putRow : MI yX1_putRow MX1_putRow 6 := ⟨t_665, t_13, by decide +kernel, by decide +kernel, by decide +kernel, by decide⟩
abbrev MX1_sortByDay : Mth := (cX1_sortByDay, 3, none, RX1, "sortByDay")
theorem mi_X1_sortByDay : MI yX1_sortByDay MX1_sortByDay 0 := ⟨t_745, t_13, by decide +kernel, by decide +kernel, by decide +kernel, by decide⟩
abbrev MX1_dayOf : Mth := (cX1_dayOf, 2, some .int, RX1, "dayOf")
theorem mi_X1_dayOf : MI yX1_dayOf MX1_dayOf 1 := ⟨t_749, t_13, by decide +kernel, by decide +kernel, by decide +kernel, by decide⟩
abbrev MX1_isPassing : Mth := (cX1_isPassing, 3, some .boolean, RX1, "isPassing")
theorem mi_X1_isPassing : MI yX1_isPassing MX1_isPassing 2 := ⟨t_877, t_13, by decide +kernel, by decide +kernel, by decide +kernel, by decide⟩
abbrev MX1_familiesIn : Mth := (cX1_familiesIn, 4, some .int, RX1, "familiesIn")
theorem mi_X1_familiesIn : MI yX1_familiesIn MX1_familiesIn 1 := ⟨t_837, t_13, by decide +kernel, by decide +kernel, by decide +kernel, by decide⟩
abbrev MX2_init : Mth := (cX2_init, 2, none, RX2, "<init>")
theorem mi_X2_init : MI yX2_init MX2_init 1 := ⟨t_66, t_3, by decide +kernel, by decide +kernel, by decide +kernel, by decide⟩
abbrev MX2_readDeal : Mth := (cX2_readDeal, 2, some .boolean, RX2, "readDeal")
theorem mi_X2_readDeal : MI yX2_readDeal MX2_readDeal 1 := ⟨t_522, t_3, by decide +kernel, by decide +kernel, by decide +kernel, by decide⟩
abbrev MX2_readAll : Mth := (cX2_readAll, 3, some .boolean, RX2, "readAll")
theorem mi_X2_readAll : MI yX2_readAll MX2_readAll 1 := ⟨t_534, t_3, by decide +kernel, by decide +kernel, by decide +kernel, by decide⟩
abbrev MX2_readPart : Mth := (cX2_readPart, 3, some .boolean, RX2, "readPart")
theorem mi_X2_readPart : MI yX2_readPart MX2_readPart 1 := ⟨t_538, t_3, by decide +kernel, by decide +kernel, by decide +kernel, by decide⟩
abbrev MX2_readLeaf : Mth := (cX2_readLeaf, 2, some .boolean, RX2, "readLeaf")
theorem mi_X2_readLeaf : MI yX2_readLeaf MX2_readLeaf 1 := ⟨t_595, t_3, by decide +kernel, by decide +kernel, by decide +kernel, by decide⟩
abbrev MX2_readTwo : Mth := (cX2_readTwo, 1, some .boolean, RX2, "readTwo")
theorem mi_X2_readTwo : MI yX2_readTwo MX2_readTwo 0 := ⟨t_604, t_3, by decide +kernel, by decide +kernel, by decide +kernel, by decide⟩
abbrev MX2_readSo : Mth := (cX2_readSo, 1, some .boolean, RX2, "readSo")
theorem mi_X2_readSo : MI yX2_readSo MX2_readSo 0 := ⟨t_615, t_3, by decide +kernel, by decide +kernel, by decide +kernel, by decide⟩
abbrev MX2_readPay : Mth := (cX2_readPay, 2, some .boolean, RX2, "readPay")
theorem mi_X2_readPay : MI yX2_readPay MX2_readPay 1 := ⟨t_624, t_3, by decide +kernel, by decide +kernel, by decide +kernel, by decide⟩
abbrev MX2_readDays : Mth := (cX2_readDays, 3, some .boolean, RX2, "readDays")
theorem mi_X2_readDays : MI yX2_readDays MX2_readDays 1 := ⟨t_637, t_3, by decide +kernel, by decide +kernel, by decide +kernel, by decide⟩
abbrev MX2_readAfter : Mth := (cX2_readAfter, 5, some .boolean, RX2, "readAfter")
theorem mi_X2_readAfter : MI yX2_readAfter MX2_readAfter 1 := ⟨t_669, t_3, by decide +kernel, by decide +kernel, by decide +kernel, by decide⟩
abbrev MX2_readTimes : Mth := (cX2_readTimes, 6, some .boolean, RX2, "readTimes")
theorem mi_X2_readTimes : MI yX2_readTimes MX2_readTimes 1 := ⟨t_705, t_3, by decide +kernel, by decide +kernel, by decide +kernel, by decide⟩
abbrev MX2_readIf : Mth := (cX2_readIf, 3, some .boolean, RX2, "readIf")
theorem mi_X2_readIf : MI yX2_readIf MX2_readIf 1 := ⟨t_709, t_3, by decide +kernel, by decide +kernel, by decide +kernel, by decide⟩
abbrev MX2_readChoice : Mth := (cX2_readChoice, 4, some .boolean, RX2, "readChoice")
theorem mi_X2_readChoice : MI yX2_readChoice MX2_readChoice 1 := ⟨t_735, t_3, by decide +kernel, by decide +kernel, by decide +kernel, by decide⟩
abbrev MX2_readBranches : Mth := (cX2_readBranches, 7, some .boolean, RX2, "readBranches")
theorem mi_X2_readBranches : MI yX2_readBranches MX2_readBranches 5 := ⟨t_715, t_3, by decide +kernel, by decide +kernel, by decide +kernel, by decide⟩
abbrev MX2_readBranch : Mth := (cX2_readBranch, 8, some .boolean, RX2, "readBranch")
theorem mi_X2_readBranch : MI yX2_readBranch MX2_readBranch 3 := ⟨t_719, t_3, by decide +kernel, by decide +kernel, by decide +kernel, by decide⟩
abbrev MX2_readBlock : Mth := (cX2_readBlock, 2, some .boolean, RX2, "readBlock")
theorem mi_X2_readBlock : MI yX2_readBlock MX2_readBlock 1 := ⟨t_677, t_3, by decide +kernel, by decide +kernel, by decide +kernel, by decide⟩
abbrev MX3_init : Mth := (cX3_init, 2, none, RX3, "<init>")
theorem mi_X3_init : MI yX3_init MX3_init 1 := ⟨t_238, t_8, by decide +kernel, by decide +kernel, by decide +kernel, by decide⟩
abbrev MX3_hear : Mth := (cX3_hear, 3, none, RX3, "hear")
theorem mi_X3_hear : MI yX3_hear MX3_hear 1 := ⟨t_1068, t_8, by decide +kernel, by decide +kernel, by decide +kernel, by decide⟩
abbrev MX3_hearPair : Mth := (cX3_hearPair, 3, none, RX3, "hearPair")
theorem mi_X3_hearPair : MI yX3_hearPair MX3_hearPair 2 := ⟨t_1126, t_8, by decide +kernel, by decide +kernel, by decide +kernel, by decide⟩
abbrev MX3_hearAlso : Mth := (cX3_hearAlso, 2, none, RX3, "hearAlso")
theorem mi_X3_hearAlso : MI yX3_hearAlso MX3_hearAlso 1 := ⟨t_1072, t_8, by decide +kernel, by decide +kernel, by decide +kernel, by decide⟩
abbrev MX3_firstThatBars : Mth := (cX3_firstThatBars, 3, some .int, RX3, "firstThatBars")
theorem mi_X3_firstThatBars : MI yX3_firstThatBars MX3_firstThatBars 1 := ⟨t_1077, t_8, by decide +kernel, by decide +kernel, by decide +kernel, by decide⟩
abbrev MX3_findLeaves : Mth := (cX3_findLeaves, 6, some .boolean, RX3, "findLeaves")
theorem mi_X3_findLeaves : MI yX3_findLeaves MX3_findLeaves 2 := ⟨t_1081, t_8, by decide +kernel, by decide +kernel, by decide +kernel, by decide⟩
abbrev MX3_findSecond : Mth := (cX3_findSecond, 5, some .int, RX3, "findSecond")
theorem mi_X3_findSecond : MI yX3_findSecond MX3_findSecond 3 := ⟨t_1089, t_8, by decide +kernel, by decide +kernel, by decide +kernel, by decide⟩
abbrev MX3_isOf : Mth := (cX3_isOf, 5, some .boolean, RX3, "isOf")
theorem mi_X3_isOf : MI yX3_isOf MX3_isOf 3 := ⟨t_1085, t_8, by decide +kernel, by decide +kernel, by decide +kernel, by decide⟩
abbrev MX3_isLater : Mth := (cX3_isLater, 5, some .boolean, RX3, "isLater")
theorem mi_X3_isLater : MI yX3_isLater MX3_isLater 3 := ⟨t_1093, t_8, by decide +kernel, by decide +kernel, by decide +kernel, by decide⟩
abbrev MX3_isTied : Mth := (cX3_isTied, 4, some .boolean, RX3, "isTied")
theorem mi_X3_isTied : MI yX3_isTied MX3_isTied 3 := ⟨t_1097, t_8, by decide +kernel, by decide +kernel, by decide +kernel, by decide⟩
abbrev MX4_init : Mth := (cX4_init, 1, none, RX4, "<init>")
theorem mi_X4_init : MI yX4_init MX4_init 0 := ⟨t_318, t_10, by decide +kernel, by decide +kernel, by decide +kernel, by decide⟩
abbrev MX4_firstApart : Mth := (cX4_firstApart, 8, some .int, RX4, "firstApart")
theorem mi_X4_firstApart : MI yX4_firstApart MX4_firstApart 2 := ⟨t_853, t_10, by decide +kernel, by decide +kernel, by decide +kernel, by decide⟩
abbrev MX4_giveSlots : Mth := (cX4_giveSlots, 7, none, RX4, "giveSlots")
theorem mi_X4_giveSlots : MI yX4_giveSlots MX4_giveSlots 2 := ⟨t_857, t_10, by decide +kernel, by decide +kernel, by decide +kernel, by decide⟩
abbrev MX4_pour : Mth := (cX4_pour, 6, none, RX4, "pour")
theorem mi_X4_pour : MI yX4_pour MX4_pour 4 := ⟨t_873, t_10, by decide +kernel, by decide +kernel, by decide +kernel, by decide⟩
abbrev MX4_isLevel : Mth := (cX4_isLevel, 2, some .boolean, RX4, "isLevel")
theorem mi_X4_isLevel : MI yX4_isLevel MX4_isLevel 0 := ⟨t_881, t_10, by decide +kernel, by decide +kernel, by decide +kernel, by decide⟩
abbrev MX4_gather : Mth := (cX4_gather, 7, none, RX4, "gather")
theorem mi_X4_gather : MI yX4_gather MX4_gather 4 := ⟨t_1230, t_10, by decide +kernel, by decide +kernel, by decide +kernel, by decide⟩
abbrev MX4_hangTogether : Mth := (cX4_hangTogether, 5, some .boolean, RX4, "hangTogether")
theorem mi_X4_hangTogether : MI yX4_hangTogether MX4_hangTogether 3 := ⟨t_1235, t_10, by decide +kernel, by decide +kernel, by decide +kernel, by decide⟩
abbrev MX4_join : Mth := (cX4_join, 6, none, RX4, "join")
theorem mi_X4_join : MI yX4_join MX4_join 3 := ⟨t_1242, t_10, by decide +kernel, by decide +kernel, by decide +kernel, by decide⟩
abbrev MX4_heaps : Mth := (cX4_heaps, 4, some .int, RX4, "heaps")
theorem mi_X4_heaps : MI yX4_heaps MX4_heaps 1 := ⟨t_1247, t_10, by decide +kernel, by decide +kernel, by decide +kernel, by decide⟩
abbrev MX4_fillBundle : Mth := (cX4_fillBundle, 5, some .boolean, RX4, "fillBundle")
theorem mi_X4_fillBundle : MI yX4_fillBundle MX4_fillBundle 3 := ⟨t_1255, t_10, by decide +kernel, by decide +kernel, by decide +kernel, by decide⟩
abbrev MX5_init : Mth := (cX5_init, 2, none, RX5, "<init>")
theorem mi_X5_init : MI yX5_init MX5_init 1 := ⟨t_141, t_6, by decide +kernel, by decide +kernel, by decide +kernel, by decide⟩
abbrev MX5_sumOf : Mth := (cX5_sumOf, 14, some .long, RX5, "sumOf")
theorem mi_X5_sumOf : MI yX5_sumOf MX5_sumOf 5 := ⟨t_936, t_6, by decide +kernel, by decide +kernel, by decide +kernel, by decide⟩
abbrev MX5_shareOf : Mth := (cX5_shareOf, 6, some .long, RX5, "shareOf")
theorem mi_X5_shareOf : MI yX5_shareOf MX5_shareOf 3 := ⟨t_943, t_6, by decide +kernel, by decide +kernel, by decide +kernel, by decide⟩
abbrev MX5_isEven : Mth := (cX5_isEven, 5, some .boolean, RX5, "isEven")
theorem mi_X5_isEven : MI yX5_isEven MX5_isEven 3 := ⟨t_1197, t_6, by decide +kernel, by decide +kernel, by decide +kernel, by decide⟩
abbrev MX5_sumInto : Mth := (cX5_sumInto, 9, none, RX5, "sumInto")
theorem mi_X5_sumInto : MI yX5_sumInto MX5_sumInto 5 := ⟨t_1132, t_6, by decide +kernel, by decide +kernel, by decide +kernel, by decide⟩
abbrev MX5_findLoan : Mth := (cX5_findLoan, 8, some .int, RX5, "findLoan")
theorem mi_X5_findLoan : MI yX5_findLoan MX5_findLoan 1 := ⟨t_1150, t_6, by decide +kernel, by decide +kernel, by decide +kernel, by decide⟩
abbrev MX5_take : Mth := (cX5_take, 6, none, RX5, "take")
theorem mi_X5_take : MI yX5_take MX5_take 1 := ⟨t_978, t_6, by decide +kernel, by decide +kernel, by decide +kernel, by decide⟩
abbrev MX5_earliestHead : Mth := (cX5_earliestHead, 7, some .int, RX5, "earliestHead")
theorem mi_X5_earliestHead : MI yX5_earliestHead MX5_earliestHead 1 := ⟨t_983, t_6, by decide +kernel, by decide +kernel, by decide +kernel, by decide⟩
abbrev MX5_putEntry : Mth := (cX5_putEntry, 8, some .int, RX5, "putEntry")
theorem mi_X5_putEntry : MI yX5_putEntry MX5_putEntry 3 := ⟨t_988, t_6, by decide +kernel, by decide +kernel, by decide +kernel, by decide⟩
abbrev MX5_bitsBehind : Mth := (cX5_bitsBehind, 3, some .int, RX5, "bitsBehind")
theorem mi_X5_bitsBehind : MI yX5_bitsBehind MX5_bitsBehind 2 := ⟨t_991, t_6, by decide +kernel, by decide +kernel, by decide +kernel, by decide⟩
abbrev MX5_weigh : Mth := (cX5_weigh, 6, none, RX5, "weigh")
theorem mi_X5_weigh : MI yX5_weigh MX5_weigh 1 := ⟨t_995, t_6, by decide +kernel, by decide +kernel, by decide +kernel, by decide⟩
abbrev MX5_endDay : Mth := (cX5_endDay, 4, none, RX5, "endDay")
theorem mi_X5_endDay : MI yX5_endDay MX5_endDay 1 := ⟨t_1000, t_6, by decide +kernel, by decide +kernel, by decide +kernel, by decide⟩
abbrev MX5_book : Mth := (cX5_book, 7, none, RX5, "book")
theorem mi_X5_book : MI yX5_book MX5_book 3 := ⟨t_1004, t_6, by decide +kernel, by decide +kernel, by decide +kernel, by decide⟩
abbrev MX5_findUneven : Mth := (cX5_findUneven, 4, none, RX5, "findUneven")
theorem mi_X5_findUneven : MI yX5_findUneven MX5_findUneven 0 := ⟨t_1008, t_6, by decide +kernel, by decide +kernel, by decide +kernel, by decide⟩
abbrev MX5_borrowersOf : Mth := (cX5_borrowersOf, 2, some .int, RX5, "borrowersOf")
theorem mi_X5_borrowersOf : MI yX5_borrowersOf MX5_borrowersOf 1 := ⟨t_1019, t_6, by decide +kernel, by decide +kernel, by decide +kernel, by decide⟩
abbrev MX6_init : Mth := (cX6_init, 1, none, RX6, "<init>")
theorem mi_X6_init : MI yX6_init MX6_init 0 := ⟨t_770, t_20, by decide +kernel, by decide +kernel, by decide +kernel, by decide⟩
abbrev MX6_readRules : Mth := (cX6_readRules, 5, some .boolean, RX6, "readRules")
theorem mi_X6_readRules : MI yX6_readRules MX6_readRules 3 := ⟨t_785, t_20, by decide +kernel, by decide +kernel, by decide +kernel, by decide⟩
abbrev MX6_readStatement : Mth := (cX6_readStatement, 3, some .boolean, RX6, "readStatement")
theorem mi_X6_readStatement : MI yX6_readStatement MX6_readStatement 2 := ⟨t_790, t_20, by decide +kernel, by decide +kernel, by decide +kernel, by decide⟩
abbrev MX6_readForm : Mth := (cX6_readForm, 3, some .boolean, RX6, "readForm")
theorem mi_X6_readForm : MI yX6_readForm MX6_readForm 2 := ⟨t_796, t_20, by decide +kernel, by decide +kernel, by decide +kernel, by decide⟩
abbrev MX6_readTies : Mth := (cX6_readTies, 5, none, RX6, "readTies")
theorem mi_X6_readTies : MI yX6_readTies MX6_readTies 2 := ⟨t_807, t_20, by decide +kernel, by decide +kernel, by decide +kernel, by decide⟩
abbrev MX6_readWithin : Mth := (cX6_readWithin, 3, some .boolean, RX6, "readWithin")
theorem mi_X6_readWithin : MI yX6_readWithin MX6_readWithin 2 := ⟨t_813, t_20, by decide +kernel, by decide +kernel, by decide +kernel, by decide⟩
abbrev MX7_init : Mth := (cX7_init, 3, none, RX7, "<init>")
theorem mi_X7_init : MI yX7_init MX7_init 2 := ⟨t_262, t_9, by decide +kernel, by decide +kernel, by decide +kernel, by decide⟩
abbrev MX7_forget : Mth := (cX7_forget, 1, none, RX7, "forget")
theorem mi_X7_forget : MI yX7_forget MX7_forget 0 := ⟨t_821, t_9, by decide +kernel, by decide +kernel, by decide +kernel, by decide⟩
abbrev MX7_forgetAll : Mth := (cX7_forgetAll, 1, none, RX7, "forgetAll")
theorem mi_X7_forgetAll : MI yX7_forgetAll MX7_forgetAll 0 := ⟨t_411, t_9, by decide +kernel, by decide +kernel, by decide +kernel, by decide⟩
abbrev MX7_putOffered : Mth := (cX7_putOffered, 3, some .boolean, RX7, "putOffered")
theorem mi_X7_putOffered : MI yX7_putOffered MX7_putOffered 1 := ⟨t_1109, t_9, by decide +kernel, by decide +kernel, by decide +kernel, by decide⟩
abbrev MX7_look : Mth := (cX7_look, 4, none, RX7, "look")
theorem mi_X7_look : MI yX7_look MX7_look 2 := ⟨t_1118, t_9, by decide +kernel, by decide +kernel, by decide +kernel, by decide⟩
abbrev MX7_findBarred : Mth := (cX7_findBarred, 6, none, RX7, "findBarred")
theorem mi_X7_findBarred : MI yX7_findBarred MX7_findBarred 3 := ⟨t_1122, t_9, by decide +kernel, by decide +kernel, by decide +kernel, by decide⟩
abbrev MX7_grow : Mth := (cX7_grow, 7, none, RX7, "grow")
theorem mi_X7_grow : MI yX7_grow MX7_grow 3 := ⟨t_1136, t_9, by decide +kernel, by decide +kernel, by decide +kernel, by decide⟩
abbrev MX7_isLoan : Mth := (cX7_isLoan, 2, some .boolean, RX7, "isLoan")
theorem mi_X7_isLoan : MI yX7_isLoan MX7_isLoan 1 := ⟨t_1146, t_9, by decide +kernel, by decide +kernel, by decide +kernel, by decide⟩
abbrev MX7_mayLend : Mth := (cX7_mayLend, 8, some .boolean, RX7, "mayLend")
theorem mi_X7_mayLend : MI yX7_mayLend MX7_mayLend 1 := ⟨t_1142, t_9, by decide +kernel, by decide +kernel, by decide +kernel, by decide⟩
abbrev MX7_howMany : Mth := (cX7_howMany, 4, some .int, RX7, "howMany")
theorem mi_X7_howMany : MI yX7_howMany MX7_howMany 1 := ⟨t_1163, t_9, by decide +kernel, by decide +kernel, by decide +kernel, by decide⟩
abbrev MX7_fewest : Mth := (cX7_fewest, 4, some .int, RX7, "fewest")
theorem mi_X7_fewest : MI yX7_fewest MX7_fewest 1 := ⟨t_1168, t_9, by decide +kernel, by decide +kernel, by decide +kernel, by decide⟩
abbrev MX7_isLess : Mth := (cX7_isLess, 4, some .boolean, RX7, "isLess")
theorem mi_X7_isLess : MI yX7_isLess MX7_isLess 2 := ⟨t_1171, t_9, by decide +kernel, by decide +kernel, by decide +kernel, by decide⟩
abbrev MX7_fewestWords : Mth := (cX7_fewestWords, 6, some .int, RX7, "fewestWords")
theorem mi_X7_fewestWords : MI yX7_fewestWords MX7_fewestWords 3 := ⟨t_1210, t_9, by decide +kernel, by decide +kernel, by decide +kernel, by decide⟩
abbrev MX7_wordsThatBar : Mth := (cX7_wordsThatBar, 6, some .int, RX7, "wordsThatBar")
theorem mi_X7_wordsThatBar : MI yX7_wordsThatBar MX7_wordsThatBar 2 := ⟨t_1214, t_9, by decide +kernel, by decide +kernel, by decide +kernel, by decide⟩
abbrev MX7_putNeed : Mth := (cX7_putNeed, 3, none, RX7, "putNeed")
theorem mi_X7_putNeed : MI yX7_putNeed MX7_putNeed 1 := ⟨t_1218, t_9, by decide +kernel, by decide +kernel, by decide +kernel, by decide⟩
abbrev MX7_meetsNeeds : Mth := (cX7_meetsNeeds, 3, some .boolean, RX7, "meetsNeeds")
theorem mi_X7_meetsNeeds : MI yX7_meetsNeeds MX7_meetsNeeds 1 := ⟨t_1222, t_9, by decide +kernel, by decide +kernel, by decide +kernel, by decide⟩
abbrev MX8_init : Mth := (cX8_init, 1, none, RX8, "<init>")
theorem mi_X8_init : MI yX8_init MX8_init 0 := ⟨t_72, t_4, by decide +kernel, by decide +kernel, by decide +kernel, by decide⟩
abbrev MX8_empty : Mth := (cX8_empty, 1, none, RX8, "empty")
theorem mi_X8_empty : MI yX8_empty MX8_empty 0 := ⟨t_530, t_4, by decide +kernel, by decide +kernel, by decide +kernel, by decide⟩
abbrev MX8_hasRoom : Mth := (cX8_hasRoom, 2, some .boolean, RX8, "hasRoom")
theorem mi_X8_hasRoom : MI yX8_hasRoom MX8_hasRoom 1 := ⟨t_649, t_4, by decide +kernel, by decide +kernel, by decide +kernel, by decide⟩
abbrev MX8_putLeaf : Mth := (cX8_putLeaf, 2, none, RX8, "putLeaf")
theorem mi_X8_putLeaf : MI yX8_putLeaf MX8_putLeaf 1 := ⟨t_645, t_4, by decide +kernel, by decide +kernel, by decide +kernel, by decide⟩
abbrev MX8_begin : Mth := (cX8_begin, 4, some .int, RX8, "begin")
theorem mi_X8_begin : MI yX8_begin MX8_begin 2 := ⟨t_673, t_4, by decide +kernel, by decide +kernel, by decide +kernel, by decide⟩
abbrev MX8_isBegun : Mth := (cX8_isBegun, 2, some .boolean, RX8, "isBegun")
theorem mi_X8_isBegun : MI yX8_isBegun MX8_isBegun 1 := ⟨t_693, t_4, by decide +kernel, by decide +kernel, by decide +kernel, by decide⟩
abbrev MX8_endOne : Mth := (cX8_endOne, 6, none, RX8, "endOne")
theorem mi_X8_endOne : MI yX8_endOne MX8_endOne 1 := ⟨t_689, t_4, by decide +kernel, by decide +kernel, by decide +kernel, by decide⟩
abbrev MX8_isJustAfter : Mth := (cX8_isJustAfter, 3, some .boolean, RX8, "isJustAfter")
theorem mi_X8_isJustAfter : MI yX8_isJustAfter MX8_isJustAfter 2 := ⟨t_701, t_4, by decide +kernel, by decide +kernel, by decide +kernel, by decide⟩
abbrev MX8_turn : Mth := (cX8_turn, 2, none, RX8, "turn")
theorem mi_X8_turn : MI yX8_turn MX8_turn 1 := ⟨t_723, t_4, by decide +kernel, by decide +kernel, by decide +kernel, by decide⟩
abbrev MX8_endTwo : Mth := (cX8_endTwo, 6, none, RX8, "endTwo")
theorem mi_X8_endTwo : MI yX8_endTwo MX8_endTwo 1 := ⟨t_727, t_4, by decide +kernel, by decide +kernel, by decide +kernel, by decide⟩
abbrev MX8_isAlike : Mth := (cX8_isAlike, 5, some .boolean, RX8, "isAlike")
theorem mi_X8_isAlike : MI yX8_isAlike MX8_isAlike 3 := ⟨t_731, t_4, by decide +kernel, by decide +kernel, by decide +kernel, by decide⟩
abbrev MX8_lift : Mth := (cX8_lift, 4, none, RX8, "lift")
theorem mi_X8_lift : MI yX8_lift MX8_lift 3 := ⟨t_697, t_4, by decide +kernel, by decide +kernel, by decide +kernel, by decide⟩
abbrev MX8_leavesLeft : Mth := (cX8_leavesLeft, 3, some .int, RX8, "leavesLeft")
theorem mi_X8_leavesLeft : MI yX8_leavesLeft MX8_leavesLeft 0 := ⟨t_753, t_4, by decide +kernel, by decide +kernel, by decide +kernel, by decide⟩
abbrev MX9_init : Mth := (cX9_init, 1, none, RX9, "<init>")
theorem mi_X9_init : MI yX9_init MX9_init 0 := ⟨t_211, t_7, by decide +kernel, by decide +kernel, by decide +kernel, by decide⟩
abbrev MX9_learn : Mth := (cX9_learn, 8, none, RX9, "learn")
theorem mi_X9_learn : MI yX9_learn MX9_learn 2 := ⟨t_971, t_7, by decide +kernel, by decide +kernel, by decide +kernel, by decide⟩
abbrev MX9_noteLender : Mth := (cX9_noteLender, 11, none, RX9, "noteLender")
theorem mi_X9_noteLender : MI yX9_noteLender MX9_noteLender 2 := ⟨t_1015, t_7, by decide +kernel, by decide +kernel, by decide +kernel, by decide⟩
abbrev MX9_notePrice : Mth := (cX9_notePrice, 7, none, RX9, "notePrice")
theorem mi_X9_notePrice : MI yX9_notePrice MX9_notePrice 3 := ⟨t_1026, t_7, by decide +kernel, by decide +kernel, by decide +kernel, by decide⟩
abbrev MX9_leastPair : Mth := (cX9_leastPair, 3, some .int, RX9, "leastPair")
theorem mi_X9_leastPair : MI yX9_leastPair MX9_leastPair 1 := ⟨t_1036, t_7, by decide +kernel, by decide +kernel, by decide +kernel, by decide⟩
abbrev MX9_commonDivisor : Mth := (cX9_commonDivisor, 11, some .long, RX9, "commonDivisor")
theorem mi_X9_commonDivisor : MI yX9_commonDivisor MX9_commonDivisor 2 := ⟨t_1022, t_7, by decide +kernel, by decide +kernel, by decide +kernel, by decide⟩
abbrev MX9_compareShares : Mth := (cX9_compareShares, 18, some .int, RX9, "compareShares")
theorem mi_X9_compareShares : MI yX9_compareShares MX9_compareShares 4 := ⟨t_1029, t_7, by decide +kernel, by decide +kernel, by decide +kernel, by decide⟩
abbrev MX10_init : Mth := (cX10_init, 1, none, RX10, "<init>")
theorem mi_X10_init : MI yX10_init MX10_init 0 := ⟨t_35, t_2, by decide +kernel, by decide +kernel, by decide +kernel, by decide⟩
abbrev MX10_putFour : Mth := (cX10_putFour, 3, none, RX10, "putFour")
theorem mi_X10_putFour : MI yX10_putFour MX10_putFour 1 := ⟨t_422, t_2, by decide +kernel, by decide +kernel, by decide +kernel, by decide⟩
abbrev MX10_open : Mth := (cX10_open, 2, none, RX10, "open")
theorem mi_X10_open : MI yX10_open MX10_open 1 := ⟨t_511, t_2, by decide +kernel, by decide +kernel, by decide +kernel, by decide⟩
abbrev MX10_advance : Mth := (cX10_advance, 1, none, RX10, "advance")
theorem mi_X10_advance : MI yX10_advance MX10_advance 0 := ⟨t_518, t_2, by decide +kernel, by decide +kernel, by decide +kernel, by decide⟩
abbrev MX10_refuse : Mth := (cX10_refuse, 1, some .boolean, RX10, "refuse")
theorem mi_X10_refuse : MI yX10_refuse MX10_refuse 0 := ⟨t_599, t_2, by decide +kernel, by decide +kernel, by decide +kernel, by decide⟩
abbrev MX10_isAtEnd : Mth := (cX10_isAtEnd, 1, some .boolean, RX10, "isAtEnd")
theorem mi_X10_isAtEnd : MI yX10_isAtEnd MX10_isAtEnd 0 := ⟨t_741, t_2, by decide +kernel, by decide +kernel, by decide +kernel, by decide⟩
abbrev MX10_isSign : Mth := (cX10_isSign, 2, some .boolean, RX10, "isSign")
theorem mi_X10_isSign : MI yX10_isSign MX10_isSign 1 := ⟨t_685, t_2, by decide +kernel, by decide +kernel, by decide +kernel, by decide⟩
abbrev MX10_takeSign : Mth := (cX10_takeSign, 2, some .boolean, RX10, "takeSign")
theorem mi_X10_takeSign : MI yX10_takeSign MX10_takeSign 1 := ⟨t_681, t_2, by decide +kernel, by decide +kernel, by decide +kernel, by decide⟩
abbrev MX10_placeIn : Mth := (cX10_placeIn, 6, some .int, RX10, "placeIn")
theorem mi_X10_placeIn : MI yX10_placeIn MX10_placeIn 1 := ⟨t_543, t_2, by decide +kernel, by decide +kernel, by decide +kernel, by decide⟩
abbrev MX10_isWord : Mth := (cX10_isWord, 2, some .boolean, RX10, "isWord")
theorem mi_X10_isWord : MI yX10_isWord MX10_isWord 1 := ⟨t_633, t_2, by decide +kernel, by decide +kernel, by decide +kernel, by decide⟩
abbrev MX10_takeWord : Mth := (cX10_takeWord, 2, some .boolean, RX10, "takeWord")
theorem mi_X10_takeWord : MI yX10_takeWord MX10_takeWord 1 := ⟨t_629, t_2, by decide +kernel, by decide +kernel, by decide +kernel, by decide⟩
abbrev MX10_takeOneOf : Mth := (cX10_takeOneOf, 3, some .int, RX10, "takeOneOf")
theorem mi_X10_takeOneOf : MI yX10_takeOneOf MX10_takeOneOf 1 := ⟨t_609, t_2, by decide +kernel, by decide +kernel, by decide +kernel, by decide⟩
abbrev MX10_takeNumber : Mth := (cX10_takeNumber, 5, some .int, RX10, "takeNumber")
theorem mi_X10_takeNumber : MI yX10_takeNumber MX10_takeNumber 2 := ⟨t_620, t_2, by decide +kernel, by decide +kernel, by decide +kernel, by decide⟩
abbrev MX11_init : Mth := (cX11_init, 2, none, RX11, "<init>")
theorem mi_X11_init : MI yX11_init MX11_init 0 := ⟨t_27, t_1, by decide +kernel, by decide +kernel, by decide +kernel, by decide⟩
abbrev MX11_family : Mth := (cX11_family, 3, some .boolean, RX11, "family")
theorem mi_X11_family : MI yX11_family MX11_family 2 := ⟨t_404, t_1, by decide +kernel, by decide +kernel, by decide +kernel, by decide⟩
abbrev MX11_feed : Mth := (cX11_feed, 6, some .int, RX11, "feed")
theorem mi_X11_feed : MI yX11_feed MX11_feed 5 := ⟨t_418, t_1, by decide +kernel, by decide +kernel, by decide +kernel, by decide⟩
abbrev MX11_deal : Mth := (cX11_deal, 5, some .int, RX11, "deal")
theorem mi_X11_deal : MI yX11_deal MX11_deal 2 := ⟨t_426, t_1, by decide +kernel, by decide +kernel, by decide +kernel, by decide⟩
abbrev MX11_law : Mth := (cX11_law, 3, some .int, RX11, "law")
theorem mi_X11_law : MI yX11_law MX11_law 1 := ⟨t_762, t_1, by decide +kernel, by decide +kernel, by decide +kernel, by decide⟩
abbrev MX11_word : Mth := (cX11_word, 3, some .int, RX11, "word")
theorem mi_X11_word : MI yX11_word MX11_word 1 := ⟨t_825, t_1, by decide +kernel, by decide +kernel, by decide +kernel, by decide⟩
abbrev MX11_fault : Mth := (cX11_fault, 1, some .int, RX11, "fault")
theorem mi_X11_fault : MI yX11_fault MX11_fault 0 := ⟨t_829, t_1, by decide +kernel, by decide +kernel, by decide +kernel, by decide⟩
abbrev MX11_size : Mth := (cX11_size, 4, some .int, RX11, "size")
theorem mi_X11_size : MI yX11_size MX11_size 2 := ⟨t_833, t_1, by decide +kernel, by decide +kernel, by decide +kernel, by decide⟩
abbrev MX11_leaf : Mth := (cX11_leaf, 5, some .int, RX11, "leaf")
theorem mi_X11_leaf : MI yX11_leaf MX11_leaf 3 := ⟨t_841, t_1, by decide +kernel, by decide +kernel, by decide +kernel, by decide⟩
abbrev MX11_plain : Mth := (cX11_plain, 3, some .int, RX11, "plain")
theorem mi_X11_plain : MI yX11_plain MX11_plain 2 := ⟨t_845, t_1, by decide +kernel, by decide +kernel, by decide +kernel, by decide⟩
abbrev MX11_same : Mth := (cX11_same, 3, some .int, RX11, "same")
theorem mi_X11_same : MI yX11_same MX11_same 2 := ⟨t_849, t_1, by decide +kernel, by decide +kernel, by decide +kernel, by decide⟩
abbrev MX11_add : Mth := (cX11_add, 2, some .int, RX11, "add")
theorem mi_X11_add : MI yX11_add MX11_add 1 := ⟨t_885, t_1, by decide +kernel, by decide +kernel, by decide +kernel, by decide⟩
abbrev MX11_clear : Mth := (cX11_clear, 2, some .int, RX11, "clear")
theorem mi_X11_clear : MI yX11_clear MX11_clear 0 := ⟨t_897, t_1, by decide +kernel, by decide +kernel, by decide +kernel, by decide⟩
abbrev MX11_passed : Mth := (cX11_passed, 4, some .long, RX11, "passed")
theorem mi_X11_passed : MI yX11_passed MX11_passed 3 := ⟨t_901, t_1, by decide +kernel, by decide +kernel, by decide +kernel, by decide⟩
abbrev MX11_net : Mth := (cX11_net, 5, some .long, RX11, "net")
theorem mi_X11_net : MI yX11_net MX11_net 4 := ⟨t_931, t_1, by decide +kernel, by decide +kernel, by decide +kernel, by decide⟩
abbrev MX11_codes : Mth := (cX11_codes, 1, some .int, RX11, "codes")
theorem mi_X11_codes : MI yX11_codes MX11_codes 0 := ⟨t_947, t_1, by decide +kernel, by decide +kernel, by decide +kernel, by decide⟩
abbrev MX11_lends : Mth := (cX11_lends, 3, some .int, RX11, "lends")
theorem mi_X11_lends : MI yX11_lends MX11_lends 2 := ⟨t_964, t_1, by decide +kernel, by decide +kernel, by decide +kernel, by decide⟩
abbrev MX11_price : Mth := (cX11_price, 5, some .long, RX11, "price")
theorem mi_X11_price : MI yX11_price MX11_price 3 := ⟨t_1040, t_1, by decide +kernel, by decide +kernel, by decide +kernel, by decide⟩
abbrev MX11_loan : Mth := (cX11_loan, 1, some .int, RX11, "loan")
theorem mi_X11_loan : MI yX11_loan MX11_loan 0 := ⟨t_1044, t_1, by decide +kernel, by decide +kernel, by decide +kernel, by decide⟩
abbrev MX11_step : Mth := (cX11_step, 1, some .long, RX11, "step")
theorem mi_X11_step : MI yX11_step MX11_step 0 := ⟨t_1048, t_1, by decide +kernel, by decide +kernel, by decide +kernel, by decide⟩
abbrev MX11_bears : Mth := (cX11_bears, 3, some .long, RX11, "bears")
theorem mi_X11_bears : MI yX11_bears MX11_bears 2 := ⟨t_1052, t_1, by decide +kernel, by decide +kernel, by decide +kernel, by decide⟩
abbrev MX11_cost : Mth := (cX11_cost, 12, some .long, RX11, "cost")
theorem mi_X11_cost : MI yX11_cost MX11_cost 3 := ⟨t_1056, t_1, by decide +kernel, by decide +kernel, by decide +kernel, by decide⟩
abbrev MX11_breach : Mth := (cX11_breach, 4, some .int, RX11, "breach")
theorem mi_X11_breach : MI yX11_breach MX11_breach 1 := ⟨t_1060, t_1, by decide +kernel, by decide +kernel, by decide +kernel, by decide⟩
abbrev MX11_bars : Mth := (cX11_bars, 2, some .int, RX11, "bars")
theorem mi_X11_bars : MI yX11_bars MX11_bars 1 := ⟨t_1101, t_1, by decide +kernel, by decide +kernel, by decide +kernel, by decide⟩
abbrev MX11_offer : Mth := (cX11_offer, 2, some .int, RX11, "offer")
theorem mi_X11_offer : MI yX11_offer MX11_offer 1 := ⟨t_1105, t_1, by decide +kernel, by decide +kernel, by decide +kernel, by decide⟩
abbrev MX11_sly : Mth := (cX11_sly, 3, some .int, RX11, "sly")
theorem mi_X11_sly : MI yX11_sly MX11_sly 2 := ⟨t_1114, t_1, by decide +kernel, by decide +kernel, by decide +kernel, by decide⟩
abbrev MX11_honest : Mth := (cX11_honest, 2, some .int, RX11, "honest")
theorem mi_X11_honest : MI yX11_honest MX11_honest 0 := ⟨t_1175, t_1, by decide +kernel, by decide +kernel, by decide +kernel, by decide⟩
abbrev MX11_innocent : Mth := (cX11_innocent, 4, some .int, RX11, "innocent")
theorem mi_X11_innocent : MI yX11_innocent MX11_innocent 2 := ⟨t_1184, t_1, by decide +kernel, by decide +kernel, by decide +kernel, by decide⟩
abbrev MX11_parts : Mth := (cX11_parts, 4, some .int, RX11, "parts")
theorem mi_X11_parts : MI yX11_parts MX11_parts 1 := ⟨t_1193, t_1, by decide +kernel, by decide +kernel, by decide +kernel, by decide⟩
abbrev MX11_stop : Mth := (cX11_stop, 4, some .int, RX11, "stop")
theorem mi_X11_stop : MI yX11_stop MX11_stop 1 := ⟨t_1202, t_1, by decide +kernel, by decide +kernel, by decide +kernel, by decide⟩
abbrev MX11_heap : Mth := (cX11_heap, 3, some .int, RX11, "heap")
theorem mi_X11_heap : MI yX11_heap MX11_heap 2 := ⟨t_1226, t_1, by decide +kernel, by decide +kernel, by decide +kernel, by decide⟩
abbrev MX11_group : Mth := (cX11_group, 3, some .int, RX11, "group")
theorem mi_X11_group : MI yX11_group MX11_group 2 := ⟨t_1251, t_1, by decide +kernel, by decide +kernel, by decide +kernel, by decide⟩
abbrev MX11_count : Mth := (cX11_count, 2, some .int, RX11, "count")
theorem mi_X11_count : MI yX11_count MX11_count 1 := ⟨t_1260, t_1, by decide +kernel, by decide +kernel, by decide +kernel, by decide⟩
abbrev MX11_isWithin : Mth := (cX11_isWithin, 2, some .boolean, RX11, "isWithin")
theorem mi_X11_isWithin : MI yX11_isWithin MX11_isWithin 2 := ⟨t_407, t_1, by decide +kernel, by decide +kernel, by decide +kernel, by decide⟩
abbrev MX11_isPair : Mth := (cX11_isPair, 2, some .boolean, RX11, "isPair")
theorem mi_X11_isPair : MI yX11_isPair MX11_isPair 2 := ⟨t_967, t_1, by decide +kernel, by decide +kernel, by decide +kernel, by decide⟩
abbrev MX11_refusalOf : Mth := (cX11_refusalOf, 4, some .int, RX11, "refusalOf")
theorem mi_X11_refusalOf : MI yX11_refusalOf MX11_refusalOf 3 := ⟨t_430, t_1, by decide +kernel, by decide +kernel, by decide +kernel, by decide⟩
abbrev MX11_tellRules : Mth := (cX11_tellRules, 7, some .int, RX11, "tellRules")
theorem mi_X11_tellRules : MI yX11_tellRules MX11_tellRules 5 := ⟨t_766, t_1, by decide +kernel, by decide +kernel, by decide +kernel, by decide⟩
abbrev MX11_closeText : Mth := (cX11_closeText, 3, some .int, RX11, "closeText")
theorem mi_X11_closeText : MI yX11_closeText MX11_closeText 2 := ⟨t_757, t_1, by decide +kernel, by decide +kernel, by decide +kernel, by decide⟩
abbrev MX11_lawInForce : Mth := (cX11_lawInForce, 1, some (.object "LoanNames$Rules"), RX11, "lawInForce")
theorem mi_X11_lawInForce : MI yX11_lawInForce MX11_lawInForce 0 := ⟨t_1064, t_1, by decide +kernel, by decide +kernel, by decide +kernel, by decide⟩
abbrev MX11_isLet : Mth := (cX11_isLet, 3, some .boolean, RX11, "isLet")
theorem mi_X11_isLet : MI yX11_isLet MX11_isLet 1 := ⟨t_1188, t_1, by decide +kernel, by decide +kernel, by decide +kernel, by decide⟩
abbrev MX11_sparesHonest : Mth := (cX11_sparesHonest, 3, some .boolean, RX11, "sparesHonest")
theorem mi_X11_sparesHonest : MI yX11_sparesHonest MX11_sparesHonest 1 := ⟨t_1206, t_1, by decide +kernel, by decide +kernel, by decide +kernel, by decide⟩
abbrev MX12_init : Mth := (cX12_init, 2, none, RX12, "<init>")
theorem mi_X12_init : MI yX12_init MX12_init 0 := ⟨t_1270, t_11, by decide +kernel, by decide +kernel, by decide +kernel, by decide⟩
abbrev MX12_within : Mth := (cX12_within, 3, some .boolean, RX12, "within")
theorem mi_X12_within : MI yX12_within MX12_within 3 := ⟨t_1559, t_11, by decide +kernel, by decide +kernel, by decide +kernel, by decide⟩
abbrev MX12_family : Mth := (cX12_family, 3, some .boolean, RX12, "family")
theorem mi_X12_family : MI yX12_family MX12_family 2 := ⟨t_1556, t_11, by decide +kernel, by decide +kernel, by decide +kernel, by decide⟩
abbrev MX12_feed : Mth := (cX12_feed, 8, some .int, RX12, "feed")
theorem mi_X12_feed : MI yX12_feed MX12_feed 5 := ⟨t_1563, t_11, by decide +kernel, by decide +kernel, by decide +kernel, by decide⟩
abbrev MX12_here : Mth := (cX12_here, 1, some .int, RX12, "here")
theorem mi_X12_here : MI yX12_here MX12_here 0 := ⟨t_1579, t_11, by decide +kernel, by decide +kernel, by decide +kernel, by decide⟩
abbrev MX12_next : Mth := (cX12_next, 2, none, RX12, "next")
theorem mi_X12_next : MI yX12_next MX12_next 0 := ⟨t_1575, t_11, by decide +kernel, by decide +kernel, by decide +kernel, by decide⟩
abbrev MX12_errs : Mth := (cX12_errs, 1, none, RX12, "errs")
theorem mi_X12_errs : MI yX12_errs MX12_errs 0 := ⟨t_1598, t_11, by decide +kernel, by decide +kernel, by decide +kernel, by decide⟩
abbrev MX12_is : Mth := (cX12_is, 3, some .boolean, RX12, "is")
theorem mi_X12_is : MI yX12_is MX12_is 1 := ⟨t_1638, t_11, by decide +kernel, by decide +kernel, by decide +kernel, by decide⟩
abbrev MX12_mustBe : Mth := (cX12_mustBe, 3, none, RX12, "mustBe")
theorem mi_X12_mustBe : MI yX12_mustBe MX12_mustBe 1 := ⟨t_1634, t_11, by decide +kernel, by decide +kernel, by decide +kernel, by decide⟩
abbrev MX12_numeral : Mth := (cX12_numeral, 4, some .int, RX12, "numeral")
theorem mi_X12_numeral : MI yX12_numeral MX12_numeral 2 := ⟨t_1629, t_11, by decide +kernel, by decide +kernel, by decide +kernel, by decide⟩
abbrev MX12_thingHere : Mth := (cX12_thingHere, 1, some .int, RX12, "thingHere")
theorem mi_X12_thingHere : MI yX12_thingHere MX12_thingHere 0 := ⟨t_1619, t_11, by decide +kernel, by decide +kernel, by decide +kernel, by decide⟩
abbrev MX12_eventHere : Mth := (cX12_eventHere, 1, some .int, RX12, "eventHere")
theorem mi_X12_eventHere : MI yX12_eventHere MX12_eventHere 0 := ⟨t_1659, t_11, by decide +kernel, by decide +kernel, by decide +kernel, by decide⟩
abbrev MX12_kindHere : Mth := (cX12_kindHere, 1, some .int, RX12, "kindHere")
theorem mi_X12_kindHere : MI yX12_kindHere MX12_kindHere 0 := ⟨t_1586, t_11, by decide +kernel, by decide +kernel, by decide +kernel, by decide⟩
abbrev MX12_hand : Mth := (cX12_hand, 3, some .int, RX12, "hand")
theorem mi_X12_hand : MI yX12_hand MX12_hand 1 := ⟨t_1610, t_11, by decide +kernel, by decide +kernel, by decide +kernel, by decide⟩
abbrev MX12_thingOf : Mth := (cX12_thingOf, 2, some .int, RX12, "thingOf")
theorem mi_X12_thingOf : MI yX12_thingOf MX12_thingOf 0 := ⟨t_1615, t_11, by decide +kernel, by decide +kernel, by decide +kernel, by decide⟩
abbrev MX12_beginsText : Mth := (cX12_beginsText, 2, none, RX12, "beginsText")
theorem mi_X12_beginsText : MI yX12_beginsText MX12_beginsText 1 := ⟨t_1571, t_11, by decide +kernel, by decide +kernel, by decide +kernel, by decide⟩
abbrev MX12_newNode : Mth := (cX12_newNode, 3, some .int, RX12, "newNode")
theorem mi_X12_newNode : MI yX12_newNode MX12_newNode 1 := ⟨t_1606, t_11, by decide +kernel, by decide +kernel, by decide +kernel, by decide⟩
abbrev MX12_readLeaf : Mth := (cX12_readLeaf, 3, none, RX12, "readLeaf")
theorem mi_X12_readLeaf : MI yX12_readLeaf MX12_readLeaf 1 := ⟨t_1602, t_11, by decide +kernel, by decide +kernel, by decide +kernel, by decide⟩
abbrev MX12_opens : Mth := (cX12_opens, 3, none, RX12, "opens")
theorem mi_X12_opens : MI yX12_opens MX12_opens 2 := ⟨t_1651, t_11, by decide +kernel, by decide +kernel, by decide +kernel, by decide⟩
abbrev MX12_readGroup : Mth := (cX12_readGroup, 3, none, RX12, "readGroup")
theorem mi_X12_readGroup : MI yX12_readGroup MX12_readGroup 1 := ⟨t_1655, t_11, by decide +kernel, by decide +kernel, by decide +kernel, by decide⟩
abbrev MX12_closes : Mth := (cX12_closes, 3, some .boolean, RX12, "closes")
theorem mi_X12_closes : MI yX12_closes MX12_closes 0 := ⟨t_1645, t_11, by decide +kernel, by decide +kernel, by decide +kernel, by decide⟩
abbrev MX12_deal : Mth := (cX12_deal, 5, some .int, RX12, "deal")
theorem mi_X12_deal : MI yX12_deal MX12_deal 2 := ⟨t_1567, t_11, by decide +kernel, by decide +kernel, by decide +kernel, by decide⟩
abbrev MX12_fault : Mth := (cX12_fault, 1, some .int, RX12, "fault")
theorem mi_X12_fault : MI yX12_fault MX12_fault 0 := ⟨t_1668, t_11, by decide +kernel, by decide +kernel, by decide +kernel, by decide⟩
abbrev MX12_isDeal : Mth := (cX12_isDeal, 2, some .boolean, RX12, "isDeal")
theorem mi_X12_isDeal : MI yX12_isDeal MX12_isDeal 1 := ⟨t_1676, t_11, by decide +kernel, by decide +kernel, by decide +kernel, by decide⟩
abbrev MX12_isLeaf : Mth := (cX12_isLeaf, 2, some .boolean, RX12, "isLeaf")
theorem mi_X12_isLeaf : MI yX12_isLeaf MX12_isLeaf 1 := ⟨t_1680, t_11, by decide +kernel, by decide +kernel, by decide +kernel, by decide⟩
abbrev MX12_later : Mth := (cX12_later, 4, some .int, RX12, "later")
theorem mi_X12_later : MI yX12_later MX12_later 1 := ⟨t_1692, t_11, by decide +kernel, by decide +kernel, by decide +kernel, by decide⟩
abbrev MX12_size : Mth := (cX12_size, 5, some .int, RX12, "size")
theorem mi_X12_size : MI yX12_size MX12_size 2 := ⟨t_1672, t_11, by decide +kernel, by decide +kernel, by decide +kernel, by decide⟩
abbrev MX12_leaf : Mth := (cX12_leaf, 6, some .int, RX12, "leaf")
theorem mi_X12_leaf : MI yX12_leaf MX12_leaf 3 := ⟨t_1684, t_11, by decide +kernel, by decide +kernel, by decide +kernel, by decide⟩
abbrev MX12_told : Mth := (cX12_told, 3, some .int, RX12, "told")
theorem mi_X12_told : MI yX12_told MX12_told 2 := ⟨t_1688, t_11, by decide +kernel, by decide +kernel, by decide +kernel, by decide⟩
abbrev MX12_times : Mth := (cX12_times, 8, some .long, RX12, "times")
theorem mi_X12_times : MI yX12_times MX12_times 3 := ⟨t_1736, t_11, by decide +kernel, by decide +kernel, by decide +kernel, by decide⟩
abbrev MX12_rowsOf : Mth := (cX12_rowsOf, 2, some .int, RX12, "rowsOf")
theorem mi_X12_rowsOf : MI yX12_rowsOf MX12_rowsOf 1 := ⟨t_1776, t_11, by decide +kernel, by decide +kernel, by decide +kernel, by decide⟩
abbrev MX12_partsLeft : Mth := (cX12_partsLeft, 6, some .int, RX12, "partsLeft")
theorem mi_X12_partsLeft : MI yX12_partsLeft MX12_partsLeft 3 := ⟨t_1704, t_11, by decide +kernel, by decide +kernel, by decide +kernel, by decide⟩
abbrev MX12_sign : Mth := (cX12_sign, 3, none, RX12, "sign")
theorem mi_X12_sign : MI yX12_sign MX12_sign 2 := ⟨t_1720, t_11, by decide +kernel, by decide +kernel, by decide +kernel, by decide⟩
abbrev MX12_partLeft : Mth := (cX12_partLeft, 6, some .int, RX12, "partLeft")
theorem mi_X12_partLeft : MI yX12_partLeft MX12_partLeft 3 := ⟨t_1724, t_11, by decide +kernel, by decide +kernel, by decide +kernel, by decide⟩
abbrev MX12_closesUp : Mth := (cX12_closesUp, 3, none, RX12, "closesUp")
theorem mi_X12_closesUp : MI yX12_closesUp MX12_closesUp 2 := ⟨t_1716, t_11, by decide +kernel, by decide +kernel, by decide +kernel, by decide⟩
abbrev MX12_laysOut : Mth := (cX12_laysOut, 7, some .int, RX12, "laysOut")
theorem mi_X12_laysOut : MI yX12_laysOut MX12_laysOut 4 := ⟨t_1712, t_11, by decide +kernel, by decide +kernel, by decide +kernel, by decide⟩
abbrev MX12_areAlike : Mth := (cX12_areAlike, 6, some .boolean, RX12, "areAlike")
theorem mi_X12_areAlike : MI yX12_areAlike MX12_areAlike 2 := ⟨t_1708, t_11, by decide +kernel, by decide +kernel, by decide +kernel, by decide⟩
abbrev MX12_simplifies : Mth := (cX12_simplifies, 7, none, RX12, "simplifies")
theorem mi_X12_simplifies : MI yX12_simplifies MX12_simplifies 2 := ⟨t_1700, t_11, by decide +kernel, by decide +kernel, by decide +kernel, by decide⟩
abbrev MX12_plain : Mth := (cX12_plain, 6, some .int, RX12, "plain")
theorem mi_X12_plain : MI yX12_plain MX12_plain 2 := ⟨t_1696, t_11, by decide +kernel, by decide +kernel, by decide +kernel, by decide⟩
abbrev MX12_flow : Mth := (cX12_flow, 7, none, RX12, "flow")
theorem mi_X12_flow : MI yX12_flow MX12_flow 5 := ⟨t_1740, t_11, by decide +kernel, by decide +kernel, by decide +kernel, by decide⟩
abbrev MX12_passes : Mth := (cX12_passes, 8, none, RX12, "passes")
theorem mi_X12_passes : MI yX12_passes MX12_passes 3 := ⟨t_1732, t_11, by decide +kernel, by decide +kernel, by decide +kernel, by decide⟩
abbrev MX12_among : Mth := (cX12_among, 7, some .long, RX12, "among")
theorem mi_X12_among : MI yX12_among MX12_among 3 := ⟨t_1744, t_11, by decide +kernel, by decide +kernel, by decide +kernel, by decide⟩
abbrev MX12_same : Mth := (cX12_same, 7, some .int, RX12, "same")
theorem mi_X12_same : MI yX12_same MX12_same 2 := ⟨t_1728, t_11, by decide +kernel, by decide +kernel, by decide +kernel, by decide⟩
abbrev MX12_add : Mth := (cX12_add, 3, some .int, RX12, "add")
theorem mi_X12_add : MI yX12_add MX12_add 1 := ⟨t_1748, t_11, by decide +kernel, by decide +kernel, by decide +kernel, by decide⟩
abbrev MX12_clear : Mth := (cX12_clear, 2, some .int, RX12, "clear")
theorem mi_X12_clear : MI yX12_clear MX12_clear 0 := ⟨t_1752, t_11, by decide +kernel, by decide +kernel, by decide +kernel, by decide⟩
abbrev MX12_bundleAtHand : Mth := (cX12_bundleAtHand, 2, none, RX12, "bundleAtHand")
theorem mi_X12_bundleAtHand : MI yX12_bundleAtHand MX12_bundleAtHand 0 := ⟨t_1760, t_11, by decide +kernel, by decide +kernel, by decide +kernel, by decide⟩
abbrev MX12_choicesAtHand : Mth := (cX12_choicesAtHand, 3, some .int, RX12, "choicesAtHand")
theorem mi_X12_choicesAtHand : MI yX12_choicesAtHand MX12_choicesAtHand 0 := ⟨t_1768, t_11, by decide +kernel, by decide +kernel, by decide +kernel, by decide⟩
abbrev MX12_eventsAtHand : Mth := (cX12_eventsAtHand, 3, some .int, RX12, "eventsAtHand")
theorem mi_X12_eventsAtHand : MI yX12_eventsAtHand MX12_eventsAtHand 0 := ⟨t_1809, t_11, by decide +kernel, by decide +kernel, by decide +kernel, by decide⟩
abbrev MX12_bitsOf : Mth := (cX12_bitsOf, 3, some .int, RX12, "bitsOf")
theorem mi_X12_bitsOf : MI yX12_bitsOf MX12_bitsOf 1 := ⟨t_1812, t_11, by decide +kernel, by decide +kernel, by decide +kernel, by decide⟩
abbrev MX12_isLookedAt : Mth := (cX12_isLookedAt, 1, some .boolean, RX12, "isLookedAt")
theorem mi_X12_isLookedAt : MI yX12_isLookedAt MX12_isLookedAt 0 := ⟨t_1805, t_11, by decide +kernel, by decide +kernel, by decide +kernel, by decide⟩
abbrev MX12_codesAtHand : Mth := (cX12_codesAtHand, 1, some .int, RX12, "codesAtHand")
theorem mi_X12_codesAtHand : MI yX12_codesAtHand MX12_codesAtHand 0 := ⟨t_1764, t_11, by decide +kernel, by decide +kernel, by decide +kernel, by decide⟩
abbrev MX12_codeFrom : Mth := (cX12_codeFrom, 4, some .int, RX12, "codeFrom")
theorem mi_X12_codeFrom : MI yX12_codeFrom MX12_codeFrom 1 := ⟨t_1823, t_11, by decide +kernel, by decide +kernel, by decide +kernel, by decide⟩
abbrev MX12_passesAll : Mth := (cX12_passesAll, 4, none, RX12, "passesAll")
theorem mi_X12_passesAll : MI yX12_passesAll MX12_passesAll 1 := ⟨t_1793, t_11, by decide +kernel, by decide +kernel, by decide +kernel, by decide⟩
abbrev MX12_netOf : Mth := (cX12_netOf, 7, some .long, RX12, "netOf")
theorem mi_X12_netOf : MI yX12_netOf MX12_netOf 3 := ⟨t_1797, t_11, by decide +kernel, by decide +kernel, by decide +kernel, by decide⟩
abbrev MX12_findRow : Mth := (cX12_findRow, 9, none, RX12, "findRow")
theorem mi_X12_findRow : MI yX12_findRow MX12_findRow 4 := ⟨t_1780, t_11, by decide +kernel, by decide +kernel, by decide +kernel, by decide⟩
abbrev MX12_rowTold : Mth := (cX12_rowTold, 5, some .long, RX12, "rowTold")
theorem mi_X12_rowTold : MI yX12_rowTold MX12_rowTold 1 := ⟨t_1784, t_11, by decide +kernel, by decide +kernel, by decide +kernel, by decide⟩
abbrev MX12_rowsOfDeal : Mth := (cX12_rowsOfDeal, 6, some .int, RX12, "rowsOfDeal")
theorem mi_X12_rowsOfDeal : MI yX12_rowsOfDeal MX12_rowsOfDeal 3 := ⟨t_1772, t_11, by decide +kernel, by decide +kernel, by decide +kernel, by decide⟩
abbrev MX12_passed : Mth := (cX12_passed, 8, some .long, RX12, "passed")
theorem mi_X12_passed : MI yX12_passed MX12_passed 3 := ⟨t_1756, t_11, by decide +kernel, by decide +kernel, by decide +kernel, by decide⟩
abbrev MX12_net : Mth := (cX12_net, 5, some .long, RX12, "net")
theorem mi_X12_net : MI yX12_net MX12_net 4 := ⟨t_1788, t_11, by decide +kernel, by decide +kernel, by decide +kernel, by decide⟩
abbrev MX12_codes : Mth := (cX12_codes, 1, some .int, RX12, "codes")
theorem mi_X12_codes : MI yX12_codes MX12_codes 0 := ⟨t_1801, t_11, by decide +kernel, by decide +kernel, by decide +kernel, by decide⟩
abbrev MX12_findDays : Mth := (cX12_findDays, 4, none, RX12, "findDays")
theorem mi_X12_findDays : MI yX12_findDays MX12_findDays 0 := ⟨t_1831, t_11, by decide +kernel, by decide +kernel, by decide +kernel, by decide⟩
abbrev MX12_lendingDay : Mth := (cX12_lendingDay, 7, some .int, RX12, "lendingDay")
theorem mi_X12_lendingDay : MI yX12_lendingDay MX12_lendingDay 1 := ⟨t_1835, t_11, by decide +kernel, by decide +kernel, by decide +kernel, by decide⟩
abbrev MX12_findLending : Mth := (cX12_findLending, 5, none, RX12, "findLending")
theorem mi_X12_findLending : MI yX12_findLending MX12_findLending 1 := ⟨t_1827, t_11, by decide +kernel, by decide +kernel, by decide +kernel, by decide⟩
abbrev MX12_areTwo : Mth := (cX12_areTwo, 2, some .boolean, RX12, "areTwo")
theorem mi_X12_areTwo : MI yX12_areTwo MX12_areTwo 2 := ⟨t_1819, t_11, by decide +kernel, by decide +kernel, by decide +kernel, by decide⟩
abbrev MX12_lends : Mth := (cX12_lends, 5, some .int, RX12, "lends")
theorem mi_X12_lends : MI yX12_lends MX12_lends 2 := ⟨t_1816, t_11, by decide +kernel, by decide +kernel, by decide +kernel, by decide⟩
abbrev MX12_divisor : Mth := (cX12_divisor, 10, some .long, RX12, "divisor")
theorem mi_X12_divisor : MI yX12_divisor MX12_divisor 2 := ⟨t_1849, t_11, by decide +kernel, by decide +kernel, by decide +kernel, by decide⟩
abbrev MX12_isLess : Mth := (cX12_isLess, 25, some .boolean, RX12, "isLess")
theorem mi_X12_isLess : MI yX12_isLess MX12_isLess 4 := ⟨t_1846, t_11, by decide +kernel, by decide +kernel, by decide +kernel, by decide⟩
abbrev MX12_outOf : Mth := (cX12_outOf, 7, some .long, RX12, "outOf")
theorem mi_X12_outOf : MI yX12_outOf MX12_outOf 1 := ⟨t_1843, t_11, by decide +kernel, by decide +kernel, by decide +kernel, by decide⟩
abbrev MX12_price : Mth := (cX12_price, 14, some .long, RX12, "price")
theorem mi_X12_price : MI yX12_price MX12_price 3 := ⟨t_1839, t_11, by decide +kernel, by decide +kernel, by decide +kernel, by decide⟩
abbrev MX12_loanAtHand : Mth := (cX12_loanAtHand, 4, some .int, RX12, "loanAtHand")
theorem mi_X12_loanAtHand : MI yX12_loanAtHand MX12_loanAtHand 0 := ⟨t_1857, t_11, by decide +kernel, by decide +kernel, by decide +kernel, by decide⟩
abbrev MX12_loan : Mth := (cX12_loan, 1, some .int, RX12, "loan")
theorem mi_X12_loan : MI yX12_loan MX12_loan 0 := ⟨t_1853, t_11, by decide +kernel, by decide +kernel, by decide +kernel, by decide⟩
abbrev MX12_step : Mth := (cX12_step, 7, some .long, RX12, "step")
theorem mi_X12_step : MI yX12_step MX12_step 0 := ⟨t_1861, t_11, by decide +kernel, by decide +kernel, by decide +kernel, by decide⟩
abbrev MX12_bears : Mth := (cX12_bears, 5, some .long, RX12, "bears")
theorem mi_X12_bears : MI yX12_bears MX12_bears 2 := ⟨t_1865, t_11, by decide +kernel, by decide +kernel, by decide +kernel, by decide⟩
abbrev MX12_cost : Mth := (cX12_cost, 12, some .long, RX12, "cost")
theorem mi_X12_cost : MI yX12_cost MX12_cost 3 := ⟨t_1869, t_11, by decide +kernel, by decide +kernel, by decide +kernel, by decide⟩
abbrev MX12_formHere : Mth := (cX12_formHere, 3, some .int, RX12, "formHere")
theorem mi_X12_formHere : MI yX12_formHere MX12_formHere 0 := ⟨t_1886, t_11, by decide +kernel, by decide +kernel, by decide +kernel, by decide⟩
abbrev MX12_ofHere : Mth := (cX12_ofHere, 1, some .int, RX12, "ofHere")
theorem mi_X12_ofHere : MI yX12_ofHere MX12_ofHere 0 := ⟨t_1891, t_11, by decide +kernel, by decide +kernel, by decide +kernel, by decide⟩
abbrev MX12_askedHere : Mth := (cX12_askedHere, 1, some .int, RX12, "askedHere")
theorem mi_X12_askedHere : MI yX12_askedHere MX12_askedHere 0 := ⟨t_1897, t_11, by decide +kernel, by decide +kernel, by decide +kernel, by decide⟩
abbrev MX12_readBar : Mth := (cX12_readBar, 2, none, RX12, "readBar")
theorem mi_X12_readBar : MI yX12_readBar MX12_readBar 1 := ⟨t_1881, t_11, by decide +kernel, by decide +kernel, by decide +kernel, by decide⟩
abbrev MX12_readBars : Mth := (cX12_readBars, 4, some .int, RX12, "readBars")
theorem mi_X12_readBars : MI yX12_readBars MX12_readBars 2 := ⟨t_1877, t_11, by decide +kernel, by decide +kernel, by decide +kernel, by decide⟩
abbrev MX12_law : Mth := (cX12_law, 3, some .int, RX12, "law")
theorem mi_X12_law : MI yX12_law MX12_law 1 := ⟨t_1873, t_11, by decide +kernel, by decide +kernel, by decide +kernel, by decide⟩
abbrev MX12_word : Mth := (cX12_word, 3, some .int, RX12, "word")
theorem mi_X12_word : MI yX12_word MX12_word 1 := ⟨t_1904, t_11, by decide +kernel, by decide +kernel, by decide +kernel, by decide⟩
abbrev MX12_findLeaves : Mth := (cX12_findLeaves, 3, none, RX12, "findLeaves")
theorem mi_X12_findLeaves : MI yX12_findLeaves MX12_findLeaves 0 := ⟨t_1916, t_11, by decide +kernel, by decide +kernel, by decide +kernel, by decide⟩
abbrev MX12_isOf : Mth := (cX12_isOf, 5, some .boolean, RX12, "isOf")
theorem mi_X12_isOf : MI yX12_isOf MX12_isOf 3 := ⟨t_1924, t_11, by decide +kernel, by decide +kernel, by decide +kernel, by decide⟩
abbrev MX12_isPair : Mth := (cX12_isPair, 7, some .boolean, RX12, "isPair")
theorem mi_X12_isPair : MI yX12_isPair MX12_isPair 3 := ⟨t_1928, t_11, by decide +kernel, by decide +kernel, by decide +kernel, by decide⟩
abbrev MX12_doesBar : Mth := (cX12_doesBar, 4, some .boolean, RX12, "doesBar")
theorem mi_X12_doesBar : MI yX12_doesBar MX12_doesBar 1 := ⟨t_1920, t_11, by decide +kernel, by decide +kernel, by decide +kernel, by decide⟩
abbrev MX12_breachNow : Mth := (cX12_breachNow, 3, some .int, RX12, "breachNow")
theorem mi_X12_breachNow : MI yX12_breachNow MX12_breachNow 0 := ⟨t_1912, t_11, by decide +kernel, by decide +kernel, by decide +kernel, by decide⟩
abbrev MX12_breach : Mth := (cX12_breach, 3, some .int, RX12, "breach")
theorem mi_X12_breach : MI yX12_breach MX12_breach 1 := ⟨t_1908, t_11, by decide +kernel, by decide +kernel, by decide +kernel, by decide⟩
abbrev MX12_doesWordBar : Mth := (cX12_doesWordBar, 3, some .boolean, RX12, "doesWordBar")
theorem mi_X12_doesWordBar : MI yX12_doesWordBar MX12_doesWordBar 1 := ⟨t_1936, t_11, by decide +kernel, by decide +kernel, by decide +kernel, by decide⟩
abbrev MX12_bars : Mth := (cX12_bars, 2, some .int, RX12, "bars")
theorem mi_X12_bars : MI yX12_bars MX12_bars 1 := ⟨t_1932, t_11, by decide +kernel, by decide +kernel, by decide +kernel, by decide⟩
abbrev MX12_offer : Mth := (cX12_offer, 3, some .int, RX12, "offer")
theorem mi_X12_offer : MI yX12_offer MX12_offer 1 := ⟨t_1940, t_11, by decide +kernel, by decide +kernel, by decide +kernel, by decide⟩
abbrev MX12_findSly : Mth := (cX12_findSly, 4, none, RX12, "findSly")
theorem mi_X12_findSly : MI yX12_findSly MX12_findSly 1 := ⟨t_1948, t_11, by decide +kernel, by decide +kernel, by decide +kernel, by decide⟩
abbrev MX12_wordsThatBar : Mth := (cX12_wordsThatBar, 3, some .int, RX12, "wordsThatBar")
theorem mi_X12_wordsThatBar : MI yX12_wordsThatBar MX12_wordsThatBar 0 := ⟨t_1952, t_11, by decide +kernel, by decide +kernel, by decide +kernel, by decide⟩
abbrev MX12_sly : Mth := (cX12_sly, 3, some .int, RX12, "sly")
theorem mi_X12_sly : MI yX12_sly MX12_sly 2 := ⟨t_1944, t_11, by decide +kernel, by decide +kernel, by decide +kernel, by decide⟩
abbrev MX12_honest : Mth := (cX12_honest, 2, some .int, RX12, "honest")
theorem mi_X12_honest : MI yX12_honest MX12_honest 0 := ⟨t_1956, t_11, by decide +kernel, by decide +kernel, by decide +kernel, by decide⟩
abbrev MX12_honestAtHand : Mth := (cX12_honestAtHand, 3, none, RX12, "honestAtHand")
theorem mi_X12_honestAtHand : MI yX12_honestAtHand MX12_honestAtHand 1 := ⟨t_1964, t_11, by decide +kernel, by decide +kernel, by decide +kernel, by decide⟩
abbrev MX12_innocent : Mth := (cX12_innocent, 3, some .int, RX12, "innocent")
theorem mi_X12_innocent : MI yX12_innocent MX12_innocent 2 := ⟨t_1960, t_11, by decide +kernel, by decide +kernel, by decide +kernel, by decide⟩
abbrev MX12_doPart : Mth := (cX12_doPart, 5, some .boolean, RX12, "doPart")
theorem mi_X12_doPart : MI yX12_doPart MX12_doPart 2 := ⟨t_1972, t_11, by decide +kernel, by decide +kernel, by decide +kernel, by decide⟩
abbrev MX12_parts : Mth := (cX12_parts, 4, some .int, RX12, "parts")
theorem mi_X12_parts : MI yX12_parts MX12_parts 1 := ⟨t_1968, t_11, by decide +kernel, by decide +kernel, by decide +kernel, by decide⟩
abbrev MX12_stop : Mth := (cX12_stop, 7, some .int, RX12, "stop")
theorem mi_X12_stop : MI yX12_stop MX12_stop 1 := ⟨t_1976, t_11, by decide +kernel, by decide +kernel, by decide +kernel, by decide⟩
abbrev MX12_doHang : Mth := (cX12_doHang, 5, some .boolean, RX12, "doHang")
theorem mi_X12_doHang : MI yX12_doHang MX12_doHang 3 := ⟨t_1988, t_11, by decide +kernel, by decide +kernel, by decide +kernel, by decide⟩
abbrev MX12_findGroups : Mth := (cX12_findGroups, 5, none, RX12, "findGroups")
theorem mi_X12_findGroups : MI yX12_findGroups MX12_findGroups 1 := ⟨t_1984, t_11, by decide +kernel, by decide +kernel, by decide +kernel, by decide⟩
abbrev MX12_heap : Mth := (cX12_heap, 5, some .int, RX12, "heap")
theorem mi_X12_heap : MI yX12_heap MX12_heap 2 := ⟨t_1980, t_11, by decide +kernel, by decide +kernel, by decide +kernel, by decide⟩
abbrev MX12_group : Mth := (cX12_group, 4, some .int, RX12, "group")
theorem mi_X12_group : MI yX12_group MX12_group 2 := ⟨t_1993, t_11, by decide +kernel, by decide +kernel, by decide +kernel, by decide⟩
abbrev MX12_count : Mth := (cX12_count, 2, some .int, RX12, "count")
theorem mi_X12_count : MI yX12_count MX12_count 1 := ⟨t_1997, t_11, by decide +kernel, by decide +kernel, by decide +kernel, by decide⟩
abbrev MX12_leavesTold : Mth := (cX12_leavesTold, 3, some .int, RX12, "leavesTold")
theorem mi_X12_leavesTold : MI yX12_leavesTold MX12_leavesTold 0 := ⟨t_2001, t_11, by decide +kernel, by decide +kernel, by decide +kernel, by decide⟩
abbrev MX12_choicesTold : Mth := (cX12_choicesTold, 3, some .int, RX12, "choicesTold")
theorem mi_X12_choicesTold : MI yX12_choicesTold MX12_choicesTold 0 := ⟨t_2005, t_11, by decide +kernel, by decide +kernel, by decide +kernel, by decide⟩
abbrev MJ6_numberOfTrailingZeros_0f7a4 : Mth := (cJ6_numberOfTrailingZeros_0f7a4, 2, some .int, RJ6, "numberOfTrailingZeros")
theorem mi_J6_numberOfTrailingZeros_0f7a4 : MI yJ6_numberOfTrailingZeros_0f7a4 MJ6_numberOfTrailingZeros_0f7a4 1 := ⟨t_1158, t_21, by decide +kernel, by decide +kernel, by decide +kernel, by decide⟩
abbrev MJ6_bitCount_0f7a4 : Mth := (cJ6_bitCount_0f7a4, 1, some .int, RJ6, "bitCount")
theorem mi_J6_bitCount_0f7a4 : MI yJ6_bitCount_0f7a4 MJ6_bitCount_0f7a4 1 := ⟨t_863, t_21, by decide +kernel, by decide +kernel, by decide +kernel, by decide⟩
abbrev MJ13_compare_74951 : Mth := (cJ13_compare_74951, 4, some .int, RJ13, "compare")
theorem mi_J13_compare_74951 : MI yJ13_compare_74951 MJ13_compare_74951 2 := ⟨t_1032, t_22, by decide +kernel, by decide +kernel, by decide +kernel, by decide⟩
abbrev MJ9_abs_0f7a4 : Mth := (cJ9_abs_0f7a4, 1, some .int, RJ9, "abs")
theorem mi_J9_abs_0f7a4 : MI yJ9_abs_0f7a4 MJ9_abs_0f7a4 1 := ⟨t_1238, t_14, by decide +kernel, by decide +kernel, by decide +kernel, by decide⟩
abbrev MJ9_max_7cf53 : Mth := (cJ9_max_7cf53, 2, some .int, RJ9, "max")
theorem mi_J9_max_7cf53 : MI yJ9_max_7cf53 MJ9_max_7cf53 2 := ⟨t_860, t_14, by decide +kernel, by decide +kernel, by decide +kernel, by decide⟩
abbrev MJ9_min_7cf53 : Mth := (cJ9_min_7cf53, 2, some .int, RJ9, "min")
theorem mi_J9_min_7cf53 : MI yJ9_min_7cf53 MJ9_min_7cf53 2 := ⟨t_514, t_14, by decide +kernel, by decide +kernel, by decide +kernel, by decide⟩
abbrev MJ9_min_f86c9 : Mth := (cJ9_min_f86c9, 4, some .long, RJ9, "min")
theorem mi_J9_min_f86c9 : MI yJ9_min_f86c9 MJ9_min_f86c9 2 := ⟨t_1011, t_14, by decide +kernel, by decide +kernel, by decide +kernel, by decide⟩
abbrev MJ0_length_8abf5 : Mth := (cJ0_length_8abf5, 1, some .int, RJ0, "length")
theorem mi_J0_length_8abf5 : MI yJ0_length_8abf5 MJ0_length_8abf5 0 := ⟨t_547, t_15, by decide +kernel, by decide +kernel, by decide +kernel, by decide⟩
abbrev MJ0_charAt_5068e : Mth := (cJ0_charAt_5068e, 2, some .char, RJ0, "charAt")
theorem mi_J0_charAt_5068e : MI yJ0_charAt_5068e MJ0_charAt_5068e 1 := ⟨t_557, t_15, by decide +kernel, by decide +kernel, by decide +kernel, by decide⟩
abbrev MJ0_coder_7d493 : Mth := (cJ0_coder_7d493, 1, some .byte, RJ0, "coder")
theorem mi_J0_coder_7d493 : MI yJ0_coder_7d493 MJ0_coder_7d493 0 := ⟨t_551, t_15, by decide +kernel, by decide +kernel, by decide +kernel, by decide⟩
abbrev MJ0_isLatin1_aae02 : Mth := (cJ0_isLatin1_aae02, 1, some .boolean, RJ0, "isLatin1")
theorem mi_J0_isLatin1_aae02 : MI yJ0_isLatin1_aae02 MJ0_isLatin1_aae02 0 := ⟨t_561, t_15, by decide +kernel, by decide +kernel, by decide +kernel, by decide⟩
abbrev MJ0_checkIndex_df160 : Mth := (cJ0_checkIndex_df160, 2, none, RJ0, "checkIndex")
theorem mi_J0_checkIndex_df160 : MI yJ0_checkIndex_df160 MJ0_checkIndex_df160 2 := ⟨t_567, t_15, by decide +kernel, by decide +kernel, by decide +kernel, by decide⟩
abbrev MJ1_charAt_3b067 : Mth := (cJ1_charAt_3b067, 2, some .char, RJ1, "charAt")
theorem mi_J1_charAt_3b067 : MI yJ1_charAt_3b067 MJ1_charAt_3b067 2 := ⟨t_564, t_16, by decide +kernel, by decide +kernel, by decide +kernel, by decide⟩
abbrev MJ2_getChar_3b067 : Mth := (cJ2_getChar_3b067, 2, some .char, RJ2, "getChar")
theorem mi_J2_getChar_3b067 : MI yJ2_getChar_3b067 MJ2_getChar_3b067 2 := ⟨t_585, t_18, by decide +kernel, by decide +kernel, by decide +kernel, by decide⟩
abbrev MJ2_length_9d52b : Mth := (cJ2_length_9d52b, 1, some .int, RJ2, "length")
theorem mi_J2_length_9d52b : MI yJ2_length_9d52b MJ2_length_9d52b 1 := ⟨t_581, t_18, by decide +kernel, by decide +kernel, by decide +kernel, by decide⟩
abbrev MJ2_charAt_3b067 : Mth := (cJ2_charAt_3b067, 2, some .char, RJ2, "charAt")
theorem mi_J2_charAt_3b067 : MI yJ2_charAt_3b067 MJ2_charAt_3b067 2 := ⟨t_575, t_18, by decide +kernel, by decide +kernel, by decide +kernel, by decide⟩
abbrev MJ2_checkIndex_2214a : Mth := (cJ2_checkIndex_2214a, 2, none, RJ2, "checkIndex")
theorem mi_J2_checkIndex_2214a : MI yJ2_checkIndex_2214a MJ2_checkIndex_2214a 2 := ⟨t_578, t_18, by decide +kernel, by decide +kernel, by decide +kernel, by decide⟩
abbrev MJ7_fill_d0a16 : Mth := (cJ7_fill_d0a16, 5, none, RJ7, "fill")
theorem mi_J7_fill_d0a16 : MI yJ7_fill_d0a16 MJ7_fill_d0a16 2 := ⟨t_869, t_12, by decide +kernel, by decide +kernel, by decide +kernel, by decide⟩
abbrev MJ7_fill_53178 : Mth := (cJ7_fill_53178, 4, none, RJ7, "fill")
theorem mi_J7_fill_53178 : MI yJ7_fill_53178 MJ7_fill_53178 2 := ⟨t_414, t_12, by decide +kernel, by decide +kernel, by decide +kernel, by decide⟩
abbrev MJ3_checkIndex_8e157 : Mth := (cJ3_checkIndex_8e157, 3, some .int, RJ3, "checkIndex")
theorem mi_J3_checkIndex_8e157 : MI yJ3_checkIndex_8e157 MJ3_checkIndex_8e157 3 := ⟨t_572, t_17, by decide +kernel, by decide +kernel, by decide +kernel, by decide⟩
end
section
section RX
variable {l : Launch} {G : Cx} {d mc ms : Nat} {M : Mth} {h0 : Hp} {Q : Option TV → Hp → Prop} {pc : Nat} {L : List (Option TV)} {st : List TV} {h : Hp} {cu su : Nat}
theorem r_wide {cu' su' : Nat} (h1 : cu ≤ cu') (h2 : su ≤ su') (k : Rn l G d mc ms M h0 Q pc L st h cu' su') : Rn l G d mc ms M h0 Q pc L st h cu su := by
  intro p e s m args below meth c H locs ls C hW hE hS hl hL hst
  exact W.widen h1 h2 (k p e s m args below meth c H locs ls C hW hE hS hl hL hst)
theorem r_nmA {k n : Nat} {t : Nat × Nat} (kk : ∀ a, a = hN h → ∀ h', h' = nw h t → Rn l G d mc ms M h0 Q pc L (tR k n (some a) :: st) h' cu su) : Rn l G d mc ms M h0 Q pc L (tR k n (some (hN h)) :: st) (nw h t) cu su := kk _ rfl _ rfl
theorem r_nmH (kk : ∀ h', h' = h → Rn l G d mc ms M h0 Q pc L st h' cu su) : Rn l G d mc ms M h0 Q pc L st h cu su := kk _ rfl
theorem r_mmax {idx : Nat} {x y : Int32} (hd : decode M.1 pc = .ok (.invokestatic idx, 3)) (hlk : Cond.methodLink M.2.2.2.1 idx Lib.Math.max.name ∈ GW) (hst' : Cond.static Lib.Math.max.name ∈ GW) (hini : Cond.initialized "java/lang/Math" ∈ GW) (hco : Cond.code Lib.Math.max.name Lib.Math.max.code 2 (some .int) ∈ GW) (hdd : 1 ≤ d) (hc : cu ≤ mc ∧ su ≤ ms) (hr : cats st ≤ 8) (kk : Rn l G d mc ms M h0 Q (pc + 3) L (tI (if x < y then y else x) :: st) h cu su) : Rn l G d mc ms M h0 Q pc L (tI y :: tI x :: st) h cu su := by
  intro p e s m args below meth c H locs ls C hW hE hS hl hL hst
  have hts := C.2.2.2.2.2.1
  have hfr : ((st.map (cv G)).map fun v => v.category).sum ≤ 8 := by rw [List.map_map]; rw [← cats_eq (G := G)] at hr; exact hr
  exact va_mmax C.1 C.2.1 (C.2.2.1.trans hl.1.symm) C.2.2.2.2.1 (hts _ hlk) (hts _ hst') (hts _ hini) (hts _ hco) hdd (by show _ ≤ 48 * d; omega) hc.1 hc.2 hd (kk p e s m args below meth c H locs ls C hW hE hS hl hL ⟨trivial, hst.2.2⟩)
theorem r_mmin {idx : Nat} {x y : Int32} (hd : decode M.1 pc = .ok (.invokestatic idx, 3)) (hlk : Cond.methodLink M.2.2.2.1 idx Lib.Math.min.name ∈ GW) (hst' : Cond.static Lib.Math.min.name ∈ GW) (hini : Cond.initialized "java/lang/Math" ∈ GW) (hco : Cond.code Lib.Math.min.name Lib.Math.min.code 2 (some .int) ∈ GW) (hdd : 1 ≤ d) (hc : cu ≤ mc ∧ su ≤ ms) (hr : cats st ≤ 8) (kk : Rn l G d mc ms M h0 Q (pc + 3) L (tI (if y < x then y else x) :: st) h cu su) : Rn l G d mc ms M h0 Q pc L (tI y :: tI x :: st) h cu su := by
  intro p e s m args below meth c H locs ls C hW hE hS hl hL hst
  have hts := C.2.2.2.2.2.1
  have hfr : ((st.map (cv G)).map fun v => v.category).sum ≤ 8 := by rw [List.map_map]; rw [← cats_eq (G := G)] at hr; exact hr
  exact va_mmin C.1 C.2.1 (C.2.2.1.trans hl.1.symm) C.2.2.2.2.1 (hts _ hlk) (hts _ hst') (hts _ hini) (hts _ hco) hdd (by show _ ≤ 48 * d; omega) hc.1 hc.2 hd (kk p e s m args below meth c H locs ls C hW hE hS hl hL ⟨trivial, hst.2.2⟩)
theorem r_mabs {idx : Nat} {x : Int32} (hd : decode M.1 pc = .ok (.invokestatic idx, 3)) (hlk : Cond.methodLink M.2.2.2.1 idx Lib.Math.abs.name ∈ GW) (hst' : Cond.static Lib.Math.abs.name ∈ GW) (hini : Cond.initialized "java/lang/Math" ∈ GW) (hco : Cond.code Lib.Math.abs.name Lib.Math.abs.code 1 (some .int) ∈ GW) (hdd : 1 ≤ d) (hc : cu ≤ mc ∧ su ≤ ms) (hr : cats st ≤ 8) (kk : Rn l G d mc ms M h0 Q (pc + 3) L (tI (if 0 ≤ x then x else 0 - x) :: st) h cu su) : Rn l G d mc ms M h0 Q pc L (tI x :: st) h cu su := by
  intro p e s m args below meth c H locs ls C hW hE hS hl hL hst
  have hts := C.2.2.2.2.2.1
  have hfr : ((st.map (cv G)).map fun v => v.category).sum ≤ 8 := by rw [List.map_map]; rw [← cats_eq (G := G)] at hr; exact hr
  exact va_mabs C.1 C.2.1 (C.2.2.1.trans hl.1.symm) C.2.2.2.2.1 (hts _ hlk) (hts _ hst') (hts _ hini) (hts _ hco) hdd (by show _ ≤ 48 * d; omega) hc.1 hc.2 hd (kk p e s m args below meth c H locs ls C hW hE hS hl hL ⟨trivial, hst.2⟩)
theorem r_mminL {idx : Nat} {x y : Int64} (hd : decode M.1 pc = .ok (.invokestatic idx, 3)) (hlk : Cond.methodLink M.2.2.2.1 idx Lib.MathLoose.min_long.x ∈ GW) (hst' : Cond.static Lib.MathLoose.min_long.x ∈ GW) (hini : Cond.initialized "java/lang/Math" ∈ GW) (hco : Cond.code Lib.MathLoose.min_long.x Lib.MathLoose.min_long.code 4 (some .long) ∈ GW) (hdd : 1 ≤ d) (hc : cu ≤ mc ∧ su ≤ ms) (hr : cats st ≤ 8) (kk : Rn l G d mc ms M h0 Q (pc + 3) L (tJ (if y < x then y else x) :: st) h cu su) : Rn l G d mc ms M h0 Q pc L (tJ y :: tJ x :: st) h cu su := by
  intro p e s m args below meth c H locs ls C hW hE hS hl hL hst
  have hts := C.2.2.2.2.2.1
  have hfr : ((st.map (cv G)).map fun v => v.category).sum ≤ 8 := by rw [List.map_map]; rw [← cats_eq (G := G)] at hr; exact hr
  exact va_mmin_long C.1 C.2.1 (C.2.2.1.trans hl.1.symm) C.2.2.2.2.1 (hts _ hlk) (hts _ hst') (hts _ hini) (hts _ hco) hdd (by show _ ≤ 48 * d; omega) hc.1 hc.2 hd (kk p e s m args below meth c H locs ls C hW hE hS hl hL ⟨trivial, hst.2.2⟩)
end RX
theorem sw_out {x : Int32} {n : Nat} {lo hi : Int} (h : ∀ k, k < n → ¬ x = Int32.ofNat k) (hlo : lo = 0 := by decide) (hhi : hi = (n : Int) - 1 := by decide) (hn : n < 1000 := by decide) : x.toInt < lo ∨ hi < x.toInt := by
  subst hlo; subst hhi
  rcases Int.lt_or_le x.toInt 0 with q | q
  · exact Or.inl q
  · rcases Int.lt_or_le ((n : Int) - 1) x.toInt with q2 | q2
    · exact Or.inr q2
    · exfalso
      obtain ⟨k, hk⟩ := Int.eq_ofNat_of_zero_le q
      refine h k (by omega) (Int32.toInt_inj.mp ?_)
      rw [hk]
      have e := nI_toInt (n := k) (by omega)
      exact e.symm
end
section
theorem dX0_init_0 : decode cX0_init 0 = .ok (.aload_n 0, 1) := rfl
theorem dX0_init_1 : decode cX0_init 1 = .ok (.invokespecial 3, 3) := rfl
theorem dX0_init_4 : decode cX0_init 4 = .ok (.aload_n 0, 1) := rfl
theorem dX0_init_5 : decode cX0_init 5 = .ok (.bipush 6, 2) := by decide +kernel
theorem dX0_init_7 : decode cX0_init 7 = .ok (.anewarray 9, 3) := rfl
theorem dX0_init_10 : decode cX0_init 10 = .ok (.putfield 11, 3) := rfl
theorem dX0_init_13 : decode cX0_init 13 = .ok (.return_, 1) := rfl
def m_X0_init (v0 : Nat) (h : Hp) (Q : Hp → Prop) : Prop := ∀ a1 : Nat, a1 = hN h → ∀ h2 : Hp, h2 = nw h (51, 6) → Q (wR h2 v0 0 (some a1))
set_option maxHeartbeats 4000000 in
set_option maxRecDepth 100000 in
theorem s_X0_init {l : Launch} {G : Cx} {d : Nat} (hd : 2 ≤ d) {v0 : Nat} {h : Hp} {Q : Hp → Prop} (hm : m_X0_init v0 h Q) : Ct l G d 1 6 yX0_init MX0_init [tR 20 0 (some v0)] h (qV Q) := by
  unfold m_X0_init at hm
  refine Ct.of (L := [some (tR 20 0 (some v0))]) (by decide) rfl rfl (Nat.le_of_ble_eq_true rfl) rfl ?_
  refine r_aload_n dX0_init_0 rfl rfl ?_
  refine r_objInit dX0_init_1 t_119 t_29 t_30 (by omega) (Nat.le_of_ble_eq_true rfl) ?_
  refine r_aload_n dX0_init_4 rfl rfl ?_
  refine r_bipush (v := 6) dX0_init_5 rfl ?_
  refine r_newA (kd := 1) (ti := 5) (N := 6) dX0_init_7 rfl t_120 (by decide) (by decide) rfl (by decide) ⟨by decide, by decide⟩ ?_
  refine r_nmA (fun a1 e_a1 h2 e_h2 => ?_)
  replace hm := hm a1 e_a1 h2 e_h2
  refine r_putR0 (k := 0) cl_0 dX0_init_10 t_121 (Or.inr rfl) gf_0_0.1 gf_0_0.2 (fun z => absurd z (by decide)) pf_0_0.1 (Or.inr ⟨pf_0_0.2, rfl, rfl⟩) ?_
  exact r_return dX0_init_13 rfl ⟨by decide, by decide⟩ ⟨rfl, hm⟩
theorem dX0_push_0 : decode cX0_push 0 = .ok (.aload_n 0, 1) := rfl
theorem dX0_push_1 : decode cX0_push 1 = .ok (.getfield 17, 3) := rfl
theorem dX0_push_4 : decode cX0_push 4 = .ok (.bipush 6, 2) := by decide +kernel
theorem dX0_push_6 : decode cX0_push 6 = .ok (.if_icmp .ge 23, 3) := by decide +kernel
theorem dX0_push_9 : decode cX0_push 9 = .ok (.aload_n 0, 1) := rfl
theorem dX0_push_10 : decode cX0_push 10 = .ok (.getfield 11, 3) := rfl
theorem dX0_push_13 : decode cX0_push 13 = .ok (.aload_n 0, 1) := rfl
theorem dX0_push_14 : decode cX0_push 14 = .ok (.getfield 17, 3) := rfl
theorem dX0_push_17 : decode cX0_push 17 = .ok (.aload_n 1, 1) := rfl
theorem dX0_push_18 : decode cX0_push 18 = .ok (.aastore, 1) := rfl
theorem dX0_push_19 : decode cX0_push 19 = .ok (.aload_n 0, 1) := rfl
theorem dX0_push_20 : decode cX0_push 20 = .ok (.dup, 1) := rfl
theorem dX0_push_21 : decode cX0_push 21 = .ok (.getfield 17, 3) := rfl
theorem dX0_push_24 : decode cX0_push 24 = .ok (.iconst 1, 1) := rfl
theorem dX0_push_25 : decode cX0_push 25 = .ok (.iadd, 1) := rfl
theorem dX0_push_26 : decode cX0_push 26 = .ok (.putfield 17, 3) := rfl
theorem dX0_push_29 : decode cX0_push 29 = .ok (.return_, 1) := rfl
def m_X0_push (v0 : Nat) (v1 : Nat) (h : Hp) (Q : Hp → Prop) : Prop := (6 ≤ (hI h v0 1) → Q h) ∧ (¬ 6 ≤ (hI h v0 1) → vp_in (hI h v0 1) 6 ∧ (Q (wI (wR h (v0 + 1) (ix (hI h v0 1)) (some v1)) v0 1 ((hI (wR h (v0 + 1) (ix (hI h v0 1)) (some v1)) v0 1) + 1))))
set_option maxHeartbeats 4000000 in
set_option maxRecDepth 100000 in
theorem s_X0_push {l : Launch} {G : Cx} {d : Nat} (hd : 2 ≤ d) {v0 : Nat} {v1 : Nat} {h : Hp} {Q : Hp → Prop} (hm : m_X0_push v0 v1 h Q) : Ct l G d 0 0 yX0_push MX0_push [tR 0 0 (some v0), tR 1 0 (some v1)] h (qV Q) := by
  unfold m_X0_push at hm
  refine Ct.of (L := [some (tR 0 0 (some v0)), some (tR 1 0 (some v1))]) (by decide) rfl rfl (Nat.le_of_ble_eq_true rfl) rfl ?_
  refine r_aload_n dX0_push_0 rfl rfl ?_
  refine r_getI (k := 1) cl_0 dX0_push_1 t_125 (Or.inl rfl) gf_0_1 ?_
  refine r_bipush (v := 6) dX0_push_4 rfl ?_
  refine r_icmp_ge (tgt := 29) dX0_push_6 rfl (fun hc => ?_) (fun hc => ?_)
  · replace hm := hm.1 hc
    exact r_return dX0_push_29 rfl ⟨by decide, by decide⟩ ⟨rfl, hm⟩
  · replace hm := hm.2 hc
    refine r_aload_n dX0_push_9 rfl rfl ?_
    refine r_getC (k := 0) cl_0 dX0_push_10 t_121 gf_0_0.1 gf_0_0.2 (gc_0_0 _) ?_
    refine r_aload_n dX0_push_13 rfl rfl ?_
    refine r_getI (k := 1) cl_0 dX0_push_14 t_125 (Or.inl rfl) gf_0_1 ?_
    refine r_aload_n dX0_push_17 rfl rfl ?_
    refine r_aast (kd := 1) (ti := 5) cl_1 dX0_push_18 rfl hm.1 ?_
    replace hm := hm.2
    refine r_aload_n dX0_push_19 rfl rfl ?_
    refine r_dup dX0_push_20 cv_cat1R ?_
    refine r_getI (k := 1) cl_0 dX0_push_21 t_125 (Or.inl rfl) gf_0_1 ?_
    refine r_iconst (v := 1) dX0_push_24 rfl ?_
    refine r_iadd dX0_push_25 ?_
    refine r_putI0 (k := 1) cl_0 dX0_push_26 t_125 (Or.inl rfl) gf_0_1 pf_0_1.1 (Or.inl pf_0_1.2) ?_
    exact r_return dX0_push_29 rfl ⟨by decide, by decide⟩ ⟨rfl, hm⟩
theorem dX0_copyFrom_0 : decode cX0_copyFrom 0 = .ok (.aload_n 0, 1) := rfl
theorem dX0_copyFrom_1 : decode cX0_copyFrom 1 = .ok (.iconst 0, 1) := rfl
theorem dX0_copyFrom_2 : decode cX0_copyFrom 2 = .ok (.putfield 17, 3) := rfl
theorem dX0_copyFrom_5 : decode cX0_copyFrom 5 = .ok (.iconst 0, 1) := rfl
theorem dX0_copyFrom_6 : decode cX0_copyFrom 6 = .ok (.istore_n 2, 1) := rfl
theorem dX0_copyFrom_7 : decode cX0_copyFrom 7 = .ok (.iload_n 2, 1) := rfl
theorem dX0_copyFrom_8 : decode cX0_copyFrom 8 = .ok (.aload_n 1, 1) := rfl
theorem dX0_copyFrom_9 : decode cX0_copyFrom 9 = .ok (.getfield 17, 3) := rfl
theorem dX0_copyFrom_12 : decode cX0_copyFrom 12 = .ok (.if_icmp .ge 19, 3) := by decide +kernel
theorem dX0_copyFrom_15 : decode cX0_copyFrom 15 = .ok (.aload_n 0, 1) := rfl
theorem dX0_copyFrom_16 : decode cX0_copyFrom 16 = .ok (.aload_n 1, 1) := rfl
theorem dX0_copyFrom_17 : decode cX0_copyFrom 17 = .ok (.getfield 11, 3) := rfl
theorem dX0_copyFrom_20 : decode cX0_copyFrom 20 = .ok (.iload_n 2, 1) := rfl
theorem dX0_copyFrom_21 : decode cX0_copyFrom 21 = .ok (.aaload, 1) := rfl
theorem dX0_copyFrom_22 : decode cX0_copyFrom 22 = .ok (.invokevirtual 21, 3) := rfl
theorem dX0_copyFrom_25 : decode cX0_copyFrom 25 = .ok (.iinc 2 1, 3) := by decide +kernel
theorem dX0_copyFrom_28 : decode cX0_copyFrom 28 = .ok (.goto (-21), 3) := by decide +kernel
theorem dX0_copyFrom_31 : decode cX0_copyFrom 31 = .ok (.return_, 1) := rfl
def m_X0_copyFrom_7 : Nat → (Hp → Prop) → Nat → Nat → Int32 → Hp → Prop
  | 0, _, _, _, _, _ => False
  | n + 1, Q, v0, v1, v2, h => ((hI h v1 1) ≤ v2 → Q h) ∧ (¬ (hI h v1 1) ≤ v2 → vp_in v2 6 ∧ ∃ b1 : Nat, hR h (v1 + 1) (ix v2) = some b1 ∧ (m_X0_push v0 b1 h (fun (h3 : Hp) => ∀ x4 : Int32, x4 = v2 + 1 → m_X0_copyFrom_7 n Q v0 v1 x4 h3)))
set_option maxHeartbeats 4000000 in
set_option maxRecDepth 100000 in
theorem s_X0_copyFrom_7 {l : Launch} {G : Cx} {d : Nat} {h0 : Hp} (hd : 4 ≤ d) {Q : Hp → Prop} : ∀ {n : Nat} {v0 : Nat} {v1 : Nat} {v2 : Int32} {h : Hp}, m_X0_copyFrom_7 n Q v0 v1 v2 h → Rn l G d 0 0 MX0_copyFrom h0 (qV Q) 7 [some (tR 0 0 (some v0)), some (tR 0 0 (some v1)), some (tI v2)] [] h 0 0 := by
  intro n
  induction n with
  | zero => intro v0 v1 v2 h hm; exact hm.elim
  | succ n ih =>
    intro v0 v1 v2 h hm
    have hk7 := fun (v0 : Nat) (v1 : Nat) (v2 : Int32) (hh : Hp) (hm : m_X0_copyFrom_7 n Q v0 v1 v2 hh) => ih hm
    rw [m_X0_copyFrom_7] at hm
    refine r_iload_n dX0_copyFrom_7 rfl rfl ?_
    refine r_aload_n dX0_copyFrom_8 rfl rfl ?_
    refine r_getI (k := 1) cl_0 dX0_copyFrom_9 t_125 (Or.inl rfl) gf_0_1 ?_
    refine r_icmp_ge (tgt := 31) dX0_copyFrom_12 rfl (fun hc => ?_) (fun hc => ?_)
    · replace hm := hm.1 hc
      exact r_return dX0_copyFrom_31 rfl ⟨by decide, by decide⟩ ⟨rfl, hm⟩
    · replace hm := hm.2 hc
      refine r_aload_n dX0_copyFrom_15 rfl rfl ?_
      refine r_aload_n dX0_copyFrom_16 rfl rfl ?_
      refine r_getC (k := 0) cl_0 dX0_copyFrom_17 t_121 gf_0_0.1 gf_0_0.2 (gc_0_0 _) ?_
      refine r_iload_n dX0_copyFrom_20 rfl rfl ?_
      obtain ⟨hi_b1, b1, hb_b1, hm⟩ := hm
      refine r_aaldS (kd := 1) (ti := 5) (cn := RX1) dX0_copyFrom_21 rfl hi_b1 hb_b1 ?_
      refine r_callVU (d' := d - 1) (as := [tR 1 0 (some b1)]) (st := []) cl_0 dX0_copyFrom_22 mi_X0_push t_1180 t_891 t_892 rfl rfl (Nat.le_of_ble_eq_true rfl) (by omega) ⟨by decide, by decide⟩ ⟨rfl, rfl⟩ (s_X0_push (by omega) hm) (fun h3 hm => ?_)
      obtain ⟨x4, e_x4⟩ : ∃ y : Int32, y = v2 + 1 := ⟨_, rfl⟩
      replace hm := hm x4 e_x4
      refine r_iinc (L' := [some (tR 0 0 (some v0)), some (tR 0 0 (some v1)), some (tI x4)]) dX0_copyFrom_25 rfl (by rw [e_x4]; rfl) (by decide) rfl ?_
      refine r_goto (tgt := 7) dX0_copyFrom_28 rfl ?_
      refine r_keep (L' := [some (tR 0 0 (some v0)), some (tR 0 0 (some v1)), some (tI x4)]) [true, true, true] rfl ?_
      exact hk7 _ _ _ _ hm
def m_X0_copyFrom (v0 : Nat) (v1 : Nat) (h : Hp) (Q : Hp → Prop) : Prop := ∃ n7, m_X0_copyFrom_7 n7 Q v0 v1 0 (wI h v0 1 0)
set_option maxHeartbeats 4000000 in
set_option maxRecDepth 100000 in
theorem s_X0_copyFrom {l : Launch} {G : Cx} {d : Nat} (hd : 4 ≤ d) {v0 : Nat} {v1 : Nat} {h : Hp} {Q : Hp → Prop} (hm : m_X0_copyFrom v0 v1 h Q) : Ct l G d 0 0 yX0_copyFrom MX0_copyFrom [tR 0 0 (some v0), tR 0 0 (some v1)] h (qV Q) := by
  unfold m_X0_copyFrom at hm
  refine Ct.of (L := [some (tR 0 0 (some v0)), some (tR 0 0 (some v1))]) (by decide) rfl rfl (Nat.le_of_ble_eq_true rfl) rfl ?_
  refine r_aload_n dX0_copyFrom_0 rfl rfl ?_
  refine r_iconst (v := 0) dX0_copyFrom_1 rfl ?_
  refine r_putI0 (k := 1) cl_0 dX0_copyFrom_2 t_125 (Or.inl rfl) gf_0_1 pf_0_1.1 (Or.inl pf_0_1.2) ?_
  refine r_iconst (v := 0) dX0_copyFrom_5 rfl ?_
  refine r_istore_n (L' := [some (tR 0 0 (some v0)), some (tR 0 0 (some v1)), some (tI 0)]) dX0_copyFrom_6 rfl (by decide) rfl ?_
  refine r_keep (L' := [some (tR 0 0 (some v0)), some (tR 0 0 (some v1)), some (tI 0)]) [true, true, true] rfl ?_
  obtain ⟨n, hm⟩ := hm
  refine s_X0_copyFrom_7 hd hm
theorem dX0_holds_0 : decode cX0_holds 0 = .ok (.iconst 0, 1) := rfl
theorem dX0_holds_1 : decode cX0_holds 1 = .ok (.istore_n 2, 1) := rfl
theorem dX0_holds_2 : decode cX0_holds 2 = .ok (.iload_n 2, 1) := rfl
theorem dX0_holds_3 : decode cX0_holds 3 = .ok (.aload_n 0, 1) := rfl
theorem dX0_holds_4 : decode cX0_holds 4 = .ok (.getfield 17, 3) := rfl
theorem dX0_holds_7 : decode cX0_holds 7 = .ok (.if_icmp .ge 21, 3) := by decide +kernel
theorem dX0_holds_10 : decode cX0_holds 10 = .ok (.aload_n 0, 1) := rfl
theorem dX0_holds_11 : decode cX0_holds 11 = .ok (.getfield 11, 3) := rfl
theorem dX0_holds_14 : decode cX0_holds 14 = .ok (.iload_n 2, 1) := rfl
theorem dX0_holds_15 : decode cX0_holds 15 = .ok (.aaload, 1) := rfl
theorem dX0_holds_16 : decode cX0_holds 16 = .ok (.aload_n 1, 1) := rfl
theorem dX0_holds_17 : decode cX0_holds 17 = .ok (.if_acmp .ne 5, 3) := by decide +kernel
theorem dX0_holds_20 : decode cX0_holds 20 = .ok (.iconst 1, 1) := rfl
theorem dX0_holds_21 : decode cX0_holds 21 = .ok (.ireturn, 1) := rfl
theorem dX0_holds_22 : decode cX0_holds 22 = .ok (.iinc 2 1, 3) := by decide +kernel
theorem dX0_holds_25 : decode cX0_holds 25 = .ok (.goto (-23), 3) := by decide +kernel
theorem dX0_holds_28 : decode cX0_holds 28 = .ok (.iconst 0, 1) := rfl
theorem dX0_holds_29 : decode cX0_holds 29 = .ok (.ireturn, 1) := rfl
def m_X0_holds_2 : Nat → (Int32 → Hp → Prop) → Nat → Nat → Int32 → Hp → Prop
  | 0, _, _, _, _, _ => False
  | n + 1, Q, v0, v1, v2, h => ((hI h v0 1) ≤ v2 → Q 0 h) ∧ (¬ (hI h v0 1) ≤ v2 → vp_in v2 6 ∧ ∃ b1 : Nat, hR h (v0 + 1) (ix v2) = some b1 ∧ ((¬ (some b1) = (some v1) → ∀ x2 : Int32, x2 = v2 + 1 → m_X0_holds_2 n Q v0 v1 x2 h) ∧ ((some b1) = (some v1) → Q 1 h)))
set_option maxHeartbeats 4000000 in
set_option maxRecDepth 100000 in
theorem s_X0_holds_2 {l : Launch} {G : Cx} {d : Nat} {h0 : Hp} (hd : 2 ≤ d) {Q : Int32 → Hp → Prop} : ∀ {n : Nat} {v0 : Nat} {v1 : Nat} {v2 : Int32} {h : Hp}, m_X0_holds_2 n Q v0 v1 v2 h → Rn l G d 0 0 MX0_holds h0 (qI Q) 2 [some (tR 0 0 (some v0)), some (tR 1 0 (some v1)), some (tI v2)] [] h 0 0 := by
  intro n
  induction n with
  | zero => intro v0 v1 v2 h hm; exact hm.elim
  | succ n ih =>
    intro v0 v1 v2 h hm
    have hk2 := fun (v0 : Nat) (v1 : Nat) (v2 : Int32) (hh : Hp) (hm : m_X0_holds_2 n Q v0 v1 v2 hh) => ih hm
    rw [m_X0_holds_2] at hm
    refine r_iload_n dX0_holds_2 rfl rfl ?_
    refine r_aload_n dX0_holds_3 rfl rfl ?_
    refine r_getI (k := 1) cl_0 dX0_holds_4 t_125 (Or.inl rfl) gf_0_1 ?_
    refine r_icmp_ge (tgt := 28) dX0_holds_7 rfl (fun hc => ?_) (fun hc => ?_)
    · replace hm := hm.1 hc
      refine r_iconst (v := 0) dX0_holds_28 rfl ?_
      exact r_bret dX0_holds_29 rfl ⟨by decide, by decide⟩ (by unfold bz; decide) ⟨_, rfl, hm⟩
    · replace hm := hm.2 hc
      refine r_aload_n dX0_holds_10 rfl rfl ?_
      refine r_getC (k := 0) cl_0 dX0_holds_11 t_121 gf_0_0.1 gf_0_0.2 (gc_0_0 _) ?_
      refine r_iload_n dX0_holds_14 rfl rfl ?_
      obtain ⟨hi_b1, b1, hb_b1, hm⟩ := hm
      refine r_aaldS (kd := 1) (ti := 5) (cn := RX1) dX0_holds_15 rfl hi_b1 hb_b1 ?_
      refine r_aload_n dX0_holds_16 rfl rfl ?_
      refine r_acmp_ne (tgt := 22) dX0_holds_17 rfl (fun hc => ?_) (fun hc => ?_)
      · replace hm := hm.1 hc
        obtain ⟨x2, e_x2⟩ : ∃ y : Int32, y = v2 + 1 := ⟨_, rfl⟩
        replace hm := hm x2 e_x2
        refine r_iinc (L' := [some (tR 0 0 (some v0)), some (tR 1 0 (some v1)), some (tI x2)]) dX0_holds_22 rfl (by rw [e_x2]; rfl) (by decide) rfl ?_
        refine r_goto (tgt := 2) dX0_holds_25 rfl ?_
        refine r_keep (L' := [some (tR 0 0 (some v0)), some (tR 1 0 (some v1)), some (tI x2)]) [true, true, true] rfl ?_
        exact hk2 _ _ _ _ hm
      · replace hm := hm.2 hc
        refine r_iconst (v := 1) dX0_holds_20 rfl ?_
        exact r_bret dX0_holds_21 rfl ⟨by decide, by decide⟩ (by unfold bz; decide) ⟨_, rfl, hm⟩
def m_X0_holds (v0 : Nat) (v1 : Nat) (h : Hp) (Q : Int32 → Hp → Prop) : Prop := ∃ n2, m_X0_holds_2 n2 Q v0 v1 0 h
set_option maxHeartbeats 4000000 in
set_option maxRecDepth 100000 in
theorem s_X0_holds {l : Launch} {G : Cx} {d : Nat} (hd : 2 ≤ d) {v0 : Nat} {v1 : Nat} {h : Hp} {Q : Int32 → Hp → Prop} (hm : m_X0_holds v0 v1 h Q) : Ct l G d 0 0 yX0_holds MX0_holds [tR 0 0 (some v0), tR 1 0 (some v1)] h (qI Q) := by
  unfold m_X0_holds at hm
  refine Ct.of (L := [some (tR 0 0 (some v0)), some (tR 1 0 (some v1))]) (by decide) rfl rfl (Nat.le_of_ble_eq_true rfl) rfl ?_
  refine r_iconst (v := 0) dX0_holds_0 rfl ?_
  refine r_istore_n (L' := [some (tR 0 0 (some v0)), some (tR 1 0 (some v1)), some (tI 0)]) dX0_holds_1 rfl (by decide) rfl ?_
  refine r_keep (L' := [some (tR 0 0 (some v0)), some (tR 1 0 (some v1)), some (tI 0)]) [true, true, true] rfl ?_
  obtain ⟨n, hm⟩ := hm
  refine s_X0_holds_2 hd hm
theorem dX0_choicesBefore_0 : decode cX0_choicesBefore 0 = .ok (.iconst 0, 1) := rfl
theorem dX0_choicesBefore_1 : decode cX0_choicesBefore 1 = .ok (.istore_n 2, 1) := rfl
theorem dX0_choicesBefore_2 : decode cX0_choicesBefore 2 = .ok (.iconst 0, 1) := rfl
theorem dX0_choicesBefore_3 : decode cX0_choicesBefore 3 = .ok (.istore_n 3, 1) := rfl
theorem dX0_choicesBefore_4 : decode cX0_choicesBefore 4 = .ok (.iload_n 3, 1) := rfl
theorem dX0_choicesBefore_5 : decode cX0_choicesBefore 5 = .ok (.iload_n 1, 1) := rfl
theorem dX0_choicesBefore_6 : decode cX0_choicesBefore 6 = .ok (.if_icmp .ge 29, 3) := by decide +kernel
theorem dX0_choicesBefore_9 : decode cX0_choicesBefore 9 = .ok (.iload_n 3, 1) := rfl
theorem dX0_choicesBefore_10 : decode cX0_choicesBefore 10 = .ok (.aload_n 0, 1) := rfl
theorem dX0_choicesBefore_11 : decode cX0_choicesBefore 11 = .ok (.getfield 17, 3) := rfl
theorem dX0_choicesBefore_14 : decode cX0_choicesBefore 14 = .ok (.if_icmp .ge 21, 3) := by decide +kernel
theorem dX0_choicesBefore_17 : decode cX0_choicesBefore 17 = .ok (.iload_n 2, 1) := rfl
theorem dX0_choicesBefore_18 : decode cX0_choicesBefore 18 = .ok (.aload_n 0, 1) := rfl
theorem dX0_choicesBefore_19 : decode cX0_choicesBefore 19 = .ok (.getfield 11, 3) := rfl
theorem dX0_choicesBefore_22 : decode cX0_choicesBefore 22 = .ok (.iload_n 3, 1) := rfl
theorem dX0_choicesBefore_23 : decode cX0_choicesBefore 23 = .ok (.aaload, 1) := rfl
theorem dX0_choicesBefore_24 : decode cX0_choicesBefore 24 = .ok (.getfield 25, 3) := rfl
theorem dX0_choicesBefore_27 : decode cX0_choicesBefore 27 = .ok (.iadd, 1) := rfl
theorem dX0_choicesBefore_28 : decode cX0_choicesBefore 28 = .ok (.istore_n 2, 1) := rfl
theorem dX0_choicesBefore_29 : decode cX0_choicesBefore 29 = .ok (.iinc 3 1, 3) := by decide +kernel
theorem dX0_choicesBefore_32 : decode cX0_choicesBefore 32 = .ok (.goto (-28), 3) := by decide +kernel
theorem dX0_choicesBefore_35 : decode cX0_choicesBefore 35 = .ok (.iload_n 2, 1) := rfl
theorem dX0_choicesBefore_36 : decode cX0_choicesBefore 36 = .ok (.ireturn, 1) := rfl
def m_X0_choicesBefore_4 : Nat → (Int32 → Hp → Prop) → Nat → Int32 → Int32 → Int32 → Hp → Prop
  | 0, _, _, _, _, _, _ => False
  | n + 1, Q, v0, v1, v2, v3, h => (v1 ≤ v3 → Q v2 h) ∧ (¬ v1 ≤ v3 → ((hI h v0 1) ≤ v3 → Q v2 h) ∧ (¬ (hI h v0 1) ≤ v3 → vp_in v3 6 ∧ ∃ b1 : Nat, hR h (v0 + 1) (ix v3) = some b1 ∧ (∀ x2 : Int32, x2 = (v2 + (hI h b1 3)) → ∀ x3 : Int32, x3 = v3 + 1 → m_X0_choicesBefore_4 n Q v0 v1 x2 x3 h)))
set_option maxHeartbeats 4000000 in
set_option maxRecDepth 100000 in
theorem s_X0_choicesBefore_4 {l : Launch} {G : Cx} {d : Nat} {h0 : Hp} (hd : 2 ≤ d) {Q : Int32 → Hp → Prop} : ∀ {n : Nat} {v0 : Nat} {v1 : Int32} {v2 : Int32} {v3 : Int32} {h : Hp}, m_X0_choicesBefore_4 n Q v0 v1 v2 v3 h → Rn l G d 0 0 MX0_choicesBefore h0 (qI Q) 4 [some (tR 0 0 (some v0)), some (tI v1), some (tI v2), some (tI v3)] [] h 0 0 := by
  intro n
  induction n with
  | zero => intro v0 v1 v2 v3 h hm; exact hm.elim
  | succ n ih =>
    intro v0 v1 v2 v3 h hm
    have hk4 := fun (v0 : Nat) (v1 : Int32) (v2 : Int32) (v3 : Int32) (hh : Hp) (hm : m_X0_choicesBefore_4 n Q v0 v1 v2 v3 hh) => ih hm
    rw [m_X0_choicesBefore_4] at hm
    refine r_iload_n dX0_choicesBefore_4 rfl rfl ?_
    refine r_iload_n dX0_choicesBefore_5 rfl rfl ?_
    refine r_icmp_ge (tgt := 35) dX0_choicesBefore_6 rfl (fun hc => ?_) (fun hc => ?_)
    · replace hm := hm.1 hc
      refine r_iload_n dX0_choicesBefore_35 rfl rfl ?_
      exact r_ireturn dX0_choicesBefore_36 rfl ⟨by decide, by decide⟩ ⟨_, rfl, hm⟩
    · replace hm := hm.2 hc
      refine r_iload_n dX0_choicesBefore_9 rfl rfl ?_
      refine r_aload_n dX0_choicesBefore_10 rfl rfl ?_
      refine r_getI (k := 1) cl_0 dX0_choicesBefore_11 t_125 (Or.inl rfl) gf_0_1 ?_
      refine r_icmp_ge (tgt := 35) dX0_choicesBefore_14 rfl (fun hc => ?_) (fun hc => ?_)
      · replace hm := hm.1 hc
        refine r_iload_n dX0_choicesBefore_35 rfl rfl ?_
        exact r_ireturn dX0_choicesBefore_36 rfl ⟨by decide, by decide⟩ ⟨_, rfl, hm⟩
      · replace hm := hm.2 hc
        refine r_iload_n dX0_choicesBefore_17 rfl rfl ?_
        refine r_aload_n dX0_choicesBefore_18 rfl rfl ?_
        refine r_getC (k := 0) cl_0 dX0_choicesBefore_19 t_121 gf_0_0.1 gf_0_0.2 (gc_0_0 _) ?_
        refine r_iload_n dX0_choicesBefore_22 rfl rfl ?_
        obtain ⟨hi_b1, b1, hb_b1, hm⟩ := hm
        refine r_aaldS (kd := 1) (ti := 5) (cn := RX1) dX0_choicesBefore_23 rfl hi_b1 hb_b1 ?_
        refine r_getI (k := 3) cl_1 dX0_choicesBefore_24 t_449 (Or.inl rfl) gf_1_3 ?_
        refine r_iadd dX0_choicesBefore_27 ?_
        refine r_nmI (fun x2 e_x2 => ?_)
        replace hm := hm x2 e_x2
        refine r_istore_n (L' := [some (tR 0 0 (some v0)), some (tI v1), some (tI x2), some (tI v3)]) dX0_choicesBefore_28 rfl (by decide) rfl ?_
        obtain ⟨x3, e_x3⟩ : ∃ y : Int32, y = v3 + 1 := ⟨_, rfl⟩
        replace hm := hm x3 e_x3
        refine r_iinc (L' := [some (tR 0 0 (some v0)), some (tI v1), some (tI x2), some (tI x3)]) dX0_choicesBefore_29 rfl (by rw [e_x3]; rfl) (by decide) rfl ?_
        refine r_goto (tgt := 4) dX0_choicesBefore_32 rfl ?_
        refine r_keep (L' := [some (tR 0 0 (some v0)), some (tI v1), some (tI x2), some (tI x3)]) [true, true, true, true] rfl ?_
        exact hk4 _ _ _ _ _ hm
def m_X0_choicesBefore (v0 : Nat) (v1 : Int32) (h : Hp) (Q : Int32 → Hp → Prop) : Prop := ∃ n4, m_X0_choicesBefore_4 n4 Q v0 v1 0 0 h
set_option maxHeartbeats 4000000 in
set_option maxRecDepth 100000 in
theorem s_X0_choicesBefore {l : Launch} {G : Cx} {d : Nat} (hd : 2 ≤ d) {v0 : Nat} {v1 : Int32} {h : Hp} {Q : Int32 → Hp → Prop} (hm : m_X0_choicesBefore v0 v1 h Q) : Ct l G d 0 0 yX0_choicesBefore MX0_choicesBefore [tR 0 0 (some v0), tI v1] h (qI Q) := by
  unfold m_X0_choicesBefore at hm
  refine Ct.of (L := [some (tR 0 0 (some v0)), some (tI v1)]) (by decide) rfl rfl (Nat.le_of_ble_eq_true rfl) rfl ?_
  refine r_iconst (v := 0) dX0_choicesBefore_0 rfl ?_
  refine r_istore_n (L' := [some (tR 0 0 (some v0)), some (tI v1), some (tI 0)]) dX0_choicesBefore_1 rfl (by decide) rfl ?_
  refine r_iconst (v := 0) dX0_choicesBefore_2 rfl ?_
  refine r_istore_n (L' := [some (tR 0 0 (some v0)), some (tI v1), some (tI 0), some (tI 0)]) dX0_choicesBefore_3 rfl (by decide) rfl ?_
  refine r_keep (L' := [some (tR 0 0 (some v0)), some (tI v1), some (tI 0), some (tI 0)]) [true, true, true, true] rfl ?_
  obtain ⟨n, hm⟩ := hm
  refine s_X0_choicesBefore_4 hd hm
theorem dX0_allLeaves_0 : decode cX0_allLeaves 0 = .ok (.iconst 0, 1) := rfl
theorem dX0_allLeaves_1 : decode cX0_allLeaves 1 = .ok (.istore_n 1, 1) := rfl
theorem dX0_allLeaves_2 : decode cX0_allLeaves 2 = .ok (.iconst 0, 1) := rfl
theorem dX0_allLeaves_3 : decode cX0_allLeaves 3 = .ok (.istore_n 2, 1) := rfl
theorem dX0_allLeaves_4 : decode cX0_allLeaves 4 = .ok (.iload_n 2, 1) := rfl
theorem dX0_allLeaves_5 : decode cX0_allLeaves 5 = .ok (.aload_n 0, 1) := rfl
theorem dX0_allLeaves_6 : decode cX0_allLeaves 6 = .ok (.getfield 17, 3) := rfl
theorem dX0_allLeaves_9 : decode cX0_allLeaves 9 = .ok (.if_icmp .ge 21, 3) := by decide +kernel
theorem dX0_allLeaves_12 : decode cX0_allLeaves 12 = .ok (.iload_n 1, 1) := rfl
theorem dX0_allLeaves_13 : decode cX0_allLeaves 13 = .ok (.aload_n 0, 1) := rfl
theorem dX0_allLeaves_14 : decode cX0_allLeaves 14 = .ok (.getfield 11, 3) := rfl
theorem dX0_allLeaves_17 : decode cX0_allLeaves 17 = .ok (.iload_n 2, 1) := rfl
theorem dX0_allLeaves_18 : decode cX0_allLeaves 18 = .ok (.aaload, 1) := rfl
theorem dX0_allLeaves_19 : decode cX0_allLeaves 19 = .ok (.getfield 28, 3) := rfl
theorem dX0_allLeaves_22 : decode cX0_allLeaves 22 = .ok (.iadd, 1) := rfl
theorem dX0_allLeaves_23 : decode cX0_allLeaves 23 = .ok (.istore_n 1, 1) := rfl
theorem dX0_allLeaves_24 : decode cX0_allLeaves 24 = .ok (.iinc 2 1, 3) := by decide +kernel
theorem dX0_allLeaves_27 : decode cX0_allLeaves 27 = .ok (.goto (-23), 3) := by decide +kernel
theorem dX0_allLeaves_30 : decode cX0_allLeaves 30 = .ok (.iload_n 1, 1) := rfl
theorem dX0_allLeaves_31 : decode cX0_allLeaves 31 = .ok (.ireturn, 1) := rfl
def m_X0_allLeaves_4 : Nat → (Int32 → Hp → Prop) → Nat → Int32 → Int32 → Hp → Prop
  | 0, _, _, _, _, _ => False
  | n + 1, Q, v0, v1, v2, h => ((hI h v0 1) ≤ v2 → Q v1 h) ∧ (¬ (hI h v0 1) ≤ v2 → vp_in v2 6 ∧ ∃ b1 : Nat, hR h (v0 + 1) (ix v2) = some b1 ∧ (∀ x2 : Int32, x2 = (v1 + (hI h b1 2)) → ∀ x3 : Int32, x3 = v2 + 1 → m_X0_allLeaves_4 n Q v0 x2 x3 h))
set_option maxHeartbeats 4000000 in
set_option maxRecDepth 100000 in
theorem s_X0_allLeaves_4 {l : Launch} {G : Cx} {d : Nat} {h0 : Hp} (hd : 2 ≤ d) {Q : Int32 → Hp → Prop} : ∀ {n : Nat} {v0 : Nat} {v1 : Int32} {v2 : Int32} {h : Hp}, m_X0_allLeaves_4 n Q v0 v1 v2 h → Rn l G d 0 0 MX0_allLeaves h0 (qI Q) 4 [some (tR 0 0 (some v0)), some (tI v1), some (tI v2)] [] h 0 0 := by
  intro n
  induction n with
  | zero => intro v0 v1 v2 h hm; exact hm.elim
  | succ n ih =>
    intro v0 v1 v2 h hm
    have hk4 := fun (v0 : Nat) (v1 : Int32) (v2 : Int32) (hh : Hp) (hm : m_X0_allLeaves_4 n Q v0 v1 v2 hh) => ih hm
    rw [m_X0_allLeaves_4] at hm
    refine r_iload_n dX0_allLeaves_4 rfl rfl ?_
    refine r_aload_n dX0_allLeaves_5 rfl rfl ?_
    refine r_getI (k := 1) cl_0 dX0_allLeaves_6 t_125 (Or.inl rfl) gf_0_1 ?_
    refine r_icmp_ge (tgt := 30) dX0_allLeaves_9 rfl (fun hc => ?_) (fun hc => ?_)
    · replace hm := hm.1 hc
      refine r_iload_n dX0_allLeaves_30 rfl rfl ?_
      exact r_ireturn dX0_allLeaves_31 rfl ⟨by decide, by decide⟩ ⟨_, rfl, hm⟩
    · replace hm := hm.2 hc
      refine r_iload_n dX0_allLeaves_12 rfl rfl ?_
      refine r_aload_n dX0_allLeaves_13 rfl rfl ?_
      refine r_getC (k := 0) cl_0 dX0_allLeaves_14 t_121 gf_0_0.1 gf_0_0.2 (gc_0_0 _) ?_
      refine r_iload_n dX0_allLeaves_17 rfl rfl ?_
      obtain ⟨hi_b1, b1, hb_b1, hm⟩ := hm
      refine r_aaldS (kd := 1) (ti := 5) (cn := RX1) dX0_allLeaves_18 rfl hi_b1 hb_b1 ?_
      refine r_getI (k := 2) cl_1 dX0_allLeaves_19 t_444 (Or.inl rfl) gf_1_2 ?_
      refine r_iadd dX0_allLeaves_22 ?_
      refine r_nmI (fun x2 e_x2 => ?_)
      replace hm := hm x2 e_x2
      refine r_istore_n (L' := [some (tR 0 0 (some v0)), some (tI x2), some (tI v2)]) dX0_allLeaves_23 rfl (by decide) rfl ?_
      obtain ⟨x3, e_x3⟩ : ∃ y : Int32, y = v2 + 1 := ⟨_, rfl⟩
      replace hm := hm x3 e_x3
      refine r_iinc (L' := [some (tR 0 0 (some v0)), some (tI x2), some (tI x3)]) dX0_allLeaves_24 rfl (by rw [e_x3]; rfl) (by decide) rfl ?_
      refine r_goto (tgt := 4) dX0_allLeaves_27 rfl ?_
      refine r_keep (L' := [some (tR 0 0 (some v0)), some (tI x2), some (tI x3)]) [true, true, true] rfl ?_
      exact hk4 _ _ _ _ hm
def m_X0_allLeaves (v0 : Nat) (h : Hp) (Q : Int32 → Hp → Prop) : Prop := ∃ n4, m_X0_allLeaves_4 n4 Q v0 0 0 h
set_option maxHeartbeats 4000000 in
set_option maxRecDepth 100000 in
theorem s_X0_allLeaves {l : Launch} {G : Cx} {d : Nat} (hd : 2 ≤ d) {v0 : Nat} {h : Hp} {Q : Int32 → Hp → Prop} (hm : m_X0_allLeaves v0 h Q) : Ct l G d 0 0 yX0_allLeaves MX0_allLeaves [tR 0 0 (some v0)] h (qI Q) := by
  unfold m_X0_allLeaves at hm
  refine Ct.of (L := [some (tR 0 0 (some v0))]) (by decide) rfl rfl (Nat.le_of_ble_eq_true rfl) rfl ?_
  refine r_iconst (v := 0) dX0_allLeaves_0 rfl ?_
  refine r_istore_n (L' := [some (tR 0 0 (some v0)), some (tI 0)]) dX0_allLeaves_1 rfl (by decide) rfl ?_
  refine r_iconst (v := 0) dX0_allLeaves_2 rfl ?_
  refine r_istore_n (L' := [some (tR 0 0 (some v0)), some (tI 0), some (tI 0)]) dX0_allLeaves_3 rfl (by decide) rfl ?_
  refine r_keep (L' := [some (tR 0 0 (some v0)), some (tI 0), some (tI 0)]) [true, true, true] rfl ?_
  obtain ⟨n, hm⟩ := hm
  refine s_X0_allLeaves_4 hd hm
theorem dX0_allChoices_0 : decode cX0_allChoices 0 = .ok (.aload_n 0, 1) := rfl
theorem dX0_allChoices_1 : decode cX0_allChoices 1 = .ok (.aload_n 0, 1) := rfl
theorem dX0_allChoices_2 : decode cX0_allChoices 2 = .ok (.getfield 17, 3) := rfl
theorem dX0_allChoices_5 : decode cX0_allChoices 5 = .ok (.invokevirtual 31, 3) := rfl
theorem dX0_allChoices_8 : decode cX0_allChoices 8 = .ok (.ireturn, 1) := rfl
def m_X0_allChoices (v0 : Nat) (h : Hp) (Q : Int32 → Hp → Prop) : Prop := m_X0_choicesBefore v0 (hI h v0 1) h (fun (x1 : Int32) (h2 : Hp) => Q x1 h2)
set_option maxHeartbeats 4000000 in
set_option maxRecDepth 100000 in
theorem s_X0_allChoices {l : Launch} {G : Cx} {d : Nat} (hd : 4 ≤ d) {v0 : Nat} {h : Hp} {Q : Int32 → Hp → Prop} (hm : m_X0_allChoices v0 h Q) : Ct l G d 0 0 yX0_allChoices MX0_allChoices [tR 0 0 (some v0)] h (qI Q) := by
  unfold m_X0_allChoices at hm
  refine Ct.of (L := [some (tR 0 0 (some v0))]) (by decide) rfl rfl (Nat.le_of_ble_eq_true rfl) rfl ?_
  refine r_aload_n dX0_allChoices_0 rfl rfl ?_
  refine r_aload_n dX0_allChoices_1 rfl rfl ?_
  refine r_getI (k := 1) cl_0 dX0_allChoices_2 t_125 (Or.inl rfl) gf_0_1 ?_
  refine r_callVI (d' := d - 1) (as := [tI (hI h v0 1)]) (st := []) cl_0 dX0_allChoices_5 mi_X0_choicesBefore t_910 t_911 t_912 rfl rfl (Nat.le_of_ble_eq_true rfl) (by omega) ⟨by decide, by decide⟩ ⟨rfl, rfl⟩ (s_X0_choicesBefore (by omega) hm) (fun x1 h2 hm => ?_)
  exact r_ireturn dX0_allChoices_8 rfl ⟨by decide, by decide⟩ ⟨_, rfl, hm⟩
theorem dX0_namedBits_0 : decode cX0_namedBits 0 = .ok (.iconst 0, 1) := rfl
theorem dX0_namedBits_1 : decode cX0_namedBits 1 = .ok (.istore_n 1, 1) := rfl
theorem dX0_namedBits_2 : decode cX0_namedBits 2 = .ok (.iconst 0, 1) := rfl
theorem dX0_namedBits_3 : decode cX0_namedBits 3 = .ok (.istore_n 2, 1) := rfl
theorem dX0_namedBits_4 : decode cX0_namedBits 4 = .ok (.iload_n 2, 1) := rfl
theorem dX0_namedBits_5 : decode cX0_namedBits 5 = .ok (.aload_n 0, 1) := rfl
theorem dX0_namedBits_6 : decode cX0_namedBits 6 = .ok (.getfield 17, 3) := rfl
theorem dX0_namedBits_9 : decode cX0_namedBits 9 = .ok (.if_icmp .ge 21, 3) := by decide +kernel
theorem dX0_namedBits_12 : decode cX0_namedBits 12 = .ok (.iload_n 1, 1) := rfl
theorem dX0_namedBits_13 : decode cX0_namedBits 13 = .ok (.aload_n 0, 1) := rfl
theorem dX0_namedBits_14 : decode cX0_namedBits 14 = .ok (.getfield 11, 3) := rfl
theorem dX0_namedBits_17 : decode cX0_namedBits 17 = .ok (.iload_n 2, 1) := rfl
theorem dX0_namedBits_18 : decode cX0_namedBits 18 = .ok (.aaload, 1) := rfl
theorem dX0_namedBits_19 : decode cX0_namedBits 19 = .ok (.getfield 35, 3) := rfl
theorem dX0_namedBits_22 : decode cX0_namedBits 22 = .ok (.ior, 1) := rfl
theorem dX0_namedBits_23 : decode cX0_namedBits 23 = .ok (.istore_n 1, 1) := rfl
theorem dX0_namedBits_24 : decode cX0_namedBits 24 = .ok (.iinc 2 1, 3) := by decide +kernel
theorem dX0_namedBits_27 : decode cX0_namedBits 27 = .ok (.goto (-23), 3) := by decide +kernel
theorem dX0_namedBits_30 : decode cX0_namedBits 30 = .ok (.iload_n 1, 1) := rfl
theorem dX0_namedBits_31 : decode cX0_namedBits 31 = .ok (.iconst 1, 1) := rfl
theorem dX0_namedBits_32 : decode cX0_namedBits 32 = .ok (.aload_n 0, 1) := rfl
theorem dX0_namedBits_33 : decode cX0_namedBits 33 = .ok (.invokevirtual 38, 3) := rfl
theorem dX0_namedBits_36 : decode cX0_namedBits 36 = .ok (.ishl, 1) := rfl
theorem dX0_namedBits_37 : decode cX0_namedBits 37 = .ok (.iconst 1, 1) := rfl
theorem dX0_namedBits_38 : decode cX0_namedBits 38 = .ok (.isub, 1) := rfl
theorem dX0_namedBits_39 : decode cX0_namedBits 39 = .ok (.iconst 5, 1) := rfl
theorem dX0_namedBits_40 : decode cX0_namedBits 40 = .ok (.ishl, 1) := rfl
theorem dX0_namedBits_41 : decode cX0_namedBits 41 = .ok (.ior, 1) := rfl
theorem dX0_namedBits_42 : decode cX0_namedBits 42 = .ok (.ireturn, 1) := rfl
def m_X0_namedBits_30  (Q : Int32 → Hp → Prop) (v0 : Nat) (v1 : Int32) (h : Hp) : Prop := m_X0_allChoices v0 h (fun (x1 : Int32) (h2 : Hp) => Q (v1 ||| (((1 <<< (x1 &&& 31)) - 1) <<< (5 &&& 31))) h2)
set_option maxHeartbeats 4000000 in
set_option maxRecDepth 100000 in
theorem s_X0_namedBits_30 {l : Launch} {G : Cx} {d : Nat} {h0 : Hp} (hd : 6 ≤ d) {Q : Int32 → Hp → Prop} {v0 : Nat} {v1 : Int32} {h : Hp} (hm : m_X0_namedBits_30 Q v0 v1 h) : Rn l G d 0 0 MX0_namedBits h0 (qI Q) 30 [some (tR 0 0 (some v0)), some (tI v1)] [] h 0 0 := by
  unfold m_X0_namedBits_30 at hm
  refine r_iload_n dX0_namedBits_30 rfl rfl ?_
  refine r_iconst (v := 1) dX0_namedBits_31 rfl ?_
  refine r_aload_n dX0_namedBits_32 rfl rfl ?_
  refine r_callVI (d' := d - 1) (as := []) (st := [tI 1, tI v1]) cl_0 dX0_namedBits_33 mi_X0_allChoices t_906 t_907 t_908 rfl rfl (Nat.le_of_ble_eq_true rfl) (by omega) ⟨by decide, by decide⟩ ⟨rfl, rfl⟩ (s_X0_allChoices (by omega) hm) (fun x1 h2 hm => ?_)
  refine r_ishl dX0_namedBits_36 ?_
  refine r_iconst (v := 1) dX0_namedBits_37 rfl ?_
  refine r_isub dX0_namedBits_38 ?_
  refine r_iconst (v := 5) dX0_namedBits_39 rfl ?_
  refine r_ishl dX0_namedBits_40 ?_
  refine r_ior dX0_namedBits_41 ?_
  exact r_ireturn dX0_namedBits_42 rfl ⟨by decide, by decide⟩ ⟨_, rfl, hm⟩
def m_X0_namedBits_4 : Nat → (Nat → Int32 → Hp → Prop) → (Int32 → Hp → Prop) → Nat → Int32 → Int32 → Hp → Prop
  | 0, _, _, _, _, _, _ => False
  | n + 1, k30, Q, v0, v1, v2, h => ((hI h v0 1) ≤ v2 → k30 v0 v1 h) ∧ (¬ (hI h v0 1) ≤ v2 → vp_in v2 6 ∧ ∃ b3 : Nat, hR h (v0 + 1) (ix v2) = some b3 ∧ (∀ x4 : Int32, x4 = (v1 ||| (hI h b3 4)) → ∀ x5 : Int32, x5 = v2 + 1 → m_X0_namedBits_4 n k30 Q v0 x4 x5 h))
set_option maxHeartbeats 4000000 in
set_option maxRecDepth 100000 in
theorem s_X0_namedBits_4 {l : Launch} {G : Cx} {d : Nat} {h0 : Hp} (hd : 6 ≤ d) {k30 : Nat → Int32 → Hp → Prop} {Q : Int32 → Hp → Prop} (hk30 : ∀ (v0 : Nat) (v1 : Int32) (hh : Hp), k30 v0 v1 hh → Rn l G d 0 0 MX0_namedBits h0 (qI Q) 30 [some (tR 0 0 (some v0)), some (tI v1)] [] hh 0 0) : ∀ {n : Nat} {v0 : Nat} {v1 : Int32} {v2 : Int32} {h : Hp}, m_X0_namedBits_4 n k30 Q v0 v1 v2 h → Rn l G d 0 0 MX0_namedBits h0 (qI Q) 4 [some (tR 0 0 (some v0)), some (tI v1), some (tI v2)] [] h 0 0 := by
  intro n
  induction n with
  | zero => intro v0 v1 v2 h hm; exact hm.elim
  | succ n ih =>
    intro v0 v1 v2 h hm
    have hk4 := fun (v0 : Nat) (v1 : Int32) (v2 : Int32) (hh : Hp) (hm : m_X0_namedBits_4 n k30 Q v0 v1 v2 hh) => ih hm
    rw [m_X0_namedBits_4] at hm
    refine r_iload_n dX0_namedBits_4 rfl rfl ?_
    refine r_aload_n dX0_namedBits_5 rfl rfl ?_
    refine r_getI (k := 1) cl_0 dX0_namedBits_6 t_125 (Or.inl rfl) gf_0_1 ?_
    refine r_icmp_ge (tgt := 30) dX0_namedBits_9 rfl (fun hc => ?_) (fun hc => ?_)
    · replace hm := hm.1 hc
      refine r_keep (L' := [some (tR 0 0 (some v0)), some (tI v1)]) [true, true] rfl ?_
      exact hk30 _ _ _ hm
    · replace hm := hm.2 hc
      refine r_iload_n dX0_namedBits_12 rfl rfl ?_
      refine r_aload_n dX0_namedBits_13 rfl rfl ?_
      refine r_getC (k := 0) cl_0 dX0_namedBits_14 t_121 gf_0_0.1 gf_0_0.2 (gc_0_0 _) ?_
      refine r_iload_n dX0_namedBits_17 rfl rfl ?_
      obtain ⟨hi_b3, b3, hb_b3, hm⟩ := hm
      refine r_aaldS (kd := 1) (ti := 5) (cn := RX1) dX0_namedBits_18 rfl hi_b3 hb_b3 ?_
      refine r_getI (k := 4) cl_1 dX0_namedBits_19 t_454 (Or.inl rfl) gf_1_4 ?_
      refine r_ior dX0_namedBits_22 ?_
      refine r_nmI (fun x4 e_x4 => ?_)
      replace hm := hm x4 e_x4
      refine r_istore_n (L' := [some (tR 0 0 (some v0)), some (tI x4), some (tI v2)]) dX0_namedBits_23 rfl (by decide) rfl ?_
      obtain ⟨x5, e_x5⟩ : ∃ y : Int32, y = v2 + 1 := ⟨_, rfl⟩
      replace hm := hm x5 e_x5
      refine r_iinc (L' := [some (tR 0 0 (some v0)), some (tI x4), some (tI x5)]) dX0_namedBits_24 rfl (by rw [e_x5]; rfl) (by decide) rfl ?_
      refine r_goto (tgt := 4) dX0_namedBits_27 rfl ?_
      refine r_keep (L' := [some (tR 0 0 (some v0)), some (tI x4), some (tI x5)]) [true, true, true] rfl ?_
      exact hk4 _ _ _ _ hm
def m_X0_namedBits (v0 : Nat) (h : Hp) (Q : Int32 → Hp → Prop) : Prop := ∃ n4, m_X0_namedBits_4 n4 (m_X0_namedBits_30 Q) Q v0 0 0 h
set_option maxHeartbeats 4000000 in
set_option maxRecDepth 100000 in
theorem s_X0_namedBits {l : Launch} {G : Cx} {d : Nat} (hd : 6 ≤ d) {v0 : Nat} {h : Hp} {Q : Int32 → Hp → Prop} (hm : m_X0_namedBits v0 h Q) : Ct l G d 0 0 yX0_namedBits MX0_namedBits [tR 0 0 (some v0)] h (qI Q) := by
  unfold m_X0_namedBits at hm
  refine Ct.of (L := [some (tR 0 0 (some v0))]) (by decide) rfl rfl (Nat.le_of_ble_eq_true rfl) rfl ?_
  refine r_iconst (v := 0) dX0_namedBits_0 rfl ?_
  refine r_istore_n (L' := [some (tR 0 0 (some v0)), some (tI 0)]) dX0_namedBits_1 rfl (by decide) rfl ?_
  refine r_iconst (v := 0) dX0_namedBits_2 rfl ?_
  refine r_istore_n (L' := [some (tR 0 0 (some v0)), some (tI 0), some (tI 0)]) dX0_namedBits_3 rfl (by decide) rfl ?_
  refine r_keep (L' := [some (tR 0 0 (some v0)), some (tI 0), some (tI 0)]) [true, true, true] rfl ?_
  obtain ⟨n, hm⟩ := hm
  refine s_X0_namedBits_4 hd ?_ hm
  · exact (fun _ _ _ hm => s_X0_namedBits_30 hd hm)
theorem dJ6_bitCount_0f7a4_0 : decode cJ6_bitCount_0f7a4 0 = .ok (.iload_n 0, 1) := rfl
theorem dJ6_bitCount_0f7a4_1 : decode cJ6_bitCount_0f7a4 1 = .ok (.iload_n 0, 1) := rfl
theorem dJ6_bitCount_0f7a4_2 : decode cJ6_bitCount_0f7a4 2 = .ok (.iconst 1, 1) := rfl
theorem dJ6_bitCount_0f7a4_3 : decode cJ6_bitCount_0f7a4 3 = .ok (.iushr, 1) := rfl
theorem dJ6_bitCount_0f7a4_4 : decode cJ6_bitCount_0f7a4 4 = .ok (.ldc_w 265, 3) := rfl
theorem dJ6_bitCount_0f7a4_7 : decode cJ6_bitCount_0f7a4 7 = .ok (.iand, 1) := rfl
theorem dJ6_bitCount_0f7a4_8 : decode cJ6_bitCount_0f7a4 8 = .ok (.isub, 1) := rfl
theorem dJ6_bitCount_0f7a4_9 : decode cJ6_bitCount_0f7a4 9 = .ok (.istore_n 0, 1) := rfl
theorem dJ6_bitCount_0f7a4_10 : decode cJ6_bitCount_0f7a4 10 = .ok (.iload_n 0, 1) := rfl
theorem dJ6_bitCount_0f7a4_11 : decode cJ6_bitCount_0f7a4 11 = .ok (.ldc_w 266, 3) := rfl
theorem dJ6_bitCount_0f7a4_14 : decode cJ6_bitCount_0f7a4 14 = .ok (.iand, 1) := rfl
theorem dJ6_bitCount_0f7a4_15 : decode cJ6_bitCount_0f7a4 15 = .ok (.iload_n 0, 1) := rfl
theorem dJ6_bitCount_0f7a4_16 : decode cJ6_bitCount_0f7a4 16 = .ok (.iconst 2, 1) := rfl
theorem dJ6_bitCount_0f7a4_17 : decode cJ6_bitCount_0f7a4 17 = .ok (.iushr, 1) := rfl
theorem dJ6_bitCount_0f7a4_18 : decode cJ6_bitCount_0f7a4 18 = .ok (.ldc_w 266, 3) := rfl
theorem dJ6_bitCount_0f7a4_21 : decode cJ6_bitCount_0f7a4 21 = .ok (.iand, 1) := rfl
theorem dJ6_bitCount_0f7a4_22 : decode cJ6_bitCount_0f7a4 22 = .ok (.iadd, 1) := rfl
theorem dJ6_bitCount_0f7a4_23 : decode cJ6_bitCount_0f7a4 23 = .ok (.istore_n 0, 1) := rfl
theorem dJ6_bitCount_0f7a4_24 : decode cJ6_bitCount_0f7a4 24 = .ok (.iload_n 0, 1) := rfl
theorem dJ6_bitCount_0f7a4_25 : decode cJ6_bitCount_0f7a4 25 = .ok (.iload_n 0, 1) := rfl
theorem dJ6_bitCount_0f7a4_26 : decode cJ6_bitCount_0f7a4 26 = .ok (.iconst 4, 1) := rfl
theorem dJ6_bitCount_0f7a4_27 : decode cJ6_bitCount_0f7a4 27 = .ok (.iushr, 1) := rfl
theorem dJ6_bitCount_0f7a4_28 : decode cJ6_bitCount_0f7a4 28 = .ok (.iadd, 1) := rfl
theorem dJ6_bitCount_0f7a4_29 : decode cJ6_bitCount_0f7a4 29 = .ok (.ldc_w 267, 3) := rfl
theorem dJ6_bitCount_0f7a4_32 : decode cJ6_bitCount_0f7a4 32 = .ok (.iand, 1) := rfl
theorem dJ6_bitCount_0f7a4_33 : decode cJ6_bitCount_0f7a4 33 = .ok (.istore_n 0, 1) := rfl
theorem dJ6_bitCount_0f7a4_34 : decode cJ6_bitCount_0f7a4 34 = .ok (.iload_n 0, 1) := rfl
theorem dJ6_bitCount_0f7a4_35 : decode cJ6_bitCount_0f7a4 35 = .ok (.iload_n 0, 1) := rfl
theorem dJ6_bitCount_0f7a4_36 : decode cJ6_bitCount_0f7a4 36 = .ok (.bipush 8, 2) := by decide +kernel
theorem dJ6_bitCount_0f7a4_38 : decode cJ6_bitCount_0f7a4 38 = .ok (.iushr, 1) := rfl
theorem dJ6_bitCount_0f7a4_39 : decode cJ6_bitCount_0f7a4 39 = .ok (.iadd, 1) := rfl
theorem dJ6_bitCount_0f7a4_40 : decode cJ6_bitCount_0f7a4 40 = .ok (.istore_n 0, 1) := rfl
theorem dJ6_bitCount_0f7a4_41 : decode cJ6_bitCount_0f7a4 41 = .ok (.iload_n 0, 1) := rfl
theorem dJ6_bitCount_0f7a4_42 : decode cJ6_bitCount_0f7a4 42 = .ok (.iload_n 0, 1) := rfl
theorem dJ6_bitCount_0f7a4_43 : decode cJ6_bitCount_0f7a4 43 = .ok (.bipush 16, 2) := by decide +kernel
theorem dJ6_bitCount_0f7a4_45 : decode cJ6_bitCount_0f7a4 45 = .ok (.iushr, 1) := rfl
theorem dJ6_bitCount_0f7a4_46 : decode cJ6_bitCount_0f7a4 46 = .ok (.iadd, 1) := rfl
theorem dJ6_bitCount_0f7a4_47 : decode cJ6_bitCount_0f7a4 47 = .ok (.istore_n 0, 1) := rfl
theorem dJ6_bitCount_0f7a4_48 : decode cJ6_bitCount_0f7a4 48 = .ok (.iload_n 0, 1) := rfl
theorem dJ6_bitCount_0f7a4_49 : decode cJ6_bitCount_0f7a4 49 = .ok (.bipush 63, 2) := by decide +kernel
theorem dJ6_bitCount_0f7a4_51 : decode cJ6_bitCount_0f7a4 51 = .ok (.iand, 1) := rfl
theorem dJ6_bitCount_0f7a4_52 : decode cJ6_bitCount_0f7a4 52 = .ok (.ireturn, 1) := rfl
def m_J6_bitCount_0f7a4 (v0 : Int32) (h : Hp) (Q : Int32 → Hp → Prop) : Prop := ∀ x1 : Int32, x1 = (v0 - (((v0.toUInt32 >>> ((1 : Int32).toUInt32 &&& Int32.toUInt32 31)).toInt32) &&& 1431655765)) → ∀ x2 : Int32, x2 = ((x1 &&& 858993459) + (((x1.toUInt32 >>> ((2 : Int32).toUInt32 &&& Int32.toUInt32 31)).toInt32) &&& 858993459)) → ∀ x3 : Int32, x3 = ((x2 + ((x2.toUInt32 >>> ((4 : Int32).toUInt32 &&& Int32.toUInt32 31)).toInt32)) &&& 252645135) → ∀ x4 : Int32, x4 = (x3 + ((x3.toUInt32 >>> ((8 : Int32).toUInt32 &&& Int32.toUInt32 31)).toInt32)) → ∀ x5 : Int32, x5 = (x4 + ((x4.toUInt32 >>> ((16 : Int32).toUInt32 &&& Int32.toUInt32 31)).toInt32)) → Q (x5 &&& 63) h
set_option maxHeartbeats 4000000 in
set_option maxRecDepth 100000 in
theorem s_J6_bitCount_0f7a4 {l : Launch} {G : Cx} {d : Nat} (hd : 2 ≤ d) {v0 : Int32} {h : Hp} {Q : Int32 → Hp → Prop} (hm : m_J6_bitCount_0f7a4 v0 h Q) : Ct l G d 0 0 yJ6_bitCount_0f7a4 MJ6_bitCount_0f7a4 [tI v0] h (qI Q) := by
  unfold m_J6_bitCount_0f7a4 at hm
  refine Ct.of (L := [some (tI v0)]) (by decide) rfl rfl (Nat.le_of_ble_eq_true rfl) rfl ?_
  refine r_iload_n dJ6_bitCount_0f7a4_0 rfl rfl ?_
  refine r_iload_n dJ6_bitCount_0f7a4_1 rfl rfl ?_
  refine r_iconst (v := 1) dJ6_bitCount_0f7a4_2 rfl ?_
  refine r_iushr dJ6_bitCount_0f7a4_3 ?_
  refine r_ldc_w dJ6_bitCount_0f7a4_4 t_864 ?_
  refine r_iand dJ6_bitCount_0f7a4_7 ?_
  refine r_isub dJ6_bitCount_0f7a4_8 ?_
  refine r_nmI (fun x1 e_x1 => ?_)
  replace hm := hm x1 e_x1
  refine r_istore_n (L' := [some (tI x1)]) dJ6_bitCount_0f7a4_9 rfl (by decide) rfl ?_
  refine r_iload_n dJ6_bitCount_0f7a4_10 rfl rfl ?_
  refine r_ldc_w dJ6_bitCount_0f7a4_11 t_865 ?_
  refine r_iand dJ6_bitCount_0f7a4_14 ?_
  refine r_iload_n dJ6_bitCount_0f7a4_15 rfl rfl ?_
  refine r_iconst (v := 2) dJ6_bitCount_0f7a4_16 rfl ?_
  refine r_iushr dJ6_bitCount_0f7a4_17 ?_
  refine r_ldc_w dJ6_bitCount_0f7a4_18 t_865 ?_
  refine r_iand dJ6_bitCount_0f7a4_21 ?_
  refine r_iadd dJ6_bitCount_0f7a4_22 ?_
  refine r_nmI (fun x2 e_x2 => ?_)
  replace hm := hm x2 e_x2
  refine r_istore_n (L' := [some (tI x2)]) dJ6_bitCount_0f7a4_23 rfl (by decide) rfl ?_
  refine r_iload_n dJ6_bitCount_0f7a4_24 rfl rfl ?_
  refine r_iload_n dJ6_bitCount_0f7a4_25 rfl rfl ?_
  refine r_iconst (v := 4) dJ6_bitCount_0f7a4_26 rfl ?_
  refine r_iushr dJ6_bitCount_0f7a4_27 ?_
  refine r_iadd dJ6_bitCount_0f7a4_28 ?_
  refine r_ldc_w dJ6_bitCount_0f7a4_29 t_866 ?_
  refine r_iand dJ6_bitCount_0f7a4_32 ?_
  refine r_nmI (fun x3 e_x3 => ?_)
  replace hm := hm x3 e_x3
  refine r_istore_n (L' := [some (tI x3)]) dJ6_bitCount_0f7a4_33 rfl (by decide) rfl ?_
  refine r_iload_n dJ6_bitCount_0f7a4_34 rfl rfl ?_
  refine r_iload_n dJ6_bitCount_0f7a4_35 rfl rfl ?_
  refine r_bipush (v := 8) dJ6_bitCount_0f7a4_36 rfl ?_
  refine r_iushr dJ6_bitCount_0f7a4_38 ?_
  refine r_iadd dJ6_bitCount_0f7a4_39 ?_
  refine r_nmI (fun x4 e_x4 => ?_)
  replace hm := hm x4 e_x4
  refine r_istore_n (L' := [some (tI x4)]) dJ6_bitCount_0f7a4_40 rfl (by decide) rfl ?_
  refine r_iload_n dJ6_bitCount_0f7a4_41 rfl rfl ?_
  refine r_iload_n dJ6_bitCount_0f7a4_42 rfl rfl ?_
  refine r_bipush (v := 16) dJ6_bitCount_0f7a4_43 rfl ?_
  refine r_iushr dJ6_bitCount_0f7a4_45 ?_
  refine r_iadd dJ6_bitCount_0f7a4_46 ?_
  refine r_nmI (fun x5 e_x5 => ?_)
  replace hm := hm x5 e_x5
  refine r_istore_n (L' := [some (tI x5)]) dJ6_bitCount_0f7a4_47 rfl (by decide) rfl ?_
  refine r_iload_n dJ6_bitCount_0f7a4_48 rfl rfl ?_
  refine r_bipush (v := 63) dJ6_bitCount_0f7a4_49 rfl ?_
  refine r_iand dJ6_bitCount_0f7a4_51 ?_
  exact r_ireturn dJ6_bitCount_0f7a4_52 rfl ⟨by decide, by decide⟩ ⟨_, rfl, hm⟩
theorem dX0_isLooked_0 : decode cX0_isLooked 0 = .ok (.aload_n 0, 1) := rfl
theorem dX0_isLooked_1 : decode cX0_isLooked 1 = .ok (.invokevirtual 42, 3) := rfl
theorem dX0_isLooked_4 : decode cX0_isLooked 4 = .ok (.invokestatic 45, 3) := rfl
theorem dX0_isLooked_7 : decode cX0_isLooked 7 = .ok (.bipush 8, 2) := by decide +kernel
theorem dX0_isLooked_9 : decode cX0_isLooked 9 = .ok (.if_icmp .gt 7, 3) := by decide +kernel
theorem dX0_isLooked_12 : decode cX0_isLooked 12 = .ok (.iconst 1, 1) := rfl
theorem dX0_isLooked_13 : decode cX0_isLooked 13 = .ok (.goto 4, 3) := by decide +kernel
theorem dX0_isLooked_16 : decode cX0_isLooked 16 = .ok (.iconst 0, 1) := rfl
theorem dX0_isLooked_17 : decode cX0_isLooked 17 = .ok (.ireturn, 1) := rfl
def m_X0_isLooked (v0 : Nat) (h : Hp) (Q : Int32 → Hp → Prop) : Prop := m_X0_namedBits v0 h (fun (x1 : Int32) (h2 : Hp) => m_J6_bitCount_0f7a4 x1 h2 (fun (x3 : Int32) (h4 : Hp) => (8 < x3 → Q 0 h4) ∧ (¬ 8 < x3 → Q 1 h4)))
set_option maxHeartbeats 4000000 in
set_option maxRecDepth 100000 in
theorem s_X0_isLooked {l : Launch} {G : Cx} {d : Nat} (hd : 8 ≤ d) {v0 : Nat} {h : Hp} {Q : Int32 → Hp → Prop} (hm : m_X0_isLooked v0 h Q) : Ct l G d 0 0 yX0_isLooked MX0_isLooked [tR 0 0 (some v0)] h (qI Q) := by
  unfold m_X0_isLooked at hm
  refine Ct.of (L := [some (tR 0 0 (some v0))]) (by decide) rfl rfl (Nat.le_of_ble_eq_true rfl) rfl ?_
  refine r_aload_n dX0_isLooked_0 rfl rfl ?_
  refine r_callVI (d' := d - 1) (as := []) (st := []) cl_0 dX0_isLooked_1 mi_X0_namedBits t_952 t_953 t_954 rfl rfl (Nat.le_of_ble_eq_true rfl) (by omega) ⟨by decide, by decide⟩ ⟨rfl, rfl⟩ (s_X0_namedBits (by omega) hm) (fun x1 h2 hm => ?_)
  refine r_callSI (d' := d - 1) (as := [tI x1]) (st := []) dX0_isLooked_4 mi_J6_bitCount_0f7a4 t_956 t_862 rfl rfl (Nat.le_of_ble_eq_true rfl) (by omega) ⟨by decide, by decide⟩ ⟨rfl, rfl⟩ (s_J6_bitCount_0f7a4 (by omega) hm) (fun x3 h4 hm => ?_)
  refine r_bipush (v := 8) dX0_isLooked_7 rfl ?_
  refine r_icmp_gt (tgt := 16) dX0_isLooked_9 rfl (fun hc => ?_) (fun hc => ?_)
  · replace hm := hm.1 hc
    refine r_iconst (v := 0) dX0_isLooked_16 rfl ?_
    exact r_bret dX0_isLooked_17 rfl ⟨by decide, by decide⟩ (by unfold bz; decide) ⟨_, rfl, hm⟩
  · replace hm := hm.2 hc
    refine r_iconst (v := 1) dX0_isLooked_12 rfl ?_
    refine r_goto (tgt := 17) dX0_isLooked_13 rfl ?_
    exact r_bret dX0_isLooked_17 rfl ⟨by decide, by decide⟩ (by unfold bz; decide) ⟨_, rfl, hm⟩
theorem dX0_codesLooked_0 : decode cX0_codesLooked 0 = .ok (.iconst 1, 1) := rfl
theorem dX0_codesLooked_1 : decode cX0_codesLooked 1 = .ok (.aload_n 0, 1) := rfl
theorem dX0_codesLooked_2 : decode cX0_codesLooked 2 = .ok (.invokevirtual 42, 3) := rfl
theorem dX0_codesLooked_5 : decode cX0_codesLooked 5 = .ok (.invokestatic 45, 3) := rfl
theorem dX0_codesLooked_8 : decode cX0_codesLooked 8 = .ok (.ishl, 1) := rfl
theorem dX0_codesLooked_9 : decode cX0_codesLooked 9 = .ok (.ireturn, 1) := rfl
def m_X0_codesLooked (v0 : Nat) (h : Hp) (Q : Int32 → Hp → Prop) : Prop := m_X0_namedBits v0 h (fun (x1 : Int32) (h2 : Hp) => m_J6_bitCount_0f7a4 x1 h2 (fun (x3 : Int32) (h4 : Hp) => Q (1 <<< (x3 &&& 31)) h4))
set_option maxHeartbeats 4000000 in
set_option maxRecDepth 100000 in
theorem s_X0_codesLooked {l : Launch} {G : Cx} {d : Nat} (hd : 8 ≤ d) {v0 : Nat} {h : Hp} {Q : Int32 → Hp → Prop} (hm : m_X0_codesLooked v0 h Q) : Ct l G d 0 0 yX0_codesLooked MX0_codesLooked [tR 0 0 (some v0)] h (qI Q) := by
  unfold m_X0_codesLooked at hm
  refine Ct.of (L := [some (tR 0 0 (some v0))]) (by decide) rfl rfl (Nat.le_of_ble_eq_true rfl) rfl ?_
  refine r_iconst (v := 1) dX0_codesLooked_0 rfl ?_
  refine r_aload_n dX0_codesLooked_1 rfl rfl ?_
  refine r_callVI (d' := d - 1) (as := []) (st := [tI 1]) cl_0 dX0_codesLooked_2 mi_X0_namedBits t_952 t_953 t_954 rfl rfl (Nat.le_of_ble_eq_true rfl) (by omega) ⟨by decide, by decide⟩ ⟨rfl, rfl⟩ (s_X0_namedBits (by omega) hm) (fun x1 h2 hm => ?_)
  refine r_callSI (d' := d - 1) (as := [tI x1]) (st := [tI 1]) dX0_codesLooked_5 mi_J6_bitCount_0f7a4 t_956 t_862 rfl rfl (Nat.le_of_ble_eq_true rfl) (by omega) ⟨by decide, by decide⟩ ⟨rfl, rfl⟩ (s_J6_bitCount_0f7a4 (by omega) hm) (fun x3 h4 hm => ?_)
  refine r_ishl dX0_codesLooked_8 ?_
  exact r_ireturn dX0_codesLooked_9 rfl ⟨by decide, by decide⟩ ⟨_, rfl, hm⟩
theorem dX0_hasCode_0 : decode cX0_hasCode 0 = .ok (.iload_n 1, 1) := rfl
theorem dX0_hasCode_1 : decode cX0_hasCode 1 = .ok (.ifCond .lt 19, 3) := by decide +kernel
theorem dX0_hasCode_4 : decode cX0_hasCode 4 = .ok (.iload_n 1, 1) := rfl
theorem dX0_hasCode_5 : decode cX0_hasCode 5 = .ok (.iconst 1, 1) := rfl
theorem dX0_hasCode_6 : decode cX0_hasCode 6 = .ok (.iconst 5, 1) := rfl
theorem dX0_hasCode_7 : decode cX0_hasCode 7 = .ok (.aload_n 0, 1) := rfl
theorem dX0_hasCode_8 : decode cX0_hasCode 8 = .ok (.invokevirtual 38, 3) := rfl
theorem dX0_hasCode_11 : decode cX0_hasCode 11 = .ok (.iadd, 1) := rfl
theorem dX0_hasCode_12 : decode cX0_hasCode 12 = .ok (.ishl, 1) := rfl
theorem dX0_hasCode_13 : decode cX0_hasCode 13 = .ok (.if_icmp .ge 7, 3) := by decide +kernel
theorem dX0_hasCode_16 : decode cX0_hasCode 16 = .ok (.iconst 1, 1) := rfl
theorem dX0_hasCode_17 : decode cX0_hasCode 17 = .ok (.goto 4, 3) := by decide +kernel
theorem dX0_hasCode_20 : decode cX0_hasCode 20 = .ok (.iconst 0, 1) := rfl
theorem dX0_hasCode_21 : decode cX0_hasCode 21 = .ok (.ireturn, 1) := rfl
def m_X0_hasCode (v0 : Nat) (v1 : Int32) (h : Hp) (Q : Int32 → Hp → Prop) : Prop := (v1 < 0 → Q 0 h) ∧ (¬ v1 < 0 → m_X0_allChoices v0 h (fun (x1 : Int32) (h2 : Hp) => ((1 <<< ((5 + x1) &&& 31)) ≤ v1 → Q 0 h2) ∧ (¬ (1 <<< ((5 + x1) &&& 31)) ≤ v1 → Q 1 h2)))
set_option maxHeartbeats 4000000 in
set_option maxRecDepth 100000 in
theorem s_X0_hasCode {l : Launch} {G : Cx} {d : Nat} (hd : 6 ≤ d) {v0 : Nat} {v1 : Int32} {h : Hp} {Q : Int32 → Hp → Prop} (hm : m_X0_hasCode v0 v1 h Q) : Ct l G d 0 0 yX0_hasCode MX0_hasCode [tR 0 0 (some v0), tI v1] h (qI Q) := by
  unfold m_X0_hasCode at hm
  refine Ct.of (L := [some (tR 0 0 (some v0)), some (tI v1)]) (by decide) rfl rfl (Nat.le_of_ble_eq_true rfl) rfl ?_
  refine r_iload_n dX0_hasCode_0 rfl rfl ?_
  refine r_if_lt (tgt := 20) dX0_hasCode_1 rfl (fun hc => ?_) (fun hc => ?_)
  · replace hm := hm.1 hc
    refine r_iconst (v := 0) dX0_hasCode_20 rfl ?_
    exact r_bret dX0_hasCode_21 rfl ⟨by decide, by decide⟩ (by unfold bz; decide) ⟨_, rfl, hm⟩
  · replace hm := hm.2 hc
    refine r_iload_n dX0_hasCode_4 rfl rfl ?_
    refine r_iconst (v := 1) dX0_hasCode_5 rfl ?_
    refine r_iconst (v := 5) dX0_hasCode_6 rfl ?_
    refine r_aload_n dX0_hasCode_7 rfl rfl ?_
    refine r_callVI (d' := d - 1) (as := []) (st := [tI 5, tI 1, tI v1]) cl_0 dX0_hasCode_8 mi_X0_allChoices t_906 t_907 t_908 rfl rfl (Nat.le_of_ble_eq_true rfl) (by omega) ⟨by decide, by decide⟩ ⟨rfl, rfl⟩ (s_X0_allChoices (by omega) hm) (fun x1 h2 hm => ?_)
    refine r_iadd dX0_hasCode_11 ?_
    refine r_ishl dX0_hasCode_12 ?_
    refine r_icmp_ge (tgt := 20) dX0_hasCode_13 rfl (fun hc => ?_) (fun hc => ?_)
    · replace hm := hm.1 hc
      refine r_iconst (v := 0) dX0_hasCode_20 rfl ?_
      exact r_bret dX0_hasCode_21 rfl ⟨by decide, by decide⟩ (by unfold bz; decide) ⟨_, rfl, hm⟩
    · replace hm := hm.2 hc
      refine r_iconst (v := 1) dX0_hasCode_16 rfl ?_
      refine r_goto (tgt := 21) dX0_hasCode_17 rfl ?_
      exact r_bret dX0_hasCode_21 rfl ⟨by decide, by decide⟩ (by unfold bz; decide) ⟨_, rfl, hm⟩
theorem dX0_codeFor_0 : decode cX0_codeFor 0 = .ok (.iload_n 0, 1) := rfl
theorem dX0_codeFor_1 : decode cX0_codeFor 1 = .ok (.bipush 31, 2) := by decide +kernel
theorem dX0_codeFor_3 : decode cX0_codeFor 3 = .ok (.iand, 1) := rfl
theorem dX0_codeFor_4 : decode cX0_codeFor 4 = .ok (.iload_n 0, 1) := rfl
theorem dX0_codeFor_5 : decode cX0_codeFor 5 = .ok (.iload_n 1, 1) := rfl
theorem dX0_codeFor_6 : decode cX0_codeFor 6 = .ok (.ishr, 1) := rfl
theorem dX0_codeFor_7 : decode cX0_codeFor 7 = .ok (.bipush (-32), 2) := by decide +kernel
theorem dX0_codeFor_9 : decode cX0_codeFor 9 = .ok (.iand, 1) := rfl
theorem dX0_codeFor_10 : decode cX0_codeFor 10 = .ok (.ior, 1) := rfl
theorem dX0_codeFor_11 : decode cX0_codeFor 11 = .ok (.ireturn, 1) := rfl
def m_X0_codeFor (v0 : Int32) (v1 : Int32) (h : Hp) (Q : Int32 → Hp → Prop) : Prop := Q ((v0 &&& 31) ||| ((v0 >>> (v1 &&& 31)) &&& (-32))) h
set_option maxHeartbeats 4000000 in
set_option maxRecDepth 100000 in
theorem s_X0_codeFor {l : Launch} {G : Cx} {d : Nat} (hd : 2 ≤ d) {v0 : Int32} {v1 : Int32} {h : Hp} {Q : Int32 → Hp → Prop} (hm : m_X0_codeFor v0 v1 h Q) : Ct l G d 0 0 yX0_codeFor MX0_codeFor [tI v0, tI v1] h (qI Q) := by
  unfold m_X0_codeFor at hm
  refine Ct.of (L := [some (tI v0), some (tI v1)]) (by decide) rfl rfl (Nat.le_of_ble_eq_true rfl) rfl ?_
  refine r_iload_n dX0_codeFor_0 rfl rfl ?_
  refine r_bipush (v := 31) dX0_codeFor_1 rfl ?_
  refine r_iand dX0_codeFor_3 ?_
  refine r_iload_n dX0_codeFor_4 rfl rfl ?_
  refine r_iload_n dX0_codeFor_5 rfl rfl ?_
  refine r_ishr dX0_codeFor_6 ?_
  refine r_bipush (v := (-32)) dX0_codeFor_7 rfl ?_
  refine r_iand dX0_codeFor_9 ?_
  refine r_ior dX0_codeFor_10 ?_
  exact r_ireturn dX0_codeFor_11 rfl ⟨by decide, by decide⟩ ⟨_, rfl, hm⟩
theorem dX1_isPassing_0 : decode cX1_isPassing 0 = .ok (.iload_n 2, 1) := rfl
theorem dX1_isPassing_1 : decode cX1_isPassing 1 = .ok (.aload_n 0, 1) := rfl
theorem dX1_isPassing_2 : decode cX1_isPassing 2 = .ok (.getfield 15, 3) := rfl
theorem dX1_isPassing_5 : decode cX1_isPassing 5 = .ok (.iload_n 1, 1) := rfl
theorem dX1_isPassing_6 : decode cX1_isPassing 6 = .ok (.bipush 6, 2) := by decide +kernel
theorem dX1_isPassing_8 : decode cX1_isPassing 8 = .ok (.imul, 1) := rfl
theorem dX1_isPassing_9 : decode cX1_isPassing 9 = .ok (.iconst 4, 1) := rfl
theorem dX1_isPassing_10 : decode cX1_isPassing 10 = .ok (.iadd, 1) := rfl
theorem dX1_isPassing_11 : decode cX1_isPassing 11 = .ok (.iaload, 1) := rfl
theorem dX1_isPassing_12 : decode cX1_isPassing 12 = .ok (.iand, 1) := rfl
theorem dX1_isPassing_13 : decode cX1_isPassing 13 = .ok (.aload_n 0, 1) := rfl
theorem dX1_isPassing_14 : decode cX1_isPassing 14 = .ok (.getfield 15, 3) := rfl
theorem dX1_isPassing_17 : decode cX1_isPassing 17 = .ok (.iload_n 1, 1) := rfl
theorem dX1_isPassing_18 : decode cX1_isPassing 18 = .ok (.bipush 6, 2) := by decide +kernel
theorem dX1_isPassing_20 : decode cX1_isPassing 20 = .ok (.imul, 1) := rfl
theorem dX1_isPassing_21 : decode cX1_isPassing 21 = .ok (.iconst 5, 1) := rfl
theorem dX1_isPassing_22 : decode cX1_isPassing 22 = .ok (.iadd, 1) := rfl
theorem dX1_isPassing_23 : decode cX1_isPassing 23 = .ok (.iaload, 1) := rfl
theorem dX1_isPassing_24 : decode cX1_isPassing 24 = .ok (.if_icmp .ne 7, 3) := by decide +kernel
theorem dX1_isPassing_27 : decode cX1_isPassing 27 = .ok (.iconst 1, 1) := rfl
theorem dX1_isPassing_28 : decode cX1_isPassing 28 = .ok (.goto 4, 3) := by decide +kernel
theorem dX1_isPassing_31 : decode cX1_isPassing 31 = .ok (.iconst 0, 1) := rfl
theorem dX1_isPassing_32 : decode cX1_isPassing 32 = .ok (.ireturn, 1) := rfl
def m_X1_isPassing (v0 : Nat) (v1 : Int32) (v2 : Int32) (h : Hp) (Q : Int32 → Hp → Prop) : Prop := vp_in ((v1 * 6) + 4) 216 ∧ (vp_in ((v1 * 6) + 5) 216 ∧ ((¬ (v2 &&& (hI h (v0 + 2) (ix ((v1 * 6) + 4)))) = (hI h (v0 + 2) (ix ((v1 * 6) + 5))) → Q 0 h) ∧ ((v2 &&& (hI h (v0 + 2) (ix ((v1 * 6) + 4)))) = (hI h (v0 + 2) (ix ((v1 * 6) + 5))) → Q 1 h)))
set_option maxHeartbeats 4000000 in
set_option maxRecDepth 100000 in
theorem s_X1_isPassing {l : Launch} {G : Cx} {d : Nat} (hd : 2 ≤ d) {v0 : Nat} {v1 : Int32} {v2 : Int32} {h : Hp} {Q : Int32 → Hp → Prop} (hm : m_X1_isPassing v0 v1 v2 h Q) : Ct l G d 0 0 yX1_isPassing MX1_isPassing [tR 1 0 (some v0), tI v1, tI v2] h (qI Q) := by
  unfold m_X1_isPassing at hm
  refine Ct.of (L := [some (tR 1 0 (some v0)), some (tI v1), some (tI v2)]) (by decide) rfl rfl (Nat.le_of_ble_eq_true rfl) rfl ?_
  refine r_iload_n dX1_isPassing_0 rfl rfl ?_
  refine r_aload_n dX1_isPassing_1 rfl rfl ?_
  refine r_getC (k := 10) cl_1 dX1_isPassing_2 t_471 gf_1_10.1 gf_1_10.2 (gc_1_10 _) ?_
  refine r_iload_n dX1_isPassing_5 rfl rfl ?_
  refine r_bipush (v := 6) dX1_isPassing_6 rfl ?_
  refine r_imul dX1_isPassing_8 ?_
  refine r_iconst (v := 4) dX1_isPassing_9 rfl ?_
  refine r_iadd dX1_isPassing_10 ?_
  refine r_iald dX1_isPassing_11 hm.1 ?_
  replace hm := hm.2
  refine r_iand dX1_isPassing_12 ?_
  refine r_aload_n dX1_isPassing_13 rfl rfl ?_
  refine r_getC (k := 10) cl_1 dX1_isPassing_14 t_471 gf_1_10.1 gf_1_10.2 (gc_1_10 _) ?_
  refine r_iload_n dX1_isPassing_17 rfl rfl ?_
  refine r_bipush (v := 6) dX1_isPassing_18 rfl ?_
  refine r_imul dX1_isPassing_20 ?_
  refine r_iconst (v := 5) dX1_isPassing_21 rfl ?_
  refine r_iadd dX1_isPassing_22 ?_
  refine r_iald dX1_isPassing_23 hm.1 ?_
  replace hm := hm.2
  refine r_icmp_ne (tgt := 31) dX1_isPassing_24 rfl (fun hc => ?_) (fun hc => ?_)
  · replace hm := hm.1 hc
    refine r_iconst (v := 0) dX1_isPassing_31 rfl ?_
    exact r_bret dX1_isPassing_32 rfl ⟨by decide, by decide⟩ (by unfold bz; decide) ⟨_, rfl, hm⟩
  · replace hm := hm.2 hc
    refine r_iconst (v := 1) dX1_isPassing_27 rfl ?_
    refine r_goto (tgt := 32) dX1_isPassing_28 rfl ?_
    exact r_bret dX1_isPassing_32 rfl ⟨by decide, by decide⟩ (by unfold bz; decide) ⟨_, rfl, hm⟩
theorem dX0_rowsBy_0 : decode cX0_rowsBy 0 = .ok (.iconst 0, 1) := by decide +kernel
theorem dX0_rowsBy_1 : decode cX0_rowsBy 1 = .ok (.istore_n 2, 1) := by decide +kernel
theorem dX0_rowsBy_2 : decode cX0_rowsBy 2 = .ok (.iconst 0, 1) := by decide +kernel
theorem dX0_rowsBy_3 : decode cX0_rowsBy 3 = .ok (.istore_n 3, 1) := by decide +kernel
theorem dX0_rowsBy_4 : decode cX0_rowsBy 4 = .ok (.iconst 0, 1) := by decide +kernel
theorem dX0_rowsBy_5 : decode cX0_rowsBy 5 = .ok (.istore 4, 2) := by decide +kernel
theorem dX0_rowsBy_7 : decode cX0_rowsBy 7 = .ok (.iload 4, 2) := by decide +kernel
theorem dX0_rowsBy_9 : decode cX0_rowsBy 9 = .ok (.aload_n 0, 1) := by decide +kernel
theorem dX0_rowsBy_10 : decode cX0_rowsBy 10 = .ok (.getfield 17, 3) := by decide +kernel
theorem dX0_rowsBy_13 : decode cX0_rowsBy 13 = .ok (.if_icmp .ge 73, 3) := by decide +kernel
theorem dX0_rowsBy_16 : decode cX0_rowsBy 16 = .ok (.iload_n 1, 1) := by decide +kernel
theorem dX0_rowsBy_17 : decode cX0_rowsBy 17 = .ok (.iload_n 3, 1) := by decide +kernel
theorem dX0_rowsBy_18 : decode cX0_rowsBy 18 = .ok (.invokestatic 50, 3) := by decide +kernel
theorem dX0_rowsBy_21 : decode cX0_rowsBy 21 = .ok (.istore 5, 2) := by decide +kernel
theorem dX0_rowsBy_23 : decode cX0_rowsBy 23 = .ok (.iconst 0, 1) := by decide +kernel
theorem dX0_rowsBy_24 : decode cX0_rowsBy 24 = .ok (.istore 6, 2) := by decide +kernel
theorem dX0_rowsBy_26 : decode cX0_rowsBy 26 = .ok (.iload 6, 2) := by decide +kernel
theorem dX0_rowsBy_28 : decode cX0_rowsBy 28 = .ok (.aload_n 0, 1) := by decide +kernel
theorem dX0_rowsBy_29 : decode cX0_rowsBy 29 = .ok (.getfield 11, 3) := by decide +kernel
theorem dX0_rowsBy_32 : decode cX0_rowsBy 32 = .ok (.iload 4, 2) := by decide +kernel
theorem dX0_rowsBy_34 : decode cX0_rowsBy 34 = .ok (.aaload, 1) := by decide +kernel
theorem dX0_rowsBy_35 : decode cX0_rowsBy 35 = .ok (.getfield 54, 3) := by decide +kernel
theorem dX0_rowsBy_38 : decode cX0_rowsBy 38 = .ok (.if_icmp .ge 29, 3) := by decide +kernel
theorem dX0_rowsBy_41 : decode cX0_rowsBy 41 = .ok (.aload_n 0, 1) := by decide +kernel
theorem dX0_rowsBy_42 : decode cX0_rowsBy 42 = .ok (.getfield 11, 3) := by decide +kernel
theorem dX0_rowsBy_45 : decode cX0_rowsBy 45 = .ok (.iload 4, 2) := by decide +kernel
theorem dX0_rowsBy_47 : decode cX0_rowsBy 47 = .ok (.aaload, 1) := by decide +kernel
theorem dX0_rowsBy_48 : decode cX0_rowsBy 48 = .ok (.iload 6, 2) := by decide +kernel
theorem dX0_rowsBy_50 : decode cX0_rowsBy 50 = .ok (.iload 5, 2) := by decide +kernel
theorem dX0_rowsBy_52 : decode cX0_rowsBy 52 = .ok (.invokevirtual 57, 3) := by decide +kernel
theorem dX0_rowsBy_55 : decode cX0_rowsBy 55 = .ok (.ifCond .eq 6, 3) := by decide +kernel
theorem dX0_rowsBy_58 : decode cX0_rowsBy 58 = .ok (.iinc 2 1, 3) := by decide +kernel
theorem dX0_rowsBy_61 : decode cX0_rowsBy 61 = .ok (.iinc 6 1, 3) := by decide +kernel
theorem dX0_rowsBy_64 : decode cX0_rowsBy 64 = .ok (.goto (-38), 3) := by decide +kernel
theorem dX0_rowsBy_67 : decode cX0_rowsBy 67 = .ok (.iload_n 3, 1) := by decide +kernel
theorem dX0_rowsBy_68 : decode cX0_rowsBy 68 = .ok (.aload_n 0, 1) := by decide +kernel
theorem dX0_rowsBy_69 : decode cX0_rowsBy 69 = .ok (.getfield 11, 3) := by decide +kernel
theorem dX0_rowsBy_72 : decode cX0_rowsBy 72 = .ok (.iload 4, 2) := by decide +kernel
theorem dX0_rowsBy_74 : decode cX0_rowsBy 74 = .ok (.aaload, 1) := by decide +kernel
theorem dX0_rowsBy_75 : decode cX0_rowsBy 75 = .ok (.getfield 25, 3) := by decide +kernel
theorem dX0_rowsBy_78 : decode cX0_rowsBy 78 = .ok (.iadd, 1) := by decide +kernel
theorem dX0_rowsBy_79 : decode cX0_rowsBy 79 = .ok (.istore_n 3, 1) := by decide +kernel
theorem dX0_rowsBy_80 : decode cX0_rowsBy 80 = .ok (.iinc 4 1, 3) := by decide +kernel
theorem dX0_rowsBy_83 : decode cX0_rowsBy 83 = .ok (.goto (-76), 3) := by decide +kernel
theorem dX0_rowsBy_86 : decode cX0_rowsBy 86 = .ok (.iload_n 2, 1) := by decide +kernel
theorem dX0_rowsBy_87 : decode cX0_rowsBy 87 = .ok (.ireturn, 1) := by decide +kernel
def m_X0_rowsBy_67 (k7 : Nat → Int32 → Int32 → Int32 → Int32 → Hp → Prop) (Q : Int32 → Hp → Prop) (v0 : Nat) (v1 : Int32) (v2 : Int32) (v3 : Int32) (v4 : Int32) (h : Hp) : Prop := vp_in v4 6 ∧ ∃ b1 : Nat, hR h (v0 + 1) (ix v4) = some b1 ∧ (∀ x2 : Int32, x2 = (v3 + (hI h b1 3)) → ∀ x3 : Int32, x3 = v4 + 1 → k7 v0 v1 v2 x2 x3 h)
set_option maxHeartbeats 4000000 in
set_option maxRecDepth 100000 in
theorem s_X0_rowsBy_67 {l : Launch} {G : Cx} {d : Nat} {h0 : Hp} (hd : 4 ≤ d) {k7 : Nat → Int32 → Int32 → Int32 → Int32 → Hp → Prop} {Q : Int32 → Hp → Prop} (hk7 : ∀ (v0 : Nat) (v1 : Int32) (v2 : Int32) (v3 : Int32) (v4 : Int32) (hh : Hp), k7 v0 v1 v2 v3 v4 hh → Rn l G d 0 0 MX0_rowsBy h0 (qI Q) 7 [some (tR 0 0 (some v0)), some (tI v1), some (tI v2), some (tI v3), some (tI v4)] [] hh 0 0) {v0 : Nat} {v1 : Int32} {v2 : Int32} {v3 : Int32} {v4 : Int32} {h : Hp} (hm : m_X0_rowsBy_67 k7 Q v0 v1 v2 v3 v4 h) : Rn l G d 0 0 MX0_rowsBy h0 (qI Q) 67 [some (tR 0 0 (some v0)), some (tI v1), some (tI v2), some (tI v3), some (tI v4)] [] h 0 0 := by
  unfold m_X0_rowsBy_67 at hm
  refine r_iload_n dX0_rowsBy_67 rfl rfl ?_
  refine r_aload_n dX0_rowsBy_68 rfl rfl ?_
  refine r_getC (k := 0) cl_0 dX0_rowsBy_69 t_121 gf_0_0.1 gf_0_0.2 (gc_0_0 _) ?_
  refine r_iload dX0_rowsBy_72 rfl ?_
  obtain ⟨hi_b1, b1, hb_b1, hm⟩ := hm
  refine r_aaldS (kd := 1) (ti := 5) (cn := RX1) dX0_rowsBy_74 rfl hi_b1 hb_b1 ?_
  refine r_getI (k := 3) cl_1 dX0_rowsBy_75 t_449 (Or.inl rfl) gf_1_3 ?_
  refine r_iadd dX0_rowsBy_78 ?_
  refine r_nmI (fun x2 e_x2 => ?_)
  replace hm := hm x2 e_x2
  refine r_istore_n (L' := [some (tR 0 0 (some v0)), some (tI v1), some (tI v2), some (tI x2), some (tI v4)]) dX0_rowsBy_79 rfl (by decide) rfl ?_
  obtain ⟨x3, e_x3⟩ : ∃ y : Int32, y = v4 + 1 := ⟨_, rfl⟩
  replace hm := hm x3 e_x3
  refine r_iinc (L' := [some (tR 0 0 (some v0)), some (tI v1), some (tI v2), some (tI x2), some (tI x3)]) dX0_rowsBy_80 rfl (by rw [e_x3]; rfl) (by decide) rfl ?_
  refine r_goto (tgt := 7) dX0_rowsBy_83 rfl ?_
  refine r_keep (L' := [some (tR 0 0 (some v0)), some (tI v1), some (tI v2), some (tI x2), some (tI x3)]) [true, true, true, true, true] rfl ?_
  exact hk7 _ _ _ _ _ _ hm
def m_X0_rowsBy_61 (k26 : Nat → Int32 → Int32 → Int32 → Int32 → Int32 → Int32 → Hp → Prop) (k67 : Nat → Int32 → Int32 → Int32 → Int32 → Hp → Prop) (Q : Int32 → Hp → Prop) (v0 : Nat) (v1 : Int32) (v2 : Int32) (v3 : Int32) (v4 : Int32) (v5 : Int32) (v6 : Int32) (h : Hp) : Prop := ∀ x4 : Int32, x4 = v6 + 1 → k26 v0 v1 v2 v3 v4 v5 x4 h
set_option maxHeartbeats 4000000 in
set_option maxRecDepth 100000 in
theorem s_X0_rowsBy_61 {l : Launch} {G : Cx} {d : Nat} {h0 : Hp} (hd : 4 ≤ d) {k26 : Nat → Int32 → Int32 → Int32 → Int32 → Int32 → Int32 → Hp → Prop} {k67 : Nat → Int32 → Int32 → Int32 → Int32 → Hp → Prop} {Q : Int32 → Hp → Prop} (hk26 : ∀ (v0 : Nat) (v1 : Int32) (v2 : Int32) (v3 : Int32) (v4 : Int32) (v5 : Int32) (v6 : Int32) (hh : Hp), k26 v0 v1 v2 v3 v4 v5 v6 hh → Rn l G d 0 0 MX0_rowsBy h0 (qI Q) 26 [some (tR 0 0 (some v0)), some (tI v1), some (tI v2), some (tI v3), some (tI v4), some (tI v5), some (tI v6)] [] hh 0 0) (hk67 : ∀ (v0 : Nat) (v1 : Int32) (v2 : Int32) (v3 : Int32) (v4 : Int32) (hh : Hp), k67 v0 v1 v2 v3 v4 hh → Rn l G d 0 0 MX0_rowsBy h0 (qI Q) 67 [some (tR 0 0 (some v0)), some (tI v1), some (tI v2), some (tI v3), some (tI v4)] [] hh 0 0) {v0 : Nat} {v1 : Int32} {v2 : Int32} {v3 : Int32} {v4 : Int32} {v5 : Int32} {v6 : Int32} {h : Hp} (hm : m_X0_rowsBy_61 k26 k67 Q v0 v1 v2 v3 v4 v5 v6 h) : Rn l G d 0 0 MX0_rowsBy h0 (qI Q) 61 [some (tR 0 0 (some v0)), some (tI v1), some (tI v2), some (tI v3), some (tI v4), some (tI v5), some (tI v6)] [] h 0 0 := by
  unfold m_X0_rowsBy_61 at hm
  obtain ⟨x4, e_x4⟩ : ∃ y : Int32, y = v6 + 1 := ⟨_, rfl⟩
  replace hm := hm x4 e_x4
  refine r_iinc (L' := [some (tR 0 0 (some v0)), some (tI v1), some (tI v2), some (tI v3), some (tI v4), some (tI v5), some (tI x4)]) dX0_rowsBy_61 rfl (by rw [e_x4]; rfl) (by decide) rfl ?_
  refine r_goto (tgt := 26) dX0_rowsBy_64 rfl ?_
  refine r_keep (L' := [some (tR 0 0 (some v0)), some (tI v1), some (tI v2), some (tI v3), some (tI v4), some (tI v5), some (tI x4)]) [true, true, true, true, true, true, true] rfl ?_
  exact hk26 _ _ _ _ _ _ _ _ hm
def m_X0_rowsBy_26 : Nat → (Nat → Int32 → Int32 → Int32 → Int32 → Hp → Prop) → (Int32 → Hp → Prop) → Nat → Int32 → Int32 → Int32 → Int32 → Int32 → Int32 → Hp → Prop
  | 0, _, _, _, _, _, _, _, _, _, _ => False
  | n + 1, k67, Q, v0, v1, v2, v3, v4, v5, v6, h => vp_in v4 6 ∧ ∃ b5 : Nat, hR h (v0 + 1) (ix v4) = some b5 ∧ (((hI h b5 6) ≤ v6 → k67 v0 v1 v2 v3 v4 h) ∧ (¬ (hI h b5 6) ≤ v6 → vp_in v4 6 ∧ ∃ b6 : Nat, hR h (v0 + 1) (ix v4) = some b6 ∧ (m_X1_isPassing b6 v6 v5 h (fun (x7 : Int32) (h8 : Hp) => (x7 = 0 → m_X0_rowsBy_61 (fun (v0 : Nat) (v1 : Int32) (v2 : Int32) (v3 : Int32) (v4 : Int32) (v5 : Int32) (v6 : Int32) (hh : Hp) => m_X0_rowsBy_26 n k67 Q v0 v1 v2 v3 v4 v5 v6 hh) k67 Q v0 v1 v2 v3 v4 v5 v6 h8) ∧ (¬ x7 = 0 → ∀ x9 : Int32, x9 = v2 + 1 → m_X0_rowsBy_61 (fun (v0 : Nat) (v1 : Int32) (v2 : Int32) (v3 : Int32) (v4 : Int32) (v5 : Int32) (v6 : Int32) (hh : Hp) => m_X0_rowsBy_26 n k67 Q v0 v1 v2 v3 v4 v5 v6 hh) k67 Q v0 v1 x9 v3 v4 v5 v6 h8)))))
set_option maxHeartbeats 4000000 in
set_option maxRecDepth 100000 in
theorem s_X0_rowsBy_26 {l : Launch} {G : Cx} {d : Nat} {h0 : Hp} (hd : 4 ≤ d) {k67 : Nat → Int32 → Int32 → Int32 → Int32 → Hp → Prop} {Q : Int32 → Hp → Prop} (hk67 : ∀ (v0 : Nat) (v1 : Int32) (v2 : Int32) (v3 : Int32) (v4 : Int32) (hh : Hp), k67 v0 v1 v2 v3 v4 hh → Rn l G d 0 0 MX0_rowsBy h0 (qI Q) 67 [some (tR 0 0 (some v0)), some (tI v1), some (tI v2), some (tI v3), some (tI v4)] [] hh 0 0) : ∀ {n : Nat} {v0 : Nat} {v1 : Int32} {v2 : Int32} {v3 : Int32} {v4 : Int32} {v5 : Int32} {v6 : Int32} {h : Hp}, m_X0_rowsBy_26 n k67 Q v0 v1 v2 v3 v4 v5 v6 h → Rn l G d 0 0 MX0_rowsBy h0 (qI Q) 26 [some (tR 0 0 (some v0)), some (tI v1), some (tI v2), some (tI v3), some (tI v4), some (tI v5), some (tI v6)] [] h 0 0 := by
  intro n
  induction n with
  | zero => intro v0 v1 v2 v3 v4 v5 v6 h hm; exact hm.elim
  | succ n ih =>
    intro v0 v1 v2 v3 v4 v5 v6 h hm
    have hk26 := fun (v0 : Nat) (v1 : Int32) (v2 : Int32) (v3 : Int32) (v4 : Int32) (v5 : Int32) (v6 : Int32) (hh : Hp) (hm : m_X0_rowsBy_26 n k67 Q v0 v1 v2 v3 v4 v5 v6 hh) => ih hm
    rw [m_X0_rowsBy_26] at hm
    refine r_iload dX0_rowsBy_26 rfl ?_
    refine r_aload_n dX0_rowsBy_28 rfl rfl ?_
    refine r_getC (k := 0) cl_0 dX0_rowsBy_29 t_121 gf_0_0.1 gf_0_0.2 (gc_0_0 _) ?_
    refine r_iload dX0_rowsBy_32 rfl ?_
    obtain ⟨hi_b5, b5, hb_b5, hm⟩ := hm
    refine r_aaldS (kd := 1) (ti := 5) (cn := RX1) dX0_rowsBy_34 rfl hi_b5 hb_b5 ?_
    refine r_getI (k := 6) cl_1 dX0_rowsBy_35 t_463 (Or.inl rfl) gf_1_6 ?_
    refine r_icmp_ge (tgt := 67) dX0_rowsBy_38 rfl (fun hc => ?_) (fun hc => ?_)
    · replace hm := hm.1 hc
      refine r_keep (L' := [some (tR 0 0 (some v0)), some (tI v1), some (tI v2), some (tI v3), some (tI v4)]) [true, true, true, true, true] rfl ?_
      exact hk67 _ _ _ _ _ _ hm
    · replace hm := hm.2 hc
      refine r_aload_n dX0_rowsBy_41 rfl rfl ?_
      refine r_getC (k := 0) cl_0 dX0_rowsBy_42 t_121 gf_0_0.1 gf_0_0.2 (gc_0_0 _) ?_
      refine r_iload dX0_rowsBy_45 rfl ?_
      obtain ⟨hi_b6, b6, hb_b6, hm⟩ := hm
      refine r_aaldS (kd := 1) (ti := 5) (cn := RX1) dX0_rowsBy_47 rfl hi_b6 hb_b6 ?_
      refine r_iload dX0_rowsBy_48 rfl ?_
      refine r_iload dX0_rowsBy_50 rfl ?_
      refine r_callVI (d' := d - 1) (as := [tI v6, tI v5]) (st := []) cl_1 dX0_rowsBy_52 mi_X1_isPassing t_922 t_875 t_876 rfl rfl (Nat.le_of_ble_eq_true rfl) (by omega) ⟨by decide, by decide⟩ ⟨rfl, rfl⟩ (s_X1_isPassing (by omega) hm) (fun x7 h8 hm => ?_)
      refine r_if_eq (tgt := 61) dX0_rowsBy_55 rfl (fun hc => ?_) (fun hc => ?_)
      · replace hm := hm.1 hc
        refine r_keep (L' := [some (tR 0 0 (some v0)), some (tI v1), some (tI v2), some (tI v3), some (tI v4), some (tI v5), some (tI v6)]) [true, true, true, true, true, true, true] rfl ?_
        exact s_X0_rowsBy_61 hd hk26 hk67 hm
      · replace hm := hm.2 hc
        obtain ⟨x9, e_x9⟩ : ∃ y : Int32, y = v2 + 1 := ⟨_, rfl⟩
        replace hm := hm x9 e_x9
        refine r_iinc (L' := [some (tR 0 0 (some v0)), some (tI v1), some (tI x9), some (tI v3), some (tI v4), some (tI v5), some (tI v6)]) dX0_rowsBy_58 rfl (by rw [e_x9]; rfl) (by decide) rfl ?_
        refine r_keep (L' := [some (tR 0 0 (some v0)), some (tI v1), some (tI x9), some (tI v3), some (tI v4), some (tI v5), some (tI v6)]) [true, true, true, true, true, true, true] rfl ?_
        exact s_X0_rowsBy_61 hd hk26 hk67 hm
def m_X0_rowsBy_7 : Nat → (Int32 → Hp → Prop) → Nat → Int32 → Int32 → Int32 → Int32 → Hp → Prop
  | 0, _, _, _, _, _, _, _ => False
  | n + 1, Q, v0, v1, v2, v3, v4, h => ((hI h v0 1) ≤ v4 → Q v2 h) ∧ (¬ (hI h v0 1) ≤ v4 → m_X0_codeFor v1 v3 h (fun (x10 : Int32) (h11 : Hp) => ∃ n26, m_X0_rowsBy_26 n26 (m_X0_rowsBy_67 (fun (v0 : Nat) (v1 : Int32) (v2 : Int32) (v3 : Int32) (v4 : Int32) (hh : Hp) => m_X0_rowsBy_7 n Q v0 v1 v2 v3 v4 hh) Q) Q v0 v1 v2 v3 v4 x10 0 h11))
set_option maxHeartbeats 4000000 in
set_option maxRecDepth 100000 in
theorem s_X0_rowsBy_7 {l : Launch} {G : Cx} {d : Nat} {h0 : Hp} (hd : 4 ≤ d) {Q : Int32 → Hp → Prop} : ∀ {n : Nat} {v0 : Nat} {v1 : Int32} {v2 : Int32} {v3 : Int32} {v4 : Int32} {h : Hp}, m_X0_rowsBy_7 n Q v0 v1 v2 v3 v4 h → Rn l G d 0 0 MX0_rowsBy h0 (qI Q) 7 [some (tR 0 0 (some v0)), some (tI v1), some (tI v2), some (tI v3), some (tI v4)] [] h 0 0 := by
  intro n
  induction n with
  | zero => intro v0 v1 v2 v3 v4 h hm; exact hm.elim
  | succ n ih =>
    intro v0 v1 v2 v3 v4 h hm
    have hk7 := fun (v0 : Nat) (v1 : Int32) (v2 : Int32) (v3 : Int32) (v4 : Int32) (hh : Hp) (hm : m_X0_rowsBy_7 n Q v0 v1 v2 v3 v4 hh) => ih hm
    rw [m_X0_rowsBy_7] at hm
    refine r_iload dX0_rowsBy_7 rfl ?_
    refine r_aload_n dX0_rowsBy_9 rfl rfl ?_
    refine r_getI (k := 1) cl_0 dX0_rowsBy_10 t_125 (Or.inl rfl) gf_0_1 ?_
    refine r_icmp_ge (tgt := 86) dX0_rowsBy_13 rfl (fun hc => ?_) (fun hc => ?_)
    · replace hm := hm.1 hc
      refine r_iload_n dX0_rowsBy_86 rfl rfl ?_
      exact r_ireturn dX0_rowsBy_87 rfl ⟨by decide, by decide⟩ ⟨_, rfl, hm⟩
    · replace hm := hm.2 hc
      refine r_iload_n dX0_rowsBy_16 rfl rfl ?_
      refine r_iload_n dX0_rowsBy_17 rfl rfl ?_
      refine r_callSI (d' := d - 1) (as := [tI v1, tI v3]) (st := []) dX0_rowsBy_18 mi_X0_codeFor t_919 t_920 rfl rfl (Nat.le_of_ble_eq_true rfl) (by omega) ⟨by decide, by decide⟩ ⟨rfl, rfl⟩ (s_X0_codeFor (by omega) hm) (fun x10 h11 hm => ?_)
      refine r_istore (L' := [some (tR 0 0 (some v0)), some (tI v1), some (tI v2), some (tI v3), some (tI v4), some (tI x10)]) dX0_rowsBy_21 (by decide) rfl ?_
      refine r_iconst (v := 0) dX0_rowsBy_23 rfl ?_
      refine r_istore (L' := [some (tR 0 0 (some v0)), some (tI v1), some (tI v2), some (tI v3), some (tI v4), some (tI x10), some (tI 0)]) dX0_rowsBy_24 (by decide) rfl ?_
      refine r_keep (L' := [some (tR 0 0 (some v0)), some (tI v1), some (tI v2), some (tI v3), some (tI v4), some (tI x10), some (tI 0)]) [true, true, true, true, true, true, true] rfl ?_
      obtain ⟨n, hm⟩ := hm
      refine s_X0_rowsBy_26 hd ?_ hm
      · exact (fun _ _ _ _ _ _ hm => s_X0_rowsBy_67 hd hk7 hm)
def m_X0_rowsBy (v0 : Nat) (v1 : Int32) (h : Hp) (Q : Int32 → Hp → Prop) : Prop := ∃ n7, m_X0_rowsBy_7 n7 Q v0 v1 0 0 0 h
set_option maxHeartbeats 4000000 in
set_option maxRecDepth 100000 in
theorem s_X0_rowsBy {l : Launch} {G : Cx} {d : Nat} (hd : 4 ≤ d) {v0 : Nat} {v1 : Int32} {h : Hp} {Q : Int32 → Hp → Prop} (hm : m_X0_rowsBy v0 v1 h Q) : Ct l G d 0 0 yX0_rowsBy MX0_rowsBy [tR 0 0 (some v0), tI v1] h (qI Q) := by
  unfold m_X0_rowsBy at hm
  refine Ct.of (L := [some (tR 0 0 (some v0)), some (tI v1)]) (by decide) rfl rfl (Nat.le_of_ble_eq_true rfl) rfl ?_
  refine r_iconst (v := 0) dX0_rowsBy_0 rfl ?_
  refine r_istore_n (L' := [some (tR 0 0 (some v0)), some (tI v1), some (tI 0)]) dX0_rowsBy_1 rfl (by decide) rfl ?_
  refine r_iconst (v := 0) dX0_rowsBy_2 rfl ?_
  refine r_istore_n (L' := [some (tR 0 0 (some v0)), some (tI v1), some (tI 0), some (tI 0)]) dX0_rowsBy_3 rfl (by decide) rfl ?_
  refine r_iconst (v := 0) dX0_rowsBy_4 rfl ?_
  refine r_istore (L' := [some (tR 0 0 (some v0)), some (tI v1), some (tI 0), some (tI 0), some (tI 0)]) dX0_rowsBy_5 (by decide) rfl ?_
  refine r_keep (L' := [some (tR 0 0 (some v0)), some (tI v1), some (tI 0), some (tI 0), some (tI 0)]) [true, true, true, true, true] rfl ?_
  obtain ⟨n, hm⟩ := hm
  refine s_X0_rowsBy_7 hd hm
theorem dX0_toldOfRow_0 : decode cX0_toldOfRow 0 = .ok (.iconst 0, 1) := by decide +kernel
theorem dX0_toldOfRow_1 : decode cX0_toldOfRow 1 = .ok (.istore 4, 2) := by decide +kernel
theorem dX0_toldOfRow_3 : decode cX0_toldOfRow 3 = .ok (.iconst 0, 1) := by decide +kernel
theorem dX0_toldOfRow_4 : decode cX0_toldOfRow 4 = .ok (.istore 5, 2) := by decide +kernel
theorem dX0_toldOfRow_6 : decode cX0_toldOfRow 6 = .ok (.iconst 0, 1) := by decide +kernel
theorem dX0_toldOfRow_7 : decode cX0_toldOfRow 7 = .ok (.istore 6, 2) := by decide +kernel
theorem dX0_toldOfRow_9 : decode cX0_toldOfRow 9 = .ok (.iload 6, 2) := by decide +kernel
theorem dX0_toldOfRow_11 : decode cX0_toldOfRow 11 = .ok (.aload_n 0, 1) := by decide +kernel
theorem dX0_toldOfRow_12 : decode cX0_toldOfRow 12 = .ok (.getfield 17, 3) := by decide +kernel
theorem dX0_toldOfRow_15 : decode cX0_toldOfRow 15 = .ok (.if_icmp .ge 123, 3) := by decide +kernel
theorem dX0_toldOfRow_18 : decode cX0_toldOfRow 18 = .ok (.iload_n 1, 1) := by decide +kernel
theorem dX0_toldOfRow_19 : decode cX0_toldOfRow 19 = .ok (.iload 5, 2) := by decide +kernel
theorem dX0_toldOfRow_21 : decode cX0_toldOfRow 21 = .ok (.invokestatic 50, 3) := by decide +kernel
theorem dX0_toldOfRow_24 : decode cX0_toldOfRow 24 = .ok (.istore 7, 2) := by decide +kernel
theorem dX0_toldOfRow_26 : decode cX0_toldOfRow 26 = .ok (.iconst 0, 1) := by decide +kernel
theorem dX0_toldOfRow_27 : decode cX0_toldOfRow 27 = .ok (.istore 8, 2) := by decide +kernel
theorem dX0_toldOfRow_29 : decode cX0_toldOfRow 29 = .ok (.iload 8, 2) := by decide +kernel
theorem dX0_toldOfRow_31 : decode cX0_toldOfRow 31 = .ok (.aload_n 0, 1) := by decide +kernel
theorem dX0_toldOfRow_32 : decode cX0_toldOfRow 32 = .ok (.getfield 11, 3) := by decide +kernel
theorem dX0_toldOfRow_35 : decode cX0_toldOfRow 35 = .ok (.iload 6, 2) := by decide +kernel
theorem dX0_toldOfRow_37 : decode cX0_toldOfRow 37 = .ok (.aaload, 1) := by decide +kernel
theorem dX0_toldOfRow_38 : decode cX0_toldOfRow 38 = .ok (.getfield 54, 3) := by decide +kernel
theorem dX0_toldOfRow_41 : decode cX0_toldOfRow 41 = .ok (.if_icmp .ge 76, 3) := by decide +kernel
theorem dX0_toldOfRow_44 : decode cX0_toldOfRow 44 = .ok (.aload_n 0, 1) := by decide +kernel
theorem dX0_toldOfRow_45 : decode cX0_toldOfRow 45 = .ok (.getfield 11, 3) := by decide +kernel
theorem dX0_toldOfRow_48 : decode cX0_toldOfRow 48 = .ok (.iload 6, 2) := by decide +kernel
theorem dX0_toldOfRow_50 : decode cX0_toldOfRow 50 = .ok (.aaload, 1) := by decide +kernel
theorem dX0_toldOfRow_51 : decode cX0_toldOfRow 51 = .ok (.iload 8, 2) := by decide +kernel
theorem dX0_toldOfRow_53 : decode cX0_toldOfRow 53 = .ok (.iload 7, 2) := by decide +kernel
theorem dX0_toldOfRow_55 : decode cX0_toldOfRow 55 = .ok (.invokevirtual 57, 3) := by decide +kernel
theorem dX0_toldOfRow_58 : decode cX0_toldOfRow 58 = .ok (.ifCond .eq 53, 3) := by decide +kernel
theorem dX0_toldOfRow_61 : decode cX0_toldOfRow 61 = .ok (.iload 4, 2) := by decide +kernel
theorem dX0_toldOfRow_63 : decode cX0_toldOfRow 63 = .ok (.iload_n 2, 1) := by decide +kernel
theorem dX0_toldOfRow_64 : decode cX0_toldOfRow 64 = .ok (.if_icmp .ne 44, 3) := by decide +kernel
theorem dX0_toldOfRow_67 : decode cX0_toldOfRow 67 = .ok (.iload_n 3, 1) := by decide +kernel
theorem dX0_toldOfRow_68 : decode cX0_toldOfRow 68 = .ok (.iconst 4, 1) := by decide +kernel
theorem dX0_toldOfRow_69 : decode cX0_toldOfRow 69 = .ok (.if_icmp .ne 19, 3) := by decide +kernel
theorem dX0_toldOfRow_72 : decode cX0_toldOfRow 72 = .ok (.aload_n 0, 1) := by decide +kernel
theorem dX0_toldOfRow_73 : decode cX0_toldOfRow 73 = .ok (.getfield 11, 3) := by decide +kernel
theorem dX0_toldOfRow_76 : decode cX0_toldOfRow 76 = .ok (.iload 6, 2) := by decide +kernel
theorem dX0_toldOfRow_78 : decode cX0_toldOfRow 78 = .ok (.aaload, 1) := by decide +kernel
theorem dX0_toldOfRow_79 : decode cX0_toldOfRow 79 = .ok (.getfield 61, 3) := by decide +kernel
theorem dX0_toldOfRow_82 : decode cX0_toldOfRow 82 = .ok (.iload 8, 2) := by decide +kernel
theorem dX0_toldOfRow_84 : decode cX0_toldOfRow 84 = .ok (.laload, 1) := by decide +kernel
theorem dX0_toldOfRow_85 : decode cX0_toldOfRow 85 = .ok (.goto 22, 3) := by decide +kernel
theorem dX0_toldOfRow_88 : decode cX0_toldOfRow 88 = .ok (.aload_n 0, 1) := by decide +kernel
theorem dX0_toldOfRow_89 : decode cX0_toldOfRow 89 = .ok (.getfield 11, 3) := by decide +kernel
theorem dX0_toldOfRow_92 : decode cX0_toldOfRow 92 = .ok (.iload 6, 2) := by decide +kernel
theorem dX0_toldOfRow_94 : decode cX0_toldOfRow 94 = .ok (.aaload, 1) := by decide +kernel
theorem dX0_toldOfRow_95 : decode cX0_toldOfRow 95 = .ok (.getfield 65, 3) := by decide +kernel
theorem dX0_toldOfRow_98 : decode cX0_toldOfRow 98 = .ok (.iload 8, 2) := by decide +kernel
theorem dX0_toldOfRow_100 : decode cX0_toldOfRow 100 = .ok (.bipush 6, 2) := by decide +kernel
theorem dX0_toldOfRow_102 : decode cX0_toldOfRow 102 = .ok (.imul, 1) := by decide +kernel
theorem dX0_toldOfRow_103 : decode cX0_toldOfRow 103 = .ok (.iload_n 3, 1) := by decide +kernel
theorem dX0_toldOfRow_104 : decode cX0_toldOfRow 104 = .ok (.iadd, 1) := by decide +kernel
theorem dX0_toldOfRow_105 : decode cX0_toldOfRow 105 = .ok (.iaload, 1) := by decide +kernel
theorem dX0_toldOfRow_106 : decode cX0_toldOfRow 106 = .ok (.i2l, 1) := by decide +kernel
theorem dX0_toldOfRow_107 : decode cX0_toldOfRow 107 = .ok (.lreturn, 1) := by decide +kernel
theorem dX0_toldOfRow_108 : decode cX0_toldOfRow 108 = .ok (.iinc 4 1, 3) := by decide +kernel
theorem dX0_toldOfRow_111 : decode cX0_toldOfRow 111 = .ok (.iinc 8 1, 3) := by decide +kernel
theorem dX0_toldOfRow_114 : decode cX0_toldOfRow 114 = .ok (.goto (-85), 3) := by decide +kernel
theorem dX0_toldOfRow_117 : decode cX0_toldOfRow 117 = .ok (.iload 5, 2) := by decide +kernel
theorem dX0_toldOfRow_119 : decode cX0_toldOfRow 119 = .ok (.aload_n 0, 1) := by decide +kernel
theorem dX0_toldOfRow_120 : decode cX0_toldOfRow 120 = .ok (.getfield 11, 3) := by decide +kernel
theorem dX0_toldOfRow_123 : decode cX0_toldOfRow 123 = .ok (.iload 6, 2) := by decide +kernel
theorem dX0_toldOfRow_125 : decode cX0_toldOfRow 125 = .ok (.aaload, 1) := by decide +kernel
theorem dX0_toldOfRow_126 : decode cX0_toldOfRow 126 = .ok (.getfield 25, 3) := by decide +kernel
theorem dX0_toldOfRow_129 : decode cX0_toldOfRow 129 = .ok (.iadd, 1) := by decide +kernel
theorem dX0_toldOfRow_130 : decode cX0_toldOfRow 130 = .ok (.istore 5, 2) := by decide +kernel
theorem dX0_toldOfRow_132 : decode cX0_toldOfRow 132 = .ok (.iinc 6 1, 3) := by decide +kernel
theorem dX0_toldOfRow_135 : decode cX0_toldOfRow 135 = .ok (.goto (-126), 3) := by decide +kernel
theorem dX0_toldOfRow_138 : decode cX0_toldOfRow 138 = .ok (.ldc2_w 69, 3) := by decide +kernel
theorem dX0_toldOfRow_141 : decode cX0_toldOfRow 141 = .ok (.lreturn, 1) := by decide +kernel
def m_X0_toldOfRow_117 (k9 : Nat → Int32 → Int32 → Int32 → Int32 → Int32 → Int32 → Hp → Prop) (k67 : Nat → Int32 → Int32 → Int32 → Hp → Prop) (Q : Int64 → Hp → Prop) (v0 : Nat) (v1 : Int32) (v2 : Int32) (v3 : Int32) (v4 : Int32) (v5 : Int32) (v6 : Int32) (h : Hp) : Prop := vp_in v6 6 ∧ ∃ b1 : Nat, hR h (v0 + 1) (ix v6) = some b1 ∧ (∀ x2 : Int32, x2 = (v5 + (hI h b1 3)) → ∀ x3 : Int32, x3 = v6 + 1 → k9 v0 v1 v2 v3 v4 x2 x3 h)
set_option maxHeartbeats 4000000 in
set_option maxRecDepth 100000 in
theorem s_X0_toldOfRow_117 {l : Launch} {G : Cx} {d : Nat} {h0 : Hp} (hd : 4 ≤ d) {k9 : Nat → Int32 → Int32 → Int32 → Int32 → Int32 → Int32 → Hp → Prop} {k67 : Nat → Int32 → Int32 → Int32 → Hp → Prop} {Q : Int64 → Hp → Prop} (hk9 : ∀ (v0 : Nat) (v1 : Int32) (v2 : Int32) (v3 : Int32) (v4 : Int32) (v5 : Int32) (v6 : Int32) (hh : Hp), k9 v0 v1 v2 v3 v4 v5 v6 hh → Rn l G d 0 0 MX0_toldOfRow h0 (qJ Q) 9 [some (tR 0 0 (some v0)), some (tI v1), some (tI v2), some (tI v3), some (tI v4), some (tI v5), some (tI v6)] [] hh 0 0) (hk67 : ∀ (v0 : Nat) (v3 : Int32) (v6 : Int32) (v8 : Int32) (hh : Hp), k67 v0 v3 v6 v8 hh → Rn l G d 0 0 MX0_toldOfRow h0 (qJ Q) 67 [some (tR 0 0 (some v0)), none, none, some (tI v3), none, none, some (tI v6), none, some (tI v8)] [] hh 0 0) {v0 : Nat} {v1 : Int32} {v2 : Int32} {v3 : Int32} {v4 : Int32} {v5 : Int32} {v6 : Int32} {h : Hp} (hm : m_X0_toldOfRow_117 k9 k67 Q v0 v1 v2 v3 v4 v5 v6 h) : Rn l G d 0 0 MX0_toldOfRow h0 (qJ Q) 117 [some (tR 0 0 (some v0)), some (tI v1), some (tI v2), some (tI v3), some (tI v4), some (tI v5), some (tI v6)] [] h 0 0 := by
  unfold m_X0_toldOfRow_117 at hm
  refine r_iload dX0_toldOfRow_117 rfl ?_
  refine r_aload_n dX0_toldOfRow_119 rfl rfl ?_
  refine r_getC (k := 0) cl_0 dX0_toldOfRow_120 t_121 gf_0_0.1 gf_0_0.2 (gc_0_0 _) ?_
  refine r_iload dX0_toldOfRow_123 rfl ?_
  obtain ⟨hi_b1, b1, hb_b1, hm⟩ := hm
  refine r_aaldS (kd := 1) (ti := 5) (cn := RX1) dX0_toldOfRow_125 rfl hi_b1 hb_b1 ?_
  refine r_getI (k := 3) cl_1 dX0_toldOfRow_126 t_449 (Or.inl rfl) gf_1_3 ?_
  refine r_iadd dX0_toldOfRow_129 ?_
  refine r_nmI (fun x2 e_x2 => ?_)
  replace hm := hm x2 e_x2
  refine r_istore (L' := [some (tR 0 0 (some v0)), some (tI v1), some (tI v2), some (tI v3), some (tI v4), some (tI x2), some (tI v6)]) dX0_toldOfRow_130 (by decide) rfl ?_
  obtain ⟨x3, e_x3⟩ : ∃ y : Int32, y = v6 + 1 := ⟨_, rfl⟩
  replace hm := hm x3 e_x3
  refine r_iinc (L' := [some (tR 0 0 (some v0)), some (tI v1), some (tI v2), some (tI v3), some (tI v4), some (tI x2), some (tI x3)]) dX0_toldOfRow_132 rfl (by rw [e_x3]; rfl) (by decide) rfl ?_
  refine r_goto (tgt := 9) dX0_toldOfRow_135 rfl ?_
  refine r_keep (L' := [some (tR 0 0 (some v0)), some (tI v1), some (tI v2), some (tI v3), some (tI v4), some (tI x2), some (tI x3)]) [true, true, true, true, true, true, true] rfl ?_
  exact hk9 _ _ _ _ _ _ _ _ hm
def m_X0_toldOfRow_111 (k29 : Nat → Int32 → Int32 → Int32 → Int32 → Int32 → Int32 → Int32 → Int32 → Hp → Prop) (k67 : Nat → Int32 → Int32 → Int32 → Hp → Prop) (k117 : Nat → Int32 → Int32 → Int32 → Int32 → Int32 → Int32 → Hp → Prop) (Q : Int64 → Hp → Prop) (v0 : Nat) (v1 : Int32) (v2 : Int32) (v3 : Int32) (v4 : Int32) (v5 : Int32) (v6 : Int32) (v7 : Int32) (v8 : Int32) (h : Hp) : Prop := ∀ x4 : Int32, x4 = v8 + 1 → k29 v0 v1 v2 v3 v4 v5 v6 v7 x4 h
set_option maxHeartbeats 4000000 in
set_option maxRecDepth 100000 in
theorem s_X0_toldOfRow_111 {l : Launch} {G : Cx} {d : Nat} {h0 : Hp} (hd : 4 ≤ d) {k29 : Nat → Int32 → Int32 → Int32 → Int32 → Int32 → Int32 → Int32 → Int32 → Hp → Prop} {k67 : Nat → Int32 → Int32 → Int32 → Hp → Prop} {k117 : Nat → Int32 → Int32 → Int32 → Int32 → Int32 → Int32 → Hp → Prop} {Q : Int64 → Hp → Prop} (hk29 : ∀ (v0 : Nat) (v1 : Int32) (v2 : Int32) (v3 : Int32) (v4 : Int32) (v5 : Int32) (v6 : Int32) (v7 : Int32) (v8 : Int32) (hh : Hp), k29 v0 v1 v2 v3 v4 v5 v6 v7 v8 hh → Rn l G d 0 0 MX0_toldOfRow h0 (qJ Q) 29 [some (tR 0 0 (some v0)), some (tI v1), some (tI v2), some (tI v3), some (tI v4), some (tI v5), some (tI v6), some (tI v7), some (tI v8)] [] hh 0 0) (hk67 : ∀ (v0 : Nat) (v3 : Int32) (v6 : Int32) (v8 : Int32) (hh : Hp), k67 v0 v3 v6 v8 hh → Rn l G d 0 0 MX0_toldOfRow h0 (qJ Q) 67 [some (tR 0 0 (some v0)), none, none, some (tI v3), none, none, some (tI v6), none, some (tI v8)] [] hh 0 0) (hk117 : ∀ (v0 : Nat) (v1 : Int32) (v2 : Int32) (v3 : Int32) (v4 : Int32) (v5 : Int32) (v6 : Int32) (hh : Hp), k117 v0 v1 v2 v3 v4 v5 v6 hh → Rn l G d 0 0 MX0_toldOfRow h0 (qJ Q) 117 [some (tR 0 0 (some v0)), some (tI v1), some (tI v2), some (tI v3), some (tI v4), some (tI v5), some (tI v6)] [] hh 0 0) {v0 : Nat} {v1 : Int32} {v2 : Int32} {v3 : Int32} {v4 : Int32} {v5 : Int32} {v6 : Int32} {v7 : Int32} {v8 : Int32} {h : Hp} (hm : m_X0_toldOfRow_111 k29 k67 k117 Q v0 v1 v2 v3 v4 v5 v6 v7 v8 h) : Rn l G d 0 0 MX0_toldOfRow h0 (qJ Q) 111 [some (tR 0 0 (some v0)), some (tI v1), some (tI v2), some (tI v3), some (tI v4), some (tI v5), some (tI v6), some (tI v7), some (tI v8)] [] h 0 0 := by
  unfold m_X0_toldOfRow_111 at hm
  obtain ⟨x4, e_x4⟩ : ∃ y : Int32, y = v8 + 1 := ⟨_, rfl⟩
  replace hm := hm x4 e_x4
  refine r_iinc (L' := [some (tR 0 0 (some v0)), some (tI v1), some (tI v2), some (tI v3), some (tI v4), some (tI v5), some (tI v6), some (tI v7), some (tI x4)]) dX0_toldOfRow_111 rfl (by rw [e_x4]; rfl) (by decide) rfl ?_
  refine r_goto (tgt := 29) dX0_toldOfRow_114 rfl ?_
  refine r_keep (L' := [some (tR 0 0 (some v0)), some (tI v1), some (tI v2), some (tI v3), some (tI v4), some (tI v5), some (tI v6), some (tI v7), some (tI x4)]) [true, true, true, true, true, true, true, true, true] rfl ?_
  exact hk29 _ _ _ _ _ _ _ _ _ _ hm
def m_X0_toldOfRow_67  (Q : Int64 → Hp → Prop) (v0 : Nat) (v3 : Int32) (v6 : Int32) (v8 : Int32) (h : Hp) : Prop := (¬ v3 = 4 → vp_in v6 6 ∧ ∃ b5 : Nat, hR h (v0 + 1) (ix v6) = some b5 ∧ (vp_in ((v8 * 6) + v3) 216 ∧ (Q ((hI h (b5 + 2) (ix ((v8 * 6) + v3))).toInt64) h))) ∧ (v3 = 4 → vp_in v6 6 ∧ ∃ b6 : Nat, hR h (v0 + 1) (ix v6) = some b6 ∧ (vp_in v8 36 ∧ (Q (hJ h (b6 + 3) (ix v8)) h)))
set_option maxHeartbeats 4000000 in
set_option maxRecDepth 100000 in
theorem s_X0_toldOfRow_67 {l : Launch} {G : Cx} {d : Nat} {h0 : Hp} (hd : 4 ≤ d) {Q : Int64 → Hp → Prop} {v0 : Nat} {v3 : Int32} {v6 : Int32} {v8 : Int32} {h : Hp} (hm : m_X0_toldOfRow_67 Q v0 v3 v6 v8 h) : Rn l G d 0 0 MX0_toldOfRow h0 (qJ Q) 67 [some (tR 0 0 (some v0)), none, none, some (tI v3), none, none, some (tI v6), none, some (tI v8)] [] h 0 0 := by
  unfold m_X0_toldOfRow_67 at hm
  refine r_iload_n dX0_toldOfRow_67 rfl rfl ?_
  refine r_iconst (v := 4) dX0_toldOfRow_68 rfl ?_
  refine r_icmp_ne (tgt := 88) dX0_toldOfRow_69 rfl (fun hc => ?_) (fun hc => ?_)
  · replace hm := hm.1 hc
    refine r_aload_n dX0_toldOfRow_88 rfl rfl ?_
    refine r_getC (k := 0) cl_0 dX0_toldOfRow_89 t_121 gf_0_0.1 gf_0_0.2 (gc_0_0 _) ?_
    refine r_iload dX0_toldOfRow_92 rfl ?_
    obtain ⟨hi_b5, b5, hb_b5, hm⟩ := hm
    refine r_aaldS (kd := 1) (ti := 5) (cn := RX1) dX0_toldOfRow_94 rfl hi_b5 hb_b5 ?_
    refine r_getC (k := 10) cl_1 dX0_toldOfRow_95 t_474 gf_1_10.1 gf_1_10.2 (gc_1_10 _) ?_
    refine r_iload dX0_toldOfRow_98 rfl ?_
    refine r_bipush (v := 6) dX0_toldOfRow_100 rfl ?_
    refine r_imul dX0_toldOfRow_102 ?_
    refine r_iload_n dX0_toldOfRow_103 rfl rfl ?_
    refine r_iadd dX0_toldOfRow_104 ?_
    refine r_iald dX0_toldOfRow_105 hm.1 ?_
    replace hm := hm.2
    refine r_i2l dX0_toldOfRow_106 ?_
    exact r_lreturn dX0_toldOfRow_107 rfl ⟨by decide, by decide⟩ ⟨_, rfl, hm⟩
  · replace hm := hm.2 hc
    refine r_aload_n dX0_toldOfRow_72 rfl rfl ?_
    refine r_getC (k := 0) cl_0 dX0_toldOfRow_73 t_121 gf_0_0.1 gf_0_0.2 (gc_0_0 _) ?_
    refine r_iload dX0_toldOfRow_76 rfl ?_
    obtain ⟨hi_b6, b6, hb_b6, hm⟩ := hm
    refine r_aaldS (kd := 1) (ti := 5) (cn := RX1) dX0_toldOfRow_78 rfl hi_b6 hb_b6 ?_
    refine r_getC (k := 11) cl_1 dX0_toldOfRow_79 t_478 gf_1_11.1 gf_1_11.2 (gc_1_11 _) ?_
    refine r_iload dX0_toldOfRow_82 rfl ?_
    refine r_lald dX0_toldOfRow_84 hm.1 ?_
    replace hm := hm.2
    refine r_goto (tgt := 107) dX0_toldOfRow_85 rfl ?_
    exact r_lreturn dX0_toldOfRow_107 rfl ⟨by decide, by decide⟩ ⟨_, rfl, hm⟩
def m_X0_toldOfRow_29 : Nat → (Nat → Int32 → Int32 → Int32 → Hp → Prop) → (Nat → Int32 → Int32 → Int32 → Int32 → Int32 → Int32 → Hp → Prop) → (Int64 → Hp → Prop) → Nat → Int32 → Int32 → Int32 → Int32 → Int32 → Int32 → Int32 → Int32 → Hp → Prop
  | 0, _, _, _, _, _, _, _, _, _, _, _, _, _ => False
  | n + 1, k67, k117, Q, v0, v1, v2, v3, v4, v5, v6, v7, v8, h => vp_in v6 6 ∧ ∃ b7 : Nat, hR h (v0 + 1) (ix v6) = some b7 ∧ (((hI h b7 6) ≤ v8 → k117 v0 v1 v2 v3 v4 v5 v6 h) ∧ (¬ (hI h b7 6) ≤ v8 → vp_in v6 6 ∧ ∃ b8 : Nat, hR h (v0 + 1) (ix v6) = some b8 ∧ (m_X1_isPassing b8 v8 v7 h (fun (x9 : Int32) (h10 : Hp) => (x9 = 0 → m_X0_toldOfRow_111 (fun (v0 : Nat) (v1 : Int32) (v2 : Int32) (v3 : Int32) (v4 : Int32) (v5 : Int32) (v6 : Int32) (v7 : Int32) (v8 : Int32) (hh : Hp) => m_X0_toldOfRow_29 n k67 k117 Q v0 v1 v2 v3 v4 v5 v6 v7 v8 hh) k67 k117 Q v0 v1 v2 v3 v4 v5 v6 v7 v8 h10) ∧ (¬ x9 = 0 → (¬ v4 = v2 → ∀ x11 : Int32, x11 = v4 + 1 → m_X0_toldOfRow_111 (fun (v0 : Nat) (v1 : Int32) (v2 : Int32) (v3 : Int32) (v4 : Int32) (v5 : Int32) (v6 : Int32) (v7 : Int32) (v8 : Int32) (hh : Hp) => m_X0_toldOfRow_29 n k67 k117 Q v0 v1 v2 v3 v4 v5 v6 v7 v8 hh) k67 k117 Q v0 v1 v2 v3 x11 v5 v6 v7 v8 h10) ∧ (v4 = v2 → k67 v0 v3 v6 v8 h10))))))
set_option maxHeartbeats 4000000 in
set_option maxRecDepth 100000 in
theorem s_X0_toldOfRow_29 {l : Launch} {G : Cx} {d : Nat} {h0 : Hp} (hd : 4 ≤ d) {k67 : Nat → Int32 → Int32 → Int32 → Hp → Prop} {k117 : Nat → Int32 → Int32 → Int32 → Int32 → Int32 → Int32 → Hp → Prop} {Q : Int64 → Hp → Prop} (hk67 : ∀ (v0 : Nat) (v3 : Int32) (v6 : Int32) (v8 : Int32) (hh : Hp), k67 v0 v3 v6 v8 hh → Rn l G d 0 0 MX0_toldOfRow h0 (qJ Q) 67 [some (tR 0 0 (some v0)), none, none, some (tI v3), none, none, some (tI v6), none, some (tI v8)] [] hh 0 0) (hk117 : ∀ (v0 : Nat) (v1 : Int32) (v2 : Int32) (v3 : Int32) (v4 : Int32) (v5 : Int32) (v6 : Int32) (hh : Hp), k117 v0 v1 v2 v3 v4 v5 v6 hh → Rn l G d 0 0 MX0_toldOfRow h0 (qJ Q) 117 [some (tR 0 0 (some v0)), some (tI v1), some (tI v2), some (tI v3), some (tI v4), some (tI v5), some (tI v6)] [] hh 0 0) : ∀ {n : Nat} {v0 : Nat} {v1 : Int32} {v2 : Int32} {v3 : Int32} {v4 : Int32} {v5 : Int32} {v6 : Int32} {v7 : Int32} {v8 : Int32} {h : Hp}, m_X0_toldOfRow_29 n k67 k117 Q v0 v1 v2 v3 v4 v5 v6 v7 v8 h → Rn l G d 0 0 MX0_toldOfRow h0 (qJ Q) 29 [some (tR 0 0 (some v0)), some (tI v1), some (tI v2), some (tI v3), some (tI v4), some (tI v5), some (tI v6), some (tI v7), some (tI v8)] [] h 0 0 := by
  intro n
  induction n with
  | zero => intro v0 v1 v2 v3 v4 v5 v6 v7 v8 h hm; exact hm.elim
  | succ n ih =>
    intro v0 v1 v2 v3 v4 v5 v6 v7 v8 h hm
    have hk29 := fun (v0 : Nat) (v1 : Int32) (v2 : Int32) (v3 : Int32) (v4 : Int32) (v5 : Int32) (v6 : Int32) (v7 : Int32) (v8 : Int32) (hh : Hp) (hm : m_X0_toldOfRow_29 n k67 k117 Q v0 v1 v2 v3 v4 v5 v6 v7 v8 hh) => ih hm
    rw [m_X0_toldOfRow_29] at hm
    refine r_iload dX0_toldOfRow_29 rfl ?_
    refine r_aload_n dX0_toldOfRow_31 rfl rfl ?_
    refine r_getC (k := 0) cl_0 dX0_toldOfRow_32 t_121 gf_0_0.1 gf_0_0.2 (gc_0_0 _) ?_
    refine r_iload dX0_toldOfRow_35 rfl ?_
    obtain ⟨hi_b7, b7, hb_b7, hm⟩ := hm
    refine r_aaldS (kd := 1) (ti := 5) (cn := RX1) dX0_toldOfRow_37 rfl hi_b7 hb_b7 ?_
    refine r_getI (k := 6) cl_1 dX0_toldOfRow_38 t_463 (Or.inl rfl) gf_1_6 ?_
    refine r_icmp_ge (tgt := 117) dX0_toldOfRow_41 rfl (fun hc => ?_) (fun hc => ?_)
    · replace hm := hm.1 hc
      refine r_keep (L' := [some (tR 0 0 (some v0)), some (tI v1), some (tI v2), some (tI v3), some (tI v4), some (tI v5), some (tI v6)]) [true, true, true, true, true, true, true] rfl ?_
      exact hk117 _ _ _ _ _ _ _ _ hm
    · replace hm := hm.2 hc
      refine r_aload_n dX0_toldOfRow_44 rfl rfl ?_
      refine r_getC (k := 0) cl_0 dX0_toldOfRow_45 t_121 gf_0_0.1 gf_0_0.2 (gc_0_0 _) ?_
      refine r_iload dX0_toldOfRow_48 rfl ?_
      obtain ⟨hi_b8, b8, hb_b8, hm⟩ := hm
      refine r_aaldS (kd := 1) (ti := 5) (cn := RX1) dX0_toldOfRow_50 rfl hi_b8 hb_b8 ?_
      refine r_iload dX0_toldOfRow_51 rfl ?_
      refine r_iload dX0_toldOfRow_53 rfl ?_
      refine r_callVI (d' := d - 1) (as := [tI v8, tI v7]) (st := []) cl_1 dX0_toldOfRow_55 mi_X1_isPassing t_922 t_875 t_876 rfl rfl (Nat.le_of_ble_eq_true rfl) (by omega) ⟨by decide, by decide⟩ ⟨rfl, rfl⟩ (s_X1_isPassing (by omega) hm) (fun x9 h10 hm => ?_)
      refine r_if_eq (tgt := 111) dX0_toldOfRow_58 rfl (fun hc => ?_) (fun hc => ?_)
      · replace hm := hm.1 hc
        refine r_keep (L' := [some (tR 0 0 (some v0)), some (tI v1), some (tI v2), some (tI v3), some (tI v4), some (tI v5), some (tI v6), some (tI v7), some (tI v8)]) [true, true, true, true, true, true, true, true, true] rfl ?_
        exact s_X0_toldOfRow_111 hd hk29 hk67 hk117 hm
      · replace hm := hm.2 hc
        refine r_iload dX0_toldOfRow_61 rfl ?_
        refine r_iload_n dX0_toldOfRow_63 rfl rfl ?_
        refine r_icmp_ne (tgt := 108) dX0_toldOfRow_64 rfl (fun hc => ?_) (fun hc => ?_)
        · replace hm := hm.1 hc
          obtain ⟨x11, e_x11⟩ : ∃ y : Int32, y = v4 + 1 := ⟨_, rfl⟩
          replace hm := hm x11 e_x11
          refine r_iinc (L' := [some (tR 0 0 (some v0)), some (tI v1), some (tI v2), some (tI v3), some (tI x11), some (tI v5), some (tI v6), some (tI v7), some (tI v8)]) dX0_toldOfRow_108 rfl (by rw [e_x11]; rfl) (by decide) rfl ?_
          refine r_keep (L' := [some (tR 0 0 (some v0)), some (tI v1), some (tI v2), some (tI v3), some (tI x11), some (tI v5), some (tI v6), some (tI v7), some (tI v8)]) [true, true, true, true, true, true, true, true, true] rfl ?_
          exact s_X0_toldOfRow_111 hd hk29 hk67 hk117 hm
        · replace hm := hm.2 hc
          refine r_keep (L' := [some (tR 0 0 (some v0)), none, none, some (tI v3), none, none, some (tI v6), none, some (tI v8)]) [true, false, false, true, false, false, true, false, true] rfl ?_
          exact hk67 _ _ _ _ _ hm
def m_X0_toldOfRow_9 : Nat → (Nat → Int32 → Int32 → Int32 → Hp → Prop) → (Int64 → Hp → Prop) → Nat → Int32 → Int32 → Int32 → Int32 → Int32 → Int32 → Hp → Prop
  | 0, _, _, _, _, _, _, _, _, _, _ => False
  | n + 1, k67, Q, v0, v1, v2, v3, v4, v5, v6, h => ((hI h v0 1) ≤ v6 → Q (-1) h) ∧ (¬ (hI h v0 1) ≤ v6 → m_X0_codeFor v1 v5 h (fun (x12 : Int32) (h13 : Hp) => ∃ n29, m_X0_toldOfRow_29 n29 k67 (m_X0_toldOfRow_117 (fun (v0 : Nat) (v1 : Int32) (v2 : Int32) (v3 : Int32) (v4 : Int32) (v5 : Int32) (v6 : Int32) (hh : Hp) => m_X0_toldOfRow_9 n k67 Q v0 v1 v2 v3 v4 v5 v6 hh) k67 Q) Q v0 v1 v2 v3 v4 v5 v6 x12 0 h13))
set_option maxHeartbeats 4000000 in
set_option maxRecDepth 100000 in
theorem s_X0_toldOfRow_9 {l : Launch} {G : Cx} {d : Nat} {h0 : Hp} (hd : 4 ≤ d) {k67 : Nat → Int32 → Int32 → Int32 → Hp → Prop} {Q : Int64 → Hp → Prop} (hk67 : ∀ (v0 : Nat) (v3 : Int32) (v6 : Int32) (v8 : Int32) (hh : Hp), k67 v0 v3 v6 v8 hh → Rn l G d 0 0 MX0_toldOfRow h0 (qJ Q) 67 [some (tR 0 0 (some v0)), none, none, some (tI v3), none, none, some (tI v6), none, some (tI v8)] [] hh 0 0) : ∀ {n : Nat} {v0 : Nat} {v1 : Int32} {v2 : Int32} {v3 : Int32} {v4 : Int32} {v5 : Int32} {v6 : Int32} {h : Hp}, m_X0_toldOfRow_9 n k67 Q v0 v1 v2 v3 v4 v5 v6 h → Rn l G d 0 0 MX0_toldOfRow h0 (qJ Q) 9 [some (tR 0 0 (some v0)), some (tI v1), some (tI v2), some (tI v3), some (tI v4), some (tI v5), some (tI v6)] [] h 0 0 := by
  intro n
  induction n with
  | zero => intro v0 v1 v2 v3 v4 v5 v6 h hm; exact hm.elim
  | succ n ih =>
    intro v0 v1 v2 v3 v4 v5 v6 h hm
    have hk9 := fun (v0 : Nat) (v1 : Int32) (v2 : Int32) (v3 : Int32) (v4 : Int32) (v5 : Int32) (v6 : Int32) (hh : Hp) (hm : m_X0_toldOfRow_9 n k67 Q v0 v1 v2 v3 v4 v5 v6 hh) => ih hm
    rw [m_X0_toldOfRow_9] at hm
    refine r_iload dX0_toldOfRow_9 rfl ?_
    refine r_aload_n dX0_toldOfRow_11 rfl rfl ?_
    refine r_getI (k := 1) cl_0 dX0_toldOfRow_12 t_125 (Or.inl rfl) gf_0_1 ?_
    refine r_icmp_ge (tgt := 138) dX0_toldOfRow_15 rfl (fun hc => ?_) (fun hc => ?_)
    · replace hm := hm.1 hc
      refine r_ldc2_w dX0_toldOfRow_138 t_927 ?_
      exact r_lreturn dX0_toldOfRow_141 rfl ⟨by decide, by decide⟩ ⟨_, rfl, hm⟩
    · replace hm := hm.2 hc
      refine r_iload_n dX0_toldOfRow_18 rfl rfl ?_
      refine r_iload dX0_toldOfRow_19 rfl ?_
      refine r_callSI (d' := d - 1) (as := [tI v1, tI v5]) (st := []) dX0_toldOfRow_21 mi_X0_codeFor t_919 t_920 rfl rfl (Nat.le_of_ble_eq_true rfl) (by omega) ⟨by decide, by decide⟩ ⟨rfl, rfl⟩ (s_X0_codeFor (by omega) hm) (fun x12 h13 hm => ?_)
      refine r_istore (L' := [some (tR 0 0 (some v0)), some (tI v1), some (tI v2), some (tI v3), some (tI v4), some (tI v5), some (tI v6), some (tI x12)]) dX0_toldOfRow_24 (by decide) rfl ?_
      refine r_iconst (v := 0) dX0_toldOfRow_26 rfl ?_
      refine r_istore (L' := [some (tR 0 0 (some v0)), some (tI v1), some (tI v2), some (tI v3), some (tI v4), some (tI v5), some (tI v6), some (tI x12), some (tI 0)]) dX0_toldOfRow_27 (by decide) rfl ?_
      refine r_keep (L' := [some (tR 0 0 (some v0)), some (tI v1), some (tI v2), some (tI v3), some (tI v4), some (tI v5), some (tI v6), some (tI x12), some (tI 0)]) [true, true, true, true, true, true, true, true, true] rfl ?_
      obtain ⟨n, hm⟩ := hm
      refine s_X0_toldOfRow_29 hd ?_ ?_ hm
      · exact hk67
      · exact (fun _ _ _ _ _ _ _ _ hm => s_X0_toldOfRow_117 hd hk9 hk67 hm)
def m_X0_toldOfRow (v0 : Nat) (v1 : Int32) (v2 : Int32) (v3 : Int32) (h : Hp) (Q : Int64 → Hp → Prop) : Prop := ∃ n9, m_X0_toldOfRow_9 n9 (m_X0_toldOfRow_67 Q) Q v0 v1 v2 v3 0 0 0 h
set_option maxHeartbeats 4000000 in
set_option maxRecDepth 100000 in
theorem s_X0_toldOfRow {l : Launch} {G : Cx} {d : Nat} (hd : 4 ≤ d) {v0 : Nat} {v1 : Int32} {v2 : Int32} {v3 : Int32} {h : Hp} {Q : Int64 → Hp → Prop} (hm : m_X0_toldOfRow v0 v1 v2 v3 h Q) : Ct l G d 0 0 yX0_toldOfRow MX0_toldOfRow [tR 0 0 (some v0), tI v1, tI v2, tI v3] h (qJ Q) := by
  unfold m_X0_toldOfRow at hm
  refine Ct.of (L := [some (tR 0 0 (some v0)), some (tI v1), some (tI v2), some (tI v3)]) (by decide) rfl rfl (Nat.le_of_ble_eq_true rfl) rfl ?_
  refine r_iconst (v := 0) dX0_toldOfRow_0 rfl ?_
  refine r_istore (L' := [some (tR 0 0 (some v0)), some (tI v1), some (tI v2), some (tI v3), some (tI 0)]) dX0_toldOfRow_1 (by decide) rfl ?_
  refine r_iconst (v := 0) dX0_toldOfRow_3 rfl ?_
  refine r_istore (L' := [some (tR 0 0 (some v0)), some (tI v1), some (tI v2), some (tI v3), some (tI 0), some (tI 0)]) dX0_toldOfRow_4 (by decide) rfl ?_
  refine r_iconst (v := 0) dX0_toldOfRow_6 rfl ?_
  refine r_istore (L' := [some (tR 0 0 (some v0)), some (tI v1), some (tI v2), some (tI v3), some (tI 0), some (tI 0), some (tI 0)]) dX0_toldOfRow_7 (by decide) rfl ?_
  refine r_keep (L' := [some (tR 0 0 (some v0)), some (tI v1), some (tI v2), some (tI v3), some (tI 0), some (tI 0), some (tI 0)]) [true, true, true, true, true, true, true] rfl ?_
  obtain ⟨n, hm⟩ := hm
  refine s_X0_toldOfRow_9 hd ?_ hm
  · exact (fun _ _ _ _ _ hm => s_X0_toldOfRow_67 hd hm)
theorem dX1_init_0 : decode cX1_init 0 = .ok (.aload_n 0, 1) := rfl
theorem dX1_init_1 : decode cX1_init 1 = .ok (.invokespecial 3, 3) := rfl
theorem dX1_init_4 : decode cX1_init 4 = .ok (.aload_n 0, 1) := rfl
theorem dX1_init_5 : decode cX1_init 5 = .ok (.bipush 96, 2) := by decide +kernel
theorem dX1_init_7 : decode cX1_init 7 = .ok (.newarray .int, 2) := rfl
theorem dX1_init_9 : decode cX1_init 9 = .ok (.putfield 9, 3) := rfl
theorem dX1_init_12 : decode cX1_init 12 = .ok (.aload_n 0, 1) := rfl
theorem dX1_init_13 : decode cX1_init 13 = .ok (.sipush 216, 3) := by decide +kernel
theorem dX1_init_16 : decode cX1_init 16 = .ok (.newarray .int, 2) := rfl
theorem dX1_init_18 : decode cX1_init 18 = .ok (.putfield 15, 3) := rfl
theorem dX1_init_21 : decode cX1_init 21 = .ok (.aload_n 0, 1) := rfl
theorem dX1_init_22 : decode cX1_init 22 = .ok (.bipush 36, 2) := by decide +kernel
theorem dX1_init_24 : decode cX1_init 24 = .ok (.newarray .long, 2) := rfl
theorem dX1_init_26 : decode cX1_init 26 = .ok (.putfield 18, 3) := rfl
theorem dX1_init_29 : decode cX1_init 29 = .ok (.aload_n 0, 1) := rfl
theorem dX1_init_30 : decode cX1_init 30 = .ok (.bipush 36, 2) := by decide +kernel
theorem dX1_init_32 : decode cX1_init 32 = .ok (.newarray .int, 2) := rfl
theorem dX1_init_34 : decode cX1_init 34 = .ok (.putfield 22, 3) := rfl
theorem dX1_init_37 : decode cX1_init 37 = .ok (.aload_n 0, 1) := rfl
theorem dX1_init_38 : decode cX1_init 38 = .ok (.iload_n 1, 1) := rfl
theorem dX1_init_39 : decode cX1_init 39 = .ok (.putfield 25, 3) := rfl
theorem dX1_init_42 : decode cX1_init 42 = .ok (.return_, 1) := rfl
def m_X1_init (v0 : Nat) (v1 : Int32) (h : Hp) (Q : Hp → Prop) : Prop := ∀ a1 : Nat, a1 = hN h → ∀ h2 : Hp, h2 = nw h (40, 96) → ∀ a3 : Nat, a3 = hN (wR h2 v0 9 (some a1)) → ∀ h4 : Hp, h4 = nw (wR h2 v0 9 (some a1)) (40, 216) → ∀ a5 : Nat, a5 = hN (wR h4 v0 10 (some a3)) → ∀ h6 : Hp, h6 = nw (wR h4 v0 10 (some a3)) (43, 36) → ∀ a7 : Nat, a7 = hN (wR h6 v0 11 (some a5)) → ∀ h8 : Hp, h8 = nw (wR h6 v0 11 (some a5)) (40, 36) → Q (wI (wR h8 v0 12 (some a7)) v0 0 v1)
set_option maxHeartbeats 4000000 in
set_option maxRecDepth 100000 in
theorem s_X1_init {l : Launch} {G : Cx} {d : Nat} (hd : 2 ≤ d) {v0 : Nat} {v1 : Int32} {h : Hp} {Q : Hp → Prop} (hm : m_X1_init v0 v1 h Q) : Ct l G d 4 384 yX1_init MX1_init [tR 21 0 (some v0), tI v1] h (qV Q) := by
  unfold m_X1_init at hm
  refine Ct.of (L := [some (tR 21 0 (some v0)), some (tI v1)]) (by decide) rfl rfl (Nat.le_of_ble_eq_true rfl) rfl ?_
  refine r_aload_n dX1_init_0 rfl rfl ?_
  refine r_objInit dX1_init_1 t_435 t_29 t_30 (by omega) (Nat.le_of_ble_eq_true rfl) ?_
  refine r_aload_n dX1_init_4 rfl rfl ?_
  refine r_bipush (v := 96) dX1_init_5 rfl ?_
  refine r_newI (N := 96) dX1_init_7 t_61 (by decide) rfl (by decide) ⟨by decide, by decide⟩ ?_
  refine r_nmA (fun a1 e_a1 h2 e_h2 => ?_)
  replace hm := hm a1 e_a1 h2 e_h2
  refine r_putR0 (k := 9) cl_1 dX1_init_9 t_468 (Or.inr rfl) gf_1_9.1 gf_1_9.2 (fun z => absurd z (by decide)) pf_1_9.1 (Or.inr ⟨pf_1_9.2, rfl, rfl⟩) ?_
  refine r_aload_n dX1_init_12 rfl rfl ?_
  refine r_sipush (v := 216) dX1_init_13 rfl ?_
  refine r_newI (N := 216) dX1_init_16 t_61 (by decide) rfl (by decide) ⟨by decide, by decide⟩ ?_
  refine r_nmA (fun a3 e_a3 h4 e_h4 => ?_)
  replace hm := hm a3 e_a3 h4 e_h4
  refine r_putR0 (k := 10) cl_1 dX1_init_18 t_471 (Or.inr rfl) gf_1_10.1 gf_1_10.2 (fun z => absurd z (by decide)) pf_1_10.1 (Or.inr ⟨pf_1_10.2, rfl, rfl⟩) ?_
  refine r_aload_n dX1_init_21 rfl rfl ?_
  refine r_bipush (v := 36) dX1_init_22 rfl ?_
  refine r_newJ (N := 36) dX1_init_24 t_206 (by decide) rfl (by decide) ⟨by decide, by decide⟩ ?_
  refine r_nmA (fun a5 e_a5 h6 e_h6 => ?_)
  replace hm := hm a5 e_a5 h6 e_h6
  refine r_putR0 (k := 11) cl_1 dX1_init_26 t_475 (Or.inr rfl) gf_1_11.1 gf_1_11.2 (fun z => absurd z (by decide)) pf_1_11.1 (Or.inr ⟨pf_1_11.2, rfl, rfl⟩) ?_
  refine r_aload_n dX1_init_29 rfl rfl ?_
  refine r_bipush (v := 36) dX1_init_30 rfl ?_
  refine r_newI (N := 36) dX1_init_32 t_61 (by decide) rfl (by decide) ⟨by decide, by decide⟩ ?_
  refine r_nmA (fun a7 e_a7 h8 e_h8 => ?_)
  replace hm := hm a7 e_a7 h8 e_h8
  refine r_putR0 (k := 12) cl_1 dX1_init_34 t_479 (Or.inr rfl) gf_1_12.1 gf_1_12.2 (fun z => absurd z (by decide)) pf_1_12.1 (Or.inr ⟨pf_1_12.2, rfl, rfl⟩) ?_
  refine r_aload_n dX1_init_37 rfl rfl ?_
  refine r_iload_n dX1_init_38 rfl rfl ?_
  refine r_putI0 (k := 0) cl_1 dX1_init_39 t_436 (Or.inr rfl) gf_1_0 pf_1_0.1 (Or.inr ⟨pf_1_0.2, rfl, rfl⟩) ?_
  exact r_return dX1_init_42 rfl ⟨by decide, by decide⟩ ⟨rfl, hm⟩
theorem dX1_empty_0 : decode cX1_empty 0 = .ok (.aload_n 0, 1) := rfl
theorem dX1_empty_1 : decode cX1_empty 1 = .ok (.iconst 0, 1) := rfl
theorem dX1_empty_2 : decode cX1_empty 2 = .ok (.putfield 29, 3) := rfl
theorem dX1_empty_5 : decode cX1_empty 5 = .ok (.aload_n 0, 1) := rfl
theorem dX1_empty_6 : decode cX1_empty 6 = .ok (.iconst 0, 1) := rfl
theorem dX1_empty_7 : decode cX1_empty 7 = .ok (.putfield 32, 3) := rfl
theorem dX1_empty_10 : decode cX1_empty 10 = .ok (.aload_n 0, 1) := rfl
theorem dX1_empty_11 : decode cX1_empty 11 = .ok (.iconst 0, 1) := rfl
theorem dX1_empty_12 : decode cX1_empty 12 = .ok (.putfield 35, 3) := rfl
theorem dX1_empty_15 : decode cX1_empty 15 = .ok (.aload_n 0, 1) := rfl
theorem dX1_empty_16 : decode cX1_empty 16 = .ok (.iconst 0, 1) := rfl
theorem dX1_empty_17 : decode cX1_empty 17 = .ok (.putfield 38, 3) := rfl
theorem dX1_empty_20 : decode cX1_empty 20 = .ok (.aload_n 0, 1) := rfl
theorem dX1_empty_21 : decode cX1_empty 21 = .ok (.iconst 0, 1) := rfl
theorem dX1_empty_22 : decode cX1_empty 22 = .ok (.putfield 41, 3) := rfl
theorem dX1_empty_25 : decode cX1_empty 25 = .ok (.return_, 1) := rfl
def m_X1_empty (v0 : Nat) (h : Hp) (Q : Hp → Prop) : Prop := Q (wI (wI (wI (wI (wI h v0 2 0) v0 3 0) v0 4 0) v0 5 0) v0 6 0)
set_option maxHeartbeats 4000000 in
set_option maxRecDepth 100000 in
theorem s_X1_empty {l : Launch} {G : Cx} {d : Nat} (hd : 2 ≤ d) {v0 : Nat} {h : Hp} {Q : Hp → Prop} (hm : m_X1_empty v0 h Q) : Ct l G d 0 0 yX1_empty MX1_empty [tR 1 0 (some v0)] h (qV Q) := by
  unfold m_X1_empty at hm
  refine Ct.of (L := [some (tR 1 0 (some v0))]) (by decide) rfl rfl (Nat.le_of_ble_eq_true rfl) rfl ?_
  refine r_aload_n dX1_empty_0 rfl rfl ?_
  refine r_iconst (v := 0) dX1_empty_1 rfl ?_
  refine r_putI0 (k := 2) cl_1 dX1_empty_2 t_441 (Or.inl rfl) gf_1_2 pf_1_2.1 (Or.inl pf_1_2.2) ?_
  refine r_aload_n dX1_empty_5 rfl rfl ?_
  refine r_iconst (v := 0) dX1_empty_6 rfl ?_
  refine r_putI0 (k := 3) cl_1 dX1_empty_7 t_446 (Or.inl rfl) gf_1_3 pf_1_3.1 (Or.inl pf_1_3.2) ?_
  refine r_aload_n dX1_empty_10 rfl rfl ?_
  refine r_iconst (v := 0) dX1_empty_11 rfl ?_
  refine r_putI0 (k := 4) cl_1 dX1_empty_12 t_452 (Or.inl rfl) gf_1_4 pf_1_4.1 (Or.inl pf_1_4.2) ?_
  refine r_aload_n dX1_empty_15 rfl rfl ?_
  refine r_iconst (v := 0) dX1_empty_16 rfl ?_
  refine r_putI0 (k := 5) cl_1 dX1_empty_17 t_457 (Or.inl rfl) gf_1_5 pf_1_5.1 (Or.inl pf_1_5.2) ?_
  refine r_aload_n dX1_empty_20 rfl rfl ?_
  refine r_iconst (v := 0) dX1_empty_21 rfl ?_
  refine r_putI0 (k := 6) cl_1 dX1_empty_22 t_460 (Or.inl rfl) gf_1_6 pf_1_6.1 (Or.inl pf_1_6.2) ?_
  exact r_return dX1_empty_25 rfl ⟨by decide, by decide⟩ ⟨rfl, hm⟩
theorem dX1_putLeaf_0 : decode cX1_putLeaf 0 = .ok (.aload_n 0, 1) := rfl
theorem dX1_putLeaf_1 : decode cX1_putLeaf 1 = .ok (.getfield 29, 3) := rfl
theorem dX1_putLeaf_4 : decode cX1_putLeaf 4 = .ok (.bipush 12, 2) := by decide +kernel
theorem dX1_putLeaf_6 : decode cX1_putLeaf 6 = .ok (.if_icmp .lt 4, 3) := by decide +kernel
theorem dX1_putLeaf_9 : decode cX1_putLeaf 9 = .ok (.return_, 1) := rfl
theorem dX1_putLeaf_10 : decode cX1_putLeaf 10 = .ok (.aload_n 0, 1) := rfl
theorem dX1_putLeaf_11 : decode cX1_putLeaf 11 = .ok (.getfield 29, 3) := rfl
theorem dX1_putLeaf_14 : decode cX1_putLeaf 14 = .ok (.bipush 8, 2) := by decide +kernel
theorem dX1_putLeaf_16 : decode cX1_putLeaf 16 = .ok (.imul, 1) := rfl
theorem dX1_putLeaf_17 : decode cX1_putLeaf 17 = .ok (.istore_n 3, 1) := rfl
theorem dX1_putLeaf_18 : decode cX1_putLeaf 18 = .ok (.aload_n 1, 1) := rfl
theorem dX1_putLeaf_19 : decode cX1_putLeaf 19 = .ok (.iconst 0, 1) := rfl
theorem dX1_putLeaf_20 : decode cX1_putLeaf 20 = .ok (.aload_n 0, 1) := rfl
theorem dX1_putLeaf_21 : decode cX1_putLeaf 21 = .ok (.getfield 9, 3) := rfl
theorem dX1_putLeaf_24 : decode cX1_putLeaf 24 = .ok (.iload_n 3, 1) := rfl
theorem dX1_putLeaf_25 : decode cX1_putLeaf 25 = .ok (.bipush 8, 2) := by decide +kernel
theorem dX1_putLeaf_27 : decode cX1_putLeaf 27 = .ok (.invokestatic 44, 3) := rfl
theorem dX1_putLeaf_30 : decode cX1_putLeaf 30 = .ok (.aload_n 0, 1) := rfl
theorem dX1_putLeaf_31 : decode cX1_putLeaf 31 = .ok (.getfield 9, 3) := rfl
theorem dX1_putLeaf_34 : decode cX1_putLeaf 34 = .ok (.iload_n 3, 1) := rfl
theorem dX1_putLeaf_35 : decode cX1_putLeaf 35 = .ok (.bipush 6, 2) := by decide +kernel
theorem dX1_putLeaf_37 : decode cX1_putLeaf 37 = .ok (.iadd, 1) := rfl
theorem dX1_putLeaf_38 : decode cX1_putLeaf 38 = .ok (.dup2, 1) := rfl
theorem dX1_putLeaf_39 : decode cX1_putLeaf 39 = .ok (.iaload, 1) := rfl
theorem dX1_putLeaf_40 : decode cX1_putLeaf 40 = .ok (.iload_n 2, 1) := rfl
theorem dX1_putLeaf_41 : decode cX1_putLeaf 41 = .ok (.iadd, 1) := rfl
theorem dX1_putLeaf_42 : decode cX1_putLeaf 42 = .ok (.iastore, 1) := rfl
theorem dX1_putLeaf_43 : decode cX1_putLeaf 43 = .ok (.aload_n 0, 1) := rfl
theorem dX1_putLeaf_44 : decode cX1_putLeaf 44 = .ok (.getfield 9, 3) := rfl
theorem dX1_putLeaf_47 : decode cX1_putLeaf 47 = .ok (.iload_n 3, 1) := rfl
theorem dX1_putLeaf_48 : decode cX1_putLeaf 48 = .ok (.bipush 7, 2) := by decide +kernel
theorem dX1_putLeaf_50 : decode cX1_putLeaf 50 = .ok (.iadd, 1) := rfl
theorem dX1_putLeaf_51 : decode cX1_putLeaf 51 = .ok (.dup2, 1) := rfl
theorem dX1_putLeaf_52 : decode cX1_putLeaf 52 = .ok (.iaload, 1) := rfl
theorem dX1_putLeaf_53 : decode cX1_putLeaf 53 = .ok (.iload_n 2, 1) := rfl
theorem dX1_putLeaf_54 : decode cX1_putLeaf 54 = .ok (.iadd, 1) := rfl
theorem dX1_putLeaf_55 : decode cX1_putLeaf 55 = .ok (.iastore, 1) := rfl
theorem dX1_putLeaf_56 : decode cX1_putLeaf 56 = .ok (.aload_n 0, 1) := rfl
theorem dX1_putLeaf_57 : decode cX1_putLeaf 57 = .ok (.dup, 1) := rfl
theorem dX1_putLeaf_58 : decode cX1_putLeaf 58 = .ok (.getfield 38, 3) := rfl
theorem dX1_putLeaf_61 : decode cX1_putLeaf 61 = .ok (.iconst 1, 1) := rfl
theorem dX1_putLeaf_62 : decode cX1_putLeaf 62 = .ok (.aload_n 1, 1) := rfl
theorem dX1_putLeaf_63 : decode cX1_putLeaf 63 = .ok (.iconst 3, 1) := rfl
theorem dX1_putLeaf_64 : decode cX1_putLeaf 64 = .ok (.iaload, 1) := rfl
theorem dX1_putLeaf_65 : decode cX1_putLeaf 65 = .ok (.ishl, 1) := rfl
theorem dX1_putLeaf_66 : decode cX1_putLeaf 66 = .ok (.ior, 1) := rfl
theorem dX1_putLeaf_67 : decode cX1_putLeaf 67 = .ok (.putfield 38, 3) := rfl
theorem dX1_putLeaf_70 : decode cX1_putLeaf 70 = .ok (.aload_n 0, 1) := rfl
theorem dX1_putLeaf_71 : decode cX1_putLeaf 71 = .ok (.dup, 1) := rfl
theorem dX1_putLeaf_72 : decode cX1_putLeaf 72 = .ok (.getfield 29, 3) := rfl
theorem dX1_putLeaf_75 : decode cX1_putLeaf 75 = .ok (.iconst 1, 1) := rfl
theorem dX1_putLeaf_76 : decode cX1_putLeaf 76 = .ok (.iadd, 1) := rfl
theorem dX1_putLeaf_77 : decode cX1_putLeaf 77 = .ok (.putfield 29, 3) := rfl
theorem dX1_putLeaf_80 : decode cX1_putLeaf 80 = .ok (.return_, 1) := rfl
def m_X1_putLeaf (v0 : Nat) (v1 : Nat) (v1n : Nat) (v2 : Int32) (h : Hp) (Q : Hp → Prop) : Prop := ((hI h v0 2) < 12 → ∀ x1 : Int32, x1 = ((hI h v0 2) * 8) → ¬ (0 : Int32) < 0 ∧ ¬ x1 < 0 ∧ ¬ (8 : Int32) < 0 ∧ ix (0 : Int32) + ix (8 : Int32) ≤ v1n ∧ ix x1 + ix (8 : Int32) ≤ 96 ∧ (vp_in (x1 + 6) 96 ∧ (vp_in (x1 + 6) 96 ∧ (vp_in (x1 + 7) 96 ∧ (vp_in (x1 + 7) 96 ∧ (vp_in 3 v1n ∧ (Q (wI (wI (wI (wI (cpI h v1 (ix (0 : Int32)) (v0 + 1) (ix x1) (ix (8 : Int32))) (v0 + 1) (ix (x1 + 6)) ((hI (cpI h v1 (ix (0 : Int32)) (v0 + 1) (ix x1) (ix (8 : Int32))) (v0 + 1) (ix (x1 + 6))) + v2)) (v0 + 1) (ix (x1 + 7)) ((hI (wI (cpI h v1 (ix (0 : Int32)) (v0 + 1) (ix x1) (ix (8 : Int32))) (v0 + 1) (ix (x1 + 6)) ((hI (cpI h v1 (ix (0 : Int32)) (v0 + 1) (ix x1) (ix (8 : Int32))) (v0 + 1) (ix (x1 + 6))) + v2)) (v0 + 1) (ix (x1 + 7))) + v2)) v0 5 ((hI (wI (wI (cpI h v1 (ix (0 : Int32)) (v0 + 1) (ix x1) (ix (8 : Int32))) (v0 + 1) (ix (x1 + 6)) ((hI (cpI h v1 (ix (0 : Int32)) (v0 + 1) (ix x1) (ix (8 : Int32))) (v0 + 1) (ix (x1 + 6))) + v2)) (v0 + 1) (ix (x1 + 7)) ((hI (wI (cpI h v1 (ix (0 : Int32)) (v0 + 1) (ix x1) (ix (8 : Int32))) (v0 + 1) (ix (x1 + 6)) ((hI (cpI h v1 (ix (0 : Int32)) (v0 + 1) (ix x1) (ix (8 : Int32))) (v0 + 1) (ix (x1 + 6))) + v2)) (v0 + 1) (ix (x1 + 7))) + v2)) v0 5) ||| (1 <<< ((hI (wI (wI (cpI h v1 (ix (0 : Int32)) (v0 + 1) (ix x1) (ix (8 : Int32))) (v0 + 1) (ix (x1 + 6)) ((hI (cpI h v1 (ix (0 : Int32)) (v0 + 1) (ix x1) (ix (8 : Int32))) (v0 + 1) (ix (x1 + 6))) + v2)) (v0 + 1) (ix (x1 + 7)) ((hI (wI (cpI h v1 (ix (0 : Int32)) (v0 + 1) (ix x1) (ix (8 : Int32))) (v0 + 1) (ix (x1 + 6)) ((hI (cpI h v1 (ix (0 : Int32)) (v0 + 1) (ix x1) (ix (8 : Int32))) (v0 + 1) (ix (x1 + 6))) + v2)) (v0 + 1) (ix (x1 + 7))) + v2)) v1 (ix 3)) &&& 31)))) v0 2 ((hI (wI (wI (wI (cpI h v1 (ix (0 : Int32)) (v0 + 1) (ix x1) (ix (8 : Int32))) (v0 + 1) (ix (x1 + 6)) ((hI (cpI h v1 (ix (0 : Int32)) (v0 + 1) (ix x1) (ix (8 : Int32))) (v0 + 1) (ix (x1 + 6))) + v2)) (v0 + 1) (ix (x1 + 7)) ((hI (wI (cpI h v1 (ix (0 : Int32)) (v0 + 1) (ix x1) (ix (8 : Int32))) (v0 + 1) (ix (x1 + 6)) ((hI (cpI h v1 (ix (0 : Int32)) (v0 + 1) (ix x1) (ix (8 : Int32))) (v0 + 1) (ix (x1 + 6))) + v2)) (v0 + 1) (ix (x1 + 7))) + v2)) v0 5 ((hI (wI (wI (cpI h v1 (ix (0 : Int32)) (v0 + 1) (ix x1) (ix (8 : Int32))) (v0 + 1) (ix (x1 + 6)) ((hI (cpI h v1 (ix (0 : Int32)) (v0 + 1) (ix x1) (ix (8 : Int32))) (v0 + 1) (ix (x1 + 6))) + v2)) (v0 + 1) (ix (x1 + 7)) ((hI (wI (cpI h v1 (ix (0 : Int32)) (v0 + 1) (ix x1) (ix (8 : Int32))) (v0 + 1) (ix (x1 + 6)) ((hI (cpI h v1 (ix (0 : Int32)) (v0 + 1) (ix x1) (ix (8 : Int32))) (v0 + 1) (ix (x1 + 6))) + v2)) (v0 + 1) (ix (x1 + 7))) + v2)) v0 5) ||| (1 <<< ((hI (wI (wI (cpI h v1 (ix (0 : Int32)) (v0 + 1) (ix x1) (ix (8 : Int32))) (v0 + 1) (ix (x1 + 6)) ((hI (cpI h v1 (ix (0 : Int32)) (v0 + 1) (ix x1) (ix (8 : Int32))) (v0 + 1) (ix (x1 + 6))) + v2)) (v0 + 1) (ix (x1 + 7)) ((hI (wI (cpI h v1 (ix (0 : Int32)) (v0 + 1) (ix x1) (ix (8 : Int32))) (v0 + 1) (ix (x1 + 6)) ((hI (cpI h v1 (ix (0 : Int32)) (v0 + 1) (ix x1) (ix (8 : Int32))) (v0 + 1) (ix (x1 + 6))) + v2)) (v0 + 1) (ix (x1 + 7))) + v2)) v1 (ix 3)) &&& 31)))) v0 2) + 1))))))))) ∧ (¬ (hI h v0 2) < 12 → Q h)
set_option maxHeartbeats 4000000 in
set_option maxRecDepth 100000 in
theorem s_X1_putLeaf {l : Launch} {G : Cx} {d : Nat} (hd : 2 ≤ d) {v0 : Nat} {v1 : Nat} {v1n : Nat} {v2 : Int32} {h : Hp} {Q : Hp → Prop} (hm : m_X1_putLeaf v0 v1 v1n v2 h Q) : Ct l G d 0 0 yX1_putLeaf MX1_putLeaf [tR 1 0 (some v0), tR 40 v1n (some v1), tI v2] h (qV Q) := by
  unfold m_X1_putLeaf at hm
  refine Ct.of (L := [some (tR 1 0 (some v0)), some (tR 40 v1n (some v1)), some (tI v2)]) (by decide) rfl rfl (Nat.le_of_ble_eq_true rfl) rfl ?_
  refine r_aload_n dX1_putLeaf_0 rfl rfl ?_
  refine r_getI (k := 2) cl_1 dX1_putLeaf_1 t_441 (Or.inl rfl) gf_1_2 ?_
  refine r_bipush (v := 12) dX1_putLeaf_4 rfl ?_
  refine r_icmp_lt (tgt := 10) dX1_putLeaf_6 rfl (fun hc => ?_) (fun hc => ?_)
  · replace hm := hm.1 hc
    refine r_aload_n dX1_putLeaf_10 rfl rfl ?_
    refine r_getI (k := 2) cl_1 dX1_putLeaf_11 t_441 (Or.inl rfl) gf_1_2 ?_
    refine r_bipush (v := 8) dX1_putLeaf_14 rfl ?_
    refine r_imul dX1_putLeaf_16 ?_
    refine r_nmI (fun x1 e_x1 => ?_)
    replace hm := hm x1 e_x1
    refine r_istore_n (L' := [some (tR 1 0 (some v0)), some (tR 40 v1n (some v1)), some (tI v2), some (tI x1)]) dX1_putLeaf_17 rfl (by decide) rfl ?_
    refine r_aload_n dX1_putLeaf_18 rfl rfl ?_
    refine r_iconst (v := 0) dX1_putLeaf_19 rfl ?_
    refine r_aload_n dX1_putLeaf_20 rfl rfl ?_
    refine r_getC (k := 9) cl_1 dX1_putLeaf_21 t_468 gf_1_9.1 gf_1_9.2 (gc_1_9 _) ?_
    refine r_iload_n dX1_putLeaf_24 rfl rfl ?_
    refine r_bipush (v := 8) dX1_putLeaf_25 rfl ?_
    obtain ⟨g1, g2, g3, g4, g5, hm⟩ := hm
    refine r_copy dX1_putLeaf_27 t_657 t_652 t_651 t_19 g1 g2 g3 g4 g5 (by omega) (Nat.le_of_ble_eq_true rfl) ?_
    refine r_aload_n dX1_putLeaf_30 rfl rfl ?_
    refine r_getC (k := 9) cl_1 dX1_putLeaf_31 t_468 gf_1_9.1 gf_1_9.2 (gc_1_9 _) ?_
    refine r_iload_n dX1_putLeaf_34 rfl rfl ?_
    refine r_bipush (v := 6) dX1_putLeaf_35 rfl ?_
    refine r_iadd dX1_putLeaf_37 ?_
    refine r_dup2 dX1_putLeaf_38 rfl cv_cat1R ?_
    refine r_iald dX1_putLeaf_39 hm.1 ?_
    replace hm := hm.2
    refine r_iload_n dX1_putLeaf_40 rfl rfl ?_
    refine r_iadd dX1_putLeaf_41 ?_
    refine r_iast dX1_putLeaf_42 hm.1 ?_
    replace hm := hm.2
    refine r_aload_n dX1_putLeaf_43 rfl rfl ?_
    refine r_getC (k := 9) cl_1 dX1_putLeaf_44 t_468 gf_1_9.1 gf_1_9.2 (gc_1_9 _) ?_
    refine r_iload_n dX1_putLeaf_47 rfl rfl ?_
    refine r_bipush (v := 7) dX1_putLeaf_48 rfl ?_
    refine r_iadd dX1_putLeaf_50 ?_
    refine r_dup2 dX1_putLeaf_51 rfl cv_cat1R ?_
    refine r_iald dX1_putLeaf_52 hm.1 ?_
    replace hm := hm.2
    refine r_iload_n dX1_putLeaf_53 rfl rfl ?_
    refine r_iadd dX1_putLeaf_54 ?_
    refine r_iast dX1_putLeaf_55 hm.1 ?_
    replace hm := hm.2
    refine r_aload_n dX1_putLeaf_56 rfl rfl ?_
    refine r_dup dX1_putLeaf_57 cv_cat1R ?_
    refine r_getI (k := 5) cl_1 dX1_putLeaf_58 t_457 (Or.inl rfl) gf_1_5 ?_
    refine r_iconst (v := 1) dX1_putLeaf_61 rfl ?_
    refine r_aload_n dX1_putLeaf_62 rfl rfl ?_
    refine r_iconst (v := 3) dX1_putLeaf_63 rfl ?_
    refine r_iald dX1_putLeaf_64 hm.1 ?_
    replace hm := hm.2
    refine r_ishl dX1_putLeaf_65 ?_
    refine r_ior dX1_putLeaf_66 ?_
    refine r_putI0 (k := 5) cl_1 dX1_putLeaf_67 t_457 (Or.inl rfl) gf_1_5 pf_1_5.1 (Or.inl pf_1_5.2) ?_
    refine r_aload_n dX1_putLeaf_70 rfl rfl ?_
    refine r_dup dX1_putLeaf_71 cv_cat1R ?_
    refine r_getI (k := 2) cl_1 dX1_putLeaf_72 t_441 (Or.inl rfl) gf_1_2 ?_
    refine r_iconst (v := 1) dX1_putLeaf_75 rfl ?_
    refine r_iadd dX1_putLeaf_76 ?_
    refine r_putI0 (k := 2) cl_1 dX1_putLeaf_77 t_441 (Or.inl rfl) gf_1_2 pf_1_2.1 (Or.inl pf_1_2.2) ?_
    exact r_return dX1_putLeaf_80 rfl ⟨by decide, by decide⟩ ⟨rfl, hm⟩
  · replace hm := hm.2 hc
    exact r_return dX1_putLeaf_9 rfl ⟨by decide, by decide⟩ ⟨rfl, hm⟩
theorem dX1_putRow_0 : decode cX1_putRow 0 = .ok (.aload_n 0, 1) := by decide +kernel
theorem dX1_putRow_1 : decode cX1_putRow 1 = .ok (.getfield 41, 3) := by decide +kernel
theorem dX1_putRow_4 : decode cX1_putRow 4 = .ok (.bipush 36, 2) := by decide +kernel
theorem dX1_putRow_6 : decode cX1_putRow 6 = .ok (.if_icmp .lt 4, 3) := by decide +kernel
theorem dX1_putRow_9 : decode cX1_putRow 9 = .ok (.return_, 1) := by decide +kernel
theorem dX1_putRow_10 : decode cX1_putRow 10 = .ok (.aload_n 0, 1) := by decide +kernel
theorem dX1_putRow_11 : decode cX1_putRow 11 = .ok (.getfield 41, 3) := by decide +kernel
theorem dX1_putRow_14 : decode cX1_putRow 14 = .ok (.bipush 6, 2) := by decide +kernel
theorem dX1_putRow_16 : decode cX1_putRow 16 = .ok (.imul, 1) := by decide +kernel
theorem dX1_putRow_17 : decode cX1_putRow 17 = .ok (.istore 8, 2) := by decide +kernel
theorem dX1_putRow_19 : decode cX1_putRow 19 = .ok (.aload_n 0, 1) := by decide +kernel
theorem dX1_putRow_20 : decode cX1_putRow 20 = .ok (.getfield 15, 3) := by decide +kernel
theorem dX1_putRow_23 : decode cX1_putRow 23 = .ok (.iload 8, 2) := by decide +kernel
theorem dX1_putRow_25 : decode cX1_putRow 25 = .ok (.iconst 0, 1) := by decide +kernel
theorem dX1_putRow_26 : decode cX1_putRow 26 = .ok (.iadd, 1) := by decide +kernel
theorem dX1_putRow_27 : decode cX1_putRow 27 = .ok (.aload_n 0, 1) := by decide +kernel
theorem dX1_putRow_28 : decode cX1_putRow 28 = .ok (.getfield 9, 3) := by decide +kernel
theorem dX1_putRow_31 : decode cX1_putRow 31 = .ok (.iload_n 1, 1) := by decide +kernel
theorem dX1_putRow_32 : decode cX1_putRow 32 = .ok (.iload_n 2, 1) := by decide +kernel
theorem dX1_putRow_33 : decode cX1_putRow 33 = .ok (.ifCond .eq 8, 3) := by decide +kernel
theorem dX1_putRow_36 : decode cX1_putRow 36 = .ok (.bipush 7, 2) := by decide +kernel
theorem dX1_putRow_38 : decode cX1_putRow 38 = .ok (.goto 5, 3) := by decide +kernel
theorem dX1_putRow_41 : decode cX1_putRow 41 = .ok (.bipush 6, 2) := by decide +kernel
theorem dX1_putRow_43 : decode cX1_putRow 43 = .ok (.iadd, 1) := by decide +kernel
theorem dX1_putRow_44 : decode cX1_putRow 44 = .ok (.iaload, 1) := by decide +kernel
theorem dX1_putRow_45 : decode cX1_putRow 45 = .ok (.iastore, 1) := by decide +kernel
theorem dX1_putRow_46 : decode cX1_putRow 46 = .ok (.aload_n 0, 1) := by decide +kernel
theorem dX1_putRow_47 : decode cX1_putRow 47 = .ok (.getfield 15, 3) := by decide +kernel
theorem dX1_putRow_50 : decode cX1_putRow 50 = .ok (.iload 8, 2) := by decide +kernel
theorem dX1_putRow_52 : decode cX1_putRow 52 = .ok (.iconst 1, 1) := by decide +kernel
theorem dX1_putRow_53 : decode cX1_putRow 53 = .ok (.iadd, 1) := by decide +kernel
theorem dX1_putRow_54 : decode cX1_putRow 54 = .ok (.aload_n 0, 1) := by decide +kernel
theorem dX1_putRow_55 : decode cX1_putRow 55 = .ok (.getfield 9, 3) := by decide +kernel
theorem dX1_putRow_58 : decode cX1_putRow 58 = .ok (.iload_n 1, 1) := by decide +kernel
theorem dX1_putRow_59 : decode cX1_putRow 59 = .ok (.iload_n 2, 1) := by decide +kernel
theorem dX1_putRow_60 : decode cX1_putRow 60 = .ok (.ifCond .eq 7, 3) := by decide +kernel
theorem dX1_putRow_63 : decode cX1_putRow 63 = .ok (.iconst 2, 1) := by decide +kernel
theorem dX1_putRow_64 : decode cX1_putRow 64 = .ok (.goto 4, 3) := by decide +kernel
theorem dX1_putRow_67 : decode cX1_putRow 67 = .ok (.iconst 1, 1) := by decide +kernel
theorem dX1_putRow_68 : decode cX1_putRow 68 = .ok (.iadd, 1) := by decide +kernel
theorem dX1_putRow_69 : decode cX1_putRow 69 = .ok (.iaload, 1) := by decide +kernel
theorem dX1_putRow_70 : decode cX1_putRow 70 = .ok (.iastore, 1) := by decide +kernel
theorem dX1_putRow_71 : decode cX1_putRow 71 = .ok (.aload_n 0, 1) := by decide +kernel
theorem dX1_putRow_72 : decode cX1_putRow 72 = .ok (.getfield 15, 3) := by decide +kernel
theorem dX1_putRow_75 : decode cX1_putRow 75 = .ok (.iload 8, 2) := by decide +kernel
theorem dX1_putRow_77 : decode cX1_putRow 77 = .ok (.iconst 2, 1) := by decide +kernel
theorem dX1_putRow_78 : decode cX1_putRow 78 = .ok (.iadd, 1) := by decide +kernel
theorem dX1_putRow_79 : decode cX1_putRow 79 = .ok (.aload_n 0, 1) := by decide +kernel
theorem dX1_putRow_80 : decode cX1_putRow 80 = .ok (.getfield 9, 3) := by decide +kernel
theorem dX1_putRow_83 : decode cX1_putRow 83 = .ok (.iload_n 1, 1) := by decide +kernel
theorem dX1_putRow_84 : decode cX1_putRow 84 = .ok (.iload_n 2, 1) := by decide +kernel
theorem dX1_putRow_85 : decode cX1_putRow 85 = .ok (.ifCond .eq 7, 3) := by decide +kernel
theorem dX1_putRow_88 : decode cX1_putRow 88 = .ok (.iconst 1, 1) := by decide +kernel
theorem dX1_putRow_89 : decode cX1_putRow 89 = .ok (.goto 4, 3) := by decide +kernel
theorem dX1_putRow_92 : decode cX1_putRow 92 = .ok (.iconst 2, 1) := by decide +kernel
theorem dX1_putRow_93 : decode cX1_putRow 93 = .ok (.iadd, 1) := by decide +kernel
theorem dX1_putRow_94 : decode cX1_putRow 94 = .ok (.iaload, 1) := by decide +kernel
theorem dX1_putRow_95 : decode cX1_putRow 95 = .ok (.iastore, 1) := by decide +kernel
theorem dX1_putRow_96 : decode cX1_putRow 96 = .ok (.aload_n 0, 1) := by decide +kernel
theorem dX1_putRow_97 : decode cX1_putRow 97 = .ok (.getfield 15, 3) := by decide +kernel
theorem dX1_putRow_100 : decode cX1_putRow 100 = .ok (.iload 8, 2) := by decide +kernel
theorem dX1_putRow_102 : decode cX1_putRow 102 = .ok (.iconst 3, 1) := by decide +kernel
theorem dX1_putRow_103 : decode cX1_putRow 103 = .ok (.iadd, 1) := by decide +kernel
theorem dX1_putRow_104 : decode cX1_putRow 104 = .ok (.iload_n 3, 1) := by decide +kernel
theorem dX1_putRow_105 : decode cX1_putRow 105 = .ok (.iastore, 1) := by decide +kernel
theorem dX1_putRow_106 : decode cX1_putRow 106 = .ok (.aload_n 0, 1) := by decide +kernel
theorem dX1_putRow_107 : decode cX1_putRow 107 = .ok (.getfield 15, 3) := by decide +kernel
theorem dX1_putRow_110 : decode cX1_putRow 110 = .ok (.iload 8, 2) := by decide +kernel
theorem dX1_putRow_112 : decode cX1_putRow 112 = .ok (.iconst 4, 1) := by decide +kernel
theorem dX1_putRow_113 : decode cX1_putRow 113 = .ok (.iadd, 1) := by decide +kernel
theorem dX1_putRow_114 : decode cX1_putRow 114 = .ok (.iload 6, 2) := by decide +kernel
theorem dX1_putRow_116 : decode cX1_putRow 116 = .ok (.iastore, 1) := by decide +kernel
theorem dX1_putRow_117 : decode cX1_putRow 117 = .ok (.aload_n 0, 1) := by decide +kernel
theorem dX1_putRow_118 : decode cX1_putRow 118 = .ok (.getfield 15, 3) := by decide +kernel
theorem dX1_putRow_121 : decode cX1_putRow 121 = .ok (.iload 8, 2) := by decide +kernel
theorem dX1_putRow_123 : decode cX1_putRow 123 = .ok (.iconst 5, 1) := by decide +kernel
theorem dX1_putRow_124 : decode cX1_putRow 124 = .ok (.iadd, 1) := by decide +kernel
theorem dX1_putRow_125 : decode cX1_putRow 125 = .ok (.iload 7, 2) := by decide +kernel
theorem dX1_putRow_127 : decode cX1_putRow 127 = .ok (.iastore, 1) := by decide +kernel
theorem dX1_putRow_128 : decode cX1_putRow 128 = .ok (.aload_n 0, 1) := by decide +kernel
theorem dX1_putRow_129 : decode cX1_putRow 129 = .ok (.getfield 18, 3) := by decide +kernel
theorem dX1_putRow_132 : decode cX1_putRow 132 = .ok (.aload_n 0, 1) := by decide +kernel
theorem dX1_putRow_133 : decode cX1_putRow 133 = .ok (.getfield 41, 3) := by decide +kernel
theorem dX1_putRow_136 : decode cX1_putRow 136 = .ok (.lload 4, 2) := by decide +kernel
theorem dX1_putRow_138 : decode cX1_putRow 138 = .ok (.lastore, 1) := by decide +kernel
theorem dX1_putRow_139 : decode cX1_putRow 139 = .ok (.aload_n 0, 1) := by decide +kernel
theorem dX1_putRow_140 : decode cX1_putRow 140 = .ok (.dup, 1) := by decide +kernel
theorem dX1_putRow_141 : decode cX1_putRow 141 = .ok (.getfield 41, 3) := by decide +kernel
theorem dX1_putRow_144 : decode cX1_putRow 144 = .ok (.iconst 1, 1) := by decide +kernel
theorem dX1_putRow_145 : decode cX1_putRow 145 = .ok (.iadd, 1) := by decide +kernel
theorem dX1_putRow_146 : decode cX1_putRow 146 = .ok (.putfield 41, 3) := by decide +kernel
theorem dX1_putRow_149 : decode cX1_putRow 149 = .ok (.return_, 1) := by decide +kernel
def m_X1_putRow_93  (Q : Hp → Prop) (v0 : Nat) (v3 : Int32) (v4 : Int64) (v6 : Int32) (v7 : Int32) (v8 : Int32) (s0 : Nat) (s1 : Int32) (s2 : Nat) (s3 : Int32) (s4 : Int32) (h : Hp) : Prop := vp_in (s3 + s4) 96 ∧ (vp_in s1 216 ∧ (vp_in (v8 + 3) 216 ∧ (vp_in (v8 + 4) 216 ∧ (vp_in (v8 + 5) 216 ∧ (vp_in (hI (wI (wI (wI (wI h s0 (ix s1) (hI h s2 (ix (s3 + s4)))) (v0 + 2) (ix (v8 + 3)) v3) (v0 + 2) (ix (v8 + 4)) v6) (v0 + 2) (ix (v8 + 5)) v7) v0 6) 36 ∧ (Q (wI (wJ (wI (wI (wI (wI h s0 (ix s1) (hI h s2 (ix (s3 + s4)))) (v0 + 2) (ix (v8 + 3)) v3) (v0 + 2) (ix (v8 + 4)) v6) (v0 + 2) (ix (v8 + 5)) v7) (v0 + 3) (ix (hI (wI (wI (wI (wI h s0 (ix s1) (hI h s2 (ix (s3 + s4)))) (v0 + 2) (ix (v8 + 3)) v3) (v0 + 2) (ix (v8 + 4)) v6) (v0 + 2) (ix (v8 + 5)) v7) v0 6)) v4) v0 6 ((hI (wJ (wI (wI (wI (wI h s0 (ix s1) (hI h s2 (ix (s3 + s4)))) (v0 + 2) (ix (v8 + 3)) v3) (v0 + 2) (ix (v8 + 4)) v6) (v0 + 2) (ix (v8 + 5)) v7) (v0 + 3) (ix (hI (wI (wI (wI (wI h s0 (ix s1) (hI h s2 (ix (s3 + s4)))) (v0 + 2) (ix (v8 + 3)) v3) (v0 + 2) (ix (v8 + 4)) v6) (v0 + 2) (ix (v8 + 5)) v7) v0 6)) v4) v0 6) + 1))))))))
set_option maxHeartbeats 4000000 in
set_option maxRecDepth 100000 in
theorem s_X1_putRow_93 {l : Launch} {G : Cx} {d : Nat} {h0 : Hp} (hd : 2 ≤ d) {Q : Hp → Prop} {v0 : Nat} {v3 : Int32} {v4 : Int64} {v6 : Int32} {v7 : Int32} {v8 : Int32} {s0 : Nat} {s1 : Int32} {s2 : Nat} {s3 : Int32} {s4 : Int32} {h : Hp} (hm : m_X1_putRow_93 Q v0 v3 v4 v6 v7 v8 s0 s1 s2 s3 s4 h) : Rn l G d 0 0 MX1_putRow h0 (qV Q) 93 [some (tR 1 0 (some v0)), none, none, some (tI v3), some (tJ v4), none, some (tI v6), some (tI v7), some (tI v8)] [tI s4, tI s3, tR 40 96 (some s2), tI s1, tR 40 216 (some s0)] h 0 0 := by
  unfold m_X1_putRow_93 at hm
  refine r_iadd dX1_putRow_93 ?_
  refine r_iald dX1_putRow_94 hm.1 ?_
  replace hm := hm.2
  refine r_iast dX1_putRow_95 hm.1 ?_
  replace hm := hm.2
  refine r_aload_n dX1_putRow_96 rfl rfl ?_
  refine r_getC (k := 10) cl_1 dX1_putRow_97 t_471 gf_1_10.1 gf_1_10.2 (gc_1_10 _) ?_
  refine r_iload dX1_putRow_100 rfl ?_
  refine r_iconst (v := 3) dX1_putRow_102 rfl ?_
  refine r_iadd dX1_putRow_103 ?_
  refine r_iload_n dX1_putRow_104 rfl rfl ?_
  refine r_iast dX1_putRow_105 hm.1 ?_
  replace hm := hm.2
  refine r_aload_n dX1_putRow_106 rfl rfl ?_
  refine r_getC (k := 10) cl_1 dX1_putRow_107 t_471 gf_1_10.1 gf_1_10.2 (gc_1_10 _) ?_
  refine r_iload dX1_putRow_110 rfl ?_
  refine r_iconst (v := 4) dX1_putRow_112 rfl ?_
  refine r_iadd dX1_putRow_113 ?_
  refine r_iload dX1_putRow_114 rfl ?_
  refine r_iast dX1_putRow_116 hm.1 ?_
  replace hm := hm.2
  refine r_aload_n dX1_putRow_117 rfl rfl ?_
  refine r_getC (k := 10) cl_1 dX1_putRow_118 t_471 gf_1_10.1 gf_1_10.2 (gc_1_10 _) ?_
  refine r_iload dX1_putRow_121 rfl ?_
  refine r_iconst (v := 5) dX1_putRow_123 rfl ?_
  refine r_iadd dX1_putRow_124 ?_
  refine r_iload dX1_putRow_125 rfl ?_
  refine r_iast dX1_putRow_127 hm.1 ?_
  replace hm := hm.2
  refine r_aload_n dX1_putRow_128 rfl rfl ?_
  refine r_getC (k := 11) cl_1 dX1_putRow_129 t_475 gf_1_11.1 gf_1_11.2 (gc_1_11 _) ?_
  refine r_aload_n dX1_putRow_132 rfl rfl ?_
  refine r_getI (k := 6) cl_1 dX1_putRow_133 t_460 (Or.inl rfl) gf_1_6 ?_
  refine r_lload dX1_putRow_136 rfl ?_
  refine r_last dX1_putRow_138 hm.1 ?_
  replace hm := hm.2
  refine r_aload_n dX1_putRow_139 rfl rfl ?_
  refine r_dup dX1_putRow_140 cv_cat1R ?_
  refine r_getI (k := 6) cl_1 dX1_putRow_141 t_460 (Or.inl rfl) gf_1_6 ?_
  refine r_iconst (v := 1) dX1_putRow_144 rfl ?_
  refine r_iadd dX1_putRow_145 ?_
  refine r_putI0 (k := 6) cl_1 dX1_putRow_146 t_460 (Or.inl rfl) gf_1_6 pf_1_6.1 (Or.inl pf_1_6.2) ?_
  exact r_return dX1_putRow_149 rfl ⟨by decide, by decide⟩ ⟨rfl, hm⟩
def m_X1_putRow_68  (Q : Hp → Prop) (v0 : Nat) (v1 : Int32) (v2 : Int32) (v3 : Int32) (v4 : Int64) (v6 : Int32) (v7 : Int32) (v8 : Int32) (s0 : Nat) (s1 : Int32) (s2 : Nat) (s3 : Int32) (s4 : Int32) (h : Hp) : Prop := vp_in (s3 + s4) 96 ∧ (vp_in s1 216 ∧ ((v2 = 0 → m_X1_putRow_93 Q v0 v3 v4 v6 v7 v8 (v0 + 2) (v8 + 2) (v0 + 1) v1 2 (wI h s0 (ix s1) (hI h s2 (ix (s3 + s4))))) ∧ (¬ v2 = 0 → m_X1_putRow_93 Q v0 v3 v4 v6 v7 v8 (v0 + 2) (v8 + 2) (v0 + 1) v1 1 (wI h s0 (ix s1) (hI h s2 (ix (s3 + s4)))))))
set_option maxHeartbeats 4000000 in
set_option maxRecDepth 100000 in
theorem s_X1_putRow_68 {l : Launch} {G : Cx} {d : Nat} {h0 : Hp} (hd : 2 ≤ d) {Q : Hp → Prop} {v0 : Nat} {v1 : Int32} {v2 : Int32} {v3 : Int32} {v4 : Int64} {v6 : Int32} {v7 : Int32} {v8 : Int32} {s0 : Nat} {s1 : Int32} {s2 : Nat} {s3 : Int32} {s4 : Int32} {h : Hp} (hm : m_X1_putRow_68 Q v0 v1 v2 v3 v4 v6 v7 v8 s0 s1 s2 s3 s4 h) : Rn l G d 0 0 MX1_putRow h0 (qV Q) 68 [some (tR 1 0 (some v0)), some (tI v1), some (tI v2), some (tI v3), some (tJ v4), none, some (tI v6), some (tI v7), some (tI v8)] [tI s4, tI s3, tR 40 96 (some s2), tI s1, tR 40 216 (some s0)] h 0 0 := by
  unfold m_X1_putRow_68 at hm
  refine r_iadd dX1_putRow_68 ?_
  refine r_iald dX1_putRow_69 hm.1 ?_
  replace hm := hm.2
  refine r_iast dX1_putRow_70 hm.1 ?_
  replace hm := hm.2
  refine r_aload_n dX1_putRow_71 rfl rfl ?_
  refine r_getC (k := 10) cl_1 dX1_putRow_72 t_471 gf_1_10.1 gf_1_10.2 (gc_1_10 _) ?_
  refine r_iload dX1_putRow_75 rfl ?_
  refine r_iconst (v := 2) dX1_putRow_77 rfl ?_
  refine r_iadd dX1_putRow_78 ?_
  refine r_aload_n dX1_putRow_79 rfl rfl ?_
  refine r_getC (k := 9) cl_1 dX1_putRow_80 t_468 gf_1_9.1 gf_1_9.2 (gc_1_9 _) ?_
  refine r_iload_n dX1_putRow_83 rfl rfl ?_
  refine r_iload_n dX1_putRow_84 rfl rfl ?_
  refine r_if_eq (tgt := 92) dX1_putRow_85 rfl (fun hc => ?_) (fun hc => ?_)
  · replace hm := hm.1 hc
    refine r_iconst (v := 2) dX1_putRow_92 rfl ?_
    refine r_keep (L' := [some (tR 1 0 (some v0)), none, none, some (tI v3), some (tJ v4), none, some (tI v6), some (tI v7), some (tI v8)]) [true, false, false, true, true, false, true, true, true] rfl ?_
    exact s_X1_putRow_93 hd hm
  · replace hm := hm.2 hc
    refine r_iconst (v := 1) dX1_putRow_88 rfl ?_
    refine r_goto (tgt := 93) dX1_putRow_89 rfl ?_
    refine r_keep (L' := [some (tR 1 0 (some v0)), none, none, some (tI v3), some (tJ v4), none, some (tI v6), some (tI v7), some (tI v8)]) [true, false, false, true, true, false, true, true, true] rfl ?_
    exact s_X1_putRow_93 hd hm
def m_X1_putRow_43  (Q : Hp → Prop) (v0 : Nat) (v1 : Int32) (v2 : Int32) (v3 : Int32) (v4 : Int64) (v6 : Int32) (v7 : Int32) (v8 : Int32) (s0 : Nat) (s1 : Int32) (s2 : Nat) (s3 : Int32) (s4 : Int32) (h : Hp) : Prop := vp_in (s3 + s4) 96 ∧ (vp_in s1 216 ∧ ((v2 = 0 → m_X1_putRow_68 Q v0 v1 v2 v3 v4 v6 v7 v8 (v0 + 2) (v8 + 1) (v0 + 1) v1 1 (wI h s0 (ix s1) (hI h s2 (ix (s3 + s4))))) ∧ (¬ v2 = 0 → m_X1_putRow_68 Q v0 v1 v2 v3 v4 v6 v7 v8 (v0 + 2) (v8 + 1) (v0 + 1) v1 2 (wI h s0 (ix s1) (hI h s2 (ix (s3 + s4)))))))
set_option maxHeartbeats 4000000 in
set_option maxRecDepth 100000 in
theorem s_X1_putRow_43 {l : Launch} {G : Cx} {d : Nat} {h0 : Hp} (hd : 2 ≤ d) {Q : Hp → Prop} {v0 : Nat} {v1 : Int32} {v2 : Int32} {v3 : Int32} {v4 : Int64} {v6 : Int32} {v7 : Int32} {v8 : Int32} {s0 : Nat} {s1 : Int32} {s2 : Nat} {s3 : Int32} {s4 : Int32} {h : Hp} (hm : m_X1_putRow_43 Q v0 v1 v2 v3 v4 v6 v7 v8 s0 s1 s2 s3 s4 h) : Rn l G d 0 0 MX1_putRow h0 (qV Q) 43 [some (tR 1 0 (some v0)), some (tI v1), some (tI v2), some (tI v3), some (tJ v4), none, some (tI v6), some (tI v7), some (tI v8)] [tI s4, tI s3, tR 40 96 (some s2), tI s1, tR 40 216 (some s0)] h 0 0 := by
  unfold m_X1_putRow_43 at hm
  refine r_iadd dX1_putRow_43 ?_
  refine r_iald dX1_putRow_44 hm.1 ?_
  replace hm := hm.2
  refine r_iast dX1_putRow_45 hm.1 ?_
  replace hm := hm.2
  refine r_aload_n dX1_putRow_46 rfl rfl ?_
  refine r_getC (k := 10) cl_1 dX1_putRow_47 t_471 gf_1_10.1 gf_1_10.2 (gc_1_10 _) ?_
  refine r_iload dX1_putRow_50 rfl ?_
  refine r_iconst (v := 1) dX1_putRow_52 rfl ?_
  refine r_iadd dX1_putRow_53 ?_
  refine r_aload_n dX1_putRow_54 rfl rfl ?_
  refine r_getC (k := 9) cl_1 dX1_putRow_55 t_468 gf_1_9.1 gf_1_9.2 (gc_1_9 _) ?_
  refine r_iload_n dX1_putRow_58 rfl rfl ?_
  refine r_iload_n dX1_putRow_59 rfl rfl ?_
  refine r_if_eq (tgt := 67) dX1_putRow_60 rfl (fun hc => ?_) (fun hc => ?_)
  · replace hm := hm.1 hc
    refine r_iconst (v := 1) dX1_putRow_67 rfl ?_
    refine r_keep (L' := [some (tR 1 0 (some v0)), some (tI v1), some (tI v2), some (tI v3), some (tJ v4), none, some (tI v6), some (tI v7), some (tI v8)]) [true, true, true, true, true, false, true, true, true] rfl ?_
    exact s_X1_putRow_68 hd hm
  · replace hm := hm.2 hc
    refine r_iconst (v := 2) dX1_putRow_63 rfl ?_
    refine r_goto (tgt := 68) dX1_putRow_64 rfl ?_
    refine r_keep (L' := [some (tR 1 0 (some v0)), some (tI v1), some (tI v2), some (tI v3), some (tJ v4), none, some (tI v6), some (tI v7), some (tI v8)]) [true, true, true, true, true, false, true, true, true] rfl ?_
    exact s_X1_putRow_68 hd hm
def m_X1_putRow (v0 : Nat) (v1 : Int32) (v2 : Int32) (v3 : Int32) (v4 : Int64) (v6 : Int32) (v7 : Int32) (h : Hp) (Q : Hp → Prop) : Prop := ((hI h v0 6) < 36 → ∀ x1 : Int32, x1 = ((hI h v0 6) * 6) → (v2 = 0 → m_X1_putRow_43 Q v0 v1 v2 v3 v4 v6 v7 x1 (v0 + 2) (x1 + 0) (v0 + 1) v1 6 h) ∧ (¬ v2 = 0 → m_X1_putRow_43 Q v0 v1 v2 v3 v4 v6 v7 x1 (v0 + 2) (x1 + 0) (v0 + 1) v1 7 h)) ∧ (¬ (hI h v0 6) < 36 → Q h)
set_option maxHeartbeats 4000000 in
set_option maxRecDepth 100000 in
theorem s_X1_putRow {l : Launch} {G : Cx} {d : Nat} (hd : 2 ≤ d) {v0 : Nat} {v1 : Int32} {v2 : Int32} {v3 : Int32} {v4 : Int64} {v6 : Int32} {v7 : Int32} {h : Hp} {Q : Hp → Prop} (hm : m_X1_putRow v0 v1 v2 v3 v4 v6 v7 h Q) : Ct l G d 0 0 yX1_putRow MX1_putRow [tR 1 0 (some v0), tI v1, tI v2, tI v3, tJ v4, tI v6, tI v7] h (qV Q) := by
  unfold m_X1_putRow at hm
  refine Ct.of (L := [some (tR 1 0 (some v0)), some (tI v1), some (tI v2), some (tI v3), some (tJ v4), none, some (tI v6), some (tI v7)]) (by decide) rfl rfl (Nat.le_of_ble_eq_true rfl) rfl ?_
  refine r_aload_n dX1_putRow_0 rfl rfl ?_
  refine r_getI (k := 6) cl_1 dX1_putRow_1 t_460 (Or.inl rfl) gf_1_6 ?_
  refine r_bipush (v := 36) dX1_putRow_4 rfl ?_
  refine r_icmp_lt (tgt := 10) dX1_putRow_6 rfl (fun hc => ?_) (fun hc => ?_)
  · replace hm := hm.1 hc
    refine r_aload_n dX1_putRow_10 rfl rfl ?_
    refine r_getI (k := 6) cl_1 dX1_putRow_11 t_460 (Or.inl rfl) gf_1_6 ?_
    refine r_bipush (v := 6) dX1_putRow_14 rfl ?_
    refine r_imul dX1_putRow_16 ?_
    refine r_nmI (fun x1 e_x1 => ?_)
    replace hm := hm x1 e_x1
    refine r_istore (L' := [some (tR 1 0 (some v0)), some (tI v1), some (tI v2), some (tI v3), some (tJ v4), none, some (tI v6), some (tI v7), some (tI x1)]) dX1_putRow_17 (by decide) rfl ?_
    refine r_aload_n dX1_putRow_19 rfl rfl ?_
    refine r_getC (k := 10) cl_1 dX1_putRow_20 t_471 gf_1_10.1 gf_1_10.2 (gc_1_10 _) ?_
    refine r_iload dX1_putRow_23 rfl ?_
    refine r_iconst (v := 0) dX1_putRow_25 rfl ?_
    refine r_iadd dX1_putRow_26 ?_
    refine r_aload_n dX1_putRow_27 rfl rfl ?_
    refine r_getC (k := 9) cl_1 dX1_putRow_28 t_468 gf_1_9.1 gf_1_9.2 (gc_1_9 _) ?_
    refine r_iload_n dX1_putRow_31 rfl rfl ?_
    refine r_iload_n dX1_putRow_32 rfl rfl ?_
    refine r_if_eq (tgt := 41) dX1_putRow_33 rfl (fun hc => ?_) (fun hc => ?_)
    · replace hm := hm.1 hc
      refine r_bipush (v := 6) dX1_putRow_41 rfl ?_
      refine r_keep (L' := [some (tR 1 0 (some v0)), some (tI v1), some (tI v2), some (tI v3), some (tJ v4), none, some (tI v6), some (tI v7), some (tI x1)]) [true, true, true, true, true, false, true, true, true] rfl ?_
      exact s_X1_putRow_43 hd hm
    · replace hm := hm.2 hc
      refine r_bipush (v := 7) dX1_putRow_36 rfl ?_
      refine r_goto (tgt := 43) dX1_putRow_38 rfl ?_
      refine r_keep (L' := [some (tR 1 0 (some v0)), some (tI v1), some (tI v2), some (tI v3), some (tJ v4), none, some (tI v6), some (tI v7), some (tI x1)]) [true, true, true, true, true, false, true, true, true] rfl ?_
      exact s_X1_putRow_43 hd hm
  · replace hm := hm.2 hc
    exact r_return dX1_putRow_9 rfl ⟨by decide, by decide⟩ ⟨rfl, hm⟩
theorem dX1_putRows_0 : decode cX1_putRows 0 = .ok (.aload_n 0, 1) := by decide +kernel
theorem dX1_putRows_1 : decode cX1_putRows 1 = .ok (.getfield 29, 3) := by decide +kernel
theorem dX1_putRows_4 : decode cX1_putRows 4 = .ok (.iconst 1, 1) := by decide +kernel
theorem dX1_putRows_5 : decode cX1_putRows 5 = .ok (.isub, 1) := by decide +kernel
theorem dX1_putRows_6 : decode cX1_putRows 6 = .ok (.bipush 8, 2) := by decide +kernel
theorem dX1_putRows_8 : decode cX1_putRows 8 = .ok (.imul, 1) := by decide +kernel
theorem dX1_putRows_9 : decode cX1_putRows 9 = .ok (.istore 4, 2) := by decide +kernel
theorem dX1_putRows_11 : decode cX1_putRows 11 = .ok (.iload 4, 2) := by decide +kernel
theorem dX1_putRows_13 : decode cX1_putRows 13 = .ok (.ifCond .lt 7, 3) := by decide +kernel
theorem dX1_putRows_16 : decode cX1_putRows 16 = .ok (.iload_n 1, 1) := by decide +kernel
theorem dX1_putRows_17 : decode cX1_putRows 17 = .ok (.ifCond .ne 4, 3) := by decide +kernel
theorem dX1_putRows_20 : decode cX1_putRows 20 = .ok (.return_, 1) := by decide +kernel
theorem dX1_putRows_21 : decode cX1_putRows 21 = .ok (.aload_n 0, 1) := by decide +kernel
theorem dX1_putRows_22 : decode cX1_putRows 22 = .ok (.getfield 9, 3) := by decide +kernel
theorem dX1_putRows_25 : decode cX1_putRows 25 = .ok (.iload 4, 2) := by decide +kernel
theorem dX1_putRows_27 : decode cX1_putRows 27 = .ok (.iconst 0, 1) := by decide +kernel
theorem dX1_putRows_28 : decode cX1_putRows 28 = .ok (.iadd, 1) := by decide +kernel
theorem dX1_putRows_29 : decode cX1_putRows 29 = .ok (.iaload, 1) := by decide +kernel
theorem dX1_putRows_30 : decode cX1_putRows 30 = .ok (.istore 5, 2) := by decide +kernel
theorem dX1_putRows_32 : decode cX1_putRows 32 = .ok (.aload_n 0, 1) := by decide +kernel
theorem dX1_putRows_33 : decode cX1_putRows 33 = .ok (.getfield 9, 3) := by decide +kernel
theorem dX1_putRows_36 : decode cX1_putRows 36 = .ok (.iload 4, 2) := by decide +kernel
theorem dX1_putRows_38 : decode cX1_putRows 38 = .ok (.iconst 3, 1) := by decide +kernel
theorem dX1_putRows_39 : decode cX1_putRows 39 = .ok (.iadd, 1) := by decide +kernel
theorem dX1_putRows_40 : decode cX1_putRows 40 = .ok (.iaload, 1) := by decide +kernel
theorem dX1_putRows_41 : decode cX1_putRows 41 = .ok (.istore 6, 2) := by decide +kernel
theorem dX1_putRows_43 : decode cX1_putRows 43 = .ok (.aload_n 0, 1) := by decide +kernel
theorem dX1_putRows_44 : decode cX1_putRows 44 = .ok (.getfield 9, 3) := by decide +kernel
theorem dX1_putRows_47 : decode cX1_putRows 47 = .ok (.iload 4, 2) := by decide +kernel
theorem dX1_putRows_49 : decode cX1_putRows 49 = .ok (.iconst 4, 1) := by decide +kernel
theorem dX1_putRows_50 : decode cX1_putRows 50 = .ok (.iadd, 1) := by decide +kernel
theorem dX1_putRows_51 : decode cX1_putRows 51 = .ok (.iaload, 1) := by decide +kernel
theorem dX1_putRows_52 : decode cX1_putRows 52 = .ok (.i2l, 1) := by decide +kernel
theorem dX1_putRows_53 : decode cX1_putRows 53 = .ok (.iload_n 1, 1) := by decide +kernel
theorem dX1_putRows_54 : decode cX1_putRows 54 = .ok (.i2l, 1) := by decide +kernel
theorem dX1_putRows_55 : decode cX1_putRows 55 = .ok (.lmul, 1) := by decide +kernel
theorem dX1_putRows_56 : decode cX1_putRows 56 = .ok (.lstore 7, 2) := by decide +kernel
theorem dX1_putRows_58 : decode cX1_putRows 58 = .ok (.aload_n 0, 1) := by decide +kernel
theorem dX1_putRows_59 : decode cX1_putRows 59 = .ok (.iload 4, 2) := by decide +kernel
theorem dX1_putRows_61 : decode cX1_putRows 61 = .ok (.iconst 0, 1) := by decide +kernel
theorem dX1_putRows_62 : decode cX1_putRows 62 = .ok (.iload 6, 2) := by decide +kernel
theorem dX1_putRows_64 : decode cX1_putRows 64 = .ok (.lload 7, 2) := by decide +kernel
theorem dX1_putRows_66 : decode cX1_putRows 66 = .ok (.iload_n 2, 1) := by decide +kernel
theorem dX1_putRows_67 : decode cX1_putRows 67 = .ok (.iload_n 3, 1) := by decide +kernel
theorem dX1_putRows_68 : decode cX1_putRows 68 = .ok (.invokevirtual 50, 3) := by decide +kernel
theorem dX1_putRows_71 : decode cX1_putRows 71 = .ok (.iload 5, 2) := by decide +kernel
theorem dX1_putRows_73 : decode cX1_putRows 73 = .ok (.iconst 3, 1) := by decide +kernel
theorem dX1_putRows_74 : decode cX1_putRows 74 = .ok (.if_icmp .ne 16, 3) := by decide +kernel
theorem dX1_putRows_77 : decode cX1_putRows 77 = .ok (.aload_n 0, 1) := by decide +kernel
theorem dX1_putRows_78 : decode cX1_putRows 78 = .ok (.iload 4, 2) := by decide +kernel
theorem dX1_putRows_80 : decode cX1_putRows 80 = .ok (.iconst 1, 1) := by decide +kernel
theorem dX1_putRows_81 : decode cX1_putRows 81 = .ok (.iload 6, 2) := by decide +kernel
theorem dX1_putRows_83 : decode cX1_putRows 83 = .ok (.lload 7, 2) := by decide +kernel
theorem dX1_putRows_85 : decode cX1_putRows 85 = .ok (.iload_n 2, 1) := by decide +kernel
theorem dX1_putRows_86 : decode cX1_putRows 86 = .ok (.iload_n 3, 1) := by decide +kernel
theorem dX1_putRows_87 : decode cX1_putRows 87 = .ok (.invokevirtual 50, 3) := by decide +kernel
theorem dX1_putRows_90 : decode cX1_putRows 90 = .ok (.iload 5, 2) := by decide +kernel
theorem dX1_putRows_92 : decode cX1_putRows 92 = .ok (.iconst 2, 1) := by decide +kernel
theorem dX1_putRows_93 : decode cX1_putRows 93 = .ok (.if_icmp .eq 9, 3) := by decide +kernel
theorem dX1_putRows_96 : decode cX1_putRows 96 = .ok (.iload 5, 2) := by decide +kernel
theorem dX1_putRows_98 : decode cX1_putRows 98 = .ok (.iconst 3, 1) := by decide +kernel
theorem dX1_putRows_99 : decode cX1_putRows 99 = .ok (.if_icmp .ne 26, 3) := by decide +kernel
theorem dX1_putRows_102 : decode cX1_putRows 102 = .ok (.aload_n 0, 1) := by decide +kernel
theorem dX1_putRows_103 : decode cX1_putRows 103 = .ok (.iload 4, 2) := by decide +kernel
theorem dX1_putRows_105 : decode cX1_putRows 105 = .ok (.iconst 1, 1) := by decide +kernel
theorem dX1_putRows_106 : decode cX1_putRows 106 = .ok (.iconst 0, 1) := by decide +kernel
theorem dX1_putRows_107 : decode cX1_putRows 107 = .ok (.aload_n 0, 1) := by decide +kernel
theorem dX1_putRows_108 : decode cX1_putRows 108 = .ok (.getfield 9, 3) := by decide +kernel
theorem dX1_putRows_111 : decode cX1_putRows 111 = .ok (.iload 4, 2) := by decide +kernel
theorem dX1_putRows_113 : decode cX1_putRows 113 = .ok (.iconst 5, 1) := by decide +kernel
theorem dX1_putRows_114 : decode cX1_putRows 114 = .ok (.iadd, 1) := by decide +kernel
theorem dX1_putRows_115 : decode cX1_putRows 115 = .ok (.iaload, 1) := by decide +kernel
theorem dX1_putRows_116 : decode cX1_putRows 116 = .ok (.i2l, 1) := by decide +kernel
theorem dX1_putRows_117 : decode cX1_putRows 117 = .ok (.iload_n 1, 1) := by decide +kernel
theorem dX1_putRows_118 : decode cX1_putRows 118 = .ok (.i2l, 1) := by decide +kernel
theorem dX1_putRows_119 : decode cX1_putRows 119 = .ok (.lmul, 1) := by decide +kernel
theorem dX1_putRows_120 : decode cX1_putRows 120 = .ok (.iload_n 2, 1) := by decide +kernel
theorem dX1_putRows_121 : decode cX1_putRows 121 = .ok (.iload_n 3, 1) := by decide +kernel
theorem dX1_putRows_122 : decode cX1_putRows 122 = .ok (.invokevirtual 50, 3) := by decide +kernel
theorem dX1_putRows_125 : decode cX1_putRows 125 = .ok (.return_, 1) := by decide +kernel
def m_X1_putRows_102  (Q : Hp → Prop) (v0 : Nat) (v1 : Int32) (v2 : Int32) (v3 : Int32) (v4 : Int32) (h : Hp) : Prop := vp_in (v4 + 5) 96 ∧ (m_X1_putRow v0 v4 1 0 (((hI h (v0 + 1) (ix (v4 + 5))).toInt64) * v1.toInt64) v2 v3 h (fun (h2 : Hp) => Q h2))
set_option maxHeartbeats 4000000 in
set_option maxRecDepth 100000 in
theorem s_X1_putRows_102 {l : Launch} {G : Cx} {d : Nat} {h0 : Hp} (hd : 4 ≤ d) {Q : Hp → Prop} {v0 : Nat} {v1 : Int32} {v2 : Int32} {v3 : Int32} {v4 : Int32} {h : Hp} (hm : m_X1_putRows_102 Q v0 v1 v2 v3 v4 h) : Rn l G d 0 0 MX1_putRows h0 (qV Q) 102 [some (tR 1 0 (some v0)), some (tI v1), some (tI v2), some (tI v3), some (tI v4)] [] h 0 0 := by
  unfold m_X1_putRows_102 at hm
  refine r_aload_n dX1_putRows_102 rfl rfl ?_
  refine r_iload dX1_putRows_103 rfl ?_
  refine r_iconst (v := 1) dX1_putRows_105 rfl ?_
  refine r_iconst (v := 0) dX1_putRows_106 rfl ?_
  refine r_aload_n dX1_putRows_107 rfl rfl ?_
  refine r_getC (k := 9) cl_1 dX1_putRows_108 t_468 gf_1_9.1 gf_1_9.2 (gc_1_9 _) ?_
  refine r_iload dX1_putRows_111 rfl ?_
  refine r_iconst (v := 5) dX1_putRows_113 rfl ?_
  refine r_iadd dX1_putRows_114 ?_
  refine r_iald dX1_putRows_115 hm.1 ?_
  replace hm := hm.2
  refine r_i2l dX1_putRows_116 ?_
  refine r_iload_n dX1_putRows_117 rfl rfl ?_
  refine r_i2l dX1_putRows_118 ?_
  refine r_lmul dX1_putRows_119 ?_
  refine r_iload_n dX1_putRows_120 rfl rfl ?_
  refine r_iload_n dX1_putRows_121 rfl rfl ?_
  refine r_callVU (d' := d - 1) (as := [tI v4, tI 1, tI 0, tJ (((hI h (v0 + 1) (ix (v4 + 5))).toInt64) * v1.toInt64), tI v2, tI v3]) (st := []) cl_1 dX1_putRows_122 mi_X1_putRow t_662 t_664 ts_9 rfl rfl (Nat.le_of_ble_eq_true rfl) (by omega) ⟨by decide, by decide⟩ ⟨rfl, rfl⟩ (s_X1_putRow (by omega) hm) (fun h2 hm => ?_)
  exact r_return dX1_putRows_125 rfl ⟨by decide, by decide⟩ ⟨rfl, hm⟩
def m_X1_putRows_90  (Q : Hp → Prop) (v0 : Nat) (v1 : Int32) (v2 : Int32) (v3 : Int32) (v4 : Int32) (v5 : Int32) (h : Hp) : Prop := (v5 = 2 → m_X1_putRows_102 Q v0 v1 v2 v3 v4 h) ∧ (¬ v5 = 2 → (¬ v5 = 3 → Q h) ∧ (v5 = 3 → m_X1_putRows_102 Q v0 v1 v2 v3 v4 h))
set_option maxHeartbeats 4000000 in
set_option maxRecDepth 100000 in
theorem s_X1_putRows_90 {l : Launch} {G : Cx} {d : Nat} {h0 : Hp} (hd : 4 ≤ d) {Q : Hp → Prop} {v0 : Nat} {v1 : Int32} {v2 : Int32} {v3 : Int32} {v4 : Int32} {v5 : Int32} {h : Hp} (hm : m_X1_putRows_90 Q v0 v1 v2 v3 v4 v5 h) : Rn l G d 0 0 MX1_putRows h0 (qV Q) 90 [some (tR 1 0 (some v0)), some (tI v1), some (tI v2), some (tI v3), some (tI v4), some (tI v5)] [] h 0 0 := by
  unfold m_X1_putRows_90 at hm
  refine r_iload dX1_putRows_90 rfl ?_
  refine r_iconst (v := 2) dX1_putRows_92 rfl ?_
  refine r_icmp_eq (tgt := 102) dX1_putRows_93 rfl (fun hc => ?_) (fun hc => ?_)
  · replace hm := hm.1 hc
    refine r_keep (L' := [some (tR 1 0 (some v0)), some (tI v1), some (tI v2), some (tI v3), some (tI v4)]) [true, true, true, true, true] rfl ?_
    exact s_X1_putRows_102 hd hm
  · replace hm := hm.2 hc
    refine r_iload dX1_putRows_96 rfl ?_
    refine r_iconst (v := 3) dX1_putRows_98 rfl ?_
    refine r_icmp_ne (tgt := 125) dX1_putRows_99 rfl (fun hc => ?_) (fun hc => ?_)
    · replace hm := hm.1 hc
      exact r_return dX1_putRows_125 rfl ⟨by decide, by decide⟩ ⟨rfl, hm⟩
    · replace hm := hm.2 hc
      refine r_keep (L' := [some (tR 1 0 (some v0)), some (tI v1), some (tI v2), some (tI v3), some (tI v4)]) [true, true, true, true, true] rfl ?_
      exact s_X1_putRows_102 hd hm
def m_X1_putRows (v0 : Nat) (v1 : Int32) (v2 : Int32) (v3 : Int32) (h : Hp) (Q : Hp → Prop) : Prop := ∀ x3 : Int32, x3 = (((hI h v0 2) - 1) * 8) → (x3 < 0 → Q h) ∧ (¬ x3 < 0 → (¬ v1 = 0 → vp_in (x3 + 0) 96 ∧ (∀ x4 : Int32, x4 = (hI h (v0 + 1) (ix (x3 + 0))) → vp_in (x3 + 3) 96 ∧ (∀ x5 : Int32, x5 = (hI h (v0 + 1) (ix (x3 + 3))) → vp_in (x3 + 4) 96 ∧ (∀ x6 : Int64, x6 = (((hI h (v0 + 1) (ix (x3 + 4))).toInt64) * v1.toInt64) → m_X1_putRow v0 x3 0 x5 x6 v2 v3 h (fun (h8 : Hp) => (¬ x4 = 3 → m_X1_putRows_90 Q v0 v1 v2 v3 x3 x4 h8) ∧ (x4 = 3 → m_X1_putRow v0 x3 1 x5 x6 v2 v3 h8 (fun (h10 : Hp) => m_X1_putRows_90 Q v0 v1 v2 v3 x3 x4 h10))))))) ∧ (v1 = 0 → Q h))
set_option maxHeartbeats 4000000 in
set_option maxRecDepth 100000 in
theorem s_X1_putRows {l : Launch} {G : Cx} {d : Nat} (hd : 4 ≤ d) {v0 : Nat} {v1 : Int32} {v2 : Int32} {v3 : Int32} {h : Hp} {Q : Hp → Prop} (hm : m_X1_putRows v0 v1 v2 v3 h Q) : Ct l G d 0 0 yX1_putRows MX1_putRows [tR 1 0 (some v0), tI v1, tI v2, tI v3] h (qV Q) := by
  unfold m_X1_putRows at hm
  refine Ct.of (L := [some (tR 1 0 (some v0)), some (tI v1), some (tI v2), some (tI v3)]) (by decide) rfl rfl (Nat.le_of_ble_eq_true rfl) rfl ?_
  refine r_aload_n dX1_putRows_0 rfl rfl ?_
  refine r_getI (k := 2) cl_1 dX1_putRows_1 t_441 (Or.inl rfl) gf_1_2 ?_
  refine r_iconst (v := 1) dX1_putRows_4 rfl ?_
  refine r_isub dX1_putRows_5 ?_
  refine r_bipush (v := 8) dX1_putRows_6 rfl ?_
  refine r_imul dX1_putRows_8 ?_
  refine r_nmI (fun x3 e_x3 => ?_)
  replace hm := hm x3 e_x3
  refine r_istore (L' := [some (tR 1 0 (some v0)), some (tI v1), some (tI v2), some (tI v3), some (tI x3)]) dX1_putRows_9 (by decide) rfl ?_
  refine r_iload dX1_putRows_11 rfl ?_
  refine r_if_lt (tgt := 20) dX1_putRows_13 rfl (fun hc => ?_) (fun hc => ?_)
  · replace hm := hm.1 hc
    exact r_return dX1_putRows_20 rfl ⟨by decide, by decide⟩ ⟨rfl, hm⟩
  · replace hm := hm.2 hc
    refine r_iload_n dX1_putRows_16 rfl rfl ?_
    refine r_if_ne (tgt := 21) dX1_putRows_17 rfl (fun hc => ?_) (fun hc => ?_)
    · replace hm := hm.1 hc
      refine r_aload_n dX1_putRows_21 rfl rfl ?_
      refine r_getC (k := 9) cl_1 dX1_putRows_22 t_468 gf_1_9.1 gf_1_9.2 (gc_1_9 _) ?_
      refine r_iload dX1_putRows_25 rfl ?_
      refine r_iconst (v := 0) dX1_putRows_27 rfl ?_
      refine r_iadd dX1_putRows_28 ?_
      refine r_iald dX1_putRows_29 hm.1 ?_
      replace hm := hm.2
      refine r_nmI (fun x4 e_x4 => ?_)
      replace hm := hm x4 e_x4
      refine r_istore (L' := [some (tR 1 0 (some v0)), some (tI v1), some (tI v2), some (tI v3), some (tI x3), some (tI x4)]) dX1_putRows_30 (by decide) rfl ?_
      refine r_aload_n dX1_putRows_32 rfl rfl ?_
      refine r_getC (k := 9) cl_1 dX1_putRows_33 t_468 gf_1_9.1 gf_1_9.2 (gc_1_9 _) ?_
      refine r_iload dX1_putRows_36 rfl ?_
      refine r_iconst (v := 3) dX1_putRows_38 rfl ?_
      refine r_iadd dX1_putRows_39 ?_
      refine r_iald dX1_putRows_40 hm.1 ?_
      replace hm := hm.2
      refine r_nmI (fun x5 e_x5 => ?_)
      replace hm := hm x5 e_x5
      refine r_istore (L' := [some (tR 1 0 (some v0)), some (tI v1), some (tI v2), some (tI v3), some (tI x3), some (tI x4), some (tI x5)]) dX1_putRows_41 (by decide) rfl ?_
      refine r_aload_n dX1_putRows_43 rfl rfl ?_
      refine r_getC (k := 9) cl_1 dX1_putRows_44 t_468 gf_1_9.1 gf_1_9.2 (gc_1_9 _) ?_
      refine r_iload dX1_putRows_47 rfl ?_
      refine r_iconst (v := 4) dX1_putRows_49 rfl ?_
      refine r_iadd dX1_putRows_50 ?_
      refine r_iald dX1_putRows_51 hm.1 ?_
      replace hm := hm.2
      refine r_i2l dX1_putRows_52 ?_
      refine r_iload_n dX1_putRows_53 rfl rfl ?_
      refine r_i2l dX1_putRows_54 ?_
      refine r_lmul dX1_putRows_55 ?_
      refine r_nmJ (fun x6 e_x6 => ?_)
      replace hm := hm x6 e_x6
      refine r_lstore (L' := [some (tR 1 0 (some v0)), some (tI v1), some (tI v2), some (tI v3), some (tI x3), some (tI x4), some (tI x5), some (tJ x6), none]) dX1_putRows_56 (by decide) rfl ?_
      refine r_aload_n dX1_putRows_58 rfl rfl ?_
      refine r_iload dX1_putRows_59 rfl ?_
      refine r_iconst (v := 0) dX1_putRows_61 rfl ?_
      refine r_iload dX1_putRows_62 rfl ?_
      refine r_lload dX1_putRows_64 rfl ?_
      refine r_iload_n dX1_putRows_66 rfl rfl ?_
      refine r_iload_n dX1_putRows_67 rfl rfl ?_
      refine r_callVU (d' := d - 1) (as := [tI x3, tI 0, tI x5, tJ x6, tI v2, tI v3]) (st := []) cl_1 dX1_putRows_68 mi_X1_putRow t_662 t_664 ts_9 rfl rfl (Nat.le_of_ble_eq_true rfl) (by omega) ⟨by decide, by decide⟩ ⟨rfl, rfl⟩ (s_X1_putRow (by omega) hm) (fun h8 hm => ?_)
      refine r_iload dX1_putRows_71 rfl ?_
      refine r_iconst (v := 3) dX1_putRows_73 rfl ?_
      refine r_icmp_ne (tgt := 90) dX1_putRows_74 rfl (fun hc => ?_) (fun hc => ?_)
      · replace hm := hm.1 hc
        refine r_keep (L' := [some (tR 1 0 (some v0)), some (tI v1), some (tI v2), some (tI v3), some (tI x3), some (tI x4)]) [true, true, true, true, true, true] rfl ?_
        exact s_X1_putRows_90 hd hm
      · replace hm := hm.2 hc
        refine r_aload_n dX1_putRows_77 rfl rfl ?_
        refine r_iload dX1_putRows_78 rfl ?_
        refine r_iconst (v := 1) dX1_putRows_80 rfl ?_
        refine r_iload dX1_putRows_81 rfl ?_
        refine r_lload dX1_putRows_83 rfl ?_
        refine r_iload_n dX1_putRows_85 rfl rfl ?_
        refine r_iload_n dX1_putRows_86 rfl rfl ?_
        refine r_callVU (d' := d - 1) (as := [tI x3, tI 1, tI x5, tJ x6, tI v2, tI v3]) (st := []) cl_1 dX1_putRows_87 mi_X1_putRow t_662 t_664 ts_9 rfl rfl (Nat.le_of_ble_eq_true rfl) (by omega) ⟨by decide, by decide⟩ ⟨rfl, rfl⟩ (s_X1_putRow (by omega) hm) (fun h10 hm => ?_)
        refine r_keep (L' := [some (tR 1 0 (some v0)), some (tI v1), some (tI v2), some (tI v3), some (tI x3), some (tI x4)]) [true, true, true, true, true, true] rfl ?_
        exact s_X1_putRows_90 hd hm
    · replace hm := hm.2 hc
      exact r_return dX1_putRows_20 rfl ⟨by decide, by decide⟩ ⟨rfl, hm⟩
theorem dX1_dayOf_0 : decode cX1_dayOf 0 = .ok (.aload_n 0, 1) := rfl
theorem dX1_dayOf_1 : decode cX1_dayOf 1 = .ok (.getfield 15, 3) := rfl
theorem dX1_dayOf_4 : decode cX1_dayOf 4 = .ok (.iload_n 1, 1) := rfl
theorem dX1_dayOf_5 : decode cX1_dayOf 5 = .ok (.bipush 6, 2) := by decide +kernel
theorem dX1_dayOf_7 : decode cX1_dayOf 7 = .ok (.imul, 1) := rfl
theorem dX1_dayOf_8 : decode cX1_dayOf 8 = .ok (.iconst 0, 1) := rfl
theorem dX1_dayOf_9 : decode cX1_dayOf 9 = .ok (.iadd, 1) := rfl
theorem dX1_dayOf_10 : decode cX1_dayOf 10 = .ok (.iaload, 1) := rfl
theorem dX1_dayOf_11 : decode cX1_dayOf 11 = .ok (.ireturn, 1) := rfl
def m_X1_dayOf (v0 : Nat) (v1 : Int32) (h : Hp) (Q : Int32 → Hp → Prop) : Prop := vp_in ((v1 * 6) + 0) 216 ∧ (Q (hI h (v0 + 2) (ix ((v1 * 6) + 0))) h)
set_option maxHeartbeats 4000000 in
set_option maxRecDepth 100000 in
theorem s_X1_dayOf {l : Launch} {G : Cx} {d : Nat} (hd : 2 ≤ d) {v0 : Nat} {v1 : Int32} {h : Hp} {Q : Int32 → Hp → Prop} (hm : m_X1_dayOf v0 v1 h Q) : Ct l G d 0 0 yX1_dayOf MX1_dayOf [tR 1 0 (some v0), tI v1] h (qI Q) := by
  unfold m_X1_dayOf at hm
  refine Ct.of (L := [some (tR 1 0 (some v0)), some (tI v1)]) (by decide) rfl rfl (Nat.le_of_ble_eq_true rfl) rfl ?_
  refine r_aload_n dX1_dayOf_0 rfl rfl ?_
  refine r_getC (k := 10) cl_1 dX1_dayOf_1 t_471 gf_1_10.1 gf_1_10.2 (gc_1_10 _) ?_
  refine r_iload_n dX1_dayOf_4 rfl rfl ?_
  refine r_bipush (v := 6) dX1_dayOf_5 rfl ?_
  refine r_imul dX1_dayOf_7 ?_
  refine r_iconst (v := 0) dX1_dayOf_8 rfl ?_
  refine r_iadd dX1_dayOf_9 ?_
  refine r_iald dX1_dayOf_10 hm.1 ?_
  replace hm := hm.2
  exact r_ireturn dX1_dayOf_11 rfl ⟨by decide, by decide⟩ ⟨_, rfl, hm⟩
theorem dX1_sortByDay_0 : decode cX1_sortByDay 0 = .ok (.iconst 0, 1) := rfl
theorem dX1_sortByDay_1 : decode cX1_sortByDay 1 = .ok (.istore_n 1, 1) := rfl
theorem dX1_sortByDay_2 : decode cX1_sortByDay 2 = .ok (.iload_n 1, 1) := rfl
theorem dX1_sortByDay_3 : decode cX1_sortByDay 3 = .ok (.aload_n 0, 1) := rfl
theorem dX1_sortByDay_4 : decode cX1_sortByDay 4 = .ok (.getfield 41, 3) := rfl
theorem dX1_sortByDay_7 : decode cX1_sortByDay 7 = .ok (.if_icmp .ge 62, 3) := by decide +kernel
theorem dX1_sortByDay_10 : decode cX1_sortByDay 10 = .ok (.iload_n 1, 1) := rfl
theorem dX1_sortByDay_11 : decode cX1_sortByDay 11 = .ok (.istore_n 2, 1) := rfl
theorem dX1_sortByDay_12 : decode cX1_sortByDay 12 = .ok (.iload_n 2, 1) := rfl
theorem dX1_sortByDay_13 : decode cX1_sortByDay 13 = .ok (.ifCond .le 43, 3) := by decide +kernel
theorem dX1_sortByDay_16 : decode cX1_sortByDay 16 = .ok (.aload_n 0, 1) := rfl
theorem dX1_sortByDay_17 : decode cX1_sortByDay 17 = .ok (.aload_n 0, 1) := rfl
theorem dX1_sortByDay_18 : decode cX1_sortByDay 18 = .ok (.getfield 22, 3) := rfl
theorem dX1_sortByDay_21 : decode cX1_sortByDay 21 = .ok (.iload_n 2, 1) := rfl
theorem dX1_sortByDay_22 : decode cX1_sortByDay 22 = .ok (.iconst 1, 1) := rfl
theorem dX1_sortByDay_23 : decode cX1_sortByDay 23 = .ok (.isub, 1) := rfl
theorem dX1_sortByDay_24 : decode cX1_sortByDay 24 = .ok (.iaload, 1) := rfl
theorem dX1_sortByDay_25 : decode cX1_sortByDay 25 = .ok (.invokevirtual 54, 3) := rfl
theorem dX1_sortByDay_28 : decode cX1_sortByDay 28 = .ok (.aload_n 0, 1) := rfl
theorem dX1_sortByDay_29 : decode cX1_sortByDay 29 = .ok (.iload_n 1, 1) := rfl
theorem dX1_sortByDay_30 : decode cX1_sortByDay 30 = .ok (.invokevirtual 54, 3) := rfl
theorem dX1_sortByDay_33 : decode cX1_sortByDay 33 = .ok (.if_icmp .le 23, 3) := by decide +kernel
theorem dX1_sortByDay_36 : decode cX1_sortByDay 36 = .ok (.aload_n 0, 1) := rfl
theorem dX1_sortByDay_37 : decode cX1_sortByDay 37 = .ok (.getfield 22, 3) := rfl
theorem dX1_sortByDay_40 : decode cX1_sortByDay 40 = .ok (.iload_n 2, 1) := rfl
theorem dX1_sortByDay_41 : decode cX1_sortByDay 41 = .ok (.aload_n 0, 1) := rfl
theorem dX1_sortByDay_42 : decode cX1_sortByDay 42 = .ok (.getfield 22, 3) := rfl
theorem dX1_sortByDay_45 : decode cX1_sortByDay 45 = .ok (.iload_n 2, 1) := rfl
theorem dX1_sortByDay_46 : decode cX1_sortByDay 46 = .ok (.iconst 1, 1) := rfl
theorem dX1_sortByDay_47 : decode cX1_sortByDay 47 = .ok (.isub, 1) := rfl
theorem dX1_sortByDay_48 : decode cX1_sortByDay 48 = .ok (.iaload, 1) := rfl
theorem dX1_sortByDay_49 : decode cX1_sortByDay 49 = .ok (.iastore, 1) := rfl
theorem dX1_sortByDay_50 : decode cX1_sortByDay 50 = .ok (.iinc 2 (-1), 3) := by decide +kernel
theorem dX1_sortByDay_53 : decode cX1_sortByDay 53 = .ok (.goto (-41), 3) := by decide +kernel
theorem dX1_sortByDay_56 : decode cX1_sortByDay 56 = .ok (.aload_n 0, 1) := rfl
theorem dX1_sortByDay_57 : decode cX1_sortByDay 57 = .ok (.getfield 22, 3) := rfl
theorem dX1_sortByDay_60 : decode cX1_sortByDay 60 = .ok (.iload_n 2, 1) := rfl
theorem dX1_sortByDay_61 : decode cX1_sortByDay 61 = .ok (.iload_n 1, 1) := rfl
theorem dX1_sortByDay_62 : decode cX1_sortByDay 62 = .ok (.iastore, 1) := rfl
theorem dX1_sortByDay_63 : decode cX1_sortByDay 63 = .ok (.iinc 1 1, 3) := by decide +kernel
theorem dX1_sortByDay_66 : decode cX1_sortByDay 66 = .ok (.goto (-64), 3) := by decide +kernel
theorem dX1_sortByDay_69 : decode cX1_sortByDay 69 = .ok (.return_, 1) := rfl
def m_X1_sortByDay_56 (k2 : Nat → Int32 → Hp → Prop) (Q : Hp → Prop) (v0 : Nat) (v1 : Int32) (v2 : Int32) (h : Hp) : Prop := vp_in v2 36 ∧ (∀ x1 : Int32, x1 = v1 + 1 → k2 v0 x1 (wI h (v0 + 4) (ix v2) v1))
set_option maxHeartbeats 4000000 in
set_option maxRecDepth 100000 in
theorem s_X1_sortByDay_56 {l : Launch} {G : Cx} {d : Nat} {h0 : Hp} (hd : 4 ≤ d) {k2 : Nat → Int32 → Hp → Prop} {Q : Hp → Prop} (hk2 : ∀ (v0 : Nat) (v1 : Int32) (hh : Hp), k2 v0 v1 hh → Rn l G d 0 0 MX1_sortByDay h0 (qV Q) 2 [some (tR 1 0 (some v0)), some (tI v1)] [] hh 0 0) {v0 : Nat} {v1 : Int32} {v2 : Int32} {h : Hp} (hm : m_X1_sortByDay_56 k2 Q v0 v1 v2 h) : Rn l G d 0 0 MX1_sortByDay h0 (qV Q) 56 [some (tR 1 0 (some v0)), some (tI v1), some (tI v2)] [] h 0 0 := by
  unfold m_X1_sortByDay_56 at hm
  refine r_aload_n dX1_sortByDay_56 rfl rfl ?_
  refine r_getC (k := 12) cl_1 dX1_sortByDay_57 t_479 gf_1_12.1 gf_1_12.2 (gc_1_12 _) ?_
  refine r_iload_n dX1_sortByDay_60 rfl rfl ?_
  refine r_iload_n dX1_sortByDay_61 rfl rfl ?_
  refine r_iast dX1_sortByDay_62 hm.1 ?_
  replace hm := hm.2
  obtain ⟨x1, e_x1⟩ : ∃ y : Int32, y = v1 + 1 := ⟨_, rfl⟩
  replace hm := hm x1 e_x1
  refine r_iinc (L' := [some (tR 1 0 (some v0)), some (tI x1), some (tI v2)]) dX1_sortByDay_63 rfl (by rw [e_x1]; rfl) (by decide) rfl ?_
  refine r_goto (tgt := 2) dX1_sortByDay_66 rfl ?_
  refine r_keep (L' := [some (tR 1 0 (some v0)), some (tI x1)]) [true, true] rfl ?_
  exact hk2 _ _ _ hm
def m_X1_sortByDay_12 : Nat → (Nat → Int32 → Int32 → Hp → Prop) → (Hp → Prop) → Nat → Int32 → Int32 → Hp → Prop
  | 0, _, _, _, _, _, _ => False
  | n + 1, k56, Q, v0, v1, v2, h => (v2 ≤ 0 → k56 v0 v1 v2 h) ∧ (¬ v2 ≤ 0 → vp_in (v2 - 1) 36 ∧ (m_X1_dayOf v0 (hI h (v0 + 4) (ix (v2 - 1))) h (fun (x2 : Int32) (h3 : Hp) => m_X1_dayOf v0 v1 h3 (fun (x4 : Int32) (h5 : Hp) => (x2 ≤ x4 → k56 v0 v1 v2 h5) ∧ (¬ x2 ≤ x4 → vp_in (v2 - 1) 36 ∧ (vp_in v2 36 ∧ (∀ x6 : Int32, x6 = v2 + (-1) → m_X1_sortByDay_12 n k56 Q v0 v1 x6 (wI h5 (v0 + 4) (ix v2) (hI h5 (v0 + 4) (ix (v2 - 1)))))))))))
set_option maxHeartbeats 4000000 in
set_option maxRecDepth 100000 in
theorem s_X1_sortByDay_12 {l : Launch} {G : Cx} {d : Nat} {h0 : Hp} (hd : 4 ≤ d) {k56 : Nat → Int32 → Int32 → Hp → Prop} {Q : Hp → Prop} (hk56 : ∀ (v0 : Nat) (v1 : Int32) (v2 : Int32) (hh : Hp), k56 v0 v1 v2 hh → Rn l G d 0 0 MX1_sortByDay h0 (qV Q) 56 [some (tR 1 0 (some v0)), some (tI v1), some (tI v2)] [] hh 0 0) : ∀ {n : Nat} {v0 : Nat} {v1 : Int32} {v2 : Int32} {h : Hp}, m_X1_sortByDay_12 n k56 Q v0 v1 v2 h → Rn l G d 0 0 MX1_sortByDay h0 (qV Q) 12 [some (tR 1 0 (some v0)), some (tI v1), some (tI v2)] [] h 0 0 := by
  intro n
  induction n with
  | zero => intro v0 v1 v2 h hm; exact hm.elim
  | succ n ih =>
    intro v0 v1 v2 h hm
    have hk12 := fun (v0 : Nat) (v1 : Int32) (v2 : Int32) (hh : Hp) (hm : m_X1_sortByDay_12 n k56 Q v0 v1 v2 hh) => ih hm
    rw [m_X1_sortByDay_12] at hm
    refine r_iload_n dX1_sortByDay_12 rfl rfl ?_
    refine r_if_le (tgt := 56) dX1_sortByDay_13 rfl (fun hc => ?_) (fun hc => ?_)
    · replace hm := hm.1 hc
      refine r_keep (L' := [some (tR 1 0 (some v0)), some (tI v1), some (tI v2)]) [true, true, true] rfl ?_
      exact hk56 _ _ _ _ hm
    · replace hm := hm.2 hc
      refine r_aload_n dX1_sortByDay_16 rfl rfl ?_
      refine r_aload_n dX1_sortByDay_17 rfl rfl ?_
      refine r_getC (k := 12) cl_1 dX1_sortByDay_18 t_479 gf_1_12.1 gf_1_12.2 (gc_1_12 _) ?_
      refine r_iload_n dX1_sortByDay_21 rfl rfl ?_
      refine r_iconst (v := 1) dX1_sortByDay_22 rfl ?_
      refine r_isub dX1_sortByDay_23 ?_
      refine r_iald dX1_sortByDay_24 hm.1 ?_
      replace hm := hm.2
      refine r_callVI (d' := d - 1) (as := [tI (hI h (v0 + 4) (ix (v2 - 1)))]) (st := []) cl_1 dX1_sortByDay_25 mi_X1_dayOf t_746 t_747 t_748 rfl rfl (Nat.le_of_ble_eq_true rfl) (by omega) ⟨by decide, by decide⟩ ⟨rfl, rfl⟩ (s_X1_dayOf (by omega) hm) (fun x2 h3 hm => ?_)
      refine r_aload_n dX1_sortByDay_28 rfl rfl ?_
      refine r_iload_n dX1_sortByDay_29 rfl rfl ?_
      refine r_callVI (d' := d - 1) (as := [tI v1]) (st := [tI x2]) cl_1 dX1_sortByDay_30 mi_X1_dayOf t_746 t_747 t_748 rfl rfl (Nat.le_of_ble_eq_true rfl) (by omega) ⟨by decide, by decide⟩ ⟨rfl, rfl⟩ (s_X1_dayOf (by omega) hm) (fun x4 h5 hm => ?_)
      refine r_icmp_le (tgt := 56) dX1_sortByDay_33 rfl (fun hc => ?_) (fun hc => ?_)
      · replace hm := hm.1 hc
        refine r_keep (L' := [some (tR 1 0 (some v0)), some (tI v1), some (tI v2)]) [true, true, true] rfl ?_
        exact hk56 _ _ _ _ hm
      · replace hm := hm.2 hc
        refine r_aload_n dX1_sortByDay_36 rfl rfl ?_
        refine r_getC (k := 12) cl_1 dX1_sortByDay_37 t_479 gf_1_12.1 gf_1_12.2 (gc_1_12 _) ?_
        refine r_iload_n dX1_sortByDay_40 rfl rfl ?_
        refine r_aload_n dX1_sortByDay_41 rfl rfl ?_
        refine r_getC (k := 12) cl_1 dX1_sortByDay_42 t_479 gf_1_12.1 gf_1_12.2 (gc_1_12 _) ?_
        refine r_iload_n dX1_sortByDay_45 rfl rfl ?_
        refine r_iconst (v := 1) dX1_sortByDay_46 rfl ?_
        refine r_isub dX1_sortByDay_47 ?_
        refine r_iald dX1_sortByDay_48 hm.1 ?_
        replace hm := hm.2
        refine r_iast dX1_sortByDay_49 hm.1 ?_
        replace hm := hm.2
        obtain ⟨x6, e_x6⟩ : ∃ y : Int32, y = v2 + (-1) := ⟨_, rfl⟩
        replace hm := hm x6 e_x6
        refine r_iinc (L' := [some (tR 1 0 (some v0)), some (tI v1), some (tI x6)]) dX1_sortByDay_50 rfl (by rw [e_x6]; rfl) (by decide) rfl ?_
        refine r_goto (tgt := 12) dX1_sortByDay_53 rfl ?_
        refine r_keep (L' := [some (tR 1 0 (some v0)), some (tI v1), some (tI x6)]) [true, true, true] rfl ?_
        exact hk12 _ _ _ _ hm
def m_X1_sortByDay_2 : Nat → (Hp → Prop) → Nat → Int32 → Hp → Prop
  | 0, _, _, _, _ => False
  | n + 1, Q, v0, v1, h => ((hI h v0 6) ≤ v1 → Q h) ∧ (¬ (hI h v0 6) ≤ v1 → ∃ n12, m_X1_sortByDay_12 n12 (m_X1_sortByDay_56 (fun (v0 : Nat) (v1 : Int32) (hh : Hp) => m_X1_sortByDay_2 n Q v0 v1 hh) Q) Q v0 v1 v1 h)
set_option maxHeartbeats 4000000 in
set_option maxRecDepth 100000 in
theorem s_X1_sortByDay_2 {l : Launch} {G : Cx} {d : Nat} {h0 : Hp} (hd : 4 ≤ d) {Q : Hp → Prop} : ∀ {n : Nat} {v0 : Nat} {v1 : Int32} {h : Hp}, m_X1_sortByDay_2 n Q v0 v1 h → Rn l G d 0 0 MX1_sortByDay h0 (qV Q) 2 [some (tR 1 0 (some v0)), some (tI v1)] [] h 0 0 := by
  intro n
  induction n with
  | zero => intro v0 v1 h hm; exact hm.elim
  | succ n ih =>
    intro v0 v1 h hm
    have hk2 := fun (v0 : Nat) (v1 : Int32) (hh : Hp) (hm : m_X1_sortByDay_2 n Q v0 v1 hh) => ih hm
    rw [m_X1_sortByDay_2] at hm
    refine r_iload_n dX1_sortByDay_2 rfl rfl ?_
    refine r_aload_n dX1_sortByDay_3 rfl rfl ?_
    refine r_getI (k := 6) cl_1 dX1_sortByDay_4 t_460 (Or.inl rfl) gf_1_6 ?_
    refine r_icmp_ge (tgt := 69) dX1_sortByDay_7 rfl (fun hc => ?_) (fun hc => ?_)
    · replace hm := hm.1 hc
      exact r_return dX1_sortByDay_69 rfl ⟨by decide, by decide⟩ ⟨rfl, hm⟩
    · replace hm := hm.2 hc
      refine r_iload_n dX1_sortByDay_10 rfl rfl ?_
      refine r_istore_n (L' := [some (tR 1 0 (some v0)), some (tI v1), some (tI v1)]) dX1_sortByDay_11 rfl (by decide) rfl ?_
      refine r_keep (L' := [some (tR 1 0 (some v0)), some (tI v1), some (tI v1)]) [true, true, true] rfl ?_
      obtain ⟨n, hm⟩ := hm
      refine s_X1_sortByDay_12 hd ?_ hm
      · exact (fun _ _ _ _ hm => s_X1_sortByDay_56 hd hk2 hm)
def m_X1_sortByDay (v0 : Nat) (h : Hp) (Q : Hp → Prop) : Prop := ∃ n2, m_X1_sortByDay_2 n2 Q v0 0 h
set_option maxHeartbeats 4000000 in
set_option maxRecDepth 100000 in
theorem s_X1_sortByDay {l : Launch} {G : Cx} {d : Nat} (hd : 4 ≤ d) {v0 : Nat} {h : Hp} {Q : Hp → Prop} (hm : m_X1_sortByDay v0 h Q) : Ct l G d 0 0 yX1_sortByDay MX1_sortByDay [tR 1 0 (some v0)] h (qV Q) := by
  unfold m_X1_sortByDay at hm
  refine Ct.of (L := [some (tR 1 0 (some v0))]) (by decide) rfl rfl (Nat.le_of_ble_eq_true rfl) rfl ?_
  refine r_iconst (v := 0) dX1_sortByDay_0 rfl ?_
  refine r_istore_n (L' := [some (tR 1 0 (some v0)), some (tI 0)]) dX1_sortByDay_1 rfl (by decide) rfl ?_
  refine r_keep (L' := [some (tR 1 0 (some v0)), some (tI 0)]) [true, true] rfl ?_
  obtain ⟨n, hm⟩ := hm
  refine s_X1_sortByDay_2 hd hm
theorem dX1_familiesIn_0 : decode cX1_familiesIn 0 = .ok (.iconst 0, 1) := rfl
theorem dX1_familiesIn_1 : decode cX1_familiesIn 1 = .ok (.istore_n 2, 1) := rfl
theorem dX1_familiesIn_2 : decode cX1_familiesIn 2 = .ok (.iconst 0, 1) := rfl
theorem dX1_familiesIn_3 : decode cX1_familiesIn 3 = .ok (.istore_n 3, 1) := rfl
theorem dX1_familiesIn_4 : decode cX1_familiesIn 4 = .ok (.iload_n 3, 1) := rfl
theorem dX1_familiesIn_5 : decode cX1_familiesIn 5 = .ok (.aload_n 0, 1) := rfl
theorem dX1_familiesIn_6 : decode cX1_familiesIn 6 = .ok (.getfield 29, 3) := rfl
theorem dX1_familiesIn_9 : decode cX1_familiesIn 9 = .ok (.if_icmp .ge 45, 3) := by decide +kernel
theorem dX1_familiesIn_12 : decode cX1_familiesIn 12 = .ok (.iload_n 2, 1) := rfl
theorem dX1_familiesIn_13 : decode cX1_familiesIn 13 = .ok (.iconst 1, 1) := rfl
theorem dX1_familiesIn_14 : decode cX1_familiesIn 14 = .ok (.aload_n 1, 1) := rfl
theorem dX1_familiesIn_15 : decode cX1_familiesIn 15 = .ok (.aload_n 0, 1) := rfl
theorem dX1_familiesIn_16 : decode cX1_familiesIn 16 = .ok (.getfield 9, 3) := rfl
theorem dX1_familiesIn_19 : decode cX1_familiesIn 19 = .ok (.iload_n 3, 1) := rfl
theorem dX1_familiesIn_20 : decode cX1_familiesIn 20 = .ok (.bipush 8, 2) := by decide +kernel
theorem dX1_familiesIn_22 : decode cX1_familiesIn 22 = .ok (.imul, 1) := rfl
theorem dX1_familiesIn_23 : decode cX1_familiesIn 23 = .ok (.iconst 1, 1) := rfl
theorem dX1_familiesIn_24 : decode cX1_familiesIn 24 = .ok (.iadd, 1) := rfl
theorem dX1_familiesIn_25 : decode cX1_familiesIn 25 = .ok (.iaload, 1) := rfl
theorem dX1_familiesIn_26 : decode cX1_familiesIn 26 = .ok (.iaload, 1) := rfl
theorem dX1_familiesIn_27 : decode cX1_familiesIn 27 = .ok (.ishl, 1) := rfl
theorem dX1_familiesIn_28 : decode cX1_familiesIn 28 = .ok (.ior, 1) := rfl
theorem dX1_familiesIn_29 : decode cX1_familiesIn 29 = .ok (.istore_n 2, 1) := rfl
theorem dX1_familiesIn_30 : decode cX1_familiesIn 30 = .ok (.iload_n 2, 1) := rfl
theorem dX1_familiesIn_31 : decode cX1_familiesIn 31 = .ok (.iconst 1, 1) := rfl
theorem dX1_familiesIn_32 : decode cX1_familiesIn 32 = .ok (.aload_n 1, 1) := rfl
theorem dX1_familiesIn_33 : decode cX1_familiesIn 33 = .ok (.aload_n 0, 1) := rfl
theorem dX1_familiesIn_34 : decode cX1_familiesIn 34 = .ok (.getfield 9, 3) := rfl
theorem dX1_familiesIn_37 : decode cX1_familiesIn 37 = .ok (.iload_n 3, 1) := rfl
theorem dX1_familiesIn_38 : decode cX1_familiesIn 38 = .ok (.bipush 8, 2) := by decide +kernel
theorem dX1_familiesIn_40 : decode cX1_familiesIn 40 = .ok (.imul, 1) := rfl
theorem dX1_familiesIn_41 : decode cX1_familiesIn 41 = .ok (.iconst 2, 1) := rfl
theorem dX1_familiesIn_42 : decode cX1_familiesIn 42 = .ok (.iadd, 1) := rfl
theorem dX1_familiesIn_43 : decode cX1_familiesIn 43 = .ok (.iaload, 1) := rfl
theorem dX1_familiesIn_44 : decode cX1_familiesIn 44 = .ok (.iaload, 1) := rfl
theorem dX1_familiesIn_45 : decode cX1_familiesIn 45 = .ok (.ishl, 1) := rfl
theorem dX1_familiesIn_46 : decode cX1_familiesIn 46 = .ok (.ior, 1) := rfl
theorem dX1_familiesIn_47 : decode cX1_familiesIn 47 = .ok (.istore_n 2, 1) := rfl
theorem dX1_familiesIn_48 : decode cX1_familiesIn 48 = .ok (.iinc 3 1, 3) := by decide +kernel
theorem dX1_familiesIn_51 : decode cX1_familiesIn 51 = .ok (.goto (-47), 3) := by decide +kernel
theorem dX1_familiesIn_54 : decode cX1_familiesIn 54 = .ok (.iload_n 2, 1) := rfl
theorem dX1_familiesIn_55 : decode cX1_familiesIn 55 = .ok (.ireturn, 1) := rfl
def m_X1_familiesIn_4 : Nat → (Int32 → Hp → Prop) → Nat → Nat → Nat → Int32 → Int32 → Hp → Prop
  | 0, _, _, _, _, _, _, _ => False
  | n + 1, Q, v0, v1n, v1, v2, v3, h => ((hI h v0 2) ≤ v3 → Q v2 h) ∧ (¬ (hI h v0 2) ≤ v3 → vp_in ((v3 * 8) + 1) 96 ∧ (vp_in (hI h (v0 + 1) (ix ((v3 * 8) + 1))) v1n ∧ (∀ x1 : Int32, x1 = (v2 ||| (1 <<< ((hI h v1 (ix (hI h (v0 + 1) (ix ((v3 * 8) + 1))))) &&& 31))) → vp_in ((v3 * 8) + 2) 96 ∧ (vp_in (hI h (v0 + 1) (ix ((v3 * 8) + 2))) v1n ∧ (∀ x2 : Int32, x2 = (x1 ||| (1 <<< ((hI h v1 (ix (hI h (v0 + 1) (ix ((v3 * 8) + 2))))) &&& 31))) → ∀ x3 : Int32, x3 = v3 + 1 → m_X1_familiesIn_4 n Q v0 v1n v1 x2 x3 h)))))
set_option maxHeartbeats 4000000 in
set_option maxRecDepth 100000 in
theorem s_X1_familiesIn_4 {l : Launch} {G : Cx} {d : Nat} {h0 : Hp} (hd : 2 ≤ d) {Q : Int32 → Hp → Prop} : ∀ {n : Nat} {v0 : Nat} {v1n : Nat} {v1 : Nat} {v2 : Int32} {v3 : Int32} {h : Hp}, m_X1_familiesIn_4 n Q v0 v1n v1 v2 v3 h → Rn l G d 0 0 MX1_familiesIn h0 (qI Q) 4 [some (tR 1 0 (some v0)), some (tR 40 v1n (some v1)), some (tI v2), some (tI v3)] [] h 0 0 := by
  intro n
  induction n with
  | zero => intro v0 v1n v1 v2 v3 h hm; exact hm.elim
  | succ n ih =>
    intro v0 v1n v1 v2 v3 h hm
    have hk4 := fun (v0 : Nat) (v1n : Nat) (v1 : Nat) (v2 : Int32) (v3 : Int32) (hh : Hp) (hm : m_X1_familiesIn_4 n Q v0 v1n v1 v2 v3 hh) => ih hm
    rw [m_X1_familiesIn_4] at hm
    refine r_iload_n dX1_familiesIn_4 rfl rfl ?_
    refine r_aload_n dX1_familiesIn_5 rfl rfl ?_
    refine r_getI (k := 2) cl_1 dX1_familiesIn_6 t_441 (Or.inl rfl) gf_1_2 ?_
    refine r_icmp_ge (tgt := 54) dX1_familiesIn_9 rfl (fun hc => ?_) (fun hc => ?_)
    · replace hm := hm.1 hc
      refine r_iload_n dX1_familiesIn_54 rfl rfl ?_
      exact r_ireturn dX1_familiesIn_55 rfl ⟨by decide, by decide⟩ ⟨_, rfl, hm⟩
    · replace hm := hm.2 hc
      refine r_iload_n dX1_familiesIn_12 rfl rfl ?_
      refine r_iconst (v := 1) dX1_familiesIn_13 rfl ?_
      refine r_aload_n dX1_familiesIn_14 rfl rfl ?_
      refine r_aload_n dX1_familiesIn_15 rfl rfl ?_
      refine r_getC (k := 9) cl_1 dX1_familiesIn_16 t_468 gf_1_9.1 gf_1_9.2 (gc_1_9 _) ?_
      refine r_iload_n dX1_familiesIn_19 rfl rfl ?_
      refine r_bipush (v := 8) dX1_familiesIn_20 rfl ?_
      refine r_imul dX1_familiesIn_22 ?_
      refine r_iconst (v := 1) dX1_familiesIn_23 rfl ?_
      refine r_iadd dX1_familiesIn_24 ?_
      refine r_iald dX1_familiesIn_25 hm.1 ?_
      replace hm := hm.2
      refine r_iald dX1_familiesIn_26 hm.1 ?_
      replace hm := hm.2
      refine r_ishl dX1_familiesIn_27 ?_
      refine r_ior dX1_familiesIn_28 ?_
      refine r_nmI (fun x1 e_x1 => ?_)
      replace hm := hm x1 e_x1
      refine r_istore_n (L' := [some (tR 1 0 (some v0)), some (tR 40 v1n (some v1)), some (tI x1), some (tI v3)]) dX1_familiesIn_29 rfl (by decide) rfl ?_
      refine r_iload_n dX1_familiesIn_30 rfl rfl ?_
      refine r_iconst (v := 1) dX1_familiesIn_31 rfl ?_
      refine r_aload_n dX1_familiesIn_32 rfl rfl ?_
      refine r_aload_n dX1_familiesIn_33 rfl rfl ?_
      refine r_getC (k := 9) cl_1 dX1_familiesIn_34 t_468 gf_1_9.1 gf_1_9.2 (gc_1_9 _) ?_
      refine r_iload_n dX1_familiesIn_37 rfl rfl ?_
      refine r_bipush (v := 8) dX1_familiesIn_38 rfl ?_
      refine r_imul dX1_familiesIn_40 ?_
      refine r_iconst (v := 2) dX1_familiesIn_41 rfl ?_
      refine r_iadd dX1_familiesIn_42 ?_
      refine r_iald dX1_familiesIn_43 hm.1 ?_
      replace hm := hm.2
      refine r_iald dX1_familiesIn_44 hm.1 ?_
      replace hm := hm.2
      refine r_ishl dX1_familiesIn_45 ?_
      refine r_ior dX1_familiesIn_46 ?_
      refine r_nmI (fun x2 e_x2 => ?_)
      replace hm := hm x2 e_x2
      refine r_istore_n (L' := [some (tR 1 0 (some v0)), some (tR 40 v1n (some v1)), some (tI x2), some (tI v3)]) dX1_familiesIn_47 rfl (by decide) rfl ?_
      obtain ⟨x3, e_x3⟩ : ∃ y : Int32, y = v3 + 1 := ⟨_, rfl⟩
      replace hm := hm x3 e_x3
      refine r_iinc (L' := [some (tR 1 0 (some v0)), some (tR 40 v1n (some v1)), some (tI x2), some (tI x3)]) dX1_familiesIn_48 rfl (by rw [e_x3]; rfl) (by decide) rfl ?_
      refine r_goto (tgt := 4) dX1_familiesIn_51 rfl ?_
      refine r_keep (L' := [some (tR 1 0 (some v0)), some (tR 40 v1n (some v1)), some (tI x2), some (tI x3)]) [true, true, true, true] rfl ?_
      exact hk4 _ _ _ _ _ _ hm
def m_X1_familiesIn (v0 : Nat) (v1 : Nat) (v1n : Nat) (h : Hp) (Q : Int32 → Hp → Prop) : Prop := ∃ n4, m_X1_familiesIn_4 n4 Q v0 v1n v1 0 0 h
set_option maxHeartbeats 4000000 in
set_option maxRecDepth 100000 in
theorem s_X1_familiesIn {l : Launch} {G : Cx} {d : Nat} (hd : 2 ≤ d) {v0 : Nat} {v1 : Nat} {v1n : Nat} {h : Hp} {Q : Int32 → Hp → Prop} (hm : m_X1_familiesIn v0 v1 v1n h Q) : Ct l G d 0 0 yX1_familiesIn MX1_familiesIn [tR 1 0 (some v0), tR 40 v1n (some v1)] h (qI Q) := by
  unfold m_X1_familiesIn at hm
  refine Ct.of (L := [some (tR 1 0 (some v0)), some (tR 40 v1n (some v1))]) (by decide) rfl rfl (Nat.le_of_ble_eq_true rfl) rfl ?_
  refine r_iconst (v := 0) dX1_familiesIn_0 rfl ?_
  refine r_istore_n (L' := [some (tR 1 0 (some v0)), some (tR 40 v1n (some v1)), some (tI 0)]) dX1_familiesIn_1 rfl (by decide) rfl ?_
  refine r_iconst (v := 0) dX1_familiesIn_2 rfl ?_
  refine r_istore_n (L' := [some (tR 1 0 (some v0)), some (tR 40 v1n (some v1)), some (tI 0), some (tI 0)]) dX1_familiesIn_3 rfl (by decide) rfl ?_
  refine r_keep (L' := [some (tR 1 0 (some v0)), some (tR 40 v1n (some v1)), some (tI 0), some (tI 0)]) [true, true, true, true] rfl ?_
  obtain ⟨n, hm⟩ := hm
  refine s_X1_familiesIn_4 hd hm
theorem dX8_init_0 : decode cX8_init 0 = .ok (.aload_n 0, 1) := rfl
theorem dX8_init_1 : decode cX8_init 1 = .ok (.invokespecial 3, 3) := rfl
theorem dX8_init_4 : decode cX8_init 4 = .ok (.aload_n 0, 1) := rfl
theorem dX8_init_5 : decode cX8_init 5 = .ok (.sipush 512, 3) := by decide +kernel
theorem dX8_init_8 : decode cX8_init 8 = .ok (.newarray .int, 2) := rfl
theorem dX8_init_10 : decode cX8_init 10 = .ok (.putfield 11, 3) := rfl
theorem dX8_init_13 : decode cX8_init 13 = .ok (.return_, 1) := rfl
def m_X8_init (v0 : Nat) (h : Hp) (Q : Hp → Prop) : Prop := ∀ a1 : Nat, a1 = hN h → ∀ h2 : Hp, h2 = nw h (40, 512) → Q (wR h2 v0 1 (some a1))
set_option maxHeartbeats 4000000 in
set_option maxRecDepth 100000 in
theorem s_X8_init {l : Launch} {G : Cx} {d : Nat} (hd : 2 ≤ d) {v0 : Nat} {h : Hp} {Q : Hp → Prop} (hm : m_X8_init v0 h Q) : Ct l G d 1 512 yX8_init MX8_init [tR 28 0 (some v0)] h (qV Q) := by
  unfold m_X8_init at hm
  refine Ct.of (L := [some (tR 28 0 (some v0))]) (by decide) rfl rfl (Nat.le_of_ble_eq_true rfl) rfl ?_
  refine r_aload_n dX8_init_0 rfl rfl ?_
  refine r_objInit dX8_init_1 t_73 t_29 t_30 (by omega) (Nat.le_of_ble_eq_true rfl) ?_
  refine r_aload_n dX8_init_4 rfl rfl ?_
  refine r_sipush (v := 512) dX8_init_5 rfl ?_
  refine r_newI (N := 512) dX8_init_8 t_61 (by decide) rfl (by decide) ⟨by decide, by decide⟩ ?_
  refine r_nmA (fun a1 e_a1 h2 e_h2 => ?_)
  replace hm := hm a1 e_a1 h2 e_h2
  refine r_putR0 (k := 1) cl_8 dX8_init_10 t_76 (Or.inr rfl) gf_8_1.1 gf_8_1.2 (fun z => absurd z (by decide)) pf_8_1.1 (Or.inr ⟨pf_8_1.2, rfl, rfl⟩) ?_
  exact r_return dX8_init_13 rfl ⟨by decide, by decide⟩ ⟨rfl, hm⟩
theorem dX2_init_0 : decode cX2_init 0 = .ok (.aload_n 0, 1) := rfl
theorem dX2_init_1 : decode cX2_init 1 = .ok (.invokespecial 3, 3) := rfl
theorem dX2_init_4 : decode cX2_init 4 = .ok (.aload_n 0, 1) := rfl
theorem dX2_init_5 : decode cX2_init 5 = .ok (.new 9, 3) := rfl
theorem dX2_init_8 : decode cX2_init 8 = .ok (.dup, 1) := rfl
theorem dX2_init_9 : decode cX2_init 9 = .ok (.invokespecial 11, 3) := rfl
theorem dX2_init_12 : decode cX2_init 12 = .ok (.putfield 12, 3) := rfl
theorem dX2_init_15 : decode cX2_init 15 = .ok (.aload_n 0, 1) := rfl
theorem dX2_init_16 : decode cX2_init 16 = .ok (.bipush 8, 2) := by decide +kernel
theorem dX2_init_18 : decode cX2_init 18 = .ok (.newarray .int, 2) := rfl
theorem dX2_init_20 : decode cX2_init 20 = .ok (.putfield 18, 3) := rfl
theorem dX2_init_23 : decode cX2_init 23 = .ok (.aload_n 0, 1) := rfl
theorem dX2_init_24 : decode cX2_init 24 = .ok (.aload_n 1, 1) := rfl
theorem dX2_init_25 : decode cX2_init 25 = .ok (.putfield 22, 3) := rfl
theorem dX2_init_28 : decode cX2_init 28 = .ok (.return_, 1) := rfl
def m_X2_init (v0 : Nat) (h : Hp) (Q : Hp → Prop) : Prop := ∀ a1 : Nat, a1 = hN h → ∀ h2 : Hp, h2 = nw h (28, 0) → m_X8_init a1 h2 (fun h4 => hN h ≤ a1 ∧ sealOK h4 a1 8 ∧ ∀ h5 : Hp, h5 = wT h4 a1 (8, 0) → ∀ a6 : Nat, a6 = hN (wR h5 v0 1 (some a1)) → ∀ h7 : Hp, h7 = nw (wR h5 v0 1 (some a1)) (40, 8) → Q (wR (wR h7 v0 2 (some a6)) v0 0 (some 2)))
set_option maxHeartbeats 4000000 in
set_option maxRecDepth 100000 in
theorem s_X2_init {l : Launch} {G : Cx} {d : Nat} (hd : 4 ≤ d) {v0 : Nat} {h : Hp} {Q : Hp → Prop} (hm : m_X2_init v0 h Q) : Ct l G d 3 523 yX2_init MX2_init [tR 22 0 (some v0), tR 10 0 (some 2)] h (qV Q) := by
  unfold m_X2_init at hm
  refine Ct.of (L := [some (tR 22 0 (some v0)), some (tR 10 0 (some 2))]) (by decide) rfl rfl (Nat.le_of_ble_eq_true rfl) rfl ?_
  refine r_aload_n dX2_init_0 rfl rfl ?_
  refine r_objInit dX2_init_1 t_67 t_29 t_30 (by omega) (Nat.le_of_ble_eq_true rfl) ?_
  refine r_aload_n dX2_init_4 rfl rfl ?_
  refine r_new cl_8 dX2_init_5 t_68 (N := 3) rfl t_69 t_4 ⟨by decide, by decide⟩ ?_
  refine r_nmA (fun a1 e_a1 h2 e_h2 => ?_)
  replace hm := hm a1 e_a1 h2 e_h2
  refine r_dup dX2_init_8 cv_cat1R ?_
  refine r_callINU (d' := d - 1) (ci := 8) (host := RX11) (as := []) (st := [tR 28 0 (some a1), tR 22 0 (some v0)]) (mc' := 1) (ms' := 512) dX2_init_9 mi_X8_init rfl (by decide) t_71 rfl rfl rfl (Nat.le_of_ble_eq_true rfl) (by omega) ⟨by decide, by decide⟩ ⟨rfl, rfl⟩ (s_X8_init (by omega) hm) (fun h4 hm => ?_)
  obtain ⟨hz, hs, hm⟩ := hm
  refine r_seal (by decide) hz hs (by simp [noK]) (by simp [noK]) ?_
  refine r_nmH (fun h5 e_h5 => ?_)
  replace hm := hm h5 e_h5
  refine r_putR0 (k := 1) cl_2 dX2_init_12 t_86 (Or.inr rfl) gf_2_1.1 gf_2_1.2 (fun z => absurd z (by decide)) pf_2_1.1 (Or.inr ⟨pf_2_1.2, rfl, rfl⟩) ?_
  refine r_aload_n dX2_init_15 rfl rfl ?_
  refine r_bipush (v := 8) dX2_init_16 rfl ?_
  refine r_newI (N := 8) dX2_init_18 t_61 (by decide) rfl (by decide) ⟨by decide, by decide⟩ ?_
  refine r_nmA (fun a6 e_a6 h7 e_h7 => ?_)
  replace hm := hm a6 e_a6 h7 e_h7
  refine r_putR0 (k := 2) cl_2 dX2_init_20 t_87 (Or.inr rfl) gf_2_2.1 gf_2_2.2 (fun z => absurd z (by decide)) pf_2_2.1 (Or.inr ⟨pf_2_2.2, rfl, rfl⟩) ?_
  refine r_aload_n dX2_init_23 rfl rfl ?_
  refine r_aload_n dX2_init_24 rfl rfl ?_
  refine r_putR0 (k := 0) cl_2 dX2_init_25 t_85 (Or.inr rfl) gf_2_0.1 gf_2_0.2 (fun z => absurd z (by decide)) pf_2_0.1 (Or.inr ⟨pf_2_0.2, rfl, rfl⟩) ?_
  exact r_return dX2_init_28 rfl ⟨by decide, by decide⟩ ⟨rfl, hm⟩
theorem dX8_empty_0 : decode cX8_empty 0 = .ok (.aload_n 0, 1) := rfl
theorem dX8_empty_1 : decode cX8_empty 1 = .ok (.iconst 0, 1) := rfl
theorem dX8_empty_2 : decode cX8_empty 2 = .ok (.putfield 15, 3) := rfl
theorem dX8_empty_5 : decode cX8_empty 5 = .ok (.aload_n 0, 1) := rfl
theorem dX8_empty_6 : decode cX8_empty 6 = .ok (.iconst 0, 1) := rfl
theorem dX8_empty_7 : decode cX8_empty 7 = .ok (.putfield 19, 3) := rfl
theorem dX8_empty_10 : decode cX8_empty 10 = .ok (.return_, 1) := rfl
def m_X8_empty  (h : Hp) (Q : Hp → Prop) : Prop := Q (wI (wI h 5 0 0) 5 2 0)
set_option maxHeartbeats 4000000 in
set_option maxRecDepth 100000 in
theorem s_X8_empty {l : Launch} {G : Cx} {d : Nat} (hd : 2 ≤ d) {h : Hp} {Q : Hp → Prop} (hm : m_X8_empty h Q) : Ct l G d 0 0 yX8_empty MX8_empty [tR 8 0 (some 5)] h (qV Q) := by
  unfold m_X8_empty at hm
  refine Ct.of (L := [some (tR 8 0 (some 5))]) (by decide) rfl rfl (Nat.le_of_ble_eq_true rfl) rfl ?_
  refine r_aload_n dX8_empty_0 rfl rfl ?_
  refine r_iconst (v := 0) dX8_empty_1 rfl ?_
  refine r_putI0 (k := 0) cl_8 dX8_empty_2 t_74 (Or.inl rfl) gf_8_0 pf_8_0.1 (Or.inl pf_8_0.2) ?_
  refine r_aload_n dX8_empty_5 rfl rfl ?_
  refine r_iconst (v := 0) dX8_empty_6 rfl ?_
  refine r_putI0 (k := 2) cl_8 dX8_empty_7 t_77 (Or.inl rfl) gf_8_2 pf_8_2.1 (Or.inl pf_8_2.2) ?_
  exact r_return dX8_empty_10 rfl ⟨by decide, by decide⟩ ⟨rfl, hm⟩
theorem dJ0_coder_7d493_0 : decode cJ0_coder_7d493 0 = .ok (.getstatic 38, 3) := rfl
theorem dJ0_coder_7d493_3 : decode cJ0_coder_7d493 3 = .ok (.ifCond .eq 10, 3) := by decide +kernel
theorem dJ0_coder_7d493_6 : decode cJ0_coder_7d493 6 = .ok (.aload_n 0, 1) := rfl
theorem dJ0_coder_7d493_7 : decode cJ0_coder_7d493 7 = .ok (.getfield 15, 3) := rfl
theorem dJ0_coder_7d493_10 : decode cJ0_coder_7d493 10 = .ok (.goto 4, 3) := by decide +kernel
theorem dJ0_coder_7d493_13 : decode cJ0_coder_7d493 13 = .ok (.iconst 1, 1) := rfl
theorem dJ0_coder_7d493_14 : decode cJ0_coder_7d493 14 = .ok (.ireturn, 1) := rfl
def m_J0_coder_7d493 (v0 : Nat) (h : Hp) (Q : Int32 → Hp → Prop) : Prop := ((1 : Int32) = 0 → narrow .byte (.int 1) = .int 1 ∧ Q 1 h) ∧ (¬ (1 : Int32) = 0 → narrow .byte (.int 0) = .int 0 ∧ Q 0 h)
set_option maxHeartbeats 4000000 in
set_option maxRecDepth 100000 in
theorem s_J0_coder_7d493 {l : Launch} {G : Cx} {v0 : Nat} {d : Nat} (hd : 2 ≤ d) (hv0 : v0 < 16) {h : Hp} {Q : Int32 → Hp → Prop} (hm : m_J0_coder_7d493 v0 h Q) : Ct l G d 0 0 yJ0_coder_7d493 MJ0_coder_7d493 [tS v0] h (qI Q) := by
  unfold m_J0_coder_7d493 at hm
  refine Ct.of (L := [some (tS v0)]) (by decide) rfl rfl (Nat.le_of_ble_eq_true rfl) rfl ?_
  refine r_getsC dJ0_coder_7d493_0 t_552 ?_
  refine r_if_eq (tgt := 13) dJ0_coder_7d493_3 rfl (fun hc => ?_) (fun hc => ?_)
  · replace hm := hm.1 hc
    refine r_iconst (v := 1) dJ0_coder_7d493_13 rfl ?_
    exact r_zreturn dJ0_coder_7d493_14 rfl hm.1 ⟨by decide, by decide⟩ ⟨_, rfl, hm.2⟩
  · replace hm := hm.2 hc
    refine r_aload_nS dJ0_coder_7d493_6 rfl rfl ?_
    refine r_strCoder hv0 dJ0_coder_7d493_7 t_2007 ?_
    refine r_goto (tgt := 14) dJ0_coder_7d493_10 rfl ?_
    exact r_zreturn dJ0_coder_7d493_14 rfl hm.1 ⟨by decide, by decide⟩ ⟨_, rfl, hm.2⟩
theorem dJ0_length_8abf5_0 : decode cJ0_length_8abf5 0 = .ok (.aload_n 0, 1) := rfl
theorem dJ0_length_8abf5_1 : decode cJ0_length_8abf5 1 = .ok (.getfield 9, 3) := rfl
theorem dJ0_length_8abf5_4 : decode cJ0_length_8abf5 4 = .ok (.arraylength, 1) := rfl
theorem dJ0_length_8abf5_5 : decode cJ0_length_8abf5 5 = .ok (.aload_n 0, 1) := rfl
theorem dJ0_length_8abf5_6 : decode cJ0_length_8abf5 6 = .ok (.invokevirtual 335, 3) := rfl
theorem dJ0_length_8abf5_9 : decode cJ0_length_8abf5 9 = .ok (.ishr, 1) := rfl
theorem dJ0_length_8abf5_10 : decode cJ0_length_8abf5 10 = .ok (.ireturn, 1) := rfl
def m_J0_length_8abf5 (v0 : Nat) (h : Hp) (Q : Int32 → Hp → Prop) : Prop := m_J0_coder_7d493 v0 h (fun (x1 : Int32) (h2 : Hp) => Q ((Int32.ofNat (lenS.getD v0 0)) >>> (x1 &&& 31)) h2)
set_option maxHeartbeats 4000000 in
set_option maxRecDepth 100000 in
theorem s_J0_length_8abf5 {l : Launch} {G : Cx} {v0 : Nat} {d : Nat} (hd : 4 ≤ d) (hv0 : v0 < 16) {h : Hp} {Q : Int32 → Hp → Prop} (hm : m_J0_length_8abf5 v0 h Q) : Ct l G d 0 0 yJ0_length_8abf5 MJ0_length_8abf5 [tS v0] h (qI Q) := by
  unfold m_J0_length_8abf5 at hm
  refine Ct.of (L := [some (tS v0)]) (by decide) rfl rfl (Nat.le_of_ble_eq_true rfl) rfl ?_
  refine r_aload_nS dJ0_length_8abf5_0 rfl rfl ?_
  refine r_strVal hv0 dJ0_length_8abf5_1 t_2006 ?_
  refine r_strLen hv0 dJ0_length_8abf5_4 rfl ?_
  refine r_aload_nS dJ0_length_8abf5_5 rfl rfl ?_
  refine r_callStrI (d' := d - 1) (as := []) (st := [tI (Int32.ofNat (lenS.getD v0 0))]) hv0 dJ0_length_8abf5_6 mi_J0_coder_7d493 t_548 t_549 t_550 rfl rfl (Nat.le_of_ble_eq_true rfl) (by omega) ⟨by decide, by decide⟩ ⟨rfl, rfl⟩ (s_J0_coder_7d493 (by omega) hv0 hm) (fun x1 h2 hm => ?_)
  refine r_ishr dJ0_length_8abf5_9 ?_
  exact r_ireturn dJ0_length_8abf5_10 rfl ⟨by decide, by decide⟩ ⟨_, rfl, hm⟩
theorem dJ0_isLatin1_aae02_0 : decode cJ0_isLatin1_aae02 0 = .ok (.getstatic 38, 3) := rfl
theorem dJ0_isLatin1_aae02_3 : decode cJ0_isLatin1_aae02 3 = .ok (.ifCond .eq 14, 3) := by decide +kernel
theorem dJ0_isLatin1_aae02_6 : decode cJ0_isLatin1_aae02 6 = .ok (.aload_n 0, 1) := rfl
theorem dJ0_isLatin1_aae02_7 : decode cJ0_isLatin1_aae02 7 = .ok (.getfield 15, 3) := rfl
theorem dJ0_isLatin1_aae02_10 : decode cJ0_isLatin1_aae02 10 = .ok (.ifCond .ne 7, 3) := by decide +kernel
theorem dJ0_isLatin1_aae02_13 : decode cJ0_isLatin1_aae02 13 = .ok (.iconst 1, 1) := rfl
theorem dJ0_isLatin1_aae02_14 : decode cJ0_isLatin1_aae02 14 = .ok (.goto 4, 3) := by decide +kernel
theorem dJ0_isLatin1_aae02_17 : decode cJ0_isLatin1_aae02 17 = .ok (.iconst 0, 1) := rfl
theorem dJ0_isLatin1_aae02_18 : decode cJ0_isLatin1_aae02 18 = .ok (.ireturn, 1) := rfl
def m_J0_isLatin1_aae02 (v0 : Nat) (h : Hp) (Q : Int32 → Hp → Prop) : Prop := ((1 : Int32) = 0 → Q 0 h) ∧ (¬ (1 : Int32) = 0 → (¬ (0 : Int32) = 0 → Q 0 h) ∧ ((0 : Int32) = 0 → Q 1 h))
set_option maxHeartbeats 4000000 in
set_option maxRecDepth 100000 in
theorem s_J0_isLatin1_aae02 {l : Launch} {G : Cx} {v0 : Nat} {d : Nat} (hd : 2 ≤ d) (hv0 : v0 < 16) {h : Hp} {Q : Int32 → Hp → Prop} (hm : m_J0_isLatin1_aae02 v0 h Q) : Ct l G d 0 0 yJ0_isLatin1_aae02 MJ0_isLatin1_aae02 [tS v0] h (qI Q) := by
  unfold m_J0_isLatin1_aae02 at hm
  refine Ct.of (L := [some (tS v0)]) (by decide) rfl rfl (Nat.le_of_ble_eq_true rfl) rfl ?_
  refine r_getsC dJ0_isLatin1_aae02_0 t_552 ?_
  refine r_if_eq (tgt := 17) dJ0_isLatin1_aae02_3 rfl (fun hc => ?_) (fun hc => ?_)
  · replace hm := hm.1 hc
    refine r_iconst (v := 0) dJ0_isLatin1_aae02_17 rfl ?_
    exact r_bret dJ0_isLatin1_aae02_18 rfl ⟨by decide, by decide⟩ (by unfold bz; decide) ⟨_, rfl, hm⟩
  · replace hm := hm.2 hc
    refine r_aload_nS dJ0_isLatin1_aae02_6 rfl rfl ?_
    refine r_strCoder hv0 dJ0_isLatin1_aae02_7 t_2007 ?_
    refine r_if_ne (tgt := 17) dJ0_isLatin1_aae02_10 rfl (fun hc => ?_) (fun hc => ?_)
    · replace hm := hm.1 hc
      refine r_iconst (v := 0) dJ0_isLatin1_aae02_17 rfl ?_
      exact r_bret dJ0_isLatin1_aae02_18 rfl ⟨by decide, by decide⟩ (by unfold bz; decide) ⟨_, rfl, hm⟩
    · replace hm := hm.2 hc
      refine r_iconst (v := 1) dJ0_isLatin1_aae02_13 rfl ?_
      refine r_goto (tgt := 18) dJ0_isLatin1_aae02_14 rfl ?_
      exact r_bret dJ0_isLatin1_aae02_18 rfl ⟨by decide, by decide⟩ (by unfold bz; decide) ⟨_, rfl, hm⟩
theorem dJ3_checkIndex_8e157_0 : decode cJ3_checkIndex_8e157 0 = .ok (.iload_n 0, 1) := rfl
theorem dJ3_checkIndex_8e157_1 : decode cJ3_checkIndex_8e157 1 = .ok (.ifCond .lt 8, 3) := by decide +kernel
theorem dJ3_checkIndex_8e157_4 : decode cJ3_checkIndex_8e157 4 = .ok (.iload_n 0, 1) := rfl
theorem dJ3_checkIndex_8e157_5 : decode cJ3_checkIndex_8e157 5 = .ok (.iload_n 1, 1) := rfl
theorem dJ3_checkIndex_8e157_6 : decode cJ3_checkIndex_8e157 6 = .ok (.if_icmp .lt 10, 3) := by decide +kernel
theorem dJ3_checkIndex_8e157_9 : decode cJ3_checkIndex_8e157 9 = .ok (.aload_n 2, 1) := rfl
theorem dJ3_checkIndex_8e157_10 : decode cJ3_checkIndex_8e157 10 = .ok (.iload_n 0, 1) := rfl
theorem dJ3_checkIndex_8e157_11 : decode cJ3_checkIndex_8e157 11 = .ok (.iload_n 1, 1) := rfl
theorem dJ3_checkIndex_8e157_12 : decode cJ3_checkIndex_8e157 12 = .ok (.invokestatic 95, 3) := rfl
theorem dJ3_checkIndex_8e157_15 : decode cJ3_checkIndex_8e157 15 = .ok (.athrow, 1) := rfl
theorem dJ3_checkIndex_8e157_16 : decode cJ3_checkIndex_8e157 16 = .ok (.iload_n 0, 1) := rfl
theorem dJ3_checkIndex_8e157_17 : decode cJ3_checkIndex_8e157 17 = .ok (.ireturn, 1) := rfl
def m_J3_checkIndex_8e157_9  (Q : Int32 → Hp → Prop) (v0 : Int32) (v1 : Int32) (h : Hp) : Prop := False
set_option maxHeartbeats 4000000 in
set_option maxRecDepth 100000 in
theorem s_J3_checkIndex_8e157_9 {l : Launch} {G : Cx} {d : Nat} {h0 : Hp} (hd : 2 ≤ d) {Q : Int32 → Hp → Prop} {v0 : Int32} {v1 : Int32} {h : Hp} (hm : m_J3_checkIndex_8e157_9 Q v0 v1 h) : Rn l G d 0 0 MJ3_checkIndex_8e157 h0 (qI Q) 9 [some (tI v0), some (tI v1)] [] h 0 0 := by
  unfold m_J3_checkIndex_8e157_9 at hm
  exact hm.elim
def m_J3_checkIndex_8e157 (v0 : Int32) (v1 : Int32) (h : Hp) (Q : Int32 → Hp → Prop) : Prop := (v0 < 0 → m_J3_checkIndex_8e157_9 Q v0 v1 h) ∧ (¬ v0 < 0 → (v0 < v1 → Q v0 h) ∧ (¬ v0 < v1 → m_J3_checkIndex_8e157_9 Q v0 v1 h))
set_option maxHeartbeats 4000000 in
set_option maxRecDepth 100000 in
theorem s_J3_checkIndex_8e157 {l : Launch} {G : Cx} {d : Nat} (hd : 2 ≤ d) {v0 : Int32} {v1 : Int32} {h : Hp} {Q : Int32 → Hp → Prop} (hm : m_J3_checkIndex_8e157 v0 v1 h Q) : Ct l G d 0 0 yJ3_checkIndex_8e157 MJ3_checkIndex_8e157 [tI v0, tI v1, tR 0 0 none] h (qI Q) := by
  unfold m_J3_checkIndex_8e157 at hm
  refine Ct.of (L := [some (tI v0), some (tI v1), some (tR 0 0 none)]) (by decide) rfl rfl (Nat.le_of_ble_eq_true rfl) rfl ?_
  refine r_iload_n dJ3_checkIndex_8e157_0 rfl rfl ?_
  refine r_if_lt (tgt := 9) dJ3_checkIndex_8e157_1 rfl (fun hc => ?_) (fun hc => ?_)
  · replace hm := hm.1 hc
    refine r_keep (L' := [some (tI v0), some (tI v1)]) [true, true] rfl ?_
    exact s_J3_checkIndex_8e157_9 hd hm
  · replace hm := hm.2 hc
    refine r_iload_n dJ3_checkIndex_8e157_4 rfl rfl ?_
    refine r_iload_n dJ3_checkIndex_8e157_5 rfl rfl ?_
    refine r_icmp_lt (tgt := 16) dJ3_checkIndex_8e157_6 rfl (fun hc => ?_) (fun hc => ?_)
    · replace hm := hm.1 hc
      refine r_iload_n dJ3_checkIndex_8e157_16 rfl rfl ?_
      exact r_ireturn dJ3_checkIndex_8e157_17 rfl ⟨by decide, by decide⟩ ⟨_, rfl, hm⟩
    · replace hm := hm.2 hc
      refine r_keep (L' := [some (tI v0), some (tI v1)]) [true, true] rfl ?_
      exact s_J3_checkIndex_8e157_9 hd hm
set_option maxHeartbeats 4000000 in
set_option maxRecDepth 100000 in
theorem s_J3_checkIndex_8e157F {l : Launch} {G : Cx} {d : Nat} (hd : 2 ≤ d) {v0 : Int32} {v1 : Int32} {h : Hp} {Q : Int32 → Hp → Prop} (hm : m_J3_checkIndex_8e157 v0 v1 h Q) : Ct l G d 0 0 yJ3_checkIndex_8e157 MJ3_checkIndex_8e157 [tI v0, tI v1, tS 400] h (qI Q) := by
  unfold m_J3_checkIndex_8e157 at hm
  refine Ct.of (L := [some (tI v0), some (tI v1), some (tS 400)]) (by decide) rfl rfl (Nat.le_of_ble_eq_true rfl) rfl ?_
  refine r_iload_n dJ3_checkIndex_8e157_0 rfl rfl ?_
  refine r_if_lt (tgt := 9) dJ3_checkIndex_8e157_1 rfl (fun hc => ?_) (fun hc => ?_)
  · replace hm := hm.1 hc
    refine r_keep (L' := [some (tI v0), some (tI v1)]) [true, true] rfl ?_
    exact s_J3_checkIndex_8e157_9 hd hm
  · replace hm := hm.2 hc
    refine r_iload_n dJ3_checkIndex_8e157_4 rfl rfl ?_
    refine r_iload_n dJ3_checkIndex_8e157_5 rfl rfl ?_
    refine r_icmp_lt (tgt := 16) dJ3_checkIndex_8e157_6 rfl (fun hc => ?_) (fun hc => ?_)
    · replace hm := hm.1 hc
      refine r_iload_n dJ3_checkIndex_8e157_16 rfl rfl ?_
      exact r_ireturn dJ3_checkIndex_8e157_17 rfl ⟨by decide, by decide⟩ ⟨_, rfl, hm⟩
    · replace hm := hm.2 hc
      refine r_keep (L' := [some (tI v0), some (tI v1)]) [true, true] rfl ?_
      exact s_J3_checkIndex_8e157_9 hd hm
theorem dJ0_checkIndex_df160_0 : decode cJ0_checkIndex_df160 0 = .ok (.iload_n 0, 1) := rfl
theorem dJ0_checkIndex_df160_1 : decode cJ0_checkIndex_df160 1 = .ok (.iload_n 1, 1) := rfl
theorem dJ0_checkIndex_df160_2 : decode cJ0_checkIndex_df160 2 = .ok (.getstatic 1053, 3) := rfl
theorem dJ0_checkIndex_df160_5 : decode cJ0_checkIndex_df160 5 = .ok (.invokestatic 1059, 3) := rfl
theorem dJ0_checkIndex_df160_8 : decode cJ0_checkIndex_df160 8 = .ok (.pop, 1) := rfl
theorem dJ0_checkIndex_df160_9 : decode cJ0_checkIndex_df160 9 = .ok (.return_, 1) := rfl
def m_J0_checkIndex_df160 (v0 : Int32) (v1 : Int32) (h : Hp) (Q : Hp → Prop) : Prop := m_J3_checkIndex_8e157 v0 v1 h (fun (x1 : Int32) (h2 : Hp) => Q h2)
set_option maxHeartbeats 4000000 in
set_option maxRecDepth 100000 in
theorem s_J0_checkIndex_df160 {l : Launch} {G : Cx} {d : Nat} (hd : 4 ≤ d) {v0 : Int32} {v1 : Int32} {h : Hp} {Q : Hp → Prop} (hm : m_J0_checkIndex_df160 v0 v1 h Q) : Ct l G d 0 0 yJ0_checkIndex_df160 MJ0_checkIndex_df160 [tI v0, tI v1] h (qV Q) := by
  unfold m_J0_checkIndex_df160 at hm
  refine Ct.of (L := [some (tI v0), some (tI v1)]) (by decide) rfl rfl (Nat.le_of_ble_eq_true rfl) rfl ?_
  refine r_iload_n dJ0_checkIndex_df160_0 rfl rfl ?_
  refine r_iload_n dJ0_checkIndex_df160_1 rfl rfl ?_
  refine r_getsF dJ0_checkIndex_df160_2 t_568 ?_ ?_
  · skip
    refine r_callSI (d' := d - 1) (as := [tI v0, tI v1, tR 0 0 none]) (st := []) dJ0_checkIndex_df160_5 mi_J3_checkIndex_8e157 t_570 t_571 rfl rfl (Nat.le_of_ble_eq_true rfl) (by omega) ⟨by decide, by decide⟩ ⟨rfl, rfl⟩ (s_J3_checkIndex_8e157 (by omega) hm) (fun x1 h2 hm => ?_)
    refine r_pop dJ0_checkIndex_df160_8 rfl ?_
    exact r_return dJ0_checkIndex_df160_9 rfl ⟨by decide, by decide⟩ ⟨rfl, hm⟩
  · skip
    refine r_callSI (d' := d - 1) (as := [tI v0, tI v1, tS 400]) (st := []) dJ0_checkIndex_df160_5 mi_J3_checkIndex_8e157 t_570 t_571 rfl rfl (Nat.le_of_ble_eq_true rfl) (by omega) ⟨by decide, by decide⟩ ⟨rfl, rfl⟩ (s_J3_checkIndex_8e157F (by omega) hm) (fun x1 h2 hm => ?_)
    refine r_pop dJ0_checkIndex_df160_8 rfl ?_
    exact r_return dJ0_checkIndex_df160_9 rfl ⟨by decide, by decide⟩ ⟨rfl, hm⟩
theorem dJ1_charAt_3b067_0 : decode cJ1_charAt_3b067 0 = .ok (.iload_n 1, 1) := rfl
theorem dJ1_charAt_3b067_1 : decode cJ1_charAt_3b067 1 = .ok (.aload_n 0, 1) := rfl
theorem dJ1_charAt_3b067_2 : decode cJ1_charAt_3b067 2 = .ok (.arraylength, 1) := rfl
theorem dJ1_charAt_3b067_3 : decode cJ1_charAt_3b067 3 = .ok (.invokestatic 9, 3) := rfl
theorem dJ1_charAt_3b067_6 : decode cJ1_charAt_3b067 6 = .ok (.aload_n 0, 1) := rfl
theorem dJ1_charAt_3b067_7 : decode cJ1_charAt_3b067 7 = .ok (.iload_n 1, 1) := rfl
theorem dJ1_charAt_3b067_8 : decode cJ1_charAt_3b067 8 = .ok (.baload, 1) := rfl
theorem dJ1_charAt_3b067_9 : decode cJ1_charAt_3b067 9 = .ok (.sipush 255, 3) := by decide +kernel
theorem dJ1_charAt_3b067_12 : decode cJ1_charAt_3b067 12 = .ok (.iand, 1) := rfl
theorem dJ1_charAt_3b067_13 : decode cJ1_charAt_3b067 13 = .ok (.i2c, 1) := rfl
theorem dJ1_charAt_3b067_14 : decode cJ1_charAt_3b067 14 = .ok (.ireturn, 1) := rfl
def m_J1_charAt_3b067 (v0 : Nat) (v1 : Int32) (h : Hp) (Q : Int32 → Hp → Prop) : Prop := m_J0_checkIndex_df160 v1 (Int32.ofNat (lenS.getD v0 0)) h (fun (h2 : Hp) => vp_in v1 (lenS.getD v0 0) ∧ (narrow .char (.int ((((((bytS.getD v0 []).getD (ix v1) 0) &&& 255)).toUInt32 % 65536).toInt32)) = .int ((((((bytS.getD v0 []).getD (ix v1) 0) &&& 255)).toUInt32 % 65536).toInt32) ∧ Q ((((((bytS.getD v0 []).getD (ix v1) 0) &&& 255)).toUInt32 % 65536).toInt32) h2))
set_option maxHeartbeats 4000000 in
set_option maxRecDepth 100000 in
theorem s_J1_charAt_3b067 {l : Launch} {G : Cx} {v0 : Nat} {d : Nat} (hd : 6 ≤ d) (hv0 : v0 < 16) {v1 : Int32} {h : Hp} {Q : Int32 → Hp → Prop} (hm : m_J1_charAt_3b067 v0 v1 h Q) : Ct l G d 0 0 yJ1_charAt_3b067 MJ1_charAt_3b067 [tS (100 + v0), tI v1] h (qI Q) := by
  unfold m_J1_charAt_3b067 at hm
  refine Ct.of (L := [some (tS (100 + v0)), some (tI v1)]) (by decide) rfl rfl (Nat.le_of_ble_eq_true rfl) rfl ?_
  refine r_iload_n dJ1_charAt_3b067_0 rfl rfl ?_
  refine r_aload_nS dJ1_charAt_3b067_1 rfl rfl ?_
  refine r_strLen hv0 dJ1_charAt_3b067_2 rfl ?_
  refine r_callSU (d' := d - 1) (as := [tI v1, tI (Int32.ofNat (lenS.getD v0 0))]) (st := []) dJ1_charAt_3b067_3 mi_J0_checkIndex_df160 t_565 t_566 rfl rfl (Nat.le_of_ble_eq_true rfl) (by omega) ⟨by decide, by decide⟩ ⟨rfl, rfl⟩ (s_J0_checkIndex_df160 (by omega) hm) (fun h2 hm => ?_)
  refine r_aload_nS dJ1_charAt_3b067_6 rfl rfl ?_
  refine r_iload_n dJ1_charAt_3b067_7 rfl rfl ?_
  refine r_strLd hv0 dJ1_charAt_3b067_8 hm.1 ?_
  replace hm := hm.2
  refine r_sipush (v := 255) dJ1_charAt_3b067_9 rfl ?_
  refine r_iand dJ1_charAt_3b067_12 ?_
  refine r_i2c dJ1_charAt_3b067_13 ?_
  exact r_zreturn dJ1_charAt_3b067_14 rfl hm.1 ⟨by decide, by decide⟩ ⟨_, rfl, hm.2⟩
theorem dJ0_charAt_5068e_0 : decode cJ0_charAt_5068e 0 = .ok (.aload_n 0, 1) := rfl
theorem dJ0_charAt_5068e_1 : decode cJ0_charAt_5068e 1 = .ok (.invokevirtual 492, 3) := rfl
theorem dJ0_charAt_5068e_4 : decode cJ0_charAt_5068e 4 = .ok (.ifCond .eq 12, 3) := by decide +kernel
theorem dJ0_charAt_5068e_7 : decode cJ0_charAt_5068e 7 = .ok (.aload_n 0, 1) := rfl
theorem dJ0_charAt_5068e_8 : decode cJ0_charAt_5068e 8 = .ok (.getfield 9, 3) := rfl
theorem dJ0_charAt_5068e_11 : decode cJ0_charAt_5068e 11 = .ok (.iload_n 1, 1) := rfl
theorem dJ0_charAt_5068e_12 : decode cJ0_charAt_5068e 12 = .ok (.invokestatic 495, 3) := rfl
theorem dJ0_charAt_5068e_15 : decode cJ0_charAt_5068e 15 = .ok (.ireturn, 1) := rfl
theorem dJ0_charAt_5068e_16 : decode cJ0_charAt_5068e 16 = .ok (.aload_n 0, 1) := rfl
theorem dJ0_charAt_5068e_17 : decode cJ0_charAt_5068e 17 = .ok (.getfield 9, 3) := rfl
theorem dJ0_charAt_5068e_20 : decode cJ0_charAt_5068e 20 = .ok (.iload_n 1, 1) := rfl
theorem dJ0_charAt_5068e_21 : decode cJ0_charAt_5068e 21 = .ok (.invokestatic 498, 3) := rfl
theorem dJ0_charAt_5068e_24 : decode cJ0_charAt_5068e 24 = .ok (.ireturn, 1) := rfl
def m_J0_charAt_5068e (v0 : Nat) (v1 : Int32) (h : Hp) (Q : Int32 → Hp → Prop) : Prop := m_J0_isLatin1_aae02 v0 h (fun (x1 : Int32) (h2 : Hp) => (x1 = 0 → False) ∧ (¬ x1 = 0 → m_J1_charAt_3b067 v0 v1 h2 (fun (x3 : Int32) (h4 : Hp) => narrow .char (.int x3) = .int x3 ∧ Q x3 h4)))
set_option maxHeartbeats 4000000 in
set_option maxRecDepth 100000 in
theorem s_J0_charAt_5068e {l : Launch} {G : Cx} {v0 : Nat} {d : Nat} (hd : 8 ≤ d) (hv0 : v0 < 16) {v1 : Int32} {h : Hp} {Q : Int32 → Hp → Prop} (hm : m_J0_charAt_5068e v0 v1 h Q) : Ct l G d 0 0 yJ0_charAt_5068e MJ0_charAt_5068e [tS v0, tI v1] h (qI Q) := by
  unfold m_J0_charAt_5068e at hm
  refine Ct.of (L := [some (tS v0), some (tI v1)]) (by decide) rfl rfl (Nat.le_of_ble_eq_true rfl) rfl ?_
  refine r_aload_nS dJ0_charAt_5068e_0 rfl rfl ?_
  refine r_callStrI (d' := d - 1) (as := []) (st := []) hv0 dJ0_charAt_5068e_1 mi_J0_isLatin1_aae02 t_558 t_559 t_560 rfl rfl (Nat.le_of_ble_eq_true rfl) (by omega) ⟨by decide, by decide⟩ ⟨rfl, rfl⟩ (s_J0_isLatin1_aae02 (by omega) hv0 hm) (fun x1 h2 hm => ?_)
  refine r_if_eq (tgt := 16) dJ0_charAt_5068e_4 rfl (fun hc => ?_) (fun hc => ?_)
  · replace hm := hm.1 hc
    refine r_aload_nS dJ0_charAt_5068e_16 rfl rfl ?_
    refine r_strVal hv0 dJ0_charAt_5068e_17 t_2006 ?_
    refine r_iload_n dJ0_charAt_5068e_20 rfl rfl ?_
    exact hm.elim
  · replace hm := hm.2 hc
    refine r_aload_nS dJ0_charAt_5068e_7 rfl rfl ?_
    refine r_strVal hv0 dJ0_charAt_5068e_8 t_2006 ?_
    refine r_iload_n dJ0_charAt_5068e_11 rfl rfl ?_
    refine r_callSI (d' := d - 1) (as := [tS (100 + v0), tI v1]) (st := []) dJ0_charAt_5068e_12 mi_J1_charAt_3b067 t_562 t_563 rfl rfl (Nat.le_of_ble_eq_true rfl) (by omega) ⟨by decide, by decide⟩ ⟨rfl, rfl⟩ (s_J1_charAt_3b067 (by omega) hv0 hm) (fun x3 h4 hm => ?_)
    exact r_zreturn dJ0_charAt_5068e_15 rfl hm.1 ⟨by decide, by decide⟩ ⟨_, rfl, hm.2⟩
theorem dX10_placeIn_0 : decode cX10_placeIn 0 = .ok (.aload_n 0, 1) := by decide +kernel
theorem dX10_placeIn_1 : decode cX10_placeIn 1 = .ok (.getfield 40, 3) := by decide +kernel
theorem dX10_placeIn_4 : decode cX10_placeIn 4 = .ok (.iconst 1, 1) := by decide +kernel
theorem dX10_placeIn_5 : decode cX10_placeIn 5 = .ok (.if_icmp .eq 5, 3) := by decide +kernel
theorem dX10_placeIn_8 : decode cX10_placeIn 8 = .ok (.iconst (-1), 1) := by decide +kernel
theorem dX10_placeIn_9 : decode cX10_placeIn 9 = .ok (.ireturn, 1) := by decide +kernel
theorem dX10_placeIn_10 : decode cX10_placeIn 10 = .ok (.iconst 0, 1) := by decide +kernel
theorem dX10_placeIn_11 : decode cX10_placeIn 11 = .ok (.istore_n 2, 1) := by decide +kernel
theorem dX10_placeIn_12 : decode cX10_placeIn 12 = .ok (.iconst 0, 1) := by decide +kernel
theorem dX10_placeIn_13 : decode cX10_placeIn 13 = .ok (.istore_n 3, 1) := by decide +kernel
theorem dX10_placeIn_14 : decode cX10_placeIn 14 = .ok (.iconst 0, 1) := by decide +kernel
theorem dX10_placeIn_15 : decode cX10_placeIn 15 = .ok (.istore 4, 2) := by decide +kernel
theorem dX10_placeIn_17 : decode cX10_placeIn 17 = .ok (.iload 4, 2) := by decide +kernel
theorem dX10_placeIn_19 : decode cX10_placeIn 19 = .ok (.aload_n 1, 1) := by decide +kernel
theorem dX10_placeIn_20 : decode cX10_placeIn 20 = .ok (.invokevirtual 51, 3) := by decide +kernel
theorem dX10_placeIn_23 : decode cX10_placeIn 23 = .ok (.if_icmp .ge 89, 3) := by decide +kernel
theorem dX10_placeIn_26 : decode cX10_placeIn 26 = .ok (.aload_n 1, 1) := by decide +kernel
theorem dX10_placeIn_27 : decode cX10_placeIn 27 = .ok (.iload 4, 2) := by decide +kernel
theorem dX10_placeIn_29 : decode cX10_placeIn 29 = .ok (.invokevirtual 56, 3) := by decide +kernel
theorem dX10_placeIn_32 : decode cX10_placeIn 32 = .ok (.istore 5, 2) := by decide +kernel
theorem dX10_placeIn_34 : decode cX10_placeIn 34 = .ok (.iload 5, 2) := by decide +kernel
theorem dX10_placeIn_36 : decode cX10_placeIn 36 = .ok (.bipush 32, 2) := by decide +kernel
theorem dX10_placeIn_38 : decode cX10_placeIn 38 = .ok (.if_icmp .ne 26, 3) := by decide +kernel
theorem dX10_placeIn_41 : decode cX10_placeIn 41 = .ok (.iload_n 3, 1) := by decide +kernel
theorem dX10_placeIn_42 : decode cX10_placeIn 42 = .ok (.aload_n 0, 1) := by decide +kernel
theorem dX10_placeIn_43 : decode cX10_placeIn 43 = .ok (.getfield 31, 3) := by decide +kernel
theorem dX10_placeIn_46 : decode cX10_placeIn 46 = .ok (.aload_n 0, 1) := by decide +kernel
theorem dX10_placeIn_47 : decode cX10_placeIn 47 = .ok (.getfield 37, 3) := by decide +kernel
theorem dX10_placeIn_50 : decode cX10_placeIn 50 = .ok (.isub, 1) := by decide +kernel
theorem dX10_placeIn_51 : decode cX10_placeIn 51 = .ok (.if_icmp .ne 5, 3) := by decide +kernel
theorem dX10_placeIn_54 : decode cX10_placeIn 54 = .ok (.iload_n 2, 1) := by decide +kernel
theorem dX10_placeIn_55 : decode cX10_placeIn 55 = .ok (.ireturn, 1) := by decide +kernel
theorem dX10_placeIn_56 : decode cX10_placeIn 56 = .ok (.iinc 2 1, 3) := by decide +kernel
theorem dX10_placeIn_59 : decode cX10_placeIn 59 = .ok (.iconst 0, 1) := by decide +kernel
theorem dX10_placeIn_60 : decode cX10_placeIn 60 = .ok (.istore_n 3, 1) := by decide +kernel
theorem dX10_placeIn_61 : decode cX10_placeIn 61 = .ok (.goto 45, 3) := by decide +kernel
theorem dX10_placeIn_64 : decode cX10_placeIn 64 = .ok (.iload_n 3, 1) := by decide +kernel
theorem dX10_placeIn_65 : decode cX10_placeIn 65 = .ok (.iconst (-1), 1) := by decide +kernel
theorem dX10_placeIn_66 : decode cX10_placeIn 66 = .ok (.if_icmp .eq 40, 3) := by decide +kernel
theorem dX10_placeIn_69 : decode cX10_placeIn 69 = .ok (.aload_n 0, 1) := by decide +kernel
theorem dX10_placeIn_70 : decode cX10_placeIn 70 = .ok (.getfield 37, 3) := by decide +kernel
theorem dX10_placeIn_73 : decode cX10_placeIn 73 = .ok (.iload_n 3, 1) := by decide +kernel
theorem dX10_placeIn_74 : decode cX10_placeIn 74 = .ok (.iadd, 1) := by decide +kernel
theorem dX10_placeIn_75 : decode cX10_placeIn 75 = .ok (.aload_n 0, 1) := by decide +kernel
theorem dX10_placeIn_76 : decode cX10_placeIn 76 = .ok (.getfield 31, 3) := by decide +kernel
theorem dX10_placeIn_79 : decode cX10_placeIn 79 = .ok (.if_icmp .ge 25, 3) := by decide +kernel
theorem dX10_placeIn_82 : decode cX10_placeIn 82 = .ok (.aload_n 0, 1) := by decide +kernel
theorem dX10_placeIn_83 : decode cX10_placeIn 83 = .ok (.getfield 9, 3) := by decide +kernel
theorem dX10_placeIn_86 : decode cX10_placeIn 86 = .ok (.aload_n 0, 1) := by decide +kernel
theorem dX10_placeIn_87 : decode cX10_placeIn 87 = .ok (.getfield 37, 3) := by decide +kernel
theorem dX10_placeIn_90 : decode cX10_placeIn 90 = .ok (.iload_n 3, 1) := by decide +kernel
theorem dX10_placeIn_91 : decode cX10_placeIn 91 = .ok (.iadd, 1) := by decide +kernel
theorem dX10_placeIn_92 : decode cX10_placeIn 92 = .ok (.iaload, 1) := by decide +kernel
theorem dX10_placeIn_93 : decode cX10_placeIn 93 = .ok (.iload 5, 2) := by decide +kernel
theorem dX10_placeIn_95 : decode cX10_placeIn 95 = .ok (.if_icmp .ne 9, 3) := by decide +kernel
theorem dX10_placeIn_98 : decode cX10_placeIn 98 = .ok (.iload_n 3, 1) := by decide +kernel
theorem dX10_placeIn_99 : decode cX10_placeIn 99 = .ok (.iconst 1, 1) := by decide +kernel
theorem dX10_placeIn_100 : decode cX10_placeIn 100 = .ok (.iadd, 1) := by decide +kernel
theorem dX10_placeIn_101 : decode cX10_placeIn 101 = .ok (.goto 4, 3) := by decide +kernel
theorem dX10_placeIn_104 : decode cX10_placeIn 104 = .ok (.iconst (-1), 1) := by decide +kernel
theorem dX10_placeIn_105 : decode cX10_placeIn 105 = .ok (.istore_n 3, 1) := by decide +kernel
theorem dX10_placeIn_106 : decode cX10_placeIn 106 = .ok (.iinc 4 1, 3) := by decide +kernel
theorem dX10_placeIn_109 : decode cX10_placeIn 109 = .ok (.goto (-92), 3) := by decide +kernel
theorem dX10_placeIn_112 : decode cX10_placeIn 112 = .ok (.iconst (-1), 1) := by decide +kernel
theorem dX10_placeIn_113 : decode cX10_placeIn 113 = .ok (.ireturn, 1) := by decide +kernel
def m_X10_placeIn_106 (v1 : Nat) (k17 : Int32 → Int32 → Int32 → Hp → Prop) (Q : Int32 → Hp → Prop) (v2 : Int32) (v3 : Int32) (v4 : Int32) (h : Hp) : Prop := ∀ x1 : Int32, x1 = v4 + 1 → k17 v2 v3 x1 h
set_option maxHeartbeats 4000000 in
set_option maxRecDepth 100000 in
theorem s_X10_placeIn_106 {l : Launch} {G : Cx} {v1 : Nat} {d : Nat} {h0 : Hp} (hd : 10 ≤ d) (hv1 : v1 < 16) {k17 : Int32 → Int32 → Int32 → Hp → Prop} {Q : Int32 → Hp → Prop} (hk17 : ∀ (v2 : Int32) (v3 : Int32) (v4 : Int32) (hh : Hp), k17 v2 v3 v4 hh → Rn l G d 0 0 MX10_placeIn h0 (qI Q) 17 [some (tR 10 0 (some 2)), some (tS v1), some (tI v2), some (tI v3), some (tI v4)] [] hh 0 0) {v2 : Int32} {v3 : Int32} {v4 : Int32} {h : Hp} (hm : m_X10_placeIn_106 v1 k17 Q v2 v3 v4 h) : Rn l G d 0 0 MX10_placeIn h0 (qI Q) 106 [some (tR 10 0 (some 2)), some (tS v1), some (tI v2), some (tI v3), some (tI v4)] [] h 0 0 := by
  unfold m_X10_placeIn_106 at hm
  obtain ⟨x1, e_x1⟩ : ∃ y : Int32, y = v4 + 1 := ⟨_, rfl⟩
  replace hm := hm x1 e_x1
  refine r_iinc (L' := [some (tR 10 0 (some 2)), some (tS v1), some (tI v2), some (tI v3), some (tI x1)]) dX10_placeIn_106 rfl (by rw [e_x1]; rfl) (by decide) rfl ?_
  refine r_goto (tgt := 17) dX10_placeIn_109 rfl ?_
  refine r_keep (L' := [some (tR 10 0 (some 2)), some (tS v1), some (tI v2), some (tI v3), some (tI x1)]) [true, true, true, true, true] rfl ?_
  exact hk17 _ _ _ _ hm
def m_X10_placeIn_105 (v1 : Nat) (k17 : Int32 → Int32 → Int32 → Hp → Prop) (Q : Int32 → Hp → Prop) (v2 : Int32) (v4 : Int32) (s0 : Int32) (h : Hp) : Prop := m_X10_placeIn_106 v1 k17 Q v2 s0 v4 h
set_option maxHeartbeats 4000000 in
set_option maxRecDepth 100000 in
theorem s_X10_placeIn_105 {l : Launch} {G : Cx} {v1 : Nat} {d : Nat} {h0 : Hp} (hd : 10 ≤ d) (hv1 : v1 < 16) {k17 : Int32 → Int32 → Int32 → Hp → Prop} {Q : Int32 → Hp → Prop} (hk17 : ∀ (v2 : Int32) (v3 : Int32) (v4 : Int32) (hh : Hp), k17 v2 v3 v4 hh → Rn l G d 0 0 MX10_placeIn h0 (qI Q) 17 [some (tR 10 0 (some 2)), some (tS v1), some (tI v2), some (tI v3), some (tI v4)] [] hh 0 0) {v2 : Int32} {v4 : Int32} {s0 : Int32} {h : Hp} (hm : m_X10_placeIn_105 v1 k17 Q v2 v4 s0 h) : Rn l G d 0 0 MX10_placeIn h0 (qI Q) 105 [some (tR 10 0 (some 2)), some (tS v1), some (tI v2), none, some (tI v4)] [tI s0] h 0 0 := by
  unfold m_X10_placeIn_105 at hm
  refine r_istore_n (L' := [some (tR 10 0 (some 2)), some (tS v1), some (tI v2), some (tI s0), some (tI v4)]) dX10_placeIn_105 rfl (by decide) rfl ?_
  refine r_keep (L' := [some (tR 10 0 (some 2)), some (tS v1), some (tI v2), some (tI s0), some (tI v4)]) [true, true, true, true, true] rfl ?_
  exact s_X10_placeIn_106 hd hv1 hk17 hm
def m_X10_placeIn_104 (v1 : Nat) (k17 : Int32 → Int32 → Int32 → Hp → Prop) (Q : Int32 → Hp → Prop) (v2 : Int32) (v4 : Int32) (h : Hp) : Prop := m_X10_placeIn_105 v1 k17 Q v2 v4 (-1) h
set_option maxHeartbeats 4000000 in
set_option maxRecDepth 100000 in
theorem s_X10_placeIn_104 {l : Launch} {G : Cx} {v1 : Nat} {d : Nat} {h0 : Hp} (hd : 10 ≤ d) (hv1 : v1 < 16) {k17 : Int32 → Int32 → Int32 → Hp → Prop} {Q : Int32 → Hp → Prop} (hk17 : ∀ (v2 : Int32) (v3 : Int32) (v4 : Int32) (hh : Hp), k17 v2 v3 v4 hh → Rn l G d 0 0 MX10_placeIn h0 (qI Q) 17 [some (tR 10 0 (some 2)), some (tS v1), some (tI v2), some (tI v3), some (tI v4)] [] hh 0 0) {v2 : Int32} {v4 : Int32} {h : Hp} (hm : m_X10_placeIn_104 v1 k17 Q v2 v4 h) : Rn l G d 0 0 MX10_placeIn h0 (qI Q) 104 [some (tR 10 0 (some 2)), some (tS v1), some (tI v2), none, some (tI v4)] [] h 0 0 := by
  unfold m_X10_placeIn_104 at hm
  refine r_iconst (v := (-1)) dX10_placeIn_104 rfl ?_
  refine r_keep (L' := [some (tR 10 0 (some 2)), some (tS v1), some (tI v2), none, some (tI v4)]) [true, true, true, false, true] rfl ?_
  exact s_X10_placeIn_105 hd hv1 hk17 hm
def m_X10_placeIn_17 (v1 : Nat) : Nat → (Int32 → Hp → Prop) → Int32 → Int32 → Int32 → Hp → Prop
  | 0, _, _, _, _, _ => False
  | n + 1, Q, v2, v3, v4, h => m_J0_length_8abf5 v1 h (fun (x2 : Int32) (h3 : Hp) => (x2 ≤ v4 → Q (-1) h3) ∧ (¬ x2 ≤ v4 → m_J0_charAt_5068e v1 v4 h3 (fun (x4 : Int32) (h5 : Hp) => (¬ x4 = 32 → (v3 = (-1) → m_X10_placeIn_106 v1 (fun (v2 : Int32) (v3 : Int32) (v4 : Int32) (hh : Hp) => m_X10_placeIn_17 v1 n Q v2 v3 v4 hh) Q v2 v3 v4 h5) ∧ (¬ v3 = (-1) → ((hI h5 2 6) ≤ ((hI h5 2 5) + v3) → m_X10_placeIn_104 v1 (fun (v2 : Int32) (v3 : Int32) (v4 : Int32) (hh : Hp) => m_X10_placeIn_17 v1 n Q v2 v3 v4 hh) Q v2 v4 h5) ∧ (¬ (hI h5 2 6) ≤ ((hI h5 2 5) + v3) → vp_in ((hI h5 2 5) + v3) 600 ∧ ((¬ (hI h5 3 (ix ((hI h5 2 5) + v3))) = x4 → m_X10_placeIn_104 v1 (fun (v2 : Int32) (v3 : Int32) (v4 : Int32) (hh : Hp) => m_X10_placeIn_17 v1 n Q v2 v3 v4 hh) Q v2 v4 h5) ∧ ((hI h5 3 (ix ((hI h5 2 5) + v3))) = x4 → m_X10_placeIn_105 v1 (fun (v2 : Int32) (v3 : Int32) (v4 : Int32) (hh : Hp) => m_X10_placeIn_17 v1 n Q v2 v3 v4 hh) Q v2 v4 (v3 + 1) h5))))) ∧ (x4 = 32 → (¬ v3 = ((hI h5 2 6) - (hI h5 2 5)) → ∀ x6 : Int32, x6 = v2 + 1 → m_X10_placeIn_106 v1 (fun (v2 : Int32) (v3 : Int32) (v4 : Int32) (hh : Hp) => m_X10_placeIn_17 v1 n Q v2 v3 v4 hh) Q x6 0 v4 h5) ∧ (v3 = ((hI h5 2 6) - (hI h5 2 5)) → Q v2 h5)))))
set_option maxHeartbeats 4000000 in
set_option maxRecDepth 100000 in
theorem s_X10_placeIn_17 {l : Launch} {G : Cx} {v1 : Nat} {d : Nat} {h0 : Hp} (hd : 10 ≤ d) (hv1 : v1 < 16) {Q : Int32 → Hp → Prop} : ∀ {n : Nat} {v2 : Int32} {v3 : Int32} {v4 : Int32} {h : Hp}, m_X10_placeIn_17 v1 n Q v2 v3 v4 h → Rn l G d 0 0 MX10_placeIn h0 (qI Q) 17 [some (tR 10 0 (some 2)), some (tS v1), some (tI v2), some (tI v3), some (tI v4)] [] h 0 0 := by
  intro n
  induction n with
  | zero => intro v2 v3 v4 h hm; exact hm.elim
  | succ n ih =>
    intro v2 v3 v4 h hm
    have hk17 := fun (v2 : Int32) (v3 : Int32) (v4 : Int32) (hh : Hp) (hm : m_X10_placeIn_17 v1 n Q v2 v3 v4 hh) => ih hm
    rw [m_X10_placeIn_17] at hm
    refine r_iload dX10_placeIn_17 rfl ?_
    refine r_aload_nS dX10_placeIn_19 rfl rfl ?_
    refine r_callStrI (d' := d - 1) (as := []) (st := [tI v4]) hv1 dX10_placeIn_20 mi_J0_length_8abf5 t_544 t_545 t_546 rfl rfl (Nat.le_of_ble_eq_true rfl) (by omega) ⟨by decide, by decide⟩ ⟨rfl, rfl⟩ (s_J0_length_8abf5 (by omega) hv1 hm) (fun x2 h3 hm => ?_)
    refine r_icmp_ge (tgt := 112) dX10_placeIn_23 rfl (fun hc => ?_) (fun hc => ?_)
    · replace hm := hm.1 hc
      refine r_iconst (v := (-1)) dX10_placeIn_112 rfl ?_
      exact r_ireturn dX10_placeIn_113 rfl ⟨by decide, by decide⟩ ⟨_, rfl, hm⟩
    · replace hm := hm.2 hc
      refine r_aload_nS dX10_placeIn_26 rfl rfl ?_
      refine r_iload dX10_placeIn_27 rfl ?_
      refine r_callStrI (d' := d - 1) (as := [tI v4]) (st := []) hv1 dX10_placeIn_29 mi_J0_charAt_5068e t_554 t_555 t_556 rfl rfl (Nat.le_of_ble_eq_true rfl) (by omega) ⟨by decide, by decide⟩ ⟨rfl, rfl⟩ (s_J0_charAt_5068e (by omega) hv1 hm) (fun x4 h5 hm => ?_)
      refine r_istore (L' := [some (tR 10 0 (some 2)), some (tS v1), some (tI v2), some (tI v3), some (tI v4), some (tI x4)]) dX10_placeIn_32 (by decide) rfl ?_
      refine r_iload dX10_placeIn_34 rfl ?_
      refine r_bipush (v := 32) dX10_placeIn_36 rfl ?_
      refine r_icmp_ne (tgt := 64) dX10_placeIn_38 rfl (fun hc => ?_) (fun hc => ?_)
      · replace hm := hm.1 hc
        refine r_iload_n dX10_placeIn_64 rfl rfl ?_
        refine r_iconst (v := (-1)) dX10_placeIn_65 rfl ?_
        refine r_icmp_eq (tgt := 106) dX10_placeIn_66 rfl (fun hc => ?_) (fun hc => ?_)
        · replace hm := hm.1 hc
          refine r_keep (L' := [some (tR 10 0 (some 2)), some (tS v1), some (tI v2), some (tI v3), some (tI v4)]) [true, true, true, true, true] rfl ?_
          exact s_X10_placeIn_106 hd hv1 hk17 hm
        · replace hm := hm.2 hc
          refine r_aload_n dX10_placeIn_69 rfl rfl ?_
          refine r_getI (k := 5) cl_10 dX10_placeIn_70 t_44 (Or.inl rfl) gf_10_5 ?_
          refine r_iload_n dX10_placeIn_73 rfl rfl ?_
          refine r_iadd dX10_placeIn_74 ?_
          refine r_aload_n dX10_placeIn_75 rfl rfl ?_
          refine r_getI (k := 6) cl_10 dX10_placeIn_76 t_45 (Or.inl rfl) gf_10_6 ?_
          refine r_icmp_ge (tgt := 104) dX10_placeIn_79 rfl (fun hc => ?_) (fun hc => ?_)
          · replace hm := hm.1 hc
            refine r_keep (L' := [some (tR 10 0 (some 2)), some (tS v1), some (tI v2), none, some (tI v4)]) [true, true, true, false, true] rfl ?_
            exact s_X10_placeIn_104 hd hv1 hk17 hm
          · replace hm := hm.2 hc
            refine r_aload_n dX10_placeIn_82 rfl rfl ?_
            refine r_getC (k := 0) cl_10 dX10_placeIn_83 t_37 gf_10_0.1 gf_10_0.2 (gc_10_0 _) ?_
            refine r_aload_n dX10_placeIn_86 rfl rfl ?_
            refine r_getI (k := 5) cl_10 dX10_placeIn_87 t_44 (Or.inl rfl) gf_10_5 ?_
            refine r_iload_n dX10_placeIn_90 rfl rfl ?_
            refine r_iadd dX10_placeIn_91 ?_
            refine r_iald dX10_placeIn_92 hm.1 ?_
            replace hm := hm.2
            refine r_iload dX10_placeIn_93 rfl ?_
            refine r_icmp_ne (tgt := 104) dX10_placeIn_95 rfl (fun hc => ?_) (fun hc => ?_)
            · replace hm := hm.1 hc
              refine r_keep (L' := [some (tR 10 0 (some 2)), some (tS v1), some (tI v2), none, some (tI v4)]) [true, true, true, false, true] rfl ?_
              exact s_X10_placeIn_104 hd hv1 hk17 hm
            · replace hm := hm.2 hc
              refine r_iload_n dX10_placeIn_98 rfl rfl ?_
              refine r_iconst (v := 1) dX10_placeIn_99 rfl ?_
              refine r_iadd dX10_placeIn_100 ?_
              refine r_goto (tgt := 105) dX10_placeIn_101 rfl ?_
              refine r_keep (L' := [some (tR 10 0 (some 2)), some (tS v1), some (tI v2), none, some (tI v4)]) [true, true, true, false, true] rfl ?_
              exact s_X10_placeIn_105 hd hv1 hk17 hm
      · replace hm := hm.2 hc
        refine r_iload_n dX10_placeIn_41 rfl rfl ?_
        refine r_aload_n dX10_placeIn_42 rfl rfl ?_
        refine r_getI (k := 6) cl_10 dX10_placeIn_43 t_45 (Or.inl rfl) gf_10_6 ?_
        refine r_aload_n dX10_placeIn_46 rfl rfl ?_
        refine r_getI (k := 5) cl_10 dX10_placeIn_47 t_44 (Or.inl rfl) gf_10_5 ?_
        refine r_isub dX10_placeIn_50 ?_
        refine r_icmp_ne (tgt := 56) dX10_placeIn_51 rfl (fun hc => ?_) (fun hc => ?_)
        · replace hm := hm.1 hc
          obtain ⟨x6, e_x6⟩ : ∃ y : Int32, y = v2 + 1 := ⟨_, rfl⟩
          replace hm := hm x6 e_x6
          refine r_iinc (L' := [some (tR 10 0 (some 2)), some (tS v1), some (tI x6), some (tI v3), some (tI v4), some (tI x4)]) dX10_placeIn_56 rfl (by rw [e_x6]; rfl) (by decide) rfl ?_
          refine r_iconst (v := 0) dX10_placeIn_59 rfl ?_
          refine r_istore_n (L' := [some (tR 10 0 (some 2)), some (tS v1), some (tI x6), some (tI 0), some (tI v4), some (tI x4)]) dX10_placeIn_60 rfl (by decide) rfl ?_
          refine r_goto (tgt := 106) dX10_placeIn_61 rfl ?_
          refine r_keep (L' := [some (tR 10 0 (some 2)), some (tS v1), some (tI x6), some (tI 0), some (tI v4)]) [true, true, true, true, true] rfl ?_
          exact s_X10_placeIn_106 hd hv1 hk17 hm
        · replace hm := hm.2 hc
          refine r_iload_n dX10_placeIn_54 rfl rfl ?_
          exact r_ireturn dX10_placeIn_55 rfl ⟨by decide, by decide⟩ ⟨_, rfl, hm⟩
def m_X10_placeIn (v1 : Nat) (h : Hp) (Q : Int32 → Hp → Prop) : Prop := ((hI h 2 4) = 1 → ∃ n17, m_X10_placeIn_17 v1 n17 Q 0 0 0 h) ∧ (¬ (hI h 2 4) = 1 → Q (-1) h)
set_option maxHeartbeats 4000000 in
set_option maxRecDepth 100000 in
theorem s_X10_placeIn {l : Launch} {G : Cx} {v1 : Nat} {d : Nat} (hd : 10 ≤ d) (hv1 : v1 < 16) {h : Hp} {Q : Int32 → Hp → Prop} (hm : m_X10_placeIn v1 h Q) : Ct l G d 0 0 yX10_placeIn MX10_placeIn [tR 10 0 (some 2), tS v1] h (qI Q) := by
  unfold m_X10_placeIn at hm
  refine Ct.of (L := [some (tR 10 0 (some 2)), some (tS v1)]) (by decide) rfl rfl (Nat.le_of_ble_eq_true rfl) rfl ?_
  refine r_aload_n dX10_placeIn_0 rfl rfl ?_
  refine r_getI (k := 4) cl_10 dX10_placeIn_1 t_43 (Or.inl rfl) gf_10_4 ?_
  refine r_iconst (v := 1) dX10_placeIn_4 rfl ?_
  refine r_icmp_eq (tgt := 10) dX10_placeIn_5 rfl (fun hc => ?_) (fun hc => ?_)
  · replace hm := hm.1 hc
    refine r_iconst (v := 0) dX10_placeIn_10 rfl ?_
    refine r_istore_n (L' := [some (tR 10 0 (some 2)), some (tS v1), some (tI 0)]) dX10_placeIn_11 rfl (by decide) rfl ?_
    refine r_iconst (v := 0) dX10_placeIn_12 rfl ?_
    refine r_istore_n (L' := [some (tR 10 0 (some 2)), some (tS v1), some (tI 0), some (tI 0)]) dX10_placeIn_13 rfl (by decide) rfl ?_
    refine r_iconst (v := 0) dX10_placeIn_14 rfl ?_
    refine r_istore (L' := [some (tR 10 0 (some 2)), some (tS v1), some (tI 0), some (tI 0), some (tI 0)]) dX10_placeIn_15 (by decide) rfl ?_
    refine r_keep (L' := [some (tR 10 0 (some 2)), some (tS v1), some (tI 0), some (tI 0), some (tI 0)]) [true, true, true, true, true] rfl ?_
    obtain ⟨n, hm⟩ := hm
    refine s_X10_placeIn_17 hd hv1 hm
  · replace hm := hm.2 hc
    refine r_iconst (v := (-1)) dX10_placeIn_8 rfl ?_
    exact r_ireturn dX10_placeIn_9 rfl ⟨by decide, by decide⟩ ⟨_, rfl, hm⟩
theorem dX10_refuse_0 : decode cX10_refuse 0 = .ok (.aload_n 0, 1) := rfl
theorem dX10_refuse_1 : decode cX10_refuse 1 = .ok (.aload_n 0, 1) := rfl
theorem dX10_refuse_2 : decode cX10_refuse 2 = .ok (.getfield 37, 3) := rfl
theorem dX10_refuse_5 : decode cX10_refuse 5 = .ok (.putfield 15, 3) := rfl
theorem dX10_refuse_8 : decode cX10_refuse 8 = .ok (.iconst 0, 1) := rfl
theorem dX10_refuse_9 : decode cX10_refuse 9 = .ok (.ireturn, 1) := rfl
def m_X10_refuse  (h : Hp) (Q : Int32 → Hp → Prop) : Prop := Q 0 (wI h 2 2 (hI h 2 5))
set_option maxHeartbeats 4000000 in
set_option maxRecDepth 100000 in
theorem s_X10_refuse {l : Launch} {G : Cx} {d : Nat} (hd : 2 ≤ d) {h : Hp} {Q : Int32 → Hp → Prop} (hm : m_X10_refuse h Q) : Ct l G d 0 0 yX10_refuse MX10_refuse [tR 10 0 (some 2)] h (qI Q) := by
  unfold m_X10_refuse at hm
  refine Ct.of (L := [some (tR 10 0 (some 2))]) (by decide) rfl rfl (Nat.le_of_ble_eq_true rfl) rfl ?_
  refine r_aload_n dX10_refuse_0 rfl rfl ?_
  refine r_aload_n dX10_refuse_1 rfl rfl ?_
  refine r_getI (k := 5) cl_10 dX10_refuse_2 t_44 (Or.inl rfl) gf_10_5 ?_
  refine r_putI0 (k := 2) cl_10 dX10_refuse_5 t_40 (Or.inl rfl) gf_10_2 pf_10_2.1 (Or.inl pf_10_2.2) ?_
  refine r_iconst (v := 0) dX10_refuse_8 rfl ?_
  exact r_bret dX10_refuse_9 rfl ⟨by decide, by decide⟩ (by unfold bz; decide) ⟨_, rfl, hm⟩
theorem dX10_advance_0 : decode cX10_advance 0 = .ok (.aload_n 0, 1) := by decide +kernel
theorem dX10_advance_1 : decode cX10_advance 1 = .ok (.aload_n 0, 1) := by decide +kernel
theorem dX10_advance_2 : decode cX10_advance 2 = .ok (.getfield 31, 3) := by decide +kernel
theorem dX10_advance_5 : decode cX10_advance 5 = .ok (.putfield 37, 3) := by decide +kernel
theorem dX10_advance_8 : decode cX10_advance 8 = .ok (.aload_n 0, 1) := by decide +kernel
theorem dX10_advance_9 : decode cX10_advance 9 = .ok (.getfield 37, 3) := by decide +kernel
theorem dX10_advance_12 : decode cX10_advance 12 = .ok (.aload_n 0, 1) := by decide +kernel
theorem dX10_advance_13 : decode cX10_advance 13 = .ok (.getfield 28, 3) := by decide +kernel
theorem dX10_advance_16 : decode cX10_advance 16 = .ok (.if_icmp .ge 44, 3) := by decide +kernel
theorem dX10_advance_19 : decode cX10_advance 19 = .ok (.aload_n 0, 1) := by decide +kernel
theorem dX10_advance_20 : decode cX10_advance 20 = .ok (.getfield 9, 3) := by decide +kernel
theorem dX10_advance_23 : decode cX10_advance 23 = .ok (.aload_n 0, 1) := by decide +kernel
theorem dX10_advance_24 : decode cX10_advance 24 = .ok (.getfield 37, 3) := by decide +kernel
theorem dX10_advance_27 : decode cX10_advance 27 = .ok (.iaload, 1) := by decide +kernel
theorem dX10_advance_28 : decode cX10_advance 28 = .ok (.bipush 32, 2) := by decide +kernel
theorem dX10_advance_30 : decode cX10_advance 30 = .ok (.if_icmp .eq 17, 3) := by decide +kernel
theorem dX10_advance_33 : decode cX10_advance 33 = .ok (.aload_n 0, 1) := by decide +kernel
theorem dX10_advance_34 : decode cX10_advance 34 = .ok (.getfield 9, 3) := by decide +kernel
theorem dX10_advance_37 : decode cX10_advance 37 = .ok (.aload_n 0, 1) := by decide +kernel
theorem dX10_advance_38 : decode cX10_advance 38 = .ok (.getfield 37, 3) := by decide +kernel
theorem dX10_advance_41 : decode cX10_advance 41 = .ok (.iaload, 1) := by decide +kernel
theorem dX10_advance_42 : decode cX10_advance 42 = .ok (.bipush 10, 2) := by decide +kernel
theorem dX10_advance_44 : decode cX10_advance 44 = .ok (.if_icmp .ne 16, 3) := by decide +kernel
theorem dX10_advance_47 : decode cX10_advance 47 = .ok (.aload_n 0, 1) := by decide +kernel
theorem dX10_advance_48 : decode cX10_advance 48 = .ok (.dup, 1) := by decide +kernel
theorem dX10_advance_49 : decode cX10_advance 49 = .ok (.getfield 37, 3) := by decide +kernel
theorem dX10_advance_52 : decode cX10_advance 52 = .ok (.iconst 1, 1) := by decide +kernel
theorem dX10_advance_53 : decode cX10_advance 53 = .ok (.iadd, 1) := by decide +kernel
theorem dX10_advance_54 : decode cX10_advance 54 = .ok (.putfield 37, 3) := by decide +kernel
theorem dX10_advance_57 : decode cX10_advance 57 = .ok (.goto (-49), 3) := by decide +kernel
theorem dX10_advance_60 : decode cX10_advance 60 = .ok (.aload_n 0, 1) := by decide +kernel
theorem dX10_advance_61 : decode cX10_advance 61 = .ok (.aload_n 0, 1) := by decide +kernel
theorem dX10_advance_62 : decode cX10_advance 62 = .ok (.getfield 37, 3) := by decide +kernel
theorem dX10_advance_65 : decode cX10_advance 65 = .ok (.putfield 31, 3) := by decide +kernel
theorem dX10_advance_68 : decode cX10_advance 68 = .ok (.aload_n 0, 1) := by decide +kernel
theorem dX10_advance_69 : decode cX10_advance 69 = .ok (.iconst 1, 1) := by decide +kernel
theorem dX10_advance_70 : decode cX10_advance 70 = .ok (.putfield 40, 3) := by decide +kernel
theorem dX10_advance_73 : decode cX10_advance 73 = .ok (.aload_n 0, 1) := by decide +kernel
theorem dX10_advance_74 : decode cX10_advance 74 = .ok (.getfield 31, 3) := by decide +kernel
theorem dX10_advance_77 : decode cX10_advance 77 = .ok (.aload_n 0, 1) := by decide +kernel
theorem dX10_advance_78 : decode cX10_advance 78 = .ok (.getfield 28, 3) := by decide +kernel
theorem dX10_advance_81 : decode cX10_advance 81 = .ok (.if_icmp .ge 44, 3) := by decide +kernel
theorem dX10_advance_84 : decode cX10_advance 84 = .ok (.aload_n 0, 1) := by decide +kernel
theorem dX10_advance_85 : decode cX10_advance 85 = .ok (.getfield 9, 3) := by decide +kernel
theorem dX10_advance_88 : decode cX10_advance 88 = .ok (.aload_n 0, 1) := by decide +kernel
theorem dX10_advance_89 : decode cX10_advance 89 = .ok (.getfield 31, 3) := by decide +kernel
theorem dX10_advance_92 : decode cX10_advance 92 = .ok (.iaload, 1) := by decide +kernel
theorem dX10_advance_93 : decode cX10_advance 93 = .ok (.bipush 97, 2) := by decide +kernel
theorem dX10_advance_95 : decode cX10_advance 95 = .ok (.if_icmp .lt 30, 3) := by decide +kernel
theorem dX10_advance_98 : decode cX10_advance 98 = .ok (.aload_n 0, 1) := by decide +kernel
theorem dX10_advance_99 : decode cX10_advance 99 = .ok (.getfield 9, 3) := by decide +kernel
theorem dX10_advance_102 : decode cX10_advance 102 = .ok (.aload_n 0, 1) := by decide +kernel
theorem dX10_advance_103 : decode cX10_advance 103 = .ok (.getfield 31, 3) := by decide +kernel
theorem dX10_advance_106 : decode cX10_advance 106 = .ok (.iaload, 1) := by decide +kernel
theorem dX10_advance_107 : decode cX10_advance 107 = .ok (.bipush 122, 2) := by decide +kernel
theorem dX10_advance_109 : decode cX10_advance 109 = .ok (.if_icmp .gt 16, 3) := by decide +kernel
theorem dX10_advance_112 : decode cX10_advance 112 = .ok (.aload_n 0, 1) := by decide +kernel
theorem dX10_advance_113 : decode cX10_advance 113 = .ok (.dup, 1) := by decide +kernel
theorem dX10_advance_114 : decode cX10_advance 114 = .ok (.getfield 31, 3) := by decide +kernel
theorem dX10_advance_117 : decode cX10_advance 117 = .ok (.iconst 1, 1) := by decide +kernel
theorem dX10_advance_118 : decode cX10_advance 118 = .ok (.iadd, 1) := by decide +kernel
theorem dX10_advance_119 : decode cX10_advance 119 = .ok (.putfield 31, 3) := by decide +kernel
theorem dX10_advance_122 : decode cX10_advance 122 = .ok (.goto (-49), 3) := by decide +kernel
theorem dX10_advance_125 : decode cX10_advance 125 = .ok (.aload_n 0, 1) := by decide +kernel
theorem dX10_advance_126 : decode cX10_advance 126 = .ok (.getfield 31, 3) := by decide +kernel
theorem dX10_advance_129 : decode cX10_advance 129 = .ok (.aload_n 0, 1) := by decide +kernel
theorem dX10_advance_130 : decode cX10_advance 130 = .ok (.getfield 37, 3) := by decide +kernel
theorem dX10_advance_133 : decode cX10_advance 133 = .ok (.if_icmp .ne 60, 3) := by decide +kernel
theorem dX10_advance_136 : decode cX10_advance 136 = .ok (.aload_n 0, 1) := by decide +kernel
theorem dX10_advance_137 : decode cX10_advance 137 = .ok (.iconst 2, 1) := by decide +kernel
theorem dX10_advance_138 : decode cX10_advance 138 = .ok (.putfield 40, 3) := by decide +kernel
theorem dX10_advance_141 : decode cX10_advance 141 = .ok (.aload_n 0, 1) := by decide +kernel
theorem dX10_advance_142 : decode cX10_advance 142 = .ok (.getfield 31, 3) := by decide +kernel
theorem dX10_advance_145 : decode cX10_advance 145 = .ok (.aload_n 0, 1) := by decide +kernel
theorem dX10_advance_146 : decode cX10_advance 146 = .ok (.getfield 28, 3) := by decide +kernel
theorem dX10_advance_149 : decode cX10_advance 149 = .ok (.if_icmp .ge 44, 3) := by decide +kernel
theorem dX10_advance_152 : decode cX10_advance 152 = .ok (.aload_n 0, 1) := by decide +kernel
theorem dX10_advance_153 : decode cX10_advance 153 = .ok (.getfield 9, 3) := by decide +kernel
theorem dX10_advance_156 : decode cX10_advance 156 = .ok (.aload_n 0, 1) := by decide +kernel
theorem dX10_advance_157 : decode cX10_advance 157 = .ok (.getfield 31, 3) := by decide +kernel
theorem dX10_advance_160 : decode cX10_advance 160 = .ok (.iaload, 1) := by decide +kernel
theorem dX10_advance_161 : decode cX10_advance 161 = .ok (.bipush 48, 2) := by decide +kernel
theorem dX10_advance_163 : decode cX10_advance 163 = .ok (.if_icmp .lt 30, 3) := by decide +kernel
theorem dX10_advance_166 : decode cX10_advance 166 = .ok (.aload_n 0, 1) := by decide +kernel
theorem dX10_advance_167 : decode cX10_advance 167 = .ok (.getfield 9, 3) := by decide +kernel
theorem dX10_advance_170 : decode cX10_advance 170 = .ok (.aload_n 0, 1) := by decide +kernel
theorem dX10_advance_171 : decode cX10_advance 171 = .ok (.getfield 31, 3) := by decide +kernel
theorem dX10_advance_174 : decode cX10_advance 174 = .ok (.iaload, 1) := by decide +kernel
theorem dX10_advance_175 : decode cX10_advance 175 = .ok (.bipush 57, 2) := by decide +kernel
theorem dX10_advance_177 : decode cX10_advance 177 = .ok (.if_icmp .gt 16, 3) := by decide +kernel
theorem dX10_advance_180 : decode cX10_advance 180 = .ok (.aload_n 0, 1) := by decide +kernel
theorem dX10_advance_181 : decode cX10_advance 181 = .ok (.dup, 1) := by decide +kernel
theorem dX10_advance_182 : decode cX10_advance 182 = .ok (.getfield 31, 3) := by decide +kernel
theorem dX10_advance_185 : decode cX10_advance 185 = .ok (.iconst 1, 1) := by decide +kernel
theorem dX10_advance_186 : decode cX10_advance 186 = .ok (.iadd, 1) := by decide +kernel
theorem dX10_advance_187 : decode cX10_advance 187 = .ok (.putfield 31, 3) := by decide +kernel
theorem dX10_advance_190 : decode cX10_advance 190 = .ok (.goto (-49), 3) := by decide +kernel
theorem dX10_advance_193 : decode cX10_advance 193 = .ok (.aload_n 0, 1) := by decide +kernel
theorem dX10_advance_194 : decode cX10_advance 194 = .ok (.getfield 31, 3) := by decide +kernel
theorem dX10_advance_197 : decode cX10_advance 197 = .ok (.aload_n 0, 1) := by decide +kernel
theorem dX10_advance_198 : decode cX10_advance 198 = .ok (.getfield 37, 3) := by decide +kernel
theorem dX10_advance_201 : decode cX10_advance 201 = .ok (.if_icmp .ne 40, 3) := by decide +kernel
theorem dX10_advance_204 : decode cX10_advance 204 = .ok (.aload_n 0, 1) := by decide +kernel
theorem dX10_advance_205 : decode cX10_advance 205 = .ok (.aload_n 0, 1) := by decide +kernel
theorem dX10_advance_206 : decode cX10_advance 206 = .ok (.getfield 37, 3) := by decide +kernel
theorem dX10_advance_209 : decode cX10_advance 209 = .ok (.aload_n 0, 1) := by decide +kernel
theorem dX10_advance_210 : decode cX10_advance 210 = .ok (.getfield 28, 3) := by decide +kernel
theorem dX10_advance_213 : decode cX10_advance 213 = .ok (.if_icmp .ge 7, 3) := by decide +kernel
theorem dX10_advance_216 : decode cX10_advance 216 = .ok (.iconst 3, 1) := by decide +kernel
theorem dX10_advance_217 : decode cX10_advance 217 = .ok (.goto 4, 3) := by decide +kernel
theorem dX10_advance_220 : decode cX10_advance 220 = .ok (.iconst 0, 1) := by decide +kernel
theorem dX10_advance_221 : decode cX10_advance 221 = .ok (.putfield 40, 3) := by decide +kernel
theorem dX10_advance_224 : decode cX10_advance 224 = .ok (.aload_n 0, 1) := by decide +kernel
theorem dX10_advance_225 : decode cX10_advance 225 = .ok (.aload_n 0, 1) := by decide +kernel
theorem dX10_advance_226 : decode cX10_advance 226 = .ok (.getfield 37, 3) := by decide +kernel
theorem dX10_advance_229 : decode cX10_advance 229 = .ok (.iconst 1, 1) := by decide +kernel
theorem dX10_advance_230 : decode cX10_advance 230 = .ok (.iadd, 1) := by decide +kernel
theorem dX10_advance_231 : decode cX10_advance 231 = .ok (.aload_n 0, 1) := by decide +kernel
theorem dX10_advance_232 : decode cX10_advance 232 = .ok (.getfield 28, 3) := by decide +kernel
theorem dX10_advance_235 : decode cX10_advance 235 = .ok (.invokestatic 22, 3) := by decide +kernel
theorem dX10_advance_238 : decode cX10_advance 238 = .ok (.putfield 31, 3) := by decide +kernel
theorem dX10_advance_241 : decode cX10_advance 241 = .ok (.return_, 1) := by decide +kernel
def m_X10_advance_221  (Q : Hp → Prop) (s1 : Int32) (h : Hp) : Prop := Q (wI (wI h 2 4 s1) 2 6 (if (hI (wI h 2 4 s1) 2 3) < ((hI (wI h 2 4 s1) 2 5) + 1) then (hI (wI h 2 4 s1) 2 3) else ((hI (wI h 2 4 s1) 2 5) + 1)))
set_option maxHeartbeats 4000000 in
set_option maxRecDepth 100000 in
theorem s_X10_advance_221 {l : Launch} {G : Cx} {d : Nat} {h0 : Hp} (hd : 2 ≤ d) {Q : Hp → Prop} {s1 : Int32} {h : Hp} (hm : m_X10_advance_221 Q s1 h) : Rn l G d 0 0 MX10_advance h0 (qV Q) 221 [some (tR 10 0 (some 2))] [tI s1, tR 10 0 (some 2)] h 0 0 := by
  unfold m_X10_advance_221 at hm
  refine r_putI0 (k := 4) cl_10 dX10_advance_221 t_43 (Or.inl rfl) gf_10_4 pf_10_4.1 (Or.inl pf_10_4.2) ?_
  refine r_aload_n dX10_advance_224 rfl rfl ?_
  refine r_aload_n dX10_advance_225 rfl rfl ?_
  refine r_getI (k := 5) cl_10 dX10_advance_226 t_44 (Or.inl rfl) gf_10_5 ?_
  refine r_iconst (v := 1) dX10_advance_229 rfl ?_
  refine r_iadd dX10_advance_230 ?_
  refine r_aload_n dX10_advance_231 rfl rfl ?_
  refine r_getI (k := 3) cl_10 dX10_advance_232 t_42 (Or.inl rfl) gf_10_3 ?_
  refine r_mmin dX10_advance_235 t_512 t_513 t_14 t_514 (by omega) ⟨by decide, by decide⟩ (Nat.le_of_ble_eq_true rfl) ?_
  refine r_putI0 (k := 6) cl_10 dX10_advance_238 t_45 (Or.inl rfl) gf_10_6 pf_10_6.1 (Or.inl pf_10_6.2) ?_
  exact r_return dX10_advance_241 rfl ⟨by decide, by decide⟩ ⟨rfl, hm⟩
def m_X10_advance_193  (Q : Hp → Prop) (h : Hp) : Prop := (¬ (hI h 2 6) = (hI h 2 5) → Q h) ∧ ((hI h 2 6) = (hI h 2 5) → ((hI h 2 3) ≤ (hI h 2 5) → m_X10_advance_221 Q 0 h) ∧ (¬ (hI h 2 3) ≤ (hI h 2 5) → m_X10_advance_221 Q 3 h))
set_option maxHeartbeats 4000000 in
set_option maxRecDepth 100000 in
theorem s_X10_advance_193 {l : Launch} {G : Cx} {d : Nat} {h0 : Hp} (hd : 2 ≤ d) {Q : Hp → Prop} {h : Hp} (hm : m_X10_advance_193 Q h) : Rn l G d 0 0 MX10_advance h0 (qV Q) 193 [some (tR 10 0 (some 2))] [] h 0 0 := by
  unfold m_X10_advance_193 at hm
  refine r_aload_n dX10_advance_193 rfl rfl ?_
  refine r_getI (k := 6) cl_10 dX10_advance_194 t_45 (Or.inl rfl) gf_10_6 ?_
  refine r_aload_n dX10_advance_197 rfl rfl ?_
  refine r_getI (k := 5) cl_10 dX10_advance_198 t_44 (Or.inl rfl) gf_10_5 ?_
  refine r_icmp_ne (tgt := 241) dX10_advance_201 rfl (fun hc => ?_) (fun hc => ?_)
  · replace hm := hm.1 hc
    exact r_return dX10_advance_241 rfl ⟨by decide, by decide⟩ ⟨rfl, hm⟩
  · replace hm := hm.2 hc
    refine r_aload_n dX10_advance_204 rfl rfl ?_
    refine r_aload_n dX10_advance_205 rfl rfl ?_
    refine r_getI (k := 5) cl_10 dX10_advance_206 t_44 (Or.inl rfl) gf_10_5 ?_
    refine r_aload_n dX10_advance_209 rfl rfl ?_
    refine r_getI (k := 3) cl_10 dX10_advance_210 t_42 (Or.inl rfl) gf_10_3 ?_
    refine r_icmp_ge (tgt := 220) dX10_advance_213 rfl (fun hc => ?_) (fun hc => ?_)
    · replace hm := hm.1 hc
      refine r_iconst (v := 0) dX10_advance_220 rfl ?_
      refine r_keep (L' := [some (tR 10 0 (some 2))]) [true] rfl ?_
      exact s_X10_advance_221 hd hm
    · replace hm := hm.2 hc
      refine r_iconst (v := 3) dX10_advance_216 rfl ?_
      refine r_goto (tgt := 221) dX10_advance_217 rfl ?_
      refine r_keep (L' := [some (tR 10 0 (some 2))]) [true] rfl ?_
      exact s_X10_advance_221 hd hm
def m_X10_advance_141 : Nat → (Hp → Prop) → (Hp → Prop) → Hp → Prop
  | 0, _, _, _ => False
  | n + 1, k193, Q, h => ((hI h 2 3) ≤ (hI h 2 6) → k193 h) ∧ (¬ (hI h 2 3) ≤ (hI h 2 6) → vp_in (hI h 2 6) 600 ∧ (((hI h 3 (ix (hI h 2 6))) < 48 → k193 h) ∧ (¬ (hI h 3 (ix (hI h 2 6))) < 48 → vp_in (hI h 2 6) 600 ∧ ((57 < (hI h 3 (ix (hI h 2 6))) → k193 h) ∧ (¬ 57 < (hI h 3 (ix (hI h 2 6))) → m_X10_advance_141 n k193 Q (wI h 2 6 ((hI h 2 6) + 1)))))))
set_option maxHeartbeats 4000000 in
set_option maxRecDepth 100000 in
theorem s_X10_advance_141 {l : Launch} {G : Cx} {d : Nat} {h0 : Hp} (hd : 2 ≤ d) {k193 : Hp → Prop} {Q : Hp → Prop} (hk193 : ∀ (hh : Hp), k193 hh → Rn l G d 0 0 MX10_advance h0 (qV Q) 193 [some (tR 10 0 (some 2))] [] hh 0 0) : ∀ {n : Nat} {h : Hp}, m_X10_advance_141 n k193 Q h → Rn l G d 0 0 MX10_advance h0 (qV Q) 141 [some (tR 10 0 (some 2))] [] h 0 0 := by
  intro n
  induction n with
  | zero => intro h hm; exact hm.elim
  | succ n ih =>
    intro h hm
    have hk141 := fun (hh : Hp) (hm : m_X10_advance_141 n k193 Q hh) => ih hm
    rw [m_X10_advance_141] at hm
    refine r_aload_n dX10_advance_141 rfl rfl ?_
    refine r_getI (k := 6) cl_10 dX10_advance_142 t_45 (Or.inl rfl) gf_10_6 ?_
    refine r_aload_n dX10_advance_145 rfl rfl ?_
    refine r_getI (k := 3) cl_10 dX10_advance_146 t_42 (Or.inl rfl) gf_10_3 ?_
    refine r_icmp_ge (tgt := 193) dX10_advance_149 rfl (fun hc => ?_) (fun hc => ?_)
    · replace hm := hm.1 hc
      refine r_keep (L' := [some (tR 10 0 (some 2))]) [true] rfl ?_
      exact hk193 _ hm
    · replace hm := hm.2 hc
      refine r_aload_n dX10_advance_152 rfl rfl ?_
      refine r_getC (k := 0) cl_10 dX10_advance_153 t_37 gf_10_0.1 gf_10_0.2 (gc_10_0 _) ?_
      refine r_aload_n dX10_advance_156 rfl rfl ?_
      refine r_getI (k := 6) cl_10 dX10_advance_157 t_45 (Or.inl rfl) gf_10_6 ?_
      refine r_iald dX10_advance_160 hm.1 ?_
      replace hm := hm.2
      refine r_bipush (v := 48) dX10_advance_161 rfl ?_
      refine r_icmp_lt (tgt := 193) dX10_advance_163 rfl (fun hc => ?_) (fun hc => ?_)
      · replace hm := hm.1 hc
        refine r_keep (L' := [some (tR 10 0 (some 2))]) [true] rfl ?_
        exact hk193 _ hm
      · replace hm := hm.2 hc
        refine r_aload_n dX10_advance_166 rfl rfl ?_
        refine r_getC (k := 0) cl_10 dX10_advance_167 t_37 gf_10_0.1 gf_10_0.2 (gc_10_0 _) ?_
        refine r_aload_n dX10_advance_170 rfl rfl ?_
        refine r_getI (k := 6) cl_10 dX10_advance_171 t_45 (Or.inl rfl) gf_10_6 ?_
        refine r_iald dX10_advance_174 hm.1 ?_
        replace hm := hm.2
        refine r_bipush (v := 57) dX10_advance_175 rfl ?_
        refine r_icmp_gt (tgt := 193) dX10_advance_177 rfl (fun hc => ?_) (fun hc => ?_)
        · replace hm := hm.1 hc
          refine r_keep (L' := [some (tR 10 0 (some 2))]) [true] rfl ?_
          exact hk193 _ hm
        · replace hm := hm.2 hc
          refine r_aload_n dX10_advance_180 rfl rfl ?_
          refine r_dup dX10_advance_181 cv_cat1R ?_
          refine r_getI (k := 6) cl_10 dX10_advance_182 t_45 (Or.inl rfl) gf_10_6 ?_
          refine r_iconst (v := 1) dX10_advance_185 rfl ?_
          refine r_iadd dX10_advance_186 ?_
          refine r_putI0 (k := 6) cl_10 dX10_advance_187 t_45 (Or.inl rfl) gf_10_6 pf_10_6.1 (Or.inl pf_10_6.2) ?_
          refine r_goto (tgt := 141) dX10_advance_190 rfl ?_
          refine r_keep (L' := [some (tR 10 0 (some 2))]) [true] rfl ?_
          exact hk141 _ hm
def m_X10_advance_125  (Q : Hp → Prop) (h : Hp) : Prop := (¬ (hI h 2 6) = (hI h 2 5) → m_X10_advance_193 Q h) ∧ ((hI h 2 6) = (hI h 2 5) → ∃ n141, m_X10_advance_141 n141 (m_X10_advance_193 Q) Q (wI h 2 4 2))
set_option maxHeartbeats 4000000 in
set_option maxRecDepth 100000 in
theorem s_X10_advance_125 {l : Launch} {G : Cx} {d : Nat} {h0 : Hp} (hd : 2 ≤ d) {Q : Hp → Prop} {h : Hp} (hm : m_X10_advance_125 Q h) : Rn l G d 0 0 MX10_advance h0 (qV Q) 125 [some (tR 10 0 (some 2))] [] h 0 0 := by
  unfold m_X10_advance_125 at hm
  refine r_aload_n dX10_advance_125 rfl rfl ?_
  refine r_getI (k := 6) cl_10 dX10_advance_126 t_45 (Or.inl rfl) gf_10_6 ?_
  refine r_aload_n dX10_advance_129 rfl rfl ?_
  refine r_getI (k := 5) cl_10 dX10_advance_130 t_44 (Or.inl rfl) gf_10_5 ?_
  refine r_icmp_ne (tgt := 193) dX10_advance_133 rfl (fun hc => ?_) (fun hc => ?_)
  · replace hm := hm.1 hc
    refine r_keep (L' := [some (tR 10 0 (some 2))]) [true] rfl ?_
    exact s_X10_advance_193 hd hm
  · replace hm := hm.2 hc
    refine r_aload_n dX10_advance_136 rfl rfl ?_
    refine r_iconst (v := 2) dX10_advance_137 rfl ?_
    refine r_putI0 (k := 4) cl_10 dX10_advance_138 t_43 (Or.inl rfl) gf_10_4 pf_10_4.1 (Or.inl pf_10_4.2) ?_
    refine r_keep (L' := [some (tR 10 0 (some 2))]) [true] rfl ?_
    obtain ⟨n, hm⟩ := hm
    refine s_X10_advance_141 hd ?_ hm
    · exact (fun _ hm => s_X10_advance_193 hd hm)
def m_X10_advance_73 : Nat → (Hp → Prop) → (Hp → Prop) → Hp → Prop
  | 0, _, _, _ => False
  | n + 1, k125, Q, h => ((hI h 2 3) ≤ (hI h 2 6) → k125 h) ∧ (¬ (hI h 2 3) ≤ (hI h 2 6) → vp_in (hI h 2 6) 600 ∧ (((hI h 3 (ix (hI h 2 6))) < 97 → k125 h) ∧ (¬ (hI h 3 (ix (hI h 2 6))) < 97 → vp_in (hI h 2 6) 600 ∧ ((122 < (hI h 3 (ix (hI h 2 6))) → k125 h) ∧ (¬ 122 < (hI h 3 (ix (hI h 2 6))) → m_X10_advance_73 n k125 Q (wI h 2 6 ((hI h 2 6) + 1)))))))
set_option maxHeartbeats 4000000 in
set_option maxRecDepth 100000 in
theorem s_X10_advance_73 {l : Launch} {G : Cx} {d : Nat} {h0 : Hp} (hd : 2 ≤ d) {k125 : Hp → Prop} {Q : Hp → Prop} (hk125 : ∀ (hh : Hp), k125 hh → Rn l G d 0 0 MX10_advance h0 (qV Q) 125 [some (tR 10 0 (some 2))] [] hh 0 0) : ∀ {n : Nat} {h : Hp}, m_X10_advance_73 n k125 Q h → Rn l G d 0 0 MX10_advance h0 (qV Q) 73 [some (tR 10 0 (some 2))] [] h 0 0 := by
  intro n
  induction n with
  | zero => intro h hm; exact hm.elim
  | succ n ih =>
    intro h hm
    have hk73 := fun (hh : Hp) (hm : m_X10_advance_73 n k125 Q hh) => ih hm
    rw [m_X10_advance_73] at hm
    refine r_aload_n dX10_advance_73 rfl rfl ?_
    refine r_getI (k := 6) cl_10 dX10_advance_74 t_45 (Or.inl rfl) gf_10_6 ?_
    refine r_aload_n dX10_advance_77 rfl rfl ?_
    refine r_getI (k := 3) cl_10 dX10_advance_78 t_42 (Or.inl rfl) gf_10_3 ?_
    refine r_icmp_ge (tgt := 125) dX10_advance_81 rfl (fun hc => ?_) (fun hc => ?_)
    · replace hm := hm.1 hc
      refine r_keep (L' := [some (tR 10 0 (some 2))]) [true] rfl ?_
      exact hk125 _ hm
    · replace hm := hm.2 hc
      refine r_aload_n dX10_advance_84 rfl rfl ?_
      refine r_getC (k := 0) cl_10 dX10_advance_85 t_37 gf_10_0.1 gf_10_0.2 (gc_10_0 _) ?_
      refine r_aload_n dX10_advance_88 rfl rfl ?_
      refine r_getI (k := 6) cl_10 dX10_advance_89 t_45 (Or.inl rfl) gf_10_6 ?_
      refine r_iald dX10_advance_92 hm.1 ?_
      replace hm := hm.2
      refine r_bipush (v := 97) dX10_advance_93 rfl ?_
      refine r_icmp_lt (tgt := 125) dX10_advance_95 rfl (fun hc => ?_) (fun hc => ?_)
      · replace hm := hm.1 hc
        refine r_keep (L' := [some (tR 10 0 (some 2))]) [true] rfl ?_
        exact hk125 _ hm
      · replace hm := hm.2 hc
        refine r_aload_n dX10_advance_98 rfl rfl ?_
        refine r_getC (k := 0) cl_10 dX10_advance_99 t_37 gf_10_0.1 gf_10_0.2 (gc_10_0 _) ?_
        refine r_aload_n dX10_advance_102 rfl rfl ?_
        refine r_getI (k := 6) cl_10 dX10_advance_103 t_45 (Or.inl rfl) gf_10_6 ?_
        refine r_iald dX10_advance_106 hm.1 ?_
        replace hm := hm.2
        refine r_bipush (v := 122) dX10_advance_107 rfl ?_
        refine r_icmp_gt (tgt := 125) dX10_advance_109 rfl (fun hc => ?_) (fun hc => ?_)
        · replace hm := hm.1 hc
          refine r_keep (L' := [some (tR 10 0 (some 2))]) [true] rfl ?_
          exact hk125 _ hm
        · replace hm := hm.2 hc
          refine r_aload_n dX10_advance_112 rfl rfl ?_
          refine r_dup dX10_advance_113 cv_cat1R ?_
          refine r_getI (k := 6) cl_10 dX10_advance_114 t_45 (Or.inl rfl) gf_10_6 ?_
          refine r_iconst (v := 1) dX10_advance_117 rfl ?_
          refine r_iadd dX10_advance_118 ?_
          refine r_putI0 (k := 6) cl_10 dX10_advance_119 t_45 (Or.inl rfl) gf_10_6 pf_10_6.1 (Or.inl pf_10_6.2) ?_
          refine r_goto (tgt := 73) dX10_advance_122 rfl ?_
          refine r_keep (L' := [some (tR 10 0 (some 2))]) [true] rfl ?_
          exact hk73 _ hm
def m_X10_advance_60  (Q : Hp → Prop) (h : Hp) : Prop := ∃ n73, m_X10_advance_73 n73 (m_X10_advance_125 Q) Q (wI (wI h 2 6 (hI h 2 5)) 2 4 1)
set_option maxHeartbeats 4000000 in
set_option maxRecDepth 100000 in
theorem s_X10_advance_60 {l : Launch} {G : Cx} {d : Nat} {h0 : Hp} (hd : 2 ≤ d) {Q : Hp → Prop} {h : Hp} (hm : m_X10_advance_60 Q h) : Rn l G d 0 0 MX10_advance h0 (qV Q) 60 [some (tR 10 0 (some 2))] [] h 0 0 := by
  unfold m_X10_advance_60 at hm
  refine r_aload_n dX10_advance_60 rfl rfl ?_
  refine r_aload_n dX10_advance_61 rfl rfl ?_
  refine r_getI (k := 5) cl_10 dX10_advance_62 t_44 (Or.inl rfl) gf_10_5 ?_
  refine r_putI0 (k := 6) cl_10 dX10_advance_65 t_45 (Or.inl rfl) gf_10_6 pf_10_6.1 (Or.inl pf_10_6.2) ?_
  refine r_aload_n dX10_advance_68 rfl rfl ?_
  refine r_iconst (v := 1) dX10_advance_69 rfl ?_
  refine r_putI0 (k := 4) cl_10 dX10_advance_70 t_43 (Or.inl rfl) gf_10_4 pf_10_4.1 (Or.inl pf_10_4.2) ?_
  refine r_keep (L' := [some (tR 10 0 (some 2))]) [true] rfl ?_
  obtain ⟨n, hm⟩ := hm
  refine s_X10_advance_73 hd ?_ hm
  · exact (fun _ hm => s_X10_advance_125 hd hm)
def m_X10_advance_47 (k8 : Hp → Prop) (k60 : Hp → Prop) (Q : Hp → Prop) (h : Hp) : Prop := k8 (wI h 2 5 ((hI h 2 5) + 1))
set_option maxHeartbeats 4000000 in
set_option maxRecDepth 100000 in
theorem s_X10_advance_47 {l : Launch} {G : Cx} {d : Nat} {h0 : Hp} (hd : 2 ≤ d) {k8 : Hp → Prop} {k60 : Hp → Prop} {Q : Hp → Prop} (hk8 : ∀ (hh : Hp), k8 hh → Rn l G d 0 0 MX10_advance h0 (qV Q) 8 [some (tR 10 0 (some 2))] [] hh 0 0) (hk60 : ∀ (hh : Hp), k60 hh → Rn l G d 0 0 MX10_advance h0 (qV Q) 60 [some (tR 10 0 (some 2))] [] hh 0 0) {h : Hp} (hm : m_X10_advance_47 k8 k60 Q h) : Rn l G d 0 0 MX10_advance h0 (qV Q) 47 [some (tR 10 0 (some 2))] [] h 0 0 := by
  unfold m_X10_advance_47 at hm
  refine r_aload_n dX10_advance_47 rfl rfl ?_
  refine r_dup dX10_advance_48 cv_cat1R ?_
  refine r_getI (k := 5) cl_10 dX10_advance_49 t_44 (Or.inl rfl) gf_10_5 ?_
  refine r_iconst (v := 1) dX10_advance_52 rfl ?_
  refine r_iadd dX10_advance_53 ?_
  refine r_putI0 (k := 5) cl_10 dX10_advance_54 t_44 (Or.inl rfl) gf_10_5 pf_10_5.1 (Or.inl pf_10_5.2) ?_
  refine r_goto (tgt := 8) dX10_advance_57 rfl ?_
  refine r_keep (L' := [some (tR 10 0 (some 2))]) [true] rfl ?_
  exact hk8 _ hm
def m_X10_advance_8 : Nat → (Hp → Prop) → (Hp → Prop) → Hp → Prop
  | 0, _, _, _ => False
  | n + 1, k60, Q, h => ((hI h 2 3) ≤ (hI h 2 5) → k60 h) ∧ (¬ (hI h 2 3) ≤ (hI h 2 5) → vp_in (hI h 2 5) 600 ∧ (((hI h 3 (ix (hI h 2 5))) = 32 → m_X10_advance_47 (fun (hh : Hp) => m_X10_advance_8 n k60 Q hh) k60 Q h) ∧ (¬ (hI h 3 (ix (hI h 2 5))) = 32 → vp_in (hI h 2 5) 600 ∧ ((¬ (hI h 3 (ix (hI h 2 5))) = 10 → k60 h) ∧ ((hI h 3 (ix (hI h 2 5))) = 10 → m_X10_advance_47 (fun (hh : Hp) => m_X10_advance_8 n k60 Q hh) k60 Q h)))))
set_option maxHeartbeats 4000000 in
set_option maxRecDepth 100000 in
theorem s_X10_advance_8 {l : Launch} {G : Cx} {d : Nat} {h0 : Hp} (hd : 2 ≤ d) {k60 : Hp → Prop} {Q : Hp → Prop} (hk60 : ∀ (hh : Hp), k60 hh → Rn l G d 0 0 MX10_advance h0 (qV Q) 60 [some (tR 10 0 (some 2))] [] hh 0 0) : ∀ {n : Nat} {h : Hp}, m_X10_advance_8 n k60 Q h → Rn l G d 0 0 MX10_advance h0 (qV Q) 8 [some (tR 10 0 (some 2))] [] h 0 0 := by
  intro n
  induction n with
  | zero => intro h hm; exact hm.elim
  | succ n ih =>
    intro h hm
    have hk8 := fun (hh : Hp) (hm : m_X10_advance_8 n k60 Q hh) => ih hm
    rw [m_X10_advance_8] at hm
    refine r_aload_n dX10_advance_8 rfl rfl ?_
    refine r_getI (k := 5) cl_10 dX10_advance_9 t_44 (Or.inl rfl) gf_10_5 ?_
    refine r_aload_n dX10_advance_12 rfl rfl ?_
    refine r_getI (k := 3) cl_10 dX10_advance_13 t_42 (Or.inl rfl) gf_10_3 ?_
    refine r_icmp_ge (tgt := 60) dX10_advance_16 rfl (fun hc => ?_) (fun hc => ?_)
    · replace hm := hm.1 hc
      refine r_keep (L' := [some (tR 10 0 (some 2))]) [true] rfl ?_
      exact hk60 _ hm
    · replace hm := hm.2 hc
      refine r_aload_n dX10_advance_19 rfl rfl ?_
      refine r_getC (k := 0) cl_10 dX10_advance_20 t_37 gf_10_0.1 gf_10_0.2 (gc_10_0 _) ?_
      refine r_aload_n dX10_advance_23 rfl rfl ?_
      refine r_getI (k := 5) cl_10 dX10_advance_24 t_44 (Or.inl rfl) gf_10_5 ?_
      refine r_iald dX10_advance_27 hm.1 ?_
      replace hm := hm.2
      refine r_bipush (v := 32) dX10_advance_28 rfl ?_
      refine r_icmp_eq (tgt := 47) dX10_advance_30 rfl (fun hc => ?_) (fun hc => ?_)
      · replace hm := hm.1 hc
        refine r_keep (L' := [some (tR 10 0 (some 2))]) [true] rfl ?_
        exact s_X10_advance_47 hd hk8 hk60 hm
      · replace hm := hm.2 hc
        refine r_aload_n dX10_advance_33 rfl rfl ?_
        refine r_getC (k := 0) cl_10 dX10_advance_34 t_37 gf_10_0.1 gf_10_0.2 (gc_10_0 _) ?_
        refine r_aload_n dX10_advance_37 rfl rfl ?_
        refine r_getI (k := 5) cl_10 dX10_advance_38 t_44 (Or.inl rfl) gf_10_5 ?_
        refine r_iald dX10_advance_41 hm.1 ?_
        replace hm := hm.2
        refine r_bipush (v := 10) dX10_advance_42 rfl ?_
        refine r_icmp_ne (tgt := 60) dX10_advance_44 rfl (fun hc => ?_) (fun hc => ?_)
        · replace hm := hm.1 hc
          refine r_keep (L' := [some (tR 10 0 (some 2))]) [true] rfl ?_
          exact hk60 _ hm
        · replace hm := hm.2 hc
          refine r_keep (L' := [some (tR 10 0 (some 2))]) [true] rfl ?_
          exact s_X10_advance_47 hd hk8 hk60 hm
def m_X10_advance  (h : Hp) (Q : Hp → Prop) : Prop := ∃ n8, m_X10_advance_8 n8 (m_X10_advance_60 Q) Q (wI h 2 5 (hI h 2 6))
set_option maxHeartbeats 4000000 in
set_option maxRecDepth 100000 in
theorem s_X10_advance {l : Launch} {G : Cx} {d : Nat} (hd : 2 ≤ d) {h : Hp} {Q : Hp → Prop} (hm : m_X10_advance h Q) : Ct l G d 0 0 yX10_advance MX10_advance [tR 10 0 (some 2)] h (qV Q) := by
  unfold m_X10_advance at hm
  refine Ct.of (L := [some (tR 10 0 (some 2))]) (by decide) rfl rfl (Nat.le_of_ble_eq_true rfl) rfl ?_
  refine r_aload_n dX10_advance_0 rfl rfl ?_
  refine r_aload_n dX10_advance_1 rfl rfl ?_
  refine r_getI (k := 6) cl_10 dX10_advance_2 t_45 (Or.inl rfl) gf_10_6 ?_
  refine r_putI0 (k := 5) cl_10 dX10_advance_5 t_44 (Or.inl rfl) gf_10_5 pf_10_5.1 (Or.inl pf_10_5.2) ?_
  refine r_keep (L' := [some (tR 10 0 (some 2))]) [true] rfl ?_
  obtain ⟨n, hm⟩ := hm
  refine s_X10_advance_8 hd ?_ hm
  · exact (fun _ hm => s_X10_advance_60 hd hm)
theorem dX10_takeOneOf_0 : decode cX10_takeOneOf 0 = .ok (.aload_n 0, 1) := rfl
theorem dX10_takeOneOf_1 : decode cX10_takeOneOf 1 = .ok (.aload_n 1, 1) := rfl
theorem dX10_takeOneOf_2 : decode cX10_takeOneOf 2 = .ok (.invokevirtual 60, 3) := rfl
theorem dX10_takeOneOf_5 : decode cX10_takeOneOf 5 = .ok (.istore_n 2, 1) := rfl
theorem dX10_takeOneOf_6 : decode cX10_takeOneOf 6 = .ok (.iload_n 2, 1) := rfl
theorem dX10_takeOneOf_7 : decode cX10_takeOneOf 7 = .ok (.iconst (-1), 1) := rfl
theorem dX10_takeOneOf_8 : decode cX10_takeOneOf 8 = .ok (.if_icmp .ne 11, 3) := by decide +kernel
theorem dX10_takeOneOf_11 : decode cX10_takeOneOf 11 = .ok (.aload_n 0, 1) := rfl
theorem dX10_takeOneOf_12 : decode cX10_takeOneOf 12 = .ok (.invokevirtual 47, 3) := rfl
theorem dX10_takeOneOf_15 : decode cX10_takeOneOf 15 = .ok (.pop, 1) := rfl
theorem dX10_takeOneOf_16 : decode cX10_takeOneOf 16 = .ok (.goto 7, 3) := by decide +kernel
theorem dX10_takeOneOf_19 : decode cX10_takeOneOf 19 = .ok (.aload_n 0, 1) := rfl
theorem dX10_takeOneOf_20 : decode cX10_takeOneOf 20 = .ok (.invokevirtual 34, 3) := rfl
theorem dX10_takeOneOf_23 : decode cX10_takeOneOf 23 = .ok (.iload_n 2, 1) := rfl
theorem dX10_takeOneOf_24 : decode cX10_takeOneOf 24 = .ok (.ireturn, 1) := rfl
def m_X10_takeOneOf (v1 : Nat) (h : Hp) (Q : Int32 → Hp → Prop) : Prop := m_X10_placeIn v1 h (fun (x1 : Int32) (h2 : Hp) => (¬ x1 = (-1) → m_X10_advance h2 (fun (h4 : Hp) => Q x1 h4)) ∧ (x1 = (-1) → m_X10_refuse h2 (fun (x5 : Int32) (h6 : Hp) => Q x1 h6)))
set_option maxHeartbeats 4000000 in
set_option maxRecDepth 100000 in
theorem s_X10_takeOneOf {l : Launch} {G : Cx} {v1 : Nat} {d : Nat} (hd : 12 ≤ d) (hv1 : v1 < 16) {h : Hp} {Q : Int32 → Hp → Prop} (hm : m_X10_takeOneOf v1 h Q) : Ct l G d 0 0 yX10_takeOneOf MX10_takeOneOf [tR 10 0 (some 2), tS v1] h (qI Q) := by
  unfold m_X10_takeOneOf at hm
  refine Ct.of (L := [some (tR 10 0 (some 2)), some (tS v1)]) (by decide) rfl rfl (Nat.le_of_ble_eq_true rfl) rfl ?_
  refine r_aload_n dX10_takeOneOf_0 rfl rfl ?_
  refine r_aload_nS dX10_takeOneOf_1 rfl rfl ?_
  refine r_callVI (d' := d - 1) (as := [tS v1]) (st := []) cl_10 dX10_takeOneOf_2 mi_X10_placeIn t_610 t_541 t_542 rfl rfl (Nat.le_of_ble_eq_true rfl) (by omega) ⟨by decide, by decide⟩ ⟨rfl, rfl⟩ (s_X10_placeIn (by omega) hv1 hm) (fun x1 h2 hm => ?_)
  refine r_istore_n (L' := [some (tR 10 0 (some 2)), some (tS v1), some (tI x1)]) dX10_takeOneOf_5 rfl (by decide) rfl ?_
  refine r_iload_n dX10_takeOneOf_6 rfl rfl ?_
  refine r_iconst (v := (-1)) dX10_takeOneOf_7 rfl ?_
  refine r_icmp_ne (tgt := 19) dX10_takeOneOf_8 rfl (fun hc => ?_) (fun hc => ?_)
  · replace hm := hm.1 hc
    refine r_aload_n dX10_takeOneOf_19 rfl rfl ?_
    refine r_callVU (d' := d - 1) (as := []) (st := []) cl_10 dX10_takeOneOf_20 mi_X10_advance t_515 t_516 t_517 rfl rfl (Nat.le_of_ble_eq_true rfl) (by omega) ⟨by decide, by decide⟩ ⟨rfl, rfl⟩ (s_X10_advance (by omega) hm) (fun h4 hm => ?_)
    refine r_iload_n dX10_takeOneOf_23 rfl rfl ?_
    exact r_ireturn dX10_takeOneOf_24 rfl ⟨by decide, by decide⟩ ⟨_, rfl, hm⟩
  · replace hm := hm.2 hc
    refine r_aload_n dX10_takeOneOf_11 rfl rfl ?_
    refine r_callVI (d' := d - 1) (as := []) (st := []) cl_10 dX10_takeOneOf_12 mi_X10_refuse t_611 t_597 t_598 rfl rfl (Nat.le_of_ble_eq_true rfl) (by omega) ⟨by decide, by decide⟩ ⟨rfl, rfl⟩ (s_X10_refuse (by omega) hm) (fun x5 h6 hm => ?_)
    refine r_pop dX10_takeOneOf_15 rfl ?_
    refine r_goto (tgt := 23) dX10_takeOneOf_16 rfl ?_
    refine r_iload_n dX10_takeOneOf_23 rfl rfl ?_
    exact r_ireturn dX10_takeOneOf_24 rfl ⟨by decide, by decide⟩ ⟨_, rfl, hm⟩
theorem dX2_readTwo_0 : decode cX2_readTwo 0 = .ok (.aload_n 0, 1) := rfl
theorem dX2_readTwo_1 : decode cX2_readTwo 1 = .ok (.getfield 18, 3) := rfl
theorem dX2_readTwo_4 : decode cX2_readTwo 4 = .ok (.iconst 1, 1) := rfl
theorem dX2_readTwo_5 : decode cX2_readTwo 5 = .ok (.aload_n 0, 1) := rfl
theorem dX2_readTwo_6 : decode cX2_readTwo 6 = .ok (.getfield 22, 3) := rfl
theorem dX2_readTwo_9 : decode cX2_readTwo 9 = .ok (.ldc 135, 2) := rfl
theorem dX2_readTwo_11 : decode cX2_readTwo 11 = .ok (.invokevirtual 137, 3) := rfl
theorem dX2_readTwo_14 : decode cX2_readTwo 14 = .ok (.iastore, 1) := rfl
theorem dX2_readTwo_15 : decode cX2_readTwo 15 = .ok (.aload_n 0, 1) := rfl
theorem dX2_readTwo_16 : decode cX2_readTwo 16 = .ok (.getfield 18, 3) := rfl
theorem dX2_readTwo_19 : decode cX2_readTwo 19 = .ok (.iconst 1, 1) := rfl
theorem dX2_readTwo_20 : decode cX2_readTwo 20 = .ok (.iaload, 1) := rfl
theorem dX2_readTwo_21 : decode cX2_readTwo 21 = .ok (.iconst (-1), 1) := rfl
theorem dX2_readTwo_22 : decode cX2_readTwo 22 = .ok (.if_icmp .ne 5, 3) := by decide +kernel
theorem dX2_readTwo_25 : decode cX2_readTwo 25 = .ok (.iconst 0, 1) := rfl
theorem dX2_readTwo_26 : decode cX2_readTwo 26 = .ok (.ireturn, 1) := rfl
theorem dX2_readTwo_27 : decode cX2_readTwo 27 = .ok (.aload_n 0, 1) := rfl
theorem dX2_readTwo_28 : decode cX2_readTwo 28 = .ok (.getfield 22, 3) := rfl
theorem dX2_readTwo_31 : decode cX2_readTwo 31 = .ok (.ldc 135, 2) := rfl
theorem dX2_readTwo_33 : decode cX2_readTwo 33 = .ok (.invokevirtual 90, 3) := rfl
theorem dX2_readTwo_36 : decode cX2_readTwo 36 = .ok (.aload_n 0, 1) := rfl
theorem dX2_readTwo_37 : decode cX2_readTwo 37 = .ok (.getfield 18, 3) := rfl
theorem dX2_readTwo_40 : decode cX2_readTwo 40 = .ok (.iconst 1, 1) := rfl
theorem dX2_readTwo_41 : decode cX2_readTwo 41 = .ok (.iaload, 1) := rfl
theorem dX2_readTwo_42 : decode cX2_readTwo 42 = .ok (.if_icmp .ne 11, 3) := by decide +kernel
theorem dX2_readTwo_45 : decode cX2_readTwo 45 = .ok (.aload_n 0, 1) := rfl
theorem dX2_readTwo_46 : decode cX2_readTwo 46 = .ok (.getfield 22, 3) := rfl
theorem dX2_readTwo_49 : decode cX2_readTwo 49 = .ok (.invokevirtual 59, 3) := rfl
theorem dX2_readTwo_52 : decode cX2_readTwo 52 = .ok (.ireturn, 1) := rfl
theorem dX2_readTwo_53 : decode cX2_readTwo 53 = .ok (.aload_n 0, 1) := rfl
theorem dX2_readTwo_54 : decode cX2_readTwo 54 = .ok (.getfield 18, 3) := rfl
theorem dX2_readTwo_57 : decode cX2_readTwo 57 = .ok (.iconst 2, 1) := rfl
theorem dX2_readTwo_58 : decode cX2_readTwo 58 = .ok (.aload_n 0, 1) := rfl
theorem dX2_readTwo_59 : decode cX2_readTwo 59 = .ok (.getfield 22, 3) := rfl
theorem dX2_readTwo_62 : decode cX2_readTwo 62 = .ok (.ldc 135, 2) := rfl
theorem dX2_readTwo_64 : decode cX2_readTwo 64 = .ok (.invokevirtual 137, 3) := rfl
theorem dX2_readTwo_67 : decode cX2_readTwo 67 = .ok (.iastore, 1) := rfl
theorem dX2_readTwo_68 : decode cX2_readTwo 68 = .ok (.aload_n 0, 1) := rfl
theorem dX2_readTwo_69 : decode cX2_readTwo 69 = .ok (.getfield 18, 3) := rfl
theorem dX2_readTwo_72 : decode cX2_readTwo 72 = .ok (.iconst 2, 1) := rfl
theorem dX2_readTwo_73 : decode cX2_readTwo 73 = .ok (.iaload, 1) := rfl
theorem dX2_readTwo_74 : decode cX2_readTwo 74 = .ok (.iconst (-1), 1) := rfl
theorem dX2_readTwo_75 : decode cX2_readTwo 75 = .ok (.if_icmp .eq 7, 3) := by decide +kernel
theorem dX2_readTwo_78 : decode cX2_readTwo 78 = .ok (.iconst 1, 1) := rfl
theorem dX2_readTwo_79 : decode cX2_readTwo 79 = .ok (.goto 4, 3) := by decide +kernel
theorem dX2_readTwo_82 : decode cX2_readTwo 82 = .ok (.iconst 0, 1) := rfl
theorem dX2_readTwo_83 : decode cX2_readTwo 83 = .ok (.ireturn, 1) := rfl
def m_X2_readTwo  (h : Hp) (Q : Int32 → Hp → Prop) : Prop := m_X10_takeOneOf 1 h (fun (x1 : Int32) (h2 : Hp) => vp_in 1 8 ∧ (vp_in 1 8 ∧ ((¬ (hI (wI h2 7 (ix 1) x1) 7 (ix 1)) = (-1) → m_X10_placeIn 1 (wI h2 7 (ix 1) x1) (fun (x3 : Int32) (h4 : Hp) => vp_in 1 8 ∧ ((¬ x3 = (hI h4 7 (ix 1)) → m_X10_takeOneOf 1 h4 (fun (x5 : Int32) (h6 : Hp) => vp_in 2 8 ∧ (vp_in 2 8 ∧ (((hI (wI h6 7 (ix 2) x5) 7 (ix 2)) = (-1) → Q 0 (wI h6 7 (ix 2) x5)) ∧ (¬ (hI (wI h6 7 (ix 2) x5) 7 (ix 2)) = (-1) → Q 1 (wI h6 7 (ix 2) x5)))))) ∧ (x3 = (hI h4 7 (ix 1)) → m_X10_refuse h4 (fun (x7 : Int32) (h8 : Hp) => bz x7 ∧ Q x7 h8))))) ∧ ((hI (wI h2 7 (ix 1) x1) 7 (ix 1)) = (-1) → Q 0 (wI h2 7 (ix 1) x1)))))
set_option maxHeartbeats 4000000 in
set_option maxRecDepth 100000 in
theorem s_X2_readTwo {l : Launch} {G : Cx} {d : Nat} (hd : 14 ≤ d) {h : Hp} {Q : Int32 → Hp → Prop} (hm : m_X2_readTwo h Q) : Ct l G d 0 0 yX2_readTwo MX2_readTwo [tR 2 0 (some 4)] h (qI Q) := by
  unfold m_X2_readTwo at hm
  refine Ct.of (L := [some (tR 2 0 (some 4))]) (by decide) rfl rfl (Nat.le_of_ble_eq_true rfl) rfl ?_
  refine r_aload_n dX2_readTwo_0 rfl rfl ?_
  refine r_getC (k := 2) cl_2 dX2_readTwo_1 t_87 gf_2_2.1 gf_2_2.2 (gc_2_2 _) ?_
  refine r_iconst (v := 1) dX2_readTwo_4 rfl ?_
  refine r_aload_n dX2_readTwo_5 rfl rfl ?_
  refine r_getC (k := 0) cl_2 dX2_readTwo_6 t_85 gf_2_0.1 gf_2_0.2 (gc_2_0 _) ?_
  refine r_ldcS (i := 1) (tx := "a b c d e f g h ") dX2_readTwo_9 (by decide) (by decide) ?_
  refine r_callVI (d' := d - 1) (as := [tS 1]) (st := [tI 1, tR 40 8 (some 7)]) cl_10 dX2_readTwo_11 mi_X10_takeOneOf t_606 t_607 t_608 rfl rfl (Nat.le_of_ble_eq_true rfl) (by omega) ⟨by decide, by decide⟩ ⟨rfl, rfl⟩ (s_X10_takeOneOf (by omega) (by decide) hm) (fun x1 h2 hm => ?_)
  refine r_iast dX2_readTwo_14 hm.1 ?_
  replace hm := hm.2
  refine r_aload_n dX2_readTwo_15 rfl rfl ?_
  refine r_getC (k := 2) cl_2 dX2_readTwo_16 t_87 gf_2_2.1 gf_2_2.2 (gc_2_2 _) ?_
  refine r_iconst (v := 1) dX2_readTwo_19 rfl ?_
  refine r_iald dX2_readTwo_20 hm.1 ?_
  replace hm := hm.2
  refine r_iconst (v := (-1)) dX2_readTwo_21 rfl ?_
  refine r_icmp_ne (tgt := 27) dX2_readTwo_22 rfl (fun hc => ?_) (fun hc => ?_)
  · replace hm := hm.1 hc
    refine r_aload_n dX2_readTwo_27 rfl rfl ?_
    refine r_getC (k := 0) cl_2 dX2_readTwo_28 t_85 gf_2_0.1 gf_2_0.2 (gc_2_0 _) ?_
    refine r_ldcS (i := 1) (tx := "a b c d e f g h ") dX2_readTwo_31 (by decide) (by decide) ?_
    refine r_callVI (d' := d - 1) (as := [tS 1]) (st := []) cl_10 dX2_readTwo_33 mi_X10_placeIn t_540 t_541 t_542 rfl rfl (Nat.le_of_ble_eq_true rfl) (by omega) ⟨by decide, by decide⟩ ⟨rfl, rfl⟩ (s_X10_placeIn (by omega) (by decide) hm) (fun x3 h4 hm => ?_)
    refine r_aload_n dX2_readTwo_36 rfl rfl ?_
    refine r_getC (k := 2) cl_2 dX2_readTwo_37 t_87 gf_2_2.1 gf_2_2.2 (gc_2_2 _) ?_
    refine r_iconst (v := 1) dX2_readTwo_40 rfl ?_
    refine r_iald dX2_readTwo_41 hm.1 ?_
    replace hm := hm.2
    refine r_icmp_ne (tgt := 53) dX2_readTwo_42 rfl (fun hc => ?_) (fun hc => ?_)
    · replace hm := hm.1 hc
      refine r_aload_n dX2_readTwo_53 rfl rfl ?_
      refine r_getC (k := 2) cl_2 dX2_readTwo_54 t_87 gf_2_2.1 gf_2_2.2 (gc_2_2 _) ?_
      refine r_iconst (v := 2) dX2_readTwo_57 rfl ?_
      refine r_aload_n dX2_readTwo_58 rfl rfl ?_
      refine r_getC (k := 0) cl_2 dX2_readTwo_59 t_85 gf_2_0.1 gf_2_0.2 (gc_2_0 _) ?_
      refine r_ldcS (i := 1) (tx := "a b c d e f g h ") dX2_readTwo_62 (by decide) (by decide) ?_
      refine r_callVI (d' := d - 1) (as := [tS 1]) (st := [tI 2, tR 40 8 (some 7)]) cl_10 dX2_readTwo_64 mi_X10_takeOneOf t_606 t_607 t_608 rfl rfl (Nat.le_of_ble_eq_true rfl) (by omega) ⟨by decide, by decide⟩ ⟨rfl, rfl⟩ (s_X10_takeOneOf (by omega) (by decide) hm) (fun x5 h6 hm => ?_)
      refine r_iast dX2_readTwo_67 hm.1 ?_
      replace hm := hm.2
      refine r_aload_n dX2_readTwo_68 rfl rfl ?_
      refine r_getC (k := 2) cl_2 dX2_readTwo_69 t_87 gf_2_2.1 gf_2_2.2 (gc_2_2 _) ?_
      refine r_iconst (v := 2) dX2_readTwo_72 rfl ?_
      refine r_iald dX2_readTwo_73 hm.1 ?_
      replace hm := hm.2
      refine r_iconst (v := (-1)) dX2_readTwo_74 rfl ?_
      refine r_icmp_eq (tgt := 82) dX2_readTwo_75 rfl (fun hc => ?_) (fun hc => ?_)
      · replace hm := hm.1 hc
        refine r_iconst (v := 0) dX2_readTwo_82 rfl ?_
        exact r_bret dX2_readTwo_83 rfl ⟨by decide, by decide⟩ (by unfold bz; decide) ⟨_, rfl, hm⟩
      · replace hm := hm.2 hc
        refine r_iconst (v := 1) dX2_readTwo_78 rfl ?_
        refine r_goto (tgt := 83) dX2_readTwo_79 rfl ?_
        exact r_bret dX2_readTwo_83 rfl ⟨by decide, by decide⟩ (by unfold bz; decide) ⟨_, rfl, hm⟩
    · replace hm := hm.2 hc
      refine r_aload_n dX2_readTwo_45 rfl rfl ?_
      refine r_getC (k := 0) cl_2 dX2_readTwo_46 t_85 gf_2_0.1 gf_2_0.2 (gc_2_0 _) ?_
      refine r_callVI (d' := d - 1) (as := []) (st := []) cl_10 dX2_readTwo_49 mi_X10_refuse t_596 t_597 t_598 rfl rfl (Nat.le_of_ble_eq_true rfl) (by omega) ⟨by decide, by decide⟩ ⟨rfl, rfl⟩ (s_X10_refuse (by omega) hm) (fun x7 h8 hm => ?_)
      exact r_bret dX2_readTwo_52 rfl ⟨by decide, by decide⟩ hm.1 ⟨_, rfl, hm.2⟩
  · replace hm := hm.2 hc
    refine r_iconst (v := 0) dX2_readTwo_25 rfl ?_
    exact r_bret dX2_readTwo_26 rfl ⟨by decide, by decide⟩ (by unfold bz; decide) ⟨_, rfl, hm⟩
end
