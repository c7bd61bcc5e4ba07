section
-- ===== PART A: goes FIRST, ahead of the names: the tables' words, and 'selects' of the private methods out of them =====
/-- a private method of a class that the tables say can be made, by its rows of tables_1 -/
def lw_okq (q : MethodName × Nat) : Prop := (q.1.cls ≠ "java/lang/invoke/MethodHandle" ∧ q.1.cls ≠ "java/lang/invoke/VarHandle") ∧ Cond.instantiable q.1.cls q.2 ∈ tables_1 ∧ Cond.privateMethod q.1 ∈ tables_1 ∧ Cond.instanceMethod q.1 ∈ tables_1
theorem lw_p0 : lw_okq (⟨"SharesComing", "addBytes", "(I)V"⟩, 12) := ⟨⟨by decide +kernel, by decide +kernel⟩, List.mem_of_getElem? (i := 22) (by decide +kernel), List.mem_of_getElem? (i := 360) (by decide +kernel), List.mem_of_getElem? (i := 361) (by decide +kernel)⟩
theorem lw_p1 : lw_okq (⟨"SharesComing$Reader", "step", "()V"⟩, 8) := ⟨⟨by decide +kernel, by decide +kernel⟩, List.mem_of_getElem? (i := 30) (by decide +kernel), List.mem_of_getElem? (i := 383) (by decide +kernel), List.mem_of_getElem? (i := 384) (by decide +kernel)⟩
theorem lw_p2 : lw_okq (⟨"SharesComing$Reader", "isLetterAt", "(I)Z"⟩, 8) := ⟨⟨by decide +kernel, by decide +kernel⟩, List.mem_of_getElem? (i := 30) (by decide +kernel), List.mem_of_getElem? (i := 387) (by decide +kernel), List.mem_of_getElem? (i := 388) (by decide +kernel)⟩
theorem lw_p3 : lw_okq (⟨"SharesComing$Reader", "readWord", "()V"⟩, 8) := ⟨⟨by decide +kernel, by decide +kernel⟩, List.mem_of_getElem? (i := 30) (by decide +kernel), List.mem_of_getElem? (i := 391) (by decide +kernel), List.mem_of_getElem? (i := 392) (by decide +kernel)⟩
theorem lw_p4 : lw_okq (⟨"SharesComing$Reader", "isDigitAt", "(I)Z"⟩, 8) := ⟨⟨by decide +kernel, by decide +kernel⟩, List.mem_of_getElem? (i := 30) (by decide +kernel), List.mem_of_getElem? (i := 395) (by decide +kernel), List.mem_of_getElem? (i := 396) (by decide +kernel)⟩
theorem lw_p5 : lw_okq (⟨"SharesComing$Reader", "readNumber", "()V"⟩, 8) := ⟨⟨by decide +kernel, by decide +kernel⟩, List.mem_of_getElem? (i := 30) (by decide +kernel), List.mem_of_getElem? (i := 399) (by decide +kernel), List.mem_of_getElem? (i := 400) (by decide +kernel)⟩
theorem lw_p6 : lw_okq (⟨"SharesComing$Reader", "readPart", "(LSharesComing$Will;)Z"⟩, 8) := ⟨⟨by decide +kernel, by decide +kernel⟩, List.mem_of_getElem? (i := 30) (by decide +kernel), List.mem_of_getElem? (i := 407) (by decide +kernel), List.mem_of_getElem? (i := 408) (by decide +kernel)⟩
theorem lw_p7 : lw_okq (⟨"SharesComing$Reader", "readHeir", "(LSharesComing$Will;Z)Z"⟩, 8) := ⟨⟨by decide +kernel, by decide +kernel⟩, List.mem_of_getElem? (i := 30) (by decide +kernel), List.mem_of_getElem? (i := 413) (by decide +kernel), List.mem_of_getElem? (i := 414) (by decide +kernel)⟩
theorem lw_p8 : lw_okq (⟨"SharesComing$Reader", "isName", "()Z"⟩, 8) := ⟨⟨by decide +kernel, by decide +kernel⟩, List.mem_of_getElem? (i := 30) (by decide +kernel), List.mem_of_getElem? (i := 421) (by decide +kernel), List.mem_of_getElem? (i := 422) (by decide +kernel)⟩
theorem lw_p9 : lw_okq (⟨"SharesComing$Reader", "isNumber", "(II)Z"⟩, 8) := ⟨⟨by decide +kernel, by decide +kernel⟩, List.mem_of_getElem? (i := 30) (by decide +kernel), List.mem_of_getElem? (i := 435) (by decide +kernel), List.mem_of_getElem? (i := 436) (by decide +kernel)⟩
theorem lw_p10 : lw_okq (⟨"SharesComing$Reader", "readDay", "(LSharesComing$Will;)Z"⟩, 8) := ⟨⟨by decide +kernel, by decide +kernel⟩, List.mem_of_getElem? (i := 30) (by decide +kernel), List.mem_of_getElem? (i := 448) (by decide +kernel), List.mem_of_getElem? (i := 449) (by decide +kernel)⟩
theorem lw_p11 : lw_okq (⟨"SharesComing$Reader", "readAlt", "(LSharesComing$Will;I)Z"⟩, 8) := ⟨⟨by decide +kernel, by decide +kernel⟩, List.mem_of_getElem? (i := 30) (by decide +kernel), List.mem_of_getElem? (i := 456) (by decide +kernel), List.mem_of_getElem? (i := 457) (by decide +kernel)⟩
theorem lw_p12 : lw_okq (⟨"SharesComing$Reader", "readHold", "(LSharesComing$Will;)Z"⟩, 8) := ⟨⟨by decide +kernel, by decide +kernel⟩, List.mem_of_getElem? (i := 30) (by decide +kernel), List.mem_of_getElem? (i := 473) (by decide +kernel), List.mem_of_getElem? (i := 474) (by decide +kernel)⟩
theorem lw_p13 : lw_okq (⟨"SharesComing$Reader", "passSemicolon", "()Z"⟩, 8) := ⟨⟨by decide +kernel, by decide +kernel⟩, List.mem_of_getElem? (i := 30) (by decide +kernel), List.mem_of_getElem? (i := 477) (by decide +kernel), List.mem_of_getElem? (i := 478) (by decide +kernel)⟩
theorem lw_p14 : lw_okq (⟨"SharesComing$Reader", "readBack", "(LSharesComing$Will;)Z"⟩, 8) := ⟨⟨by decide +kernel, by decide +kernel⟩, List.mem_of_getElem? (i := 30) (by decide +kernel), List.mem_of_getElem? (i := 481) (by decide +kernel), List.mem_of_getElem? (i := 482) (by decide +kernel)⟩
theorem lw_p15 : lw_okq (⟨"SharesComing", "canLookAhead", "(I)Z"⟩, 12) := ⟨⟨by decide +kernel, by decide +kernel⟩, List.mem_of_getElem? (i := 22) (by decide +kernel), List.mem_of_getElem? (i := 614) (by decide +kernel), List.mem_of_getElem? (i := 615) (by decide +kernel)⟩
def lw_privs_1 : List (MethodName × Nat) := [(⟨"SharesComing", "addBytes", "(I)V"⟩, 12), (⟨"SharesComing$Reader", "step", "()V"⟩, 8), (⟨"SharesComing$Reader", "isLetterAt", "(I)Z"⟩, 8), (⟨"SharesComing$Reader", "readWord", "()V"⟩, 8), (⟨"SharesComing$Reader", "isDigitAt", "(I)Z"⟩, 8), (⟨"SharesComing$Reader", "readNumber", "()V"⟩, 8), (⟨"SharesComing$Reader", "readPart", "(LSharesComing$Will;)Z"⟩, 8), (⟨"SharesComing$Reader", "readHeir", "(LSharesComing$Will;Z)Z"⟩, 8), (⟨"SharesComing$Reader", "isName", "()Z"⟩, 8), (⟨"SharesComing$Reader", "isNumber", "(II)Z"⟩, 8), (⟨"SharesComing$Reader", "readDay", "(LSharesComing$Will;)Z"⟩, 8), (⟨"SharesComing$Reader", "readAlt", "(LSharesComing$Will;I)Z"⟩, 8), (⟨"SharesComing$Reader", "readHold", "(LSharesComing$Will;)Z"⟩, 8), (⟨"SharesComing$Reader", "passSemicolon", "()Z"⟩, 8), (⟨"SharesComing$Reader", "readBack", "(LSharesComing$Will;)Z"⟩, 8), (⟨"SharesComing", "canLookAhead", "(I)Z"⟩, 12)]
theorem lw_r1 : ∀ q ∈ lw_privs_1, lw_okq q := List.forall_mem_cons.mpr ⟨lw_p0, List.forall_mem_cons.mpr ⟨lw_p1, List.forall_mem_cons.mpr ⟨lw_p2, List.forall_mem_cons.mpr ⟨lw_p3, List.forall_mem_cons.mpr ⟨lw_p4, List.forall_mem_cons.mpr ⟨lw_p5, List.forall_mem_cons.mpr ⟨lw_p6, List.forall_mem_cons.mpr ⟨lw_p7, List.forall_mem_cons.mpr ⟨lw_p8, List.forall_mem_cons.mpr ⟨lw_p9, List.forall_mem_cons.mpr ⟨lw_p10, List.forall_mem_cons.mpr ⟨lw_p11, List.forall_mem_cons.mpr ⟨lw_p12, List.forall_mem_cons.mpr ⟨lw_p13, List.forall_mem_cons.mpr ⟨lw_p14, List.forall_mem_cons.mpr ⟨lw_p15, fun _ h => absurd h List.not_mem_nil⟩⟩⟩⟩⟩⟩⟩⟩⟩⟩⟩⟩⟩⟩⟩⟩
theorem lw_p16 : lw_okq (⟨"SharesComing", "daysToCome", "()I"⟩, 12) := ⟨⟨by decide +kernel, by decide +kernel⟩, List.mem_of_getElem? (i := 22) (by decide +kernel), List.mem_of_getElem? (i := 621) (by decide +kernel), List.mem_of_getElem? (i := 622) (by decide +kernel)⟩
theorem lw_p17 : lw_okq (⟨"SharesComing$Ranks", "cellPlace", "(JI)I"⟩, 12) := ⟨⟨by decide +kernel, by decide +kernel⟩, List.mem_of_getElem? (i := 136) (by decide +kernel), List.mem_of_getElem? (i := 653) (by decide +kernel), List.mem_of_getElem? (i := 654) (by decide +kernel)⟩
theorem lw_p18 : lw_okq (⟨"SharesComing$Ends", "find", "(J)J"⟩, 5) := ⟨⟨by decide +kernel, by decide +kernel⟩, List.mem_of_getElem? (i := 214) (by decide +kernel), List.mem_of_getElem? (i := 667) (by decide +kernel), List.mem_of_getElem? (i := 668) (by decide +kernel)⟩
theorem lw_p19 : lw_okq (⟨"SharesComing$Ends", "bestHandedOut", "(JI)J"⟩, 5) := ⟨⟨by decide +kernel, by decide +kernel⟩, List.mem_of_getElem? (i := 214) (by decide +kernel), List.mem_of_getElem? (i := 674) (by decide +kernel), List.mem_of_getElem? (i := 675) (by decide +kernel)⟩
theorem lw_p20 : lw_okq (⟨"SharesComing$Ends", "bestTakenBack", "(JLSharesComing$Ends;)J"⟩, 5) := ⟨⟨by decide +kernel, by decide +kernel⟩, List.mem_of_getElem? (i := 214) (by decide +kernel), List.mem_of_getElem? (i := 685) (by decide +kernel), List.mem_of_getElem? (i := 686) (by decide +kernel)⟩
theorem lw_p21 : lw_okq (⟨"SharesComing$Ends", "bestMoved", "(JIILSharesComing$Ends;)J"⟩, 5) := ⟨⟨by decide +kernel, by decide +kernel⟩, List.mem_of_getElem? (i := 214) (by decide +kernel), List.mem_of_getElem? (i := 690) (by decide +kernel), List.mem_of_getElem? (i := 691) (by decide +kernel)⟩
theorem lw_p22 : lw_okq (⟨"SharesComing", "worthNow", "(II)J"⟩, 12) := ⟨⟨by decide +kernel, by decide +kernel⟩, List.mem_of_getElem? (i := 22) (by decide +kernel), List.mem_of_getElem? (i := 728) (by decide +kernel), List.mem_of_getElem? (i := 729) (by decide +kernel)⟩
theorem lw_p23 : lw_okq (⟨"SharesComing$Sight", "weighed", "(JI)J"⟩, 5) := ⟨⟨by decide +kernel, by decide +kernel⟩, List.mem_of_getElem? (i := 251) (by decide +kernel), List.mem_of_getElem? (i := 759) (by decide +kernel), List.mem_of_getElem? (i := 760) (by decide +kernel)⟩
theorem lw_p24 : lw_okq (⟨"SharesComing$Sight", "afterAlt", "(JII)J"⟩, 5) := ⟨⟨by decide +kernel, by decide +kernel⟩, List.mem_of_getElem? (i := 251) (by decide +kernel), List.mem_of_getElem? (i := 765) (by decide +kernel), List.mem_of_getElem? (i := 766) (by decide +kernel)⟩
theorem lw_p25 : lw_okq (⟨"SharesComing$Sight", "holdable", "()I"⟩, 5) := ⟨⟨by decide +kernel, by decide +kernel⟩, List.mem_of_getElem? (i := 251) (by decide +kernel), List.mem_of_getElem? (i := 776) (by decide +kernel), List.mem_of_getElem? (i := 777) (by decide +kernel)⟩
theorem lw_p26 : lw_okq (⟨"SharesComing$Sight", "least", "(JI)J"⟩, 5) := ⟨⟨by decide +kernel, by decide +kernel⟩, List.mem_of_getElem? (i := 251) (by decide +kernel), List.mem_of_getElem? (i := 783) (by decide +kernel), List.mem_of_getElem? (i := 784) (by decide +kernel)⟩
theorem lw_p27 : lw_okq (⟨"SharesComing", "thousandths", "(J)I"⟩, 12) := ⟨⟨by decide +kernel, by decide +kernel⟩, List.mem_of_getElem? (i := 22) (by decide +kernel), List.mem_of_getElem? (i := 793) (by decide +kernel), List.mem_of_getElem? (i := 794) (by decide +kernel)⟩
theorem lw_p28 : lw_okq (⟨"SharesComing$Rows", "traced", "(JII)J"⟩, 6) := ⟨⟨by decide +kernel, by decide +kernel⟩, List.mem_of_getElem? (i := 188) (by decide +kernel), List.mem_of_getElem? (i := 837) (by decide +kernel), List.mem_of_getElem? (i := 838) (by decide +kernel)⟩
theorem lw_p29 : lw_okq (⟨"SharesComing$Rows", "spread", "(JJIILSharesComing$Ends;)J"⟩, 6) := ⟨⟨by decide +kernel, by decide +kernel⟩, List.mem_of_getElem? (i := 188) (by decide +kernel), List.mem_of_getElem? (i := 849) (by decide +kernel), List.mem_of_getElem? (i := 850) (by decide +kernel)⟩
theorem lw_p30 : lw_okq (⟨"SharesComing$Rows", "walkOn", "(JJLSharesComing$Ends;)V"⟩, 6) := ⟨⟨by decide +kernel, by decide +kernel⟩, List.mem_of_getElem? (i := 188) (by decide +kernel), List.mem_of_getElem? (i := 878) (by decide +kernel), List.mem_of_getElem? (i := 879) (by decide +kernel)⟩
theorem lw_p31 : lw_okq (⟨"SharesComing$Rows", "wasWalked", "(I)Z"⟩, 6) := ⟨⟨by decide +kernel, by decide +kernel⟩, List.mem_of_getElem? (i := 188) (by decide +kernel), List.mem_of_getElem? (i := 883) (by decide +kernel), List.mem_of_getElem? (i := 884) (by decide +kernel)⟩
def lw_privs_2 : List (MethodName × Nat) := [(⟨"SharesComing", "daysToCome", "()I"⟩, 12), (⟨"SharesComing$Ranks", "cellPlace", "(JI)I"⟩, 12), (⟨"SharesComing$Ends", "find", "(J)J"⟩, 5), (⟨"SharesComing$Ends", "bestHandedOut", "(JI)J"⟩, 5), (⟨"SharesComing$Ends", "bestTakenBack", "(JLSharesComing$Ends;)J"⟩, 5), (⟨"SharesComing$Ends", "bestMoved", "(JIILSharesComing$Ends;)J"⟩, 5), (⟨"SharesComing", "worthNow", "(II)J"⟩, 12), (⟨"SharesComing$Sight", "weighed", "(JI)J"⟩, 5), (⟨"SharesComing$Sight", "afterAlt", "(JII)J"⟩, 5), (⟨"SharesComing$Sight", "holdable", "()I"⟩, 5), (⟨"SharesComing$Sight", "least", "(JI)J"⟩, 5), (⟨"SharesComing", "thousandths", "(J)I"⟩, 12), (⟨"SharesComing$Rows", "traced", "(JII)J"⟩, 6), (⟨"SharesComing$Rows", "spread", "(JJIILSharesComing$Ends;)J"⟩, 6), (⟨"SharesComing$Rows", "walkOn", "(JJLSharesComing$Ends;)V"⟩, 6), (⟨"SharesComing$Rows", "wasWalked", "(I)Z"⟩, 6)]
theorem lw_r2 : ∀ q ∈ lw_privs_2, lw_okq q := List.forall_mem_cons.mpr ⟨lw_p16, List.forall_mem_cons.mpr ⟨lw_p17, List.forall_mem_cons.mpr ⟨lw_p18, List.forall_mem_cons.mpr ⟨lw_p19, List.forall_mem_cons.mpr ⟨lw_p20, List.forall_mem_cons.mpr ⟨lw_p21, List.forall_mem_cons.mpr ⟨lw_p22, List.forall_mem_cons.mpr ⟨lw_p23, List.forall_mem_cons.mpr ⟨lw_p24, List.forall_mem_cons.mpr ⟨lw_p25, List.forall_mem_cons.mpr ⟨lw_p26, List.forall_mem_cons.mpr ⟨lw_p27, List.forall_mem_cons.mpr ⟨lw_p28, List.forall_mem_cons.mpr ⟨lw_p29, List.forall_mem_cons.mpr ⟨lw_p30, List.forall_mem_cons.mpr ⟨lw_p31, fun _ h => absurd h List.not_mem_nil⟩⟩⟩⟩⟩⟩⟩⟩⟩⟩⟩⟩⟩⟩⟩⟩
theorem lw_p32 : lw_okq (⟨"SharesComing$Ways", "gift", "(JI)I"⟩, 5) := ⟨⟨by decide +kernel, by decide +kernel⟩, List.mem_of_getElem? (i := 276) (by decide +kernel), List.mem_of_getElem? (i := 913) (by decide +kernel), List.mem_of_getElem? (i := 914) (by decide +kernel)⟩
theorem lw_p33 : lw_okq (⟨"SharesComing$Ways", "claim", "(JII)I"⟩, 5) := ⟨⟨by decide +kernel, by decide +kernel⟩, List.mem_of_getElem? (i := 276) (by decide +kernel), List.mem_of_getElem? (i := 919) (by decide +kernel), List.mem_of_getElem? (i := 920) (by decide +kernel)⟩
theorem lw_p34 : lw_okq (⟨"SharesComingModel", "next", "()V"⟩, 47) := ⟨⟨by decide +kernel, by decide +kernel⟩, List.mem_of_getElem? (i := 977) (by decide +kernel), List.mem_of_getElem? (i := 1143) (by decide +kernel), List.mem_of_getElem? (i := 1144) (by decide +kernel)⟩
theorem lw_p35 : lw_okq (⟨"SharesComingModel", "line", "()Z"⟩, 47) := ⟨⟨by decide +kernel, by decide +kernel⟩, List.mem_of_getElem? (i := 977) (by decide +kernel), List.mem_of_getElem? (i := 1156) (by decide +kernel), List.mem_of_getElem? (i := 1157) (by decide +kernel)⟩
theorem lw_p36 : lw_okq (⟨"SharesComingModel", "isWord", "(Ljava/lang/String;)Z"⟩, 47) := ⟨⟨by decide +kernel, by decide +kernel⟩, List.mem_of_getElem? (i := 977) (by decide +kernel), List.mem_of_getElem? (i := 1161) (by decide +kernel), List.mem_of_getElem? (i := 1162) (by decide +kernel)⟩
theorem lw_p37 : lw_okq (⟨"SharesComingModel", "heirLine", "(Z)Z"⟩, 47) := ⟨⟨by decide +kernel, by decide +kernel⟩, List.mem_of_getElem? (i := 977) (by decide +kernel), List.mem_of_getElem? (i := 1217) (by decide +kernel), List.mem_of_getElem? (i := 1218) (by decide +kernel)⟩
theorem lw_p38 : lw_okq (⟨"SharesComingModel", "isName", "()Z"⟩, 47) := ⟨⟨by decide +kernel, by decide +kernel⟩, List.mem_of_getElem? (i := 977) (by decide +kernel), List.mem_of_getElem? (i := 1221) (by decide +kernel), List.mem_of_getElem? (i := 1222) (by decide +kernel)⟩
theorem lw_p39 : lw_okq (⟨"SharesComingModel", "named", "(J)I"⟩, 47) := ⟨⟨by decide +kernel, by decide +kernel⟩, List.mem_of_getElem? (i := 977) (by decide +kernel), List.mem_of_getElem? (i := 1231) (by decide +kernel), List.mem_of_getElem? (i := 1232) (by decide +kernel)⟩
theorem lw_p40 : lw_okq (⟨"SharesComingModel", "isNumber", "(II)Z"⟩, 47) := ⟨⟨by decide +kernel, by decide +kernel⟩, List.mem_of_getElem? (i := 977) (by decide +kernel), List.mem_of_getElem? (i := 1235) (by decide +kernel), List.mem_of_getElem? (i := 1236) (by decide +kernel)⟩
theorem lw_p41 : lw_okq (⟨"SharesComingModel", "closes", "()Z"⟩, 47) := ⟨⟨by decide +kernel, by decide +kernel⟩, List.mem_of_getElem? (i := 977) (by decide +kernel), List.mem_of_getElem? (i := 1239) (by decide +kernel), List.mem_of_getElem? (i := 1240) (by decide +kernel)⟩
theorem lw_p42 : lw_okq (⟨"SharesComingModel", "isSign", "(I)Z"⟩, 47) := ⟨⟨by decide +kernel, by decide +kernel⟩, List.mem_of_getElem? (i := 977) (by decide +kernel), List.mem_of_getElem? (i := 1243) (by decide +kernel), List.mem_of_getElem? (i := 1244) (by decide +kernel)⟩
theorem lw_p43 : lw_okq (⟨"SharesComingModel", "dayLine", "()Z"⟩, 47) := ⟨⟨by decide +kernel, by decide +kernel⟩, List.mem_of_getElem? (i := 977) (by decide +kernel), List.mem_of_getElem? (i := 1247) (by decide +kernel), List.mem_of_getElem? (i := 1248) (by decide +kernel)⟩
theorem lw_p44 : lw_okq (⟨"SharesComingModel", "altHere", "()Z"⟩, 47) := ⟨⟨by decide +kernel, by decide +kernel⟩, List.mem_of_getElem? (i := 977) (by decide +kernel), List.mem_of_getElem? (i := 1251) (by decide +kernel), List.mem_of_getElem? (i := 1252) (by decide +kernel)⟩
theorem lw_p45 : lw_okq (⟨"SharesComingModel", "forgets", "()V"⟩, 47) := ⟨⟨by decide +kernel, by decide +kernel⟩, List.mem_of_getElem? (i := 977) (by decide +kernel), List.mem_of_getElem? (i := 1260) (by decide +kernel), List.mem_of_getElem? (i := 1261) (by decide +kernel)⟩
theorem lw_p46 : lw_okq (⟨"SharesComingModel", "isHeir", "(I)Z"⟩, 47) := ⟨⟨by decide +kernel, by decide +kernel⟩, List.mem_of_getElem? (i := 977) (by decide +kernel), List.mem_of_getElem? (i := 1268) (by decide +kernel), List.mem_of_getElem? (i := 1269) (by decide +kernel)⟩
theorem lw_p47 : lw_okq (⟨"SharesComingModel", "worthTo", "(JII)I"⟩, 47) := ⟨⟨by decide +kernel, by decide +kernel⟩, List.mem_of_getElem? (i := 977) (by decide +kernel), List.mem_of_getElem? (i := 1278) (by decide +kernel), List.mem_of_getElem? (i := 1279) (by decide +kernel)⟩
def lw_privs_3 : List (MethodName × Nat) := [(⟨"SharesComing$Ways", "gift", "(JI)I"⟩, 5), (⟨"SharesComing$Ways", "claim", "(JII)I"⟩, 5), (⟨"SharesComingModel", "next", "()V"⟩, 47), (⟨"SharesComingModel", "line", "()Z"⟩, 47), (⟨"SharesComingModel", "isWord", "(Ljava/lang/String;)Z"⟩, 47), (⟨"SharesComingModel", "heirLine", "(Z)Z"⟩, 47), (⟨"SharesComingModel", "isName", "()Z"⟩, 47), (⟨"SharesComingModel", "named", "(J)I"⟩, 47), (⟨"SharesComingModel", "isNumber", "(II)Z"⟩, 47), (⟨"SharesComingModel", "closes", "()Z"⟩, 47), (⟨"SharesComingModel", "isSign", "(I)Z"⟩, 47), (⟨"SharesComingModel", "dayLine", "()Z"⟩, 47), (⟨"SharesComingModel", "altHere", "()Z"⟩, 47), (⟨"SharesComingModel", "forgets", "()V"⟩, 47), (⟨"SharesComingModel", "isHeir", "(I)Z"⟩, 47), (⟨"SharesComingModel", "worthTo", "(JII)I"⟩, 47)]
theorem lw_r3 : ∀ q ∈ lw_privs_3, lw_okq q := List.forall_mem_cons.mpr ⟨lw_p32, List.forall_mem_cons.mpr ⟨lw_p33, List.forall_mem_cons.mpr ⟨lw_p34, List.forall_mem_cons.mpr ⟨lw_p35, List.forall_mem_cons.mpr ⟨lw_p36, List.forall_mem_cons.mpr ⟨lw_p37, List.forall_mem_cons.mpr ⟨lw_p38, List.forall_mem_cons.mpr ⟨lw_p39, List.forall_mem_cons.mpr ⟨lw_p40, List.forall_mem_cons.mpr ⟨lw_p41, List.forall_mem_cons.mpr ⟨lw_p42, List.forall_mem_cons.mpr ⟨lw_p43, List.forall_mem_cons.mpr ⟨lw_p44, List.forall_mem_cons.mpr ⟨lw_p45, List.forall_mem_cons.mpr ⟨lw_p46, List.forall_mem_cons.mpr ⟨lw_p47, fun _ h => absurd h List.not_mem_nil⟩⟩⟩⟩⟩⟩⟩⟩⟩⟩⟩⟩⟩⟩⟩⟩
theorem lw_p48 : lw_okq (⟨"SharesComingModel", "altOf", "(III)I"⟩, 47) := ⟨⟨by decide +kernel, by decide +kernel⟩, List.mem_of_getElem? (i := 977) (by decide +kernel), List.mem_of_getElem? (i := 1286) (by decide +kernel), List.mem_of_getElem? (i := 1287) (by decide +kernel)⟩
theorem lw_p49 : lw_okq (⟨"SharesComingModel", "ends", "(JII)I"⟩, 47) := ⟨⟨by decide +kernel, by decide +kernel⟩, List.mem_of_getElem? (i := 977) (by decide +kernel), List.mem_of_getElem? (i := 1314) (by decide +kernel), List.mem_of_getElem? (i := 1315) (by decide +kernel)⟩
theorem lw_p50 : lw_okq (⟨"SharesComingModel", "backed", "(JII)I"⟩, 47) := ⟨⟨by decide +kernel, by decide +kernel⟩, List.mem_of_getElem? (i := 977) (by decide +kernel), List.mem_of_getElem? (i := 1322) (by decide +kernel), List.mem_of_getElem? (i := 1323) (by decide +kernel)⟩
theorem lw_p51 : lw_okq (⟨"SharesComingModel", "goalOf", "(JI)I"⟩, 47) := ⟨⟨by decide +kernel, by decide +kernel⟩, List.mem_of_getElem? (i := 977) (by decide +kernel), List.mem_of_getElem? (i := 1326) (by decide +kernel), List.mem_of_getElem? (i := 1327) (by decide +kernel)⟩
theorem lw_p52 : lw_okq (⟨"SharesComingModel", "share", "(J)I"⟩, 47) := ⟨⟨by decide +kernel, by decide +kernel⟩, List.mem_of_getElem? (i := 977) (by decide +kernel), List.mem_of_getElem? (i := 1330) (by decide +kernel), List.mem_of_getElem? (i := 1331) (by decide +kernel)⟩
theorem lw_p53 : lw_okq (⟨"SharesComingModel", "manyCame", "(J)I"⟩, 47) := ⟨⟨by decide +kernel, by decide +kernel⟩, List.mem_of_getElem? (i := 977) (by decide +kernel), List.mem_of_getElem? (i := 1334) (by decide +kernel), List.mem_of_getElem? (i := 1335) (by decide +kernel)⟩
theorem lw_p54 : lw_okq (⟨"SharesComingModel", "leftOut", "(JII)I"⟩, 47) := ⟨⟨by decide +kernel, by decide +kernel⟩, List.mem_of_getElem? (i := 977) (by decide +kernel), List.mem_of_getElem? (i := 1338) (by decide +kernel), List.mem_of_getElem? (i := 1339) (by decide +kernel)⟩
theorem lw_p55 : lw_okq (⟨"SharesComingModel", "twice", "(JI)I"⟩, 47) := ⟨⟨by decide +kernel, by decide +kernel⟩, List.mem_of_getElem? (i := 977) (by decide +kernel), List.mem_of_getElem? (i := 1342) (by decide +kernel), List.mem_of_getElem? (i := 1343) (by decide +kernel)⟩
theorem lw_p56 : lw_okq (⟨"SharesComingModel", "solved", "(IZII)J"⟩, 47) := ⟨⟨by decide +kernel, by decide +kernel⟩, List.mem_of_getElem? (i := 977) (by decide +kernel), List.mem_of_getElem? (i := 1351) (by decide +kernel), List.mem_of_getElem? (i := 1352) (by decide +kernel)⟩
theorem lw_p57 : lw_okq (⟨"SharesComingModel", "laysAll", "(I)V"⟩, 47) := ⟨⟨by decide +kernel, by decide +kernel⟩, List.mem_of_getElem? (i := 977) (by decide +kernel), List.mem_of_getElem? (i := 1355) (by decide +kernel), List.mem_of_getElem? (i := 1356) (by decide +kernel)⟩
theorem lw_p58 : lw_okq (⟨"SharesComingModel", "lays", "(JI)V"⟩, 47) := ⟨⟨by decide +kernel, by decide +kernel⟩, List.mem_of_getElem? (i := 977) (by decide +kernel), List.mem_of_getElem? (i := 1359) (by decide +kernel), List.mem_of_getElem? (i := 1360) (by decide +kernel)⟩
theorem lw_p59 : lw_okq (⟨"SharesComingModel", "placeOf", "(JII)I"⟩, 47) := ⟨⟨by decide +kernel, by decide +kernel⟩, List.mem_of_getElem? (i := 977) (by decide +kernel), List.mem_of_getElem? (i := 1363) (by decide +kernel), List.mem_of_getElem? (i := 1364) (by decide +kernel)⟩
theorem lw_p60 : lw_okq (⟨"SharesComingModel", "after", "(JIII)J"⟩, 47) := ⟨⟨by decide +kernel, by decide +kernel⟩, List.mem_of_getElem? (i := 977) (by decide +kernel), List.mem_of_getElem? (i := 1369) (by decide +kernel), List.mem_of_getElem? (i := 1370) (by decide +kernel)⟩
theorem lw_p61 : lw_okq (⟨"SharesComingModel", "valueOf", "(JI)J"⟩, 47) := ⟨⟨by decide +kernel, by decide +kernel⟩, List.mem_of_getElem? (i := 977) (by decide +kernel), List.mem_of_getElem? (i := 1373) (by decide +kernel), List.mem_of_getElem? (i := 1374) (by decide +kernel)⟩
theorem lw_p62 : lw_okq (⟨"SharesComingModel", "given", "(JIII)J"⟩, 47) := ⟨⟨by decide +kernel, by decide +kernel⟩, List.mem_of_getElem? (i := 977) (by decide +kernel), List.mem_of_getElem? (i := 1377) (by decide +kernel), List.mem_of_getElem? (i := 1378) (by decide +kernel)⟩
theorem lw_p63 : lw_okq (⟨"SharesComingModel", "told", "(JZ)I"⟩, 47) := ⟨⟨by decide +kernel, by decide +kernel⟩, List.mem_of_getElem? (i := 977) (by decide +kernel), List.mem_of_getElem? (i := 1382) (by decide +kernel), List.mem_of_getElem? (i := 1383) (by decide +kernel)⟩
def lw_privs_4 : List (MethodName × Nat) := [(⟨"SharesComingModel", "altOf", "(III)I"⟩, 47), (⟨"SharesComingModel", "ends", "(JII)I"⟩, 47), (⟨"SharesComingModel", "backed", "(JII)I"⟩, 47), (⟨"SharesComingModel", "goalOf", "(JI)I"⟩, 47), (⟨"SharesComingModel", "share", "(J)I"⟩, 47), (⟨"SharesComingModel", "manyCame", "(J)I"⟩, 47), (⟨"SharesComingModel", "leftOut", "(JII)I"⟩, 47), (⟨"SharesComingModel", "twice", "(JI)I"⟩, 47), (⟨"SharesComingModel", "solved", "(IZII)J"⟩, 47), (⟨"SharesComingModel", "laysAll", "(I)V"⟩, 47), (⟨"SharesComingModel", "lays", "(JI)V"⟩, 47), (⟨"SharesComingModel", "placeOf", "(JII)I"⟩, 47), (⟨"SharesComingModel", "after", "(JIII)J"⟩, 47), (⟨"SharesComingModel", "valueOf", "(JI)J"⟩, 47), (⟨"SharesComingModel", "given", "(JIII)J"⟩, 47), (⟨"SharesComingModel", "told", "(JZ)I"⟩, 47)]
theorem lw_r4 : ∀ q ∈ lw_privs_4, lw_okq q := List.forall_mem_cons.mpr ⟨lw_p48, List.forall_mem_cons.mpr ⟨lw_p49, List.forall_mem_cons.mpr ⟨lw_p50, List.forall_mem_cons.mpr ⟨lw_p51, List.forall_mem_cons.mpr ⟨lw_p52, List.forall_mem_cons.mpr ⟨lw_p53, List.forall_mem_cons.mpr ⟨lw_p54, List.forall_mem_cons.mpr ⟨lw_p55, List.forall_mem_cons.mpr ⟨lw_p56, List.forall_mem_cons.mpr ⟨lw_p57, List.forall_mem_cons.mpr ⟨lw_p58, List.forall_mem_cons.mpr ⟨lw_p59, List.forall_mem_cons.mpr ⟨lw_p60, List.forall_mem_cons.mpr ⟨lw_p61, List.forall_mem_cons.mpr ⟨lw_p62, List.forall_mem_cons.mpr ⟨lw_p63, fun _ h => absurd h List.not_mem_nil⟩⟩⟩⟩⟩⟩⟩⟩⟩⟩⟩⟩⟩⟩⟩⟩
theorem lw_p64 : lw_okq (⟨"SharesComingModel", "isAltRow", "(I)Z"⟩, 47) := ⟨⟨by decide +kernel, by decide +kernel⟩, List.mem_of_getElem? (i := 977) (by decide +kernel), List.mem_of_getElem? (i := 1400) (by decide +kernel), List.mem_of_getElem? (i := 1401) (by decide +kernel)⟩
theorem lw_p65 : lw_okq (⟨"SharesComingModel", "isRow", "(I)Z"⟩, 47) := ⟨⟨by decide +kernel, by decide +kernel⟩, List.mem_of_getElem? (i := 977) (by decide +kernel), List.mem_of_getElem? (i := 1404) (by decide +kernel), List.mem_of_getElem? (i := 1405) (by decide +kernel)⟩
theorem lw_p66 : lw_okq (⟨"SharesComingModel", "knownBy", "(I)I"⟩, 47) := ⟨⟨by decide +kernel, by decide +kernel⟩, List.mem_of_getElem? (i := 977) (by decide +kernel), List.mem_of_getElem? (i := 1408) (by decide +kernel), List.mem_of_getElem? (i := 1409) (by decide +kernel)⟩
theorem lw_p67 : lw_okq (⟨"SharesComingModel", "goesTo", "(JIII)I"⟩, 47) := ⟨⟨by decide +kernel, by decide +kernel⟩, List.mem_of_getElem? (i := 977) (by decide +kernel), List.mem_of_getElem? (i := 1420) (by decide +kernel), List.mem_of_getElem? (i := 1421) (by decide +kernel)⟩
theorem lw_p68 : lw_okq (⟨"SharesComingModel", "isBefore", "(JIIII)Z"⟩, 47) := ⟨⟨by decide +kernel, by decide +kernel⟩, List.mem_of_getElem? (i := 977) (by decide +kernel), List.mem_of_getElem? (i := 1424) (by decide +kernel), List.mem_of_getElem? (i := 1425) (by decide +kernel)⟩
def lw_privs_5 : List (MethodName × Nat) := [(⟨"SharesComingModel", "isAltRow", "(I)Z"⟩, 47), (⟨"SharesComingModel", "isRow", "(I)Z"⟩, 47), (⟨"SharesComingModel", "knownBy", "(I)I"⟩, 47), (⟨"SharesComingModel", "goesTo", "(JIII)I"⟩, 47), (⟨"SharesComingModel", "isBefore", "(JIIII)Z"⟩, 47)]
theorem lw_r5 : ∀ q ∈ lw_privs_5, lw_okq q := List.forall_mem_cons.mpr ⟨lw_p64, List.forall_mem_cons.mpr ⟨lw_p65, List.forall_mem_cons.mpr ⟨lw_p66, List.forall_mem_cons.mpr ⟨lw_p67, List.forall_mem_cons.mpr ⟨lw_p68, fun _ h => absurd h List.not_mem_nil⟩⟩⟩⟩⟩
def lw_privs : List (MethodName × Nat) := lw_privs_1 ++ (lw_privs_2 ++ (lw_privs_3 ++ (lw_privs_4 ++ (lw_privs_5))))
def lw_tbl : List Cond := k2_sels lw_privs ++ tables_1
theorem lw_privs_ok : ∀ q ∈ lw_privs, lw_okq q := by
  show ∀ q ∈ lw_privs_1 ++ (lw_privs_2 ++ (lw_privs_3 ++ (lw_privs_4 ++ (lw_privs_5)))), lw_okq q
  exact List.forall_mem_append.mpr ⟨lw_r1, List.forall_mem_append.mpr ⟨lw_r2, List.forall_mem_append.mpr ⟨lw_r3, List.forall_mem_append.mpr ⟨lw_r4, lw_r5⟩⟩⟩⟩
end
section
/-! MEMORY: the objects and arrays that the claim's own classes make, by keys (numbers in the order of making); what each holds. -/
abbrev Wd : Type := ((Nat → Nat → Int32) × (Nat → Nat → Int64) × (Nat → Nat → Int32) × (Nat → Nat → Int64)) × ((Nat → Nat → Option Nat) × (Nat → Nat) × (Nat → Nat) × (Nat → Nat → Option Nat) × Nat × Nat)
/-- int field k of key a; long field; int array's place; long array's place; reference field; kind; length; reference array's place; how many keys; how many slots -/
def wI (w : Wd) (a k : Nat) : Int32 := w.1.1 a k
def wJ (w : Wd) (a k : Nat) : Int64 := w.1.2.1 a k
def wX (w : Wd) (a k : Nat) : Int32 := w.1.2.2.1 a k
def wY (w : Wd) (a k : Nat) : Int64 := w.1.2.2.2 a k
def wR (w : Wd) (a k : Nat) : Option Nat := w.2.1 a k
def wK (w : Wd) (a : Nat) : Nat := w.2.2.1 a
def wL (w : Wd) (a : Nat) : Nat := w.2.2.2.1 a
def wZ (w : Wd) (a k : Nat) : Option Nat := w.2.2.2.2.1 a k
def wN (w : Wd) : Nat := w.2.2.2.2.2.1
def wS (w : Wd) : Nat := w.2.2.2.2.2.2
def u2 {α : Type} (f : Nat → Nat → α) (a k : Nat) (v : α) : Nat → Nat → α := fun b j => if b = a ∧ j = k then v else f b j
def u1 {α : Type} (f : Nat → α) (a : Nat) (v : α) : Nat → α := fun b => if b = a then v else f b
/-- a whole row -/
def ur {α : Type} (f : Nat → Nat → α) (a : Nat) (v : Nat → α) : Nat → Nat → α := fun b j => if b = a then v j else f b j
def uI (w : Wd) (a k : Nat) (v : Int32) : Wd := ((u2 w.1.1 a k v, w.1.2), w.2)
def uJ (w : Wd) (a k : Nat) (v : Int64) : Wd := ((w.1.1, u2 w.1.2.1 a k v, w.1.2.2), w.2)
def uX (w : Wd) (a k : Nat) (v : Int32) : Wd := ((w.1.1, w.1.2.1, u2 w.1.2.2.1 a k v, w.1.2.2.2), w.2)
def uY (w : Wd) (a k : Nat) (v : Int64) : Wd := ((w.1.1, w.1.2.1, w.1.2.2.1, u2 w.1.2.2.2 a k v), w.2)
def uR (w : Wd) (a k : Nat) (v : Option Nat) : Wd := (w.1, u2 w.2.1 a k v, w.2.2)
def uZ (w : Wd) (a k : Nat) (v : Option Nat) : Wd := (w.1, w.2.1, w.2.2.1, w.2.2.2.1, u2 w.2.2.2.2.1 a k v, w.2.2.2.2.2)
/-- a new object of class c with n fields; its key is the next -/
def nO (w : Wd) (c n : Nat) : Wd := ((ur w.1.1 (wN w) (fun _ => 0), ur w.1.2.1 (wN w) (fun _ => 0), w.1.2.2), (ur w.2.1 (wN w) (fun _ => none), u1 w.2.2.1 (wN w) c, w.2.2.2.1, w.2.2.2.2.1, wN w + 1, wS w + n))
/-- a new array of kind t and length n -/
def nA (w : Wd) (t n : Nat) : Wd := ((w.1.1, w.1.2.1, ur w.1.2.2.1 (wN w) (fun _ => 0), ur w.1.2.2.2 (wN w) (fun _ => 0)), (w.2.1, u1 w.2.2.1 (wN w) t, u1 w.2.2.2.1 (wN w) n, ur w.2.2.2.2.1 (wN w) (fun _ => none), wN w + 1, wS w + n))
theorem u2_s {α : Type} (f : Nat → Nat → α) (a k : Nat) (v : α) : u2 f a k v a k = v := by simp [u2]
theorem u2_a {α : Type} (f : Nat → Nat → α) {a b : Nat} (k j : Nat) (v : α) (h : b ≠ a) : u2 f a k v b j = f b j := by simp [u2, h]
theorem u2_k {α : Type} (f : Nat → Nat → α) (a b : Nat) {k j : Nat} (v : α) (h : j ≠ k) : u2 f a k v b j = f b j := by simp [u2, h]
/-- key a is there, and of kind c -/
def Kd (w : Wd) (a c : Nat) : Prop := a < wN w ∧ wK w a = c
/-- abstract values: .ref a is a key; .retAddr i below 100 the i-th String constant, 100 + i its bytes, 1000 the script; .float 0 a reference that nobody asks of -/
abbrev Lc : Type := List (Nat × Value)
/-- the context: addresses of the keys; of the Strings, of their bytes; of the script; classes; array classes -/
abbrev Gc : Type := (Nat → Nat) × (Nat → Nat) × (Nat → Nat) × Nat × Option Nat × va_G × (Nat → ClassId)
def gad (G : Gc) : Nat → Nat := G.1
def gsk (G : Gc) : Nat → Nat := G.2.1
def gsv (G : Gc) : Nat → Nat := G.2.2.1
def gsc (G : Gc) : Nat := G.2.2.2.1
def gfm (G : Gc) : Option Nat := G.2.2.2.2.1
def gD (G : Gc) : va_G := G.2.2.2.2.2.1
def gA (G : Gc) : Nat → ClassId := G.2.2.2.2.2.2
def cv (G : Gc) (v : Value) : Value := match v with
  | .ref a => .ref (gad G a)
  | .retAddr i => .ref (if i < 100 then gsk G i else if i < 1000 then gsv G (i - 100) else gsc G)
  | .float _ => va_rf (gfm G)
  | v => v
theorem va_rf_cat (r : Option Nat) : (va_rf r).category = 1 := by cases r <;> rfl
theorem cv_cat (G : Gc) (v : Value) : (cv G v).category = v.category := by
  cases v <;> first | rfl | exact va_rf_cat _
theorem cv_ret (G : Gc) (i : Nat) : cv G (.retAddr i) = .ref (if i < 100 then gsk G i else if i < 1000 then gsv G (i - 100) else gsc G) := rfl
def cvl (G : Gc) (l : Lc) : Lc := l.map (fun q => (q.1, cv G q.2))
def rfv (r : Option Nat) : Value := match r with
  | none => .null
  | some t => .ref t
theorem cv_rfv (G : Gc) (r : Option Nat) : cv G (rfv r) = va_rf (r.map (gad G)) := by cases r <;> rfl
theorem cvl_args (G : Gc) : ∀ (vs : List Value) (i : Nat), lv_args i (vs.map (cv G)) = cvl G (lv_args i vs)
  | [], _ => rfl
  | v :: vs, i => by
    simp only [List.map_cons, lv_args, cvl, cv_cat]
    congr 1
    exact cvl_args G vs _
theorem cvl_filter (G : Gc) (p : Nat × Value → Bool) (hp : ∀ i v v', v.category = v'.category → p (i, v) = p (i, v')) (l : Lc) : (cvl G l).filter p = cvl G (l.filter p) := by
  induction l with
  | nil => rfl
  | cons q l ih =>
    have h : p (q.1, cv G q.2) = p q := hp q.1 _ _ (cv_cat G q.2)
    simp only [cvl, List.map_cons, List.filter_cons] at ih ⊢
    rw [h]
    cases p q
    · simpa using ih
    · simpa using ih
/-- the local i, if it is listed -/
def lcg : Lc → Nat → Option Value
  | [], _ => none
  | q :: l, i => if q.1 = i then some q.2 else lcg l i
theorem lcg_mem : ∀ {l : Lc} {i : Nat} {v : Value}, lcg l i = some v → (i, v) ∈ l
  | [], _, _, h => by cases h
  | q :: l, i, v, h => by
    unfold lcg at h
    by_cases hq : q.1 = i
    · rw [if_pos hq] at h
      cases h
      rw [← hq]
      exact List.mem_cons_self
    · rw [if_neg hq] at h
      exact List.mem_cons_of_mem _ (lcg_mem h)
theorem lcg_ls {G : Gc} {l : Lc} {i nL : Nat} {v : Value} {ls : Array Slot} (h : lv_has ls nL (cvl G l)) (hg : lcg l i = some v) : ls[i]? = some (.val (cv G v)) := h.2.2 (i, cv G v) (List.mem_map.mpr ⟨(i, v), lcg_mem hg, rfl⟩)
/-- a store of one word, and of two -/
def lc1 (l : Lc) (i : Nat) (v : Value) : Lc := (i, v) :: l.filter (fun q => !(q.1 == i) && !(q.1 + 1 == i && q.2.category == 2))
def lc2 (l : Lc) (i : Nat) (v : Value) : Lc := (i, v) :: l.filter (fun q => !(q.1 == i) && (!(q.1 == i + 1) && !(q.1 + 1 == i && q.2.category == 2)))
theorem lc1_cv (G : Gc) (l : Lc) (i : Nat) (v : Value) : (i, cv G v) :: (cvl G l).filter (fun q => !(q.1 == i) && !(q.1 + 1 == i && q.2.category == 2)) = cvl G (lc1 l i v) := by
  rw [cvl_filter G _ (fun i v v' h => by simp [h])]
  rfl
theorem lc2_cv (G : Gc) (l : Lc) (i : Nat) (v : Value) : (i, cv G v) :: (cvl G l).filter (fun q => !(q.1 == i) && (!(q.1 == i + 1) && !(q.1 + 1 == i && q.2.category == 2))) = cvl G (lc2 l i v) := by
  rw [cvl_filter G _ (fun i v v' h => by simp [h])]
  rfl
end
section
/-! STEPS that touch no memory: the next pc, locals and stack. -/
abbrev Nx : Type := Nat × Lc × List Value
def bI (st : List Value) (f : Int32 → Int32 → Int32) : Option (List Value) := match st with
  | .int y :: .int x :: r => some (.int (f x y) :: r)
  | _ => none
def bJ (st : List Value) (f : Int64 → Int64 → Int64) : Option (List Value) := match st with
  | .long y :: .long x :: r => some (.long (f x y) :: r)
  | _ => none
def bS (st : List Value) (f : Int64 → Int32 → Int64) : Option (List Value) := match st with
  | .int y :: .long x :: r => some (.long (f x y) :: r)
  | _ => none
def bC (st : List Value) : Option (List Value) := match st with
  | .long y :: .long x :: r => some (.int (lg_cmp x y) :: r)
  | _ => none
def oI (st : List Value) (f : Int32 → Int32) : Option (List Value) := match st with
  | .int x :: r => some (.int (f x) :: r)
  | _ => none
def oJ (st : List Value) (f : Int64 → Int64) : Option (List Value) := match st with
  | .long x :: r => some (.long (f x) :: r)
  | _ => none
def oIJ (st : List Value) : Option (List Value) := match st with
  | .int x :: r => some (.long x.toInt64 :: r)
  | _ => none
def oJI (st : List Value) : Option (List Value) := match st with
  | .long x :: r => some (.int x.toInt32 :: r)
  | _ => none
/-- division: by what isn't 0 -/
def dI (st : List Value) (f : Int32 → Int32 → Int32) : Option (List Value) := match st with
  | .int y :: .int x :: r => if y = 0 then none else some (.int (f x y) :: r)
  | _ => none
def dJ (st : List Value) (f : Int64 → Int64 → Int64) : Option (List Value) := match st with
  | .long y :: .long x :: r => if y = 0 then none else some (.long (f x y) :: r)
  | _ => none
theorem bI_some {st st' : List Value} {f : Int32 → Int32 → Int32} (h : bI st f = some st') : ∃ x y r, st = .int y :: .int x :: r ∧ st' = .int (f x y) :: r := by
  unfold bI at h; split at h
  · cases h; exact ⟨_, _, _, rfl, rfl⟩
  · cases h
theorem bJ_some {st st' : List Value} {f : Int64 → Int64 → Int64} (h : bJ st f = some st') : ∃ x y r, st = .long y :: .long x :: r ∧ st' = .long (f x y) :: r := by
  unfold bJ at h; split at h
  · cases h; exact ⟨_, _, _, rfl, rfl⟩
  · cases h
theorem bS_some {st st' : List Value} {f : Int64 → Int32 → Int64} (h : bS st f = some st') : ∃ x y r, st = .int y :: .long x :: r ∧ st' = .long (f x y) :: r := by
  unfold bS at h; split at h
  · cases h; exact ⟨_, _, _, rfl, rfl⟩
  · cases h
theorem bC_some {st st' : List Value} (h : bC st = some st') : ∃ x y r, st = .long y :: .long x :: r ∧ st' = .int (lg_cmp x y) :: r := by
  unfold bC at h; split at h
  · cases h; exact ⟨_, _, _, rfl, rfl⟩
  · cases h
theorem oI_some {st st' : List Value} {f : Int32 → Int32} (h : oI st f = some st') : ∃ x r, st = .int x :: r ∧ st' = .int (f x) :: r := by
  unfold oI at h; split at h
  · cases h; exact ⟨_, _, rfl, rfl⟩
  · cases h
theorem oJ_some {st st' : List Value} {f : Int64 → Int64} (h : oJ st f = some st') : ∃ x r, st = .long x :: r ∧ st' = .long (f x) :: r := by
  unfold oJ at h; split at h
  · cases h; exact ⟨_, _, rfl, rfl⟩
  · cases h
theorem oIJ_some {st st' : List Value} (h : oIJ st = some st') : ∃ x r, st = .int x :: r ∧ st' = .long x.toInt64 :: r := by
  unfold oIJ at h; split at h
  · cases h; exact ⟨_, _, rfl, rfl⟩
  · cases h
theorem oJI_some {st st' : List Value} (h : oJI st = some st') : ∃ x r, st = .long x :: r ∧ st' = .int x.toInt32 :: r := by
  unfold oJI at h; split at h
  · cases h; exact ⟨_, _, rfl, rfl⟩
  · cases h
theorem dI_some {st st' : List Value} {f : Int32 → Int32 → Int32} (h : dI st f = some st') : ∃ x y r, st = .int y :: .int x :: r ∧ ¬ y = 0 ∧ st' = .int (f x y) :: r := by
  unfold dI at h; split at h
  · split at h
    · cases h
    · cases h; exact ⟨_, _, _, rfl, by assumption, rfl⟩
  · cases h
theorem dJ_some {st st' : List Value} {f : Int64 → Int64 → Int64} (h : dJ st f = some st') : ∃ x y r, st = .long y :: .long x :: r ∧ ¬ y = 0 ∧ st' = .long (f x y) :: r := by
  unfold dJ at h; split at h
  · split at h
    · cases h
    · cases h; exact ⟨_, _, _, rfl, by assumption, rfl⟩
  · cases h
/-- behind an instruction of length n -/
def nxt (len n pc : Nat) (lv : Lc) (st : Option (List Value)) : Option Nx := if len = n then st.map (fun t => (pc + n, lv, t)) else none
theorem nxt_some {len n pc : Nat} {lv : Lc} {st : Option (List Value)} {x : Nx} (h : nxt len n pc lv st = some x) : len = n ∧ ∃ t, st = some t ∧ x = (pc + n, lv, t) := by
  unfold nxt at h; split at h
  · cases st with
    | none => cases h
    | some t => cases h; exact ⟨by assumption, t, rfl, rfl⟩
  · cases h
def ldI (lv : Lc) (i : Nat) (st : List Value) : Option (List Value) := match lcg lv i with
  | some (.int x) => some (.int x :: st)
  | _ => none
def ldJ (lv : Lc) (i : Nat) (st : List Value) : Option (List Value) := match lcg lv i with
  | some (.long x) => some (.long x :: st)
  | _ => none
def ldA (lv : Lc) (i : Nat) (st : List Value) : Option (List Value) := match lcg lv i with
  | some (.ref x) => some (.ref x :: st)
  | some (.retAddr x) => some (.retAddr x :: st)
  | some .null => some (.null :: st)
  | _ => none
theorem ldI_some {lv : Lc} {i : Nat} {st t : List Value} (h : ldI lv i st = some t) : ∃ x, lcg lv i = some (.int x) ∧ t = .int x :: st := by
  unfold ldI at h; split at h
  · cases h; exact ⟨_, by assumption, rfl⟩
  · cases h
theorem ldJ_some {lv : Lc} {i : Nat} {st t : List Value} (h : ldJ lv i st = some t) : ∃ x, lcg lv i = some (.long x) ∧ t = .long x :: st := by
  unfold ldJ at h; split at h
  · cases h; exact ⟨_, by assumption, rfl⟩
  · cases h
theorem ldA_some {lv : Lc} {i : Nat} {st t : List Value} (h : ldA lv i st = some t) : ∃ v, lcg lv i = some v ∧ t = v :: st ∧ (v = .null ∨ (∃ x, v = .ref x) ∨ ∃ x, v = .retAddr x) := by
  unfold ldA at h; split at h
  · cases h; exact ⟨_, by assumption, rfl, Or.inr (Or.inl ⟨_, rfl⟩)⟩
  · cases h; exact ⟨_, by assumption, rfl, Or.inr (Or.inr ⟨_, rfl⟩)⟩
  · cases h; exact ⟨_, by assumption, rfl, Or.inl rfl⟩
  · cases h
/-- stores: the place must be within nL -/
def stI (nL len n pc : Nat) (lv : Lc) (i : Nat) (st : List Value) : Option Nx := match st with
  | .int x :: r => if len = n ∧ i < nL then some (pc + n, lc1 lv i (.int x), r) else none
  | _ => none
def stJ (nL len n pc : Nat) (lv : Lc) (i : Nat) (st : List Value) : Option Nx := match st with
  | .long x :: r => if len = n ∧ i + 1 < nL then some (pc + n, lc2 lv i (.long x), r) else none
  | _ => none
def stA (nL len n pc : Nat) (lv : Lc) (i : Nat) (st : List Value) : Option Nx := match st with
  | .ref x :: r => if len = n ∧ i < nL then some (pc + n, lc1 lv i (.ref x), r) else none
  | .null :: r => if len = n ∧ i < nL then some (pc + n, lc1 lv i .null, r) else none
  | _ => none
theorem stI_some {nL len n pc : Nat} {lv : Lc} {i : Nat} {st : List Value} {t : Nx} (h : stI nL len n pc lv i st = some t) : ∃ x r, st = .int x :: r ∧ len = n ∧ i < nL ∧ t = (pc + n, lc1 lv i (.int x), r) := by
  unfold stI at h; split at h
  · split at h
    · next hc => cases h; exact ⟨_, _, rfl, hc.1, hc.2, rfl⟩
    · cases h
  · cases h
theorem stJ_some {nL len n pc : Nat} {lv : Lc} {i : Nat} {st : List Value} {t : Nx} (h : stJ nL len n pc lv i st = some t) : ∃ x r, st = .long x :: r ∧ len = n ∧ i + 1 < nL ∧ t = (pc + n, lc2 lv i (.long x), r) := by
  unfold stJ at h; split at h
  · split at h
    · next hc => cases h; exact ⟨_, _, rfl, hc.1, hc.2, rfl⟩
    · cases h
  · cases h
theorem stA_some {nL len n pc : Nat} {lv : Lc} {i : Nat} {st : List Value} {t : Nx} (h : stA nL len n pc lv i st = some t) : ∃ v r, st = v :: r ∧ len = n ∧ i < nL ∧ t = (pc + n, lc1 lv i v, r) ∧ (v = .null ∨ ∃ x, v = .ref x) := by
  unfold stA at h; split at h
  · split at h
    · next hc => cases h; exact ⟨_, _, rfl, hc.1, hc.2, rfl, Or.inr ⟨_, rfl⟩⟩
    · cases h
  · split at h
    · next hc => cases h; exact ⟨_, _, rfl, hc.1, hc.2, rfl, Or.inl rfl⟩
    · cases h
  · cases h
/-- where a jump goes -/
def tgt (pc : Nat) (off : Int) : Nat := ((pc : Int) + off).toNat
theorem tgt_ok {pc : Nat} {off : Int} (h : 0 ≤ (pc : Int) + off) : (pc : Int) + off = ((tgt pc off : Nat) : Int) := (Int.toNat_of_nonneg h).symm
def jmp (len pc : Nat) (off : Int) (lv : Lc) (c : Prop) [Decidable c] (r : List Value) : Option Nx := if len = 3 ∧ 0 ≤ (pc : Int) + off then (if c then some (tgt pc off, lv, r) else some (pc + 3, lv, r)) else none
theorem jmp_some {len pc : Nat} {off : Int} {lv : Lc} {c : Prop} [Decidable c] {r : List Value} {t : Nx} (h : jmp len pc off lv c r = some t) : len = 3 ∧ (pc : Int) + off = ((tgt pc off : Nat) : Int) ∧ ((c ∧ t = (tgt pc off, lv, r)) ∨ (¬ c ∧ t = (pc + 3, lv, r))) := by
  unfold jmp at h; split at h
  · next hl =>
    refine ⟨hl.1, tgt_ok hl.2, ?_⟩
    split at h
    · cases h; exact Or.inl ⟨by assumption, rfl⟩
    · cases h; exact Or.inr ⟨by assumption, rfl⟩
  · cases h
def ifZ (cd : Jvm.ClassFile.Cond) (len pc : Nat) (off : Int) (lv : Lc) (st : List Value) : Option Nx := match st with
  | .int x :: r => match cd with
    | .eq => jmp len pc off lv (x = 0) r
    | .ne => jmp len pc off lv (¬ x = 0) r
    | .lt => jmp len pc off lv (x < 0) r
    | .ge => jmp len pc off lv (0 ≤ x) r
    | .gt => jmp len pc off lv (0 < x) r
    | .le => jmp len pc off lv (x ≤ 0) r
  | _ => none
def ifC (cd : Jvm.ClassFile.Cond) (len pc : Nat) (off : Int) (lv : Lc) (st : List Value) : Option Nx := match st with
  | .int y :: .int x :: r => match cd with
    | .eq => jmp len pc off lv (x = y) r
    | .ne => jmp len pc off lv (¬ x = y) r
    | .lt => jmp len pc off lv (x < y) r
    | .ge => jmp len pc off lv (y ≤ x) r
    | .gt => jmp len pc off lv (y < x) r
    | .le => jmp len pc off lv (x ≤ y) r
  | _ => none
def ifN (len pc : Nat) (off : Int) (lv : Lc) (st : List Value) : Option Nx := match st with
  | .ref _ :: r => if len = 3 then some (pc + 3, lv, r) else none
  | .null :: r => if len = 3 ∧ 0 ≤ (pc : Int) + off then some (tgt pc off, lv, r) else none
  | _ => none
def dup1 (st : List Value) : Option (List Value) := match st with
  | v :: r => if v.category = 1 then some (v :: v :: r) else none
  | _ => none
def dup2c (st : List Value) : Option (List Value) := match st with
  | va :: vb :: r => if va.category = 1 ∧ vb.category = 1 then some (va :: vb :: va :: vb :: r) else none
  | _ => none
def pop1 (st : List Value) : Option (List Value) := match st with
  | v :: r => if v.category = 1 then some r else none
  | _ => none
def pop2c (st : List Value) : Option (List Value) := match st with
  | v :: r => if v.category = 2 then some r else none
  | _ => none
theorem dup1_some {st t : List Value} (h : dup1 st = some t) : ∃ v r, st = v :: r ∧ v.category = 1 ∧ t = v :: v :: r := by
  unfold dup1 at h; split at h
  · split at h
    · cases h; exact ⟨_, _, rfl, by assumption, rfl⟩
    · cases h
  · cases h
theorem dup2c_some {st t : List Value} (h : dup2c st = some t) : ∃ va vb r, st = va :: vb :: r ∧ va.category = 1 ∧ vb.category = 1 ∧ t = va :: vb :: va :: vb :: r := by
  unfold dup2c at h; split at h
  · split at h
    · next hc => cases h; exact ⟨_, _, _, rfl, hc.1, hc.2, rfl⟩
    · cases h
  · cases h
theorem pop1_some {st t : List Value} (h : pop1 st = some t) : ∃ v, st = v :: t ∧ v.category = 1 := by
  unfold pop1 at h; split at h
  · split at h
    · cases h; exact ⟨_, rfl, by assumption⟩
    · cases h
  · cases h
theorem pop2c_some {st t : List Value} (h : pop2c st = some t) : ∃ v, st = v :: t ∧ v.category = 2 := by
  unfold pop2c at h; split at h
  · split at h
    · cases h; exact ⟨_, rfl, by assumption⟩
    · cases h
  · cases h
def iincr (nL len pc : Nat) (lv : Lc) (i : Nat) (n : Int) (st : List Value) : Option Nx := match lcg lv i with
  | some (.int x) => if len = 3 ∧ i < nL then some (pc + 3, lc1 lv i (.int (x + Int32.ofInt n)), st) else none
  | _ => none
/-- one instruction that touches no memory; cI, cJ: the class's constants -/
def stp (nL : Nat) (cI : Nat → Option Int32) (cJ : Nat → Option Int64) (ins : Instr) (len pc : Nat) (lv : Lc) (st : List Value) : Option Nx := match ins with
  | .iconst n => nxt len 1 pc lv (some (.int (Int32.ofInt n) :: st))
  | .bipush n => nxt len 2 pc lv (some (.int (Int8.ofInt n).toInt32 :: st))
  | .sipush n => nxt len 3 pc lv (some (.int (Int16.ofInt n).toInt32 :: st))
  | .lconst n => nxt len 1 pc lv (some (.long (Int64.ofNat n) :: st))
  | .ldc i => nxt len 2 pc lv ((cI i).map (fun v => .int v :: st))
  | .ldc_w i => nxt len 3 pc lv ((cI i).map (fun v => .int v :: st))
  | .ldc2_w i => nxt len 3 pc lv ((cJ i).map (fun v => .long v :: st))
  | .aconst_null => nxt len 1 pc lv (some (.null :: st))
  | .iload_n k => nxt len 1 pc lv (ldI lv k st)
  | .iload i => nxt len 2 pc lv (ldI lv i st)
  | .lload_n k => nxt len 1 pc lv (ldJ lv k st)
  | .lload i => nxt len 2 pc lv (ldJ lv i st)
  | .aload_n k => nxt len 1 pc lv (ldA lv k st)
  | .aload i => nxt len 2 pc lv (ldA lv i st)
  | .istore_n k => stI nL len 1 pc lv k st
  | .istore i => stI nL len 2 pc lv i st
  | .lstore_n k => stJ nL len 1 pc lv k st
  | .lstore i => stJ nL len 2 pc lv i st
  | .astore_n k => stA nL len 1 pc lv k st
  | .astore i => stA nL len 2 pc lv i st
  | .iinc i n => iincr nL len pc lv i n st
  | .iadd => nxt len 1 pc lv (bI st (fun x y => x + y))
  | .isub => nxt len 1 pc lv (bI st (fun x y => x - y))
  | .imul => nxt len 1 pc lv (bI st (fun x y => x * y))
  | .iand => nxt len 1 pc lv (bI st (fun x y => x &&& y))
  | .ior => nxt len 1 pc lv (bI st (fun x y => x ||| y))
  | .ixor => nxt len 1 pc lv (bI st (fun x y => x ^^^ y))
  | .idiv => nxt len 1 pc lv (dI st (fun x y => x / y))
  | .irem => nxt len 1 pc lv (dI st (fun x y => x - x / y * y))
  | .ineg => nxt len 1 pc lv (oI st (fun x => -x))
  | .ladd => nxt len 1 pc lv (bJ st (fun x y => x + y))
  | .lsub => nxt len 1 pc lv (bJ st (fun x y => x - y))
  | .lmul => nxt len 1 pc lv (bJ st (fun x y => x * y))
  | .land => nxt len 1 pc lv (bJ st (fun x y => x &&& y))
  | .lor => nxt len 1 pc lv (bJ st (fun x y => x ||| y))
  | .lxor => nxt len 1 pc lv (bJ st (fun x y => x ^^^ y))
  | .ldiv => nxt len 1 pc lv (dJ st (fun x y => x / y))
  | .lrem => nxt len 1 pc lv (dJ st (fun x y => x - x / y * y))
  | .lneg => nxt len 1 pc lv (oJ st (fun x => -x))
  | .ishl => nxt len 1 pc lv (bI st (fun x y => x <<< (y &&& 31)))
  | .ishr => nxt len 1 pc lv (bI st (fun x y => x >>> (y &&& 31)))
  | .iushr => nxt len 1 pc lv (bI st (fun x y => (x.toUInt32 >>> (y.toUInt32 &&& Int32.toUInt32 31)).toInt32))
  | .lshl => nxt len 1 pc lv (bS st (fun x y => x <<< (y.toInt64 &&& 63)))
  | .lshr => nxt len 1 pc lv (bS st (fun x y => x >>> (y.toInt64 &&& 63)))
  | .lushr => nxt len 1 pc lv (bS st (fun x y => (x.toUInt64 >>> (y.toInt64.toUInt64 &&& Int64.toUInt64 63)).toInt64))
  | .lcmp => nxt len 1 pc lv (bC st)
  | .i2l => nxt len 1 pc lv (oIJ st)
  | .l2i => nxt len 1 pc lv (oJI st)
  | .i2b => nxt len 1 pc lv (oI st (fun x => x.toInt8.toInt32))
  | .i2c => nxt len 1 pc lv (oI st (fun x => (x.toUInt32 % 65536).toInt32))
  | .dup => nxt len 1 pc lv (dup1 st)
  | .dup2 => nxt len 1 pc lv (dup2c st)
  | .pop => nxt len 1 pc lv (pop1 st)
  | .pop2 => nxt len 1 pc lv (pop2c st)
  | .goto off => jmp len pc off lv True st
  | .ifCond cd off => ifZ cd len pc off lv st
  | .if_icmp cd off => ifC cd len pc off lv st
  | .ifnull off => ifN len pc off lv st
  | .tableswitch dflt lo hi offs => match st with
    | .int x :: r => if 0 ≤ (pc : Int) + dflt ∧ (offs.all fun o => decide (0 ≤ (pc : Int) + o)) = true then (if x.toInt < lo ∨ hi < x.toInt then some (tgt pc dflt, lv, r) else (offs[(x.toInt - lo).toNat]?).map (fun o => (tgt pc o, lv, r))) else none
    | _ => none
  | .lookupswitch dflt ps => match st with
    | .int x :: r => if (ps.toList.zip (ps.toList.drop 1)).all (fun (a, next) => a.1 < next.1) = true ∧ 0 ≤ (pc : Int) + Op.lookupswitch.offset ps.toList dflt x.toInt then some (tgt pc (Op.lookupswitch.offset ps.toList dflt x.toInt), lv, r) else none
    | _ => none
  | _ => none
end
section
/-! STEPS that touch no memory, on the machine. -/
section SNDP
variable {p : Program} {l : Launch} {e : Env} {R : Room} {s : State} {m : MethodId} {args : Array Value} {below : List Frame} {meth : Method} {c : Code} {H : Heap} {locs : List Loc} {cells slots : Nat} {Q : State → Prop}
variable {cc : ByteArray} {G : Gc}
theorem snd_ldA (hx : p.tables.exec = Jvm.exec) (hb : c.code = cc) {v : Value} {i pc n : Nat} {ls : Array Slot} {rest : List Value} (hv : v = .null ∨ (∃ x, v = .ref x) ∨ ∃ x, v = .retAddr x) (hl : ls[i]? = some (.val (cv G v)))
    (hd : (∃ k : Fin 4, (k : Nat) = i ∧ n = 1 ∧ decode cc pc = .ok (.aload_n k, 1)) ∨ (n = 2 ∧ decode cc pc = .ok (.aload i, 2)))
    (k : W p l e R s m args below meth c H locs cells slots Q (F0 m (pc + n) ls (cv G v :: rest))) : W p l e R s m args below meth c H locs cells slots Q (F0 m pc ls rest) := by
  rcases hd with ⟨kk, hk, rfl, hd⟩ | ⟨rfl, hd⟩
  · rcases hv with rfl | ⟨x, rfl⟩ | ⟨x, rfl⟩
    · exact lv_aload_nN hx hb hd hk hl k
    · exact lv_aload_n hx hb hd hk hl k
    · exact lv_aload_n hx hb hd hk hl k
  · rcases hv with rfl | ⟨x, rfl⟩ | ⟨x, rfl⟩
    · exact lv_aloadN hx hb hd hl k
    · exact lv_aload hx hb hd hl k
    · exact lv_aload hx hb hd hl k
theorem snd_stp (hx : p.tables.exec = Jvm.exec) (hb : c.code = cc) {own : String} (hown : s.vm.findClass own = some m.cls) {cI : Nat → Option Int32} {cJ : Nat → Option Int64} (hcI : ∀ i v, cI i = some v → (Jvm.Cond.constant own i v).before args s = true) (hcJ : ∀ i v, cJ i = some v → (Jvm.Cond.constantLong own i v).before args s = true)
    {nL : Nat} {ins : Instr} {len pc : Nat} {lv : Lc} {st : List Value} {t : Nx} (hdg : decode cc pc = .ok (ins, len)) (hs : stp nL cI cJ ins len pc lv st = some t) {ls : Array Slot} (hl : lv_has ls nL (cvl G lv))
    (kk : ∀ ls', lv_has ls' nL (cvl G t.2.1) → W p l e R s m args below meth c H locs cells slots Q (F0 m t.1 ls' (t.2.2.map (cv G)))) : W p l e R s m args below meth c H locs cells slots Q (F0 m pc ls (st.map (cv G))) := by
  have one : ∀ {n : Nat} {o : Option (List Value)}, nxt len n pc lv o = some t → len = n ∧ ∃ t', o = some t' ∧ W p l e R s m args below meth c H locs cells slots Q (F0 m (pc + n) ls (t'.map (cv G))) := by
    intro n o h
    obtain ⟨h1, t', h2, rfl⟩ := nxt_some h
    exact ⟨h1, t', h2, kk ls hl⟩
  have jp : ∀ {off : Int} {cd : Prop} {_ : Decidable cd} {r : List Value}, jmp len pc off lv cd r = some t → len = 3 ∧ (pc : Int) + off = ((tgt pc off : Nat) : Int) ∧ (cd → W p l e R s m args below meth c H locs cells slots Q (F0 m (tgt pc off) ls (r.map (cv G)))) ∧ (¬ cd → W p l e R s m args below meth c H locs cells slots Q (F0 m (pc + 3) ls (r.map (cv G)))) := by
    intro off cd _ r h
    obtain ⟨h1, h2, h3⟩ := jmp_some h
    refine ⟨h1, h2, fun hc => ?_, fun hc => ?_⟩
    · rcases h3 with ⟨_, rfl⟩ | ⟨h, _⟩
      · exact kk ls hl
      · exact absurd hc h
    · rcases h3 with ⟨h, _⟩ | ⟨_, rfl⟩
      · exact absurd h hc
      · exact kk ls hl
  cases ins <;> simp only [stp] at hs <;> try (cases hs; done)
  case iconst n => obtain ⟨rfl, t', h2, k⟩ := one hs; cases h2; exact lv_iconst hx hb hdg rfl k
  case bipush n => obtain ⟨rfl, t', h2, k⟩ := one hs; cases h2; exact lv_bipush hx hb hdg rfl k
  case sipush n => obtain ⟨rfl, t', h2, k⟩ := one hs; cases h2; exact lv_sipush hx hb hdg rfl k
  case lconst n => obtain ⟨rfl, t', h2, k⟩ := one hs; cases h2; exact lv_lconst hx hb hdg rfl k
  case aconst_null => obtain ⟨rfl, t', h2, k⟩ := one hs; cases h2; exact lv_null hx hb hdg k
  case ldc i =>
    obtain ⟨rfl, t', h2, k⟩ := one hs
    obtain ⟨v, hv, rfl⟩ := Option.map_eq_some_iff.mp h2
    exact lv_ldc hx hb hown (hcI _ _ hv) hdg k
  case ldc_w i =>
    obtain ⟨rfl, t', h2, k⟩ := one hs
    obtain ⟨v, hv, rfl⟩ := Option.map_eq_some_iff.mp h2
    exact lv_ldcw hx hb hown (hcI _ _ hv) hdg k
  case ldc2_w i =>
    obtain ⟨rfl, t', h2, k⟩ := one hs
    obtain ⟨v, hv, rfl⟩ := Option.map_eq_some_iff.mp h2
    exact lv_ldc2 hx hb hown (hcJ _ _ hv) hdg k
  case iload_n i => obtain ⟨rfl, t', h2, k⟩ := one hs; obtain ⟨x, h3, rfl⟩ := ldI_some h2; exact lv_iload_n hx hb hdg rfl (lcg_ls hl h3) k
  case iload i => obtain ⟨rfl, t', h2, k⟩ := one hs; obtain ⟨x, h3, rfl⟩ := ldI_some h2; exact lv_iload hx hb hdg (lcg_ls hl h3) k
  case lload_n i => obtain ⟨rfl, t', h2, k⟩ := one hs; obtain ⟨x, h3, rfl⟩ := ldJ_some h2; exact lv_lload_n hx hb hdg rfl (lcg_ls hl h3) k
  case lload i => obtain ⟨rfl, t', h2, k⟩ := one hs; obtain ⟨x, h3, rfl⟩ := ldJ_some h2; exact lv_lload hx hb hdg (lcg_ls hl h3) k
  case aload_n i => obtain ⟨rfl, t', h2, k⟩ := one hs; obtain ⟨v, h3, rfl, h4⟩ := ldA_some h2; exact snd_ldA hx hb h4 (lcg_ls hl h3) (Or.inl ⟨_, rfl, rfl, hdg⟩) k
  case aload i => obtain ⟨rfl, t', h2, k⟩ := one hs; obtain ⟨v, h3, rfl, h4⟩ := ldA_some h2; exact snd_ldA hx hb h4 (lcg_ls hl h3) (Or.inr ⟨rfl, hdg⟩) k
  case istore_n i => obtain ⟨x, r, rfl, rfl, hn, rfl⟩ := stI_some hs; exact lv_istore_n hx hb hdg rfl hl hn (lc1_cv G lv _ (.int x)) (fun ls' h => kk ls' h)
  case istore i => obtain ⟨x, r, rfl, rfl, hn, rfl⟩ := stI_some hs; exact lv_istore hx hb hdg hl hn (lc1_cv G lv _ (.int x)) (fun ls' h => kk ls' h)
  case lstore_n i => obtain ⟨x, r, rfl, rfl, hn, rfl⟩ := stJ_some hs; exact lv_lstore_n hx hb hdg rfl hl hn (lc2_cv G lv _ (.long x)) (fun ls' h => kk ls' h)
  case lstore i => obtain ⟨x, r, rfl, rfl, hn, rfl⟩ := stJ_some hs; exact lv_lstore hx hb hdg hl hn (lc2_cv G lv _ (.long x)) (fun ls' h => kk ls' h)
  case astore_n i =>
    obtain ⟨v, r, rfl, rfl, hn, rfl, rfl | ⟨x, rfl⟩⟩ := stA_some hs
    · exact lv_astore_nN hx hb hdg rfl hl hn (lc1_cv G lv _ .null) (fun ls' h => kk ls' h)
    · exact lv_astore_n hx hb hdg rfl hl hn (lc1_cv G lv _ (.ref x)) (fun ls' h => kk ls' h)
  case astore i =>
    obtain ⟨v, r, rfl, rfl, hn, rfl, rfl | ⟨x, rfl⟩⟩ := stA_some hs
    · exact lv_astoreN hx hb hdg hl hn (lc1_cv G lv _ .null) (fun ls' h => kk ls' h)
    · exact lv_astore hx hb hdg hl hn (lc1_cv G lv _ (.ref x)) (fun ls' h => kk ls' h)
  case iinc i n =>
    unfold iincr at hs
    split at hs
    · next x hg =>
      split at hs
      · next hc =>
        cases hs
        obtain ⟨rfl, hn⟩ := hc
        obtain ⟨k, hk⟩ := List.getElem?_of_mem (show (i, Value.int x) ∈ cvl G lv from List.mem_map.mpr ⟨(i, .int x), lcg_mem hg, rfl⟩)
        exact lv_iinc hx hb hdg hl hk rfl hn (lc1_cv G lv _ (.int (x + Int32.ofInt n))) (fun ls' h => kk ls' h)
      · cases hs
    · cases hs
  case iadd => obtain ⟨rfl, t', h2, k⟩ := one hs; obtain ⟨x, y, r, rfl, rfl⟩ := bI_some h2; exact lv_iadd hx hb hdg k
  case isub => obtain ⟨rfl, t', h2, k⟩ := one hs; obtain ⟨x, y, r, rfl, rfl⟩ := bI_some h2; exact lv_isub hx hb hdg k
  case imul => obtain ⟨rfl, t', h2, k⟩ := one hs; obtain ⟨x, y, r, rfl, rfl⟩ := bI_some h2; exact lv_imul hx hb hdg k
  case iand => obtain ⟨rfl, t', h2, k⟩ := one hs; obtain ⟨x, y, r, rfl, rfl⟩ := bI_some h2; exact lv_iand hx hb hdg k
  case ior => obtain ⟨rfl, t', h2, k⟩ := one hs; obtain ⟨x, y, r, rfl, rfl⟩ := bI_some h2; exact lv_ior hx hb hdg k
  case ixor => obtain ⟨rfl, t', h2, k⟩ := one hs; obtain ⟨x, y, r, rfl, rfl⟩ := bI_some h2; exact lv_ixor hx hb hdg k
  case idiv => obtain ⟨rfl, t', h2, k⟩ := one hs; obtain ⟨x, y, r, rfl, h0, rfl⟩ := dI_some h2; exact lv_idiv hx hb hdg h0 k
  case irem => obtain ⟨rfl, t', h2, k⟩ := one hs; obtain ⟨x, y, r, rfl, h0, rfl⟩ := dI_some h2; exact lv_irem hx hb hdg h0 k
  case ineg => obtain ⟨rfl, t', h2, k⟩ := one hs; obtain ⟨x, r, rfl, rfl⟩ := oI_some h2; exact lv_ineg hx hb hdg k
  case ladd => obtain ⟨rfl, t', h2, k⟩ := one hs; obtain ⟨x, y, r, rfl, rfl⟩ := bJ_some h2; exact lv_ladd hx hb hdg k
  case lsub => obtain ⟨rfl, t', h2, k⟩ := one hs; obtain ⟨x, y, r, rfl, rfl⟩ := bJ_some h2; exact lv_lsub hx hb hdg k
  case lmul => obtain ⟨rfl, t', h2, k⟩ := one hs; obtain ⟨x, y, r, rfl, rfl⟩ := bJ_some h2; exact lv_lmul hx hb hdg k
  case land => obtain ⟨rfl, t', h2, k⟩ := one hs; obtain ⟨x, y, r, rfl, rfl⟩ := bJ_some h2; exact lv_land hx hb hdg k
  case lor => obtain ⟨rfl, t', h2, k⟩ := one hs; obtain ⟨x, y, r, rfl, rfl⟩ := bJ_some h2; exact lv_lor hx hb hdg k
  case lxor => obtain ⟨rfl, t', h2, k⟩ := one hs; obtain ⟨x, y, r, rfl, rfl⟩ := bJ_some h2; exact lv_lxor hx hb hdg k
  case ldiv => obtain ⟨rfl, t', h2, k⟩ := one hs; obtain ⟨x, y, r, rfl, h0, rfl⟩ := dJ_some h2; exact lv_ldiv hx hb hdg h0 k
  case lrem => obtain ⟨rfl, t', h2, k⟩ := one hs; obtain ⟨x, y, r, rfl, h0, rfl⟩ := dJ_some h2; exact lv_lrem hx hb hdg h0 k
  case lneg => obtain ⟨rfl, t', h2, k⟩ := one hs; obtain ⟨x, r, rfl, rfl⟩ := oJ_some h2; exact lv_lneg hx hb hdg k
  case ishl => obtain ⟨rfl, t', h2, k⟩ := one hs; obtain ⟨x, y, r, rfl, rfl⟩ := bI_some h2; exact lv_ishl hx hb hdg k
  case ishr => obtain ⟨rfl, t', h2, k⟩ := one hs; obtain ⟨x, y, r, rfl, rfl⟩ := bI_some h2; exact lv_ishr hx hb hdg k
  case iushr => obtain ⟨rfl, t', h2, k⟩ := one hs; obtain ⟨x, y, r, rfl, rfl⟩ := bI_some h2; exact lv_iushr hx hb hdg rfl k
  case lshl => obtain ⟨rfl, t', h2, k⟩ := one hs; obtain ⟨x, y, r, rfl, rfl⟩ := bS_some h2; exact lv_lshl hx hb hdg rfl k
  case lshr => obtain ⟨rfl, t', h2, k⟩ := one hs; obtain ⟨x, y, r, rfl, rfl⟩ := bS_some h2; exact lv_lshr hx hb hdg rfl k
  case lushr => obtain ⟨rfl, t', h2, k⟩ := one hs; obtain ⟨x, y, r, rfl, rfl⟩ := bS_some h2; exact lv_lushr hx hb hdg rfl k
  case lcmp => obtain ⟨rfl, t', h2, k⟩ := one hs; obtain ⟨x, y, r, rfl, rfl⟩ := bC_some h2; exact W.lcmp hx hb hdg k
  case i2l => obtain ⟨rfl, t', h2, k⟩ := one hs; obtain ⟨x, r, rfl, rfl⟩ := oIJ_some h2; exact lv_i2l hx hb hdg rfl k
  case l2i => obtain ⟨rfl, t', h2, k⟩ := one hs; obtain ⟨x, r, rfl, rfl⟩ := oJI_some h2; exact lv_l2i hx hb hdg rfl k
  case i2b => obtain ⟨rfl, t', h2, k⟩ := one hs; obtain ⟨x, r, rfl, rfl⟩ := oI_some h2; exact lv_i2b hx hb hdg rfl k
  case i2c => obtain ⟨rfl, t', h2, k⟩ := one hs; obtain ⟨x, r, rfl, rfl⟩ := oI_some h2; exact lv_i2c hx hb hdg rfl k
  case dup => obtain ⟨rfl, t', h2, k⟩ := one hs; obtain ⟨v, r, rfl, hc, rfl⟩ := dup1_some h2; exact lv_dup hx hb hdg (by rw [cv_cat]; exact hc) k
  case dup2 => obtain ⟨rfl, t', h2, k⟩ := one hs; obtain ⟨va, vb, r, rfl, h3, h4, rfl⟩ := dup2c_some h2; exact lv_dup2_11 hx hb hdg (by rw [cv_cat]; exact h3) (by rw [cv_cat]; exact h4) k
  case pop => obtain ⟨rfl, t', h2, k⟩ := one hs; obtain ⟨v, rfl, hc⟩ := pop1_some h2; exact lv_pop hx hb hdg (by rw [cv_cat]; exact hc) k
  case pop2 => obtain ⟨rfl, t', h2, k⟩ := one hs; obtain ⟨v, rfl, hc⟩ := pop2c_some h2; exact lv_pop2_2 hx hb hdg (by rw [cv_cat]; exact hc) k
  case goto off => obtain ⟨rfl, h2, k1, _⟩ := jp hs; exact lv_goto hx hb hdg h2 (k1 trivial)
  case ifCond cd off =>
    unfold ifZ at hs
    split at hs
    · cases cd <;> (obtain ⟨rfl, h2, k1, k2⟩ := jp hs)
      · exact lv_if_eq hx hb hdg h2 k1 k2
      · exact lv_if_ne hx hb hdg h2 k1 (fun h => k2 (fun h' => h' h))
      · exact lv_if_lt hx hb hdg h2 k1 k2
      · exact lv_if_ge hx hb hdg h2 k1 k2
      · exact lv_if_gt hx hb hdg h2 k1 k2
      · exact lv_if_le hx hb hdg h2 k1 k2
    · cases hs
  case if_icmp cd off =>
    unfold ifC at hs
    split at hs
    · cases cd <;> (obtain ⟨rfl, h2, k1, k2⟩ := jp hs)
      · exact lv_icmp_eq hx hb hdg h2 k1 k2
      · exact lv_icmp_ne hx hb hdg h2 k1 (fun h => k2 (fun h' => h' h))
      · exact lv_icmp_lt hx hb hdg h2 k1 k2
      · exact lv_icmp_ge hx hb hdg h2 k1 k2
      · exact lv_icmp_gt hx hb hdg h2 k1 k2
      · exact lv_icmp_le hx hb hdg h2 k1 k2
    · cases hs
  case ifnull off =>
    unfold ifN at hs
    split at hs
    · split at hs
      · next hc => cases hs; subst hc; exact lv_ifnull hx hb hdg (kk ls hl)
      · cases hs
    · split at hs
      · next hc => cases hs; obtain ⟨rfl, h0⟩ := hc; exact lv_ifnullN hx hb hdg (tgt_ok h0) (kk ls hl)
      · cases hs
    · cases hs
  case tableswitch dflt lo hi offs =>
    split at hs
    · next x r =>
      split at hs
      · next hc =>
        split at hs
        · next h1 => cases hs; exact lv_tableOut hx hb hdg h1 (tgt_ok hc.1) (kk ls hl)
        · next h1 =>
          obtain ⟨o, ho, rfl⟩ := Option.map_eq_some_iff.mp hs
          have h0 : 0 ≤ (pc : Int) + o := by
            have := Array.all_eq_true_iff_forall_mem.mp hc.2 o (Array.mem_of_getElem? ho)
            exact of_decide_eq_true this
          exact lv_tableIn hx hb hdg (fun q => h1 (Or.inl q)) (fun q => h1 (Or.inr q)) ho (tgt_ok h0) (kk ls hl)
      · cases hs
    · cases hs
  case lookupswitch dflt ps =>
    split at hs
    · next x r =>
      split at hs
      · next hc => cases hs; exact lv_lookup hx hb hdg hc.1 rfl (tgt_ok hc.2) (kk ls hl)
      · cases hs
    · cases hs
end SNDP
end
section
/-! NAMES: classes and their fields, as printed of the program. -/
def RX0 : String := "SharesComing$Book"
def TX0 : u_T := fun k => match k with
  | 0 => ("SharesComing$Book", "rows", "LSharesComing$Rows;", true)
  | 1 => ("SharesComing$Book", "will", "LSharesComing$Will;", true)
  | 2 => ("SharesComing$Book", "ranks", "LSharesComing$Ranks;", true)
  | 3 => ("SharesComing$Book", "ways", "LSharesComing$Ways;", true)
  | 4 => ("SharesComing$Book", "ends", "[LSharesComing$Ends;", true)
  | _ => ("SharesComing$Book", "sights", "[LSharesComing$Sight;", true)
def tyX0 : Nat → FieldType := fun k => match k with
  | 0 => .object "SharesComing$Rows"
  | 1 => .object "SharesComing$Will"
  | 2 => .object "SharesComing$Ranks"
  | 3 => .object "SharesComing$Ways"
  | 4 => .array (.object "SharesComing$Ends")
  | _ => .array (.object "SharesComing$Sight")
abbrev wsX00 : List Cond := u_ws RX0 TX0 6
theorem nmX0 : ∀ a, a < 6 → ∀ b, b < 6 → a ≠ b → (TX0 a).2.1 ≠ (TX0 b).2.1 := by decide +kernel
theorem tyX0_ok : ∀ k, k < 6 → parseFieldDescriptor (TX0 k).2.2.1 = some (tyX0 k) := by decide +kernel
def RX1 : String := "SharesComing$Ends"
def TX1 : u_T := fun k => match k with
  | 0 => ("SharesComing$Ends", "table", "LSharesComing$Table;", true)
  | 1 => ("SharesComing$Ends", "will", "LSharesComing$Will;", true)
  | 2 => ("SharesComing$Ends", "ranks", "LSharesComing$Ranks;", true)
  | 3 => ("SharesComing$Ends", "goal", "I", true)
  | _ => ("SharesComing$Ends", "oneBackLess", "LSharesComing$Ends;", true)
def tyX1 : Nat → FieldType := fun k => match k with
  | 0 => .object "SharesComing$Table"
  | 1 => .object "SharesComing$Will"
  | 2 => .object "SharesComing$Ranks"
  | 3 => .int
  | _ => .object "SharesComing$Ends"
abbrev wsX10 : List Cond := u_ws RX1 TX1 5
theorem nmX1 : ∀ a, a < 5 → ∀ b, b < 5 → a ≠ b → (TX1 a).2.1 ≠ (TX1 b).2.1 := by decide +kernel
theorem tyX1_ok : ∀ k, k < 5 → parseFieldDescriptor (TX1 k).2.2.1 = some (tyX1 k) := by decide +kernel
def RX2 : String := "SharesComing$Goals"
def TX2 : u_T := fun k => match k with
  | _ => ("", "", "", false)
def tyX2 : Nat → FieldType := fun k => match k with
  | _ => .int
abbrev wsX20 : List Cond := u_ws RX2 TX2 0
theorem nmX2 : ∀ a, a < 0 → ∀ b, b < 0 → a ≠ b → (TX2 a).2.1 ≠ (TX2 b).2.1 := by decide +kernel
theorem tyX2_ok : ∀ k, k < 0 → parseFieldDescriptor (TX2 k).2.2.1 = some (tyX2 k) := by decide +kernel
def RX3 : String := "SharesComing$Ranks"
def TX3 : u_T := fun k => match k with
  | 0 => ("SharesComing$Ranks", "numberOf", "[I", true)
  | 1 => ("SharesComing$Ranks", "sumOf", "[I", true)
  | 2 => ("SharesComing$Ranks", "upTo", "[I", true)
  | 3 => ("SharesComing$Ranks", "middle", "[I", true)
  | 4 => ("SharesComing$Ranks", "first", "[I", true)
  | 5 => ("SharesComing$Ranks", "size", "[I", true)
  | 6 => ("SharesComing$Ranks", "limit", "[I", true)
  | 7 => ("SharesComing$Ranks", "start", "[I", true)
  | 8 => ("SharesComing$Ranks", "lateMask", "[I", true)
  | 9 => ("SharesComing$Ranks", "cameBy", "[I", true)
  | 10 => ("SharesComing$Ranks", "masks", "I", false)
  | _ => ("SharesComing$Ranks", "days", "I", false)
def tyX3 : Nat → FieldType := fun k => match k with
  | 0 => .array .int
  | 1 => .array .int
  | 2 => .array .int
  | 3 => .array .int
  | 4 => .array .int
  | 5 => .array .int
  | 6 => .array .int
  | 7 => .array .int
  | 8 => .array .int
  | 9 => .array .int
  | 10 => .int
  | _ => .int
abbrev wsX30 : List Cond := u_ws RX3 TX3 12
theorem nmX3 : ∀ a, a < 12 → ∀ b, b < 12 → a ≠ b → (TX3 a).2.1 ≠ (TX3 b).2.1 := by decide +kernel
theorem tyX3_ok : ∀ k, k < 12 → parseFieldDescriptor (TX3 k).2.2.1 = some (tyX3 k) := by decide +kernel
def RX4 : String := "SharesComing$Reader"
def TX4 : u_T := fun k => match k with
  | 0 => ("SharesComing$Reader", "text", "[B", true)
  | 1 => ("SharesComing$Reader", "length", "I", false)
  | 2 => ("SharesComing$Reader", "at", "I", false)
  | 3 => ("SharesComing$Reader", "token", "I", false)
  | 4 => ("SharesComing$Reader", "place", "I", false)
  | 5 => ("SharesComing$Reader", "number", "I", false)
  | 6 => ("SharesComing$Reader", "word", "J", false)
  | _ => ("SharesComing$Reader", "parts", "I", false)
def tyX4 : Nat → FieldType := fun k => match k with
  | 0 => .array .byte
  | 1 => .int
  | 2 => .int
  | 3 => .int
  | 4 => .int
  | 5 => .int
  | 6 => .long
  | _ => .int
abbrev wsX40 : List Cond := u_ws RX4 TX4 8
theorem nmX4 : ∀ a, a < 8 → ∀ b, b < 8 → a ≠ b → (TX4 a).2.1 ≠ (TX4 b).2.1 := by decide +kernel
theorem tyX4_ok : ∀ k, k < 8 → parseFieldDescriptor (TX4 k).2.2.1 = some (tyX4 k) := by decide +kernel
def RX5 : String := "SharesComing$Rows"
def TX5 : u_T := fun k => match k with
  | 0 => ("SharesComing$Rows", "will", "LSharesComing$Will;", true)
  | 1 => ("SharesComing$Rows", "ranks", "LSharesComing$Ranks;", true)
  | 2 => ("SharesComing$Rows", "walked", "[I", false)
  | 3 => ("SharesComing$Rows", "walk", "I", false)
  | 4 => ("SharesComing$Rows", "least", "J", false)
  | _ => ("SharesComing$Rows", "floor", "J", false)
def tyX5 : Nat → FieldType := fun k => match k with
  | 0 => .object "SharesComing$Will"
  | 1 => .object "SharesComing$Ranks"
  | 2 => .array .int
  | 3 => .int
  | 4 => .long
  | _ => .long
abbrev wsX50 : List Cond := u_ws RX5 TX5 6
theorem nmX5 : ∀ a, a < 6 → ∀ b, b < 6 → a ≠ b → (TX5 a).2.1 ≠ (TX5 b).2.1 := by decide +kernel
theorem tyX5_ok : ∀ k, k < 6 → parseFieldDescriptor (TX5 k).2.2.1 = some (tyX5 k) := by decide +kernel
def RX6 : String := "SharesComing$Sight"
def TX6 : u_T := fun k => match k with
  | 0 => ("SharesComing$Sight", "table", "LSharesComing$Table;", true)
  | 1 => ("SharesComing$Sight", "will", "LSharesComing$Will;", true)
  | 2 => ("SharesComing$Sight", "ranks", "LSharesComing$Ranks;", true)
  | 3 => ("SharesComing$Sight", "kind", "I", true)
  | _ => ("SharesComing$Sight", "ends", "LSharesComing$Ends;", false)
def tyX6 : Nat → FieldType := fun k => match k with
  | 0 => .object "SharesComing$Table"
  | 1 => .object "SharesComing$Will"
  | 2 => .object "SharesComing$Ranks"
  | 3 => .int
  | _ => .object "SharesComing$Ends"
abbrev wsX60 : List Cond := u_ws RX6 TX6 5
theorem nmX6 : ∀ a, a < 5 → ∀ b, b < 5 → a ≠ b → (TX6 a).2.1 ≠ (TX6 b).2.1 := by decide +kernel
theorem tyX6_ok : ∀ k, k < 5 → parseFieldDescriptor (TX6 k).2.2.1 = some (tyX6 k) := by decide +kernel
def RX7 : String := "SharesComing$State"
def TX7 : u_T := fun k => match k with
  | _ => ("", "", "", false)
def tyX7 : Nat → FieldType := fun k => match k with
  | _ => .int
abbrev wsX70 : List Cond := u_ws RX7 TX7 0
theorem nmX7 : ∀ a, a < 0 → ∀ b, b < 0 → a ≠ b → (TX7 a).2.1 ≠ (TX7 b).2.1 := by decide +kernel
theorem tyX7_ok : ∀ k, k < 0 → parseFieldDescriptor (TX7 k).2.2.1 = some (tyX7 k) := by decide +kernel
def RX8 : String := "SharesComing$Table"
def TX8 : u_T := fun k => match k with
  | 0 => ("SharesComing$Table", "found", "[J", false)
  | _ => ("SharesComing$Table", "ready", "Z", false)
def tyX8 : Nat → FieldType := fun k => match k with
  | 0 => .array .long
  | _ => .boolean
abbrev wsX80 : List Cond := u_ws RX8 TX8 2
theorem nmX8 : ∀ a, a < 2 → ∀ b, b < 2 → a ≠ b → (TX8 a).2.1 ≠ (TX8 b).2.1 := by decide +kernel
theorem tyX8_ok : ∀ k, k < 2 → parseFieldDescriptor (TX8 k).2.2.1 = some (tyX8 k) := by decide +kernel
def RX9 : String := "SharesComing$Ways"
def TX9 : u_T := fun k => match k with
  | 0 => ("SharesComing$Ways", "will", "LSharesComing$Will;", true)
  | 1 => ("SharesComing$Ways", "share", "LSharesComing$Sight;", true)
  | 2 => ("SharesComing$Ways", "way", "I", false)
  | 3 => ("SharesComing$Ways", "mean", "Z", false)
  | _ => ("SharesComing$Ways", "ends", "LSharesComing$Ends;", false)
def tyX9 : Nat → FieldType := fun k => match k with
  | 0 => .object "SharesComing$Will"
  | 1 => .object "SharesComing$Sight"
  | 2 => .int
  | 3 => .boolean
  | _ => .object "SharesComing$Ends"
abbrev wsX90 : List Cond := u_ws RX9 TX9 5
theorem nmX9 : ∀ a, a < 5 → ∀ b, b < 5 → a ≠ b → (TX9 a).2.1 ≠ (TX9 b).2.1 := by decide +kernel
theorem tyX9_ok : ∀ k, k < 5 → parseFieldDescriptor (TX9 k).2.2.1 = some (tyX9 k) := by decide +kernel
def RX10 : String := "SharesComing$Will"
def TX10 : u_T := fun k => match k with
  | 0 => ("SharesComing$Will", "heirs", "I", false)
  | 1 => ("SharesComing$Will", "days", "I", false)
  | 2 => ("SharesComing$Will", "hold", "I", false)
  | 3 => ("SharesComing$Will", "back", "I", false)
  | 4 => ("SharesComing$Will", "holdTold", "Z", false)
  | 5 => ("SharesComing$Will", "backTold", "Z", false)
  | 6 => ("SharesComing$Will", "late", "I", false)
  | 7 => ("SharesComing$Will", "names", "[J", true)
  | 8 => ("SharesComing$Will", "worths", "[I", true)
  | 9 => ("SharesComing$Will", "altCounts", "[I", true)
  | 10 => ("SharesComing$Will", "chances", "[I", true)
  | 11 => ("SharesComing$Will", "kinds", "[I", true)
  | _ => ("SharesComing$Will", "targets", "[I", true)
def tyX10 : Nat → FieldType := fun k => match k with
  | 0 => .int
  | 1 => .int
  | 2 => .int
  | 3 => .int
  | 4 => .boolean
  | 5 => .boolean
  | 6 => .int
  | 7 => .array .long
  | 8 => .array .int
  | 9 => .array .int
  | 10 => .array .int
  | 11 => .array .int
  | _ => .array .int
abbrev wsX100 : List Cond := u_ws RX10 TX10 13
theorem nmX10 : ∀ a, a < 13 → ∀ b, b < 13 → a ≠ b → (TX10 a).2.1 ≠ (TX10 b).2.1 := by decide +kernel
theorem tyX10_ok : ∀ k, k < 13 → parseFieldDescriptor (TX10 k).2.2.1 = some (tyX10 k) := by decide +kernel
def RX11 : String := "SharesComing"
def TX11 : u_T := fun k => match k with
  | 0 => ("SharesComing", "text", "[B", true)
  | 1 => ("SharesComing", "length", "I", false)
  | 2 => ("SharesComing", "reader", "LSharesComing$Reader;", true)
  | 3 => ("SharesComing", "draft", "LSharesComing$Will;", true)
  | 4 => ("SharesComing", "will", "LSharesComing$Will;", true)
  | 5 => ("SharesComing", "book", "LSharesComing$Book;", true)
  | 6 => ("SharesComing", "told", "Z", false)
  | 7 => ("SharesComing", "now", "J", false)
  | 8 => ("SharesComing", "waits", "I", false)
  | 9 => ("SharesComing", "imageKept", "[Z", true)
  | 10 => ("SharesComing", "imageState", "[J", true)
  | _ => ("SharesComing", "imageWaits", "[I", true)
def tyX11 : Nat → FieldType := fun k => match k with
  | 0 => .array .byte
  | 1 => .int
  | 2 => .object "SharesComing$Reader"
  | 3 => .object "SharesComing$Will"
  | 4 => .object "SharesComing$Will"
  | 5 => .object "SharesComing$Book"
  | 6 => .boolean
  | 7 => .long
  | 8 => .int
  | 9 => .array .boolean
  | 10 => .array .long
  | _ => .array .int
abbrev wsX110 : List Cond := u_ws RX11 TX11 12
theorem nmX11 : ∀ a, a < 12 → ∀ b, b < 12 → a ≠ b → (TX11 a).2.1 ≠ (TX11 b).2.1 := by decide +kernel
theorem tyX11_ok : ∀ k, k < 12 → parseFieldDescriptor (TX11 k).2.2.1 = some (tyX11 k) := by decide +kernel
def RX12 : String := "SharesComingModel"
def TX12 : u_T := fun k => match k with
  | 0 => ("SharesComingModel", "text", "[B", true)
  | 1 => ("SharesComingModel", "size", "I", false)
  | 2 => ("SharesComingModel", "at", "I", false)
  | 3 => ("SharesComingModel", "kind", "I", false)
  | 4 => ("SharesComingModel", "tokenAt", "I", false)
  | 5 => ("SharesComingModel", "value", "J", false)
  | 6 => ("SharesComingModel", "readHeirs", "I", false)
  | 7 => ("SharesComingModel", "readName", "[J", true)
  | 8 => ("SharesComingModel", "isLate", "[Z", true)
  | 9 => ("SharesComingModel", "readWorth", "[I", true)
  | 10 => ("SharesComingModel", "readDays", "I", false)
  | 11 => ("SharesComingModel", "readAlts", "[I", true)
  | 12 => ("SharesComingModel", "readAlt", "[I", true)
  | 13 => ("SharesComingModel", "readHold", "I", false)
  | 14 => ("SharesComingModel", "readBack", "I", false)
  | 15 => ("SharesComingModel", "isMatter", "Z", false)
  | 16 => ("SharesComingModel", "heirs", "I", false)
  | 17 => ("SharesComingModel", "worth", "[I", true)
  | 18 => ("SharesComingModel", "days", "I", false)
  | 19 => ("SharesComingModel", "alts", "[I", true)
  | 20 => ("SharesComingModel", "altRow", "[I", true)
  | 21 => ("SharesComingModel", "hold", "I", false)
  | 22 => ("SharesComingModel", "back", "I", false)
  | 23 => ("SharesComingModel", "now", "J", false)
  | 24 => ("SharesComingModel", "over", "I", false)
  | 25 => ("SharesComingModel", "waits", "I", false)
  | 26 => ("SharesComingModel", "imageNow", "[J", true)
  | 27 => ("SharesComingModel", "imageOver", "[I", true)
  | 28 => ("SharesComingModel", "imageWaits", "[I", true)
  | 29 => ("SharesComingModel", "isImage", "[Z", true)
  | 30 => ("SharesComingModel", "readSum", "I", false)
  | 31 => ("SharesComingModel", "endKey", "[J", true)
  | 32 => ("SharesComingModel", "endIs", "[I", true)
  | 33 => ("SharesComingModel", "endMany", "I", false)
  | 34 => ("SharesComingModel", "heldSort", "[I", true)
  | 35 => ("SharesComingModel", "state", "[J", true)
  | 36 => ("SharesComingModel", "worked", "[J", true)
  | 37 => ("SharesComingModel", "layer", "[I", true)
  | 38 => ("SharesComingModel", "table", "[I", true)
  | 39 => ("SharesComingModel", "layers", "I", false)
  | 40 => ("SharesComingModel", "states", "I", false)
  | 41 => ("SharesComingModel", "digit", "[I", true)
  | 42 => ("SharesComingModel", "wayState", "[J", true)
  | 43 => ("SharesComingModel", "wayNext", "[J", true)
  | 44 => ("SharesComingModel", "wayShare", "[J", true)
  | 45 => ("SharesComingModel", "wayShareNext", "[J", true)
  | _ => ("SharesComingModel", "judgedEnd", "J", false)
def tyX12 : Nat → FieldType := fun k => match k with
  | 0 => .array .byte
  | 1 => .int
  | 2 => .int
  | 3 => .int
  | 4 => .int
  | 5 => .long
  | 6 => .int
  | 7 => .array .long
  | 8 => .array .boolean
  | 9 => .array .int
  | 10 => .int
  | 11 => .array .int
  | 12 => .array .int
  | 13 => .int
  | 14 => .int
  | 15 => .boolean
  | 16 => .int
  | 17 => .array .int
  | 18 => .int
  | 19 => .array .int
  | 20 => .array .int
  | 21 => .int
  | 22 => .int
  | 23 => .long
  | 24 => .int
  | 25 => .int
  | 26 => .array .long
  | 27 => .array .int
  | 28 => .array .int
  | 29 => .array .boolean
  | 30 => .int
  | 31 => .array .long
  | 32 => .array .int
  | 33 => .int
  | 34 => .array .int
  | 35 => .array .long
  | 36 => .array .long
  | 37 => .array .int
  | 38 => .array .int
  | 39 => .int
  | 40 => .int
  | 41 => .array .int
  | 42 => .array .long
  | 43 => .array .long
  | 44 => .array .long
  | 45 => .array .long
  | _ => .long
abbrev wsX120 : List Cond := u_ws RX12 TX12 47
theorem nmX12 : ∀ a, a < 47 → ∀ b, b < 47 → a ≠ b → (TX12 a).2.1 ≠ (TX12 b).2.1 := by decide +kernel
theorem tyX12_ok : ∀ k, k < 47 → parseFieldDescriptor (TX12 k).2.2.1 = some (tyX12 k) := by decide +kernel
abbrev vwCl : List vw_C := [(RX0, TX0, 6), (RX1, TX1, 5), (RX3, TX3, 12), (RX4, TX4, 8), (RX5, TX5, 6), (RX6, TX6, 5), (RX8, TX8, 2), (RX9, TX9, 5), (RX10, TX10, 13), (RX11, TX11, 12), (RX12, TX12, 47)]
def tyc (c : Nat) : Nat → FieldType := match c with
  | 0 => tyX0
  | 1 => tyX1
  | 2 => tyX3
  | 3 => tyX4
  | 4 => tyX5
  | 5 => tyX6
  | 6 => tyX8
  | 7 => tyX9
  | 8 => tyX10
  | 9 => tyX11
  | 10 => tyX12
  | _ => fun _ => .int
/-- of a field: 1 a long, 2 a reference, 3 a boolean, 0 an int -/
def fty (c k : Nat) : Nat := match tyc c k with
  | .long => 1
  | .object _ => 2
  | .array _ => 2
  | .boolean => 3
  | .int => 0
  | _ => 4
end
section
/-! THE HEAP holds the memory. -/
theorem cl_ty : ∀ (c : Nat) (r : vw_C), vwCl[c]? = some r → (∀ k, k < r.2.2 → parseFieldDescriptor (r.2.1 k).2.2.1 = some (tyc c k)) ∧ (∀ a, a < r.2.2 → ∀ b, b < r.2.2 → a ≠ b → (r.2.1 a).2.1 ≠ (r.2.1 b).2.1) := by
  intro c r h
  match c, h with
  | 0, h => cases h; exact ⟨tyX0_ok, nmX0⟩
  | 1, h => cases h; exact ⟨tyX1_ok, nmX1⟩
  | 2, h => cases h; exact ⟨tyX3_ok, nmX3⟩
  | 3, h => cases h; exact ⟨tyX4_ok, nmX4⟩
  | 4, h => cases h; exact ⟨tyX5_ok, nmX5⟩
  | 5, h => cases h; exact ⟨tyX6_ok, nmX6⟩
  | 6, h => cases h; exact ⟨tyX8_ok, nmX8⟩
  | 7, h => cases h; exact ⟨tyX9_ok, nmX9⟩
  | 8, h => cases h; exact ⟨tyX10_ok, nmX10⟩
  | 9, h => cases h; exact ⟨tyX11_ok, nmX11⟩
  | 10, h => cases h; exact ⟨tyX12_ok, nmX12⟩
  | c + 11, h => simp [vwCl] at h
theorem cl_lt {c : Nat} {r : vw_C} (h : vwCl[c]? = some r) : c < 11 := (List.getElem?_eq_some_iff.mp h).1
/-- what field k of key a, an object of class c, holds -/
def gV (w : Wd) (a c k : Nat) : Value := if fty c k = 1 then .long (wJ w a k) else if fty c k = 2 then rfv (wR w a k) else .int (wI w a k)
def fV (G : Gc) (w : Wd) (a c k : Nat) : Value := cv G (gV w a c k)
/-- the array at key a -/
def arW (G : Gc) (w : Wd) (a : Nat) : Cell := if wK w a = 13 then arrV (gA G 2) (wL w a) (fun j => .long (wY w a j)) else if 15 ≤ wK w a then arrV (gA G (wK w a - 11)) (wL w a) (fun j => cv G (rfv (wZ w a j))) else arrV (gA G (wK w a - 11)) (wL w a) (fun j => .int (wX w a j))
def atW (G : Gc) (w : Wd) (a : Nat) (H : Heap) : Prop := (∃ r, vwCl[wK w a]? = some r ∧ t_OB (gad G a) ((gD G).1 (wK w a)) r.2.2 ((gD G).2 (wK w a)) H (fV G w a (wK w a))) ∨ (11 ≤ wK w a ∧ wK w a < 17 ∧ H[gad G a]? = some (arW G w a))
/-- al: new cells may be made -/
def HW (al : Bool) (G : Gc) (A : Nat → Prop) (w : Wd) (H : Heap) : Prop := (∀ a, a < wN w → atW G w a H ∧ A (gad G a)) ∧ (∀ a b, gad G a = gad G b → a = b) ∧ (al = true → H.size = gad G (wN w) ∧ (∀ n, wN w ≤ n → gad G (n + 1) = gad G n + 1) ∧ ∀ q, H.size ≤ q → A q)
def arty (t : Nat) : FieldType := match t with
  | 0 => .byte
  | 1 => .int
  | 2 => .long
  | 3 => .boolean
  | 4 => .object "SharesComing$Ends"
  | _ => .object "SharesComing$Sight"
abbrev tysG (G : Gc) : List (ClassId × FieldType) := [(gA G 0, .byte), (gA G 1, .int), (gA G 2, .long), (gA G 3, .boolean), (gA G 4, .object "SharesComing$Ends"), (gA G 5, .object "SharesComing$Sight")]
def KW (G : Gc) (U : State) : Prop := va_K (gD G) vwCl (tysG G) U
theorem KW.moved {G : Gc} {u U : State} (hvm : u.vm.Alike U.vm) (h : KW G u) : KW G U := va_K.moved hvm h
theorem KW.arr {G : Gc} {U : State} (h : KW G U) {t : Nat} (ht : t < 6) : ArrOfT U (gA G t) (arty t) := by
  rcases (show t = 0 ∨ t = 1 ∨ t = 2 ∨ t = 3 ∨ t = 4 ∨ t = 5 by omega) with rfl | rfl | rfl | rfl | rfl | rfl
  · exact (h.2 0 _ rfl).1
  · exact (h.2 1 _ rfl).1
  · exact (h.2 2 _ rfl).1
  · exact (h.2 3 _ rfl).1
  · exact (h.2 4 _ rfl).1
  · exact (h.2 5 _ rfl).1
/-- the same cells, but for key a -/
theorem HW.upd {al : Bool} {G : Gc} {A : Nat → Prop} {w w' : Wd} {H H1 : Heap} {a : Nat} (h : HW al G A w H) (hN : wN w' = wN w) (z : H1.size = H.size) (oq : ∀ q, q ≠ gad G a → H1[q]? = H[q]?) (hat : atW G w' a H1) (hK : ∀ b, b < wN w → b ≠ a → wK w' b = wK w b) (hf : ∀ b, b < wN w → b ≠ a → ∀ c k, fV G w' b c k = fV G w b c k) (hr : ∀ b, b < wN w → b ≠ a → arW G w' b = arW G w b) : HW al G A w' H1 := by
  refine ⟨fun b hb => ?_, h.2.1, fun hal => ?_⟩
  · rw [hN] at hb
    by_cases hba : b = a
    · subst hba
      exact ⟨hat, (h.1 b hb).2⟩
    · refine ⟨?_, (h.1 b hb).2⟩
      have hq : H1[gad G b]? = H[gad G b]? := oq _ (fun e => hba (h.2.1 _ _ e))
      rcases (h.1 b hb).1 with ⟨r, h1, h2⟩ | ⟨h1, h2, h3⟩
      · left
        refine ⟨r, by rw [hK b hb hba]; exact h1, ?_⟩
        rw [hK b hb hba]
        exact (h2.kept hq).to (fun k _ => (hf b hb hba _ k).symm)
      · right
        rw [hK b hb hba, hr b hb hba]
        exact ⟨h1, h2, hq.trans h3⟩
  · obtain ⟨h1, h2, h3⟩ := h.2.2 hal
    rw [hN, z]
    exact ⟨h1, h2, h3⟩
theorem fV_uI {G : Gc} {w : Wd} {a b k j c : Nat} {x : Int32} (h : b ≠ a) : fV G (uI w a k x) b c j = fV G w b c j := by
  simp only [fV, gV, wJ, wR, wI, uI, u2, h, false_and, if_false]
theorem arW_uI {G : Gc} {w : Wd} {a b k : Nat} {x : Int32} : arW G (uI w a k x) b = arW G w b := rfl
theorem fV_uJ {G : Gc} {w : Wd} {a b k j c : Nat} {x : Int64} (h : b ≠ a) : fV G (uJ w a k x) b c j = fV G w b c j := by
  simp only [fV, gV, wJ, wR, wI, uJ, u2, h, false_and, if_false]
theorem arW_uJ {G : Gc} {w : Wd} {a b k : Nat} {x : Int64} : arW G (uJ w a k x) b = arW G w b := rfl
theorem fV_uR {G : Gc} {w : Wd} {a b k j c : Nat} {x : Option Nat} (h : b ≠ a) : fV G (uR w a k x) b c j = fV G w b c j := by
  simp only [fV, gV, wJ, wR, wI, uR, u2, h, false_and, if_false]
theorem arW_uR {G : Gc} {w : Wd} {a b k : Nat} {x : Option Nat} : arW G (uR w a k x) b = arW G w b := rfl
theorem fV_uX {G : Gc} {w : Wd} {a b k j c : Nat} {x : Int32} : fV G (uX w a k x) b c j = fV G w b c j := rfl
theorem fV_uY {G : Gc} {w : Wd} {a b k j c : Nat} {x : Int64} : fV G (uY w a k x) b c j = fV G w b c j := rfl
theorem fV_uZ {G : Gc} {w : Wd} {a b k j c : Nat} {x : Option Nat} : fV G (uZ w a k x) b c j = fV G w b c j := rfl
theorem arW_uX {G : Gc} {w : Wd} {a b k : Nat} {x : Int32} (h : b ≠ a) : arW G (uX w a k x) b = arW G w b := by
  simp only [arW, wK, wL, wX, wY, wZ, uX, u2, h, false_and, if_false]
  rfl
theorem arW_uY {G : Gc} {w : Wd} {a b k : Nat} {x : Int64} (h : b ≠ a) : arW G (uY w a k x) b = arW G w b := by
  simp only [arW, wK, wL, wX, wY, wZ, uY, u2, h, false_and, if_false]
  rfl
theorem arW_uZ {G : Gc} {w : Wd} {a b k : Nat} {x : Option Nat} (h : b ≠ a) : arW G (uZ w a k x) b = arW G w b := by
  simp only [arW, wK, wL, wX, wY, wZ, uZ, u2, h, false_and, if_false]
  rfl
/-- a field is put -/
def pV (w : Wd) (a c k : Nat) (v : Value) : Option Wd := match v with
  | .int x => if fty c k = 0 ∨ (fty c k = 3 ∧ (x = 0 ∨ x = 1)) then some (uI w a k x) else none
  | .long x => if fty c k = 1 then some (uJ w a k x) else none
  | .ref t => if fty c k = 2 then some (uR w a k (some t)) else none
  | .null => if fty c k = 2 then some (uR w a k none) else none
  | _ => none
/-- what it needs and does -/
theorem pV_ok {w w' : Wd} {a c k : Nat} {v : Value} (h : pV w a c k v = some w') (G : Gc) : wN w' = wN w ∧ wS w' = wS w ∧ (∀ b, wK w' b = wK w b) ∧ (∀ b, b ≠ a → ∀ c j, fV G w' b c j = fV G w b c j) ∧ (∀ b, arW G w' b = arW G w b) ∧ fV G w' a c k = cv G v ∧ (∀ j, j ≠ k → fV G w' a c j = fV G w a c j) ∧ narrow (tyc c k) (cv G v) = cv G v ∧ fits (tyc c k) (cv G v) = true := by
  cases v with
  | int x =>
    simp only [pV] at h
    split at h
    · next hc =>
      cases h
      refine ⟨rfl, rfl, fun _ => rfl, fun b hb c j => fV_uI hb, fun _ => rfl, ?_, fun j hj => ?_, ?_⟩
      · have h1 : fty c k ≠ 1 := by rcases hc with h | h <;> omega
        have h2 : fty c k ≠ 2 := by rcases hc with h | h <;> omega
        simp only [fV, gV, h1, h2, if_false, wI, uI, u2_s]
      · simp only [fV, gV, wJ, wR, wI, uI, u2, hj, and_false, if_false]
      · unfold fty at hc
        show narrow (tyc c k) (.int x) = .int x ∧ fits (tyc c k) (.int x) = true
        cases hty : tyc c k <;> rw [hty] at hc <;> simp at hc
        · exact ⟨rfl, rfl⟩
        · rcases hc with rfl | rfl <;> exact ⟨rfl, rfl⟩
    · cases h
  | long x =>
    simp only [pV] at h
    split at h
    · next hc =>
      cases h
      refine ⟨rfl, rfl, fun _ => rfl, fun b hb c j => fV_uJ hb, fun _ => rfl, ?_, fun j hj => ?_, ?_⟩
      · simp only [fV, gV, hc, if_true, wJ, uJ, u2_s]
      · simp only [fV, gV, wJ, wR, wI, uJ, u2, hj, and_false, if_false]
      · unfold fty at hc
        show narrow (tyc c k) (.long x) = .long x ∧ fits (tyc c k) (.long x) = true
        cases hty : tyc c k <;> rw [hty] at hc <;> simp at hc <;> exact ⟨rfl, rfl⟩
    · cases h
  | ref t =>
    simp only [pV] at h
    split at h
    · next hc =>
      cases h
      refine ⟨rfl, rfl, fun _ => rfl, fun b hb c j => fV_uR hb, fun _ => rfl, ?_, fun j hj => ?_, ?_⟩
      · simp only [fV, gV, hc, wR, uR, u2_s]; rfl
      · simp only [fV, gV, wJ, wR, wI, uR, u2, hj, and_false, if_false]
      · unfold fty at hc
        show narrow (tyc c k) (.ref _) = .ref _ ∧ fits (tyc c k) (.ref _) = true
        cases hty : tyc c k <;> rw [hty] at hc <;> simp at hc <;> exact ⟨rfl, rfl⟩
    · cases h
  | null =>
    simp only [pV] at h
    split at h
    · next hc =>
      cases h
      refine ⟨rfl, rfl, fun _ => rfl, fun b hb c j => fV_uR hb, fun _ => rfl, ?_, fun j hj => ?_, ?_⟩
      · simp only [fV, gV, hc, wR, uR, u2_s]; rfl
      · simp only [fV, gV, wJ, wR, wI, uR, u2, hj, and_false, if_false]
      · unfold fty at hc
        show narrow (tyc c k) .null = .null ∧ fits (tyc c k) .null = true
        cases hty : tyc c k <;> rw [hty] at hc <;> simp at hc <;> exact ⟨rfl, rfl⟩
    · cases h
  | float _ => cases h
  | double _ => cases h
  | retAddr _ => cases h
end
section
/-! INSTRUCTIONS that touch memory, on the machine. -/
/-- what the fields' words need of a list of words -/
def inCl (Ts : List Cond) : Prop := ∀ (c : Nat) (r : vw_C), vwCl[c]? = some r → ∀ w ∈ u_ws r.1 r.2.1 r.2.2, w ∈ Ts
theorem HW.obj {al : Bool} {G : Gc} {A : Nat → Prop} {w : Wd} {H : Heap} {a c : Nat} {r : vw_C} (h : HW al G A w H) (hk : Kd w a c) (hc : vwCl[c]? = some r) : t_OB (gad G a) ((gD G).1 c) r.2.2 ((gD G).2 c) H (fV G w a c) := by
  obtain ⟨h1, h2⟩ := hk
  rcases (h.1 a h1).1 with ⟨r', e1, e2⟩ | ⟨e1, -⟩
  · rw [h2] at e1 e2
    cases e1.symm.trans hc
    exact e2
  · have := cl_lt hc
    omega
theorem HW.arr {al : Bool} {G : Gc} {A : Nat → Prop} {w : Wd} {H : Heap} {a c : Nat} (h : HW al G A w H) (hk : Kd w a c) (hc : 11 ≤ c) : c < 17 ∧ H[gad G a]? = some (arW G w a) := by
  obtain ⟨h1, h2⟩ := hk
  rcases (h.1 a h1).1 with ⟨r', e1, e2⟩ | ⟨e1, e2, e3⟩
  · have := cl_lt e1
    omega
  · exact ⟨by omega, e3⟩
section MROW
variable {p : Program} {l : Launch} {e : Env} {R : Room} {s : State} {m : MethodId} {args : Array Value} {below : List Frame} {meth : Method} {c0 : Code} {H : Heap} {locs : List Loc} {cells slots : Nat} {Q : State → Prop}
variable {cc : ByteArray} {G : Gc} {pc : Nat} {ls : Array Slot} {rest : List Value} {A : Nat → Prop} {al : Bool} {w : Wd} {H0 : Heap} {Ts : List Cond} {own : String}
theorem x_get (hx : p.tables.exec = Jvm.exec) (hb : c0.code = cc) (hts : ∀ w ∈ Ts, w.before args s = true) (hin : inCl Ts) (hown : s.vm.findClass own = some m.cls) (hK : KW G s) (hH : HW al G A w H) {a c k i : Nat} {r : vw_C} (hc : vwCl[c]? = some r) (hk : k < r.2.2) (hkd : Kd w a c)
    (hlink : (Cond.fieldLink own i (r.2.1 k).1 (r.2.1 k).2.1 (r.2.1 k).2.2.1).before args s = true) (hdg : decode cc pc = .ok (.getfield i, 3))
    (kk : W p l e R s m args below meth c0 H locs cells slots Q (F0 m (pc + 3) ls (cv G (gV w a c k) :: rest))) : W p l e R s m args below meth c0 H locs cells slots Q (F0 m pc ls (.ref (gad G a) :: rest)) := by
  obtain ⟨cell, q1, q2, q3, q4⟩ := hH.obj hkd hc
  obtain ⟨hS, hfc, kC, hkC, hkind⟩ := hK.1 c _ hc
  obtain ⟨cf, kf, fi, f, hi, hsl⟩ := hS k hk
  refine W.getf hx hb hown hlink hi (u_facts hfc hkC (u_lays hts (hin c r hc) hk) hi).1 q1 (by rw [q3]; exact fun h => by cases h) (v := cv G (gV w a c k)) ?_ rfl rfl hdg kk
  rw [hsl, q4 k hk]
  rfl
theorem x_put (hx : p.tables.exec = Jvm.exec) (hb : c0.code = cc) (hts : ∀ w ∈ Ts, w.before args s = true) (hin : inCl Ts) (hown : s.vm.findClass own = some m.cls) (hK : KW G s) (hH : HW al G A w H) (hS0 : va_S A H0 H locs) {a c k i : Nat} {r : vw_C} (hc : vwCl[c]? = some r) (hk : k < r.2.2) (hkd : Kd w a c)
    (hlink : (Cond.fieldLink own i (r.2.1 k).1 (r.2.1 k).2.1 (r.2.1 k).2.2.1).before args s = true) (hfin : (r.2.1 k).2.2.2 = false ∨ ((r.2.1 k).2.2.2 = true ∧ meth.name = "<init>" ∧ (r.2.1 k).1 = own)) {v : Value} {w' : Wd} (hv : pV w a c k v = some w') (hdg : decode cc pc = .ok (.putfield i, 3))
    (kk : ∀ (H1 : Heap) (locs1 : List Loc), HW al G A w' H1 → va_S A H0 H1 locs1 → W p l e R s m args below meth c0 H1 locs1 cells slots Q (F0 m (pc + 3) ls rest)) : W p l e R s m args below meth c0 H locs cells slots Q (F0 m pc ls (cv G v :: .ref (gad G a) :: rest)) := by
  obtain ⟨hty, hnm⟩ := cl_ty c r hc
  have hap := va_apart (own := own) hts (hin c r hc) (tyc c) hty hnm hK hc
  obtain ⟨cell, q1, q2, q3, q4⟩ := hH.obj hkd hc
  obtain ⟨hS, hfc, kC, hkC, hkind⟩ := hK.1 c _ hc
  obtain ⟨cf, kf, fi, f, hi, hsl⟩ := hS k hk
  obtain ⟨pN, pS, pK, pf, pr, pk, pj, pn, pt⟩ := pV_ok hv G
  have hst := (u_facts hfc hkC (u_lays hts (hin c r hc) hk) hi).1
  have fin : ∀ (H' : Heap) (locs' : List Loc), H'[gad G a]? = some (cell.setSlot f.slot (cv G v)) → H'.size = H.size → (∀ q, q ≠ gad G a → H'[q]? = H[q]?) → va_S A H0 H' locs' → W p l e R s m args below meth c0 H' locs' cells slots Q (F0 m (pc + 3) ls rest) := by
    intro H' locs' e1 e2 e3 hS'
    refine kk H' locs' (hH.upd (a := a) pN e2 e3 ?_ (fun b _ _ => pK b) (fun b _ hb => pf b hb) (fun b _ _ => pr b)) hS'
    left
    have e0 : wK w' a = c := (pK a).trans hkd.2
    rw [hsl] at e1
    refine ⟨r, by rw [e0]; exact hc, ?_⟩
    rw [e0]
    refine t_OB.to (V := updV (fV G w a c) k (cv G v)) ⟨_, e1, q2, q3, t_set q4 hap hk _⟩ (fun j hj => ?_)
    by_cases hjk : j = k
    · subst hjk
      rw [pk]
      simp [updV]
    · rw [pj j hjk]
      simp [updV, hjk]
  rcases hfin with hfin | ⟨hfin, hin2, hdecl⟩
  · have hlay := hts _ (hin c r hc _ (u_in_lay hk))
    unfold u_lay at hlay
    rw [if_neg (by rw [hfin]; decide)] at hlay
    have h6 := u_store hfc hkC hkind hlay hi (hty k hk) pn pt
    refine W.putK hx hb (f := f) ⟨hown, hlink, ⟨_, _, _, hi⟩, hst⟩ (by rw [q2]; exact h6) q1 q3 (by rw [hsl]; exact k2_hasslot (q4 k hk)) rfl rfl hdg fun H' e1 e2 e3 => ?_
    exact fin H' _ e1 e2 e3 (hS0.put e2 e3 (hH.1 a hkd.1).2)
  · have hlay := hts _ (hin c r hc _ (u_in_lay hk))
    unfold u_lay at hlay
    rw [if_pos hfin] at hlay
    have hcf : m.cls = cf := by
      obtain ⟨_, _, c', _, _, _, -, -, hf', -, -, -, hown2, -⟩ := Cond.laysFinal_spec hlay
      have e1 : c' = cf := by have := hi.symm.trans hf'; simp at this; exact this.1.symm
      rw [hdecl] at hown2
      rw [← e1]; exact Option.some.inj (hown.symm.trans hown2)
    have h6 := u_fits hfc hkC hkind (Or.inr hlay) hi (hty k hk) pn pt
    refine W.putFinK hx hb hown hlink hi hst hcf hin2 (by rw [q2]; exact h6) q1 q3 (by rw [hsl]; exact k2_hasslot (q4 k hk)) rfl rfl hdg fun H' e1 e2 e3 => ?_
    exact fin H' _ e1 e2 e3 (hS0.put e2 e3 (hH.1 a hkd.1).2)
/-- reading from arrays -/
theorem x_iald (hx : p.tables.exec = Jvm.exec) (hb : c0.code = cc) (hK : KW G s) (hH : HW al G A w H) {a : Nat} (hkd : Kd w a 12) {i : Int32} (hin : vp_in i (wL w a)) (hdg : decode cc pc = .ok (.iaload, 1))
    (kk : W p l e R s m args below meth c0 H locs cells slots Q (F0 m (pc + 1) ls (.int (wX w a i.toNatClampNeg) :: rest))) : W p l e R s m args below meth c0 H locs cells slots Q (F0 m pc ls (.int i :: .ref (gad G a) :: rest)) := by
  have hc := (hH.arr hkd (by omega)).2
  have hr : arW G w a = arrV (gA G 1) (wL w a) (fun j => .int (wX w a j)) := by simp [arW, hkd.2]
  rw [hr] at hc
  have hlt : i.toNatClampNeg < wL w a := Nat.not_le.mp fun q => hin (Or.inr q)
  exact W.iald (v := .int (wX w a i.toNatClampNeg)) hx hb hc (hK.arr (t := 1) (by omega) _ _) (fun q => by cases q) (by rw [arrV_size]; exact hin) (by rw [arrV_read _ _ hlt]) rfl rfl hdg kk
theorem x_lald (hx : p.tables.exec = Jvm.exec) (hb : c0.code = cc) (hK : KW G s) (hH : HW al G A w H) {a : Nat} (hkd : Kd w a 13) {i : Int32} (hin : vp_in i (wL w a)) (hdg : decode cc pc = .ok (.laload, 1))
    (kk : W p l e R s m args below meth c0 H locs cells slots Q (F0 m (pc + 1) ls (.long (wY w a i.toNatClampNeg) :: rest))) : W p l e R s m args below meth c0 H locs cells slots Q (F0 m pc ls (.int i :: .ref (gad G a) :: rest)) := by
  have hc := (hH.arr hkd (by omega)).2
  have hr : arW G w a = arrV (gA G 2) (wL w a) (fun j => .long (wY w a j)) := by simp [arW, hkd.2]
  rw [hr] at hc
  have hlt : i.toNatClampNeg < wL w a := Nat.not_le.mp fun q => hin (Or.inr q)
  exact W.lald (v := .long (wY w a i.toNatClampNeg)) hx hb hc (hK.arr (t := 2) (by omega) _ _) (fun q => by cases q) (by rw [arrV_size]; exact hin) (by rw [arrV_read _ _ hlt]) rfl rfl hdg kk
theorem x_bald (hx : p.tables.exec = Jvm.exec) (hb : c0.code = cc) (hK : KW G s) (hH : HW al G A w H) {a : Nat} (hkd : Kd w a 11 ∨ Kd w a 14) {i : Int32} (hin : vp_in i (wL w a)) (hdg : decode cc pc = .ok (.baload, 1))
    (kk : W p l e R s m args below meth c0 H locs cells slots Q (F0 m (pc + 1) ls (.int (wX w a i.toNatClampNeg) :: rest))) : W p l e R s m args below meth c0 H locs cells slots Q (F0 m pc ls (.int i :: .ref (gad G a) :: rest)) := by
  have hlt : i.toNatClampNeg < wL w a := Nat.not_le.mp fun q => hin (Or.inr q)
  rcases hkd with hkd | hkd
  · have hc := (hH.arr hkd (by omega)).2
    have hr : arW G w a = arrV (gA G 0) (wL w a) (fun j => .int (wX w a j)) := by simp [arW, hkd.2]
    rw [hr] at hc
    exact W.bald (v := .int (wX w a i.toNatClampNeg)) hx hb hc (hK.arr (t := 0) (by omega) _ _) (fun q => by cases q) (by rw [arrV_size]; exact hin) (by rw [arrV_read _ _ hlt]) rfl rfl hdg kk
  · have hc := (hH.arr hkd (by omega)).2
    have hr : arW G w a = arrV (gA G 3) (wL w a) (fun j => .int (wX w a j)) := by simp [arW, hkd.2]
    rw [hr] at hc
    exact W.zald (v := .int (wX w a i.toNatClampNeg)) hx hb hc (hK.arr (t := 3) (by omega) _ _) (fun q => by cases q) (by rw [arrV_size]; exact hin) (by rw [arrV_read _ _ hlt]) rfl rfl hdg kk
theorem x_aald (hx : p.tables.exec = Jvm.exec) (hb : c0.code = cc) (hK : KW G s) (hH : HW al G A w H) {a : Nat} (hkd : Kd w a 15 ∨ Kd w a 16) {i : Int32} (hin : vp_in i (wL w a)) (hdg : decode cc pc = .ok (.aaload, 1))
    (kk : W p l e R s m args below meth c0 H locs cells slots Q (F0 m (pc + 1) ls (cv G (rfv (wZ w a i.toNatClampNeg)) :: rest))) : W p l e R s m args below meth c0 H locs cells slots Q (F0 m pc ls (.int i :: .ref (gad G a) :: rest)) := by
  have hlt : i.toNatClampNeg < wL w a := Nat.not_le.mp fun q => hin (Or.inr q)
  rcases hkd with hkd | hkd
  · have hc := (hH.arr hkd (by omega)).2
    have hr : arW G w a = arrV (gA G 4) (wL w a) (fun j => cv G (rfv (wZ w a j))) := by simp [arW, hkd.2]
    rw [hr] at hc
    exact W.aald (v := cv G (rfv (wZ w a i.toNatClampNeg))) (ty := .object "SharesComing$Ends") hx hb hc (hK.arr (t := 4) (by omega) _ _) rfl (fun q => by cases q) (by rw [arrV_size]; exact hin) (by rw [arrV_read _ _ hlt]) rfl rfl hdg kk
  · have hc := (hH.arr hkd (by omega)).2
    have hr : arW G w a = arrV (gA G 5) (wL w a) (fun j => cv G (rfv (wZ w a j))) := by simp [arW, hkd.2]
    rw [hr] at hc
    exact W.aald (v := cv G (rfv (wZ w a i.toNatClampNeg))) (ty := .object "SharesComing$Sight") hx hb hc (hK.arr (t := 5) (by omega) _ _) rfl (fun q => by cases q) (by rw [arrV_size]; exact hin) (by rw [arrV_read _ _ hlt]) rfl rfl hdg kk
theorem x_alen (hx : p.tables.exec = Jvm.exec) (hb : c0.code = cc) (hK : KW G s) (hH : HW al G A w H) {a c : Nat} (hkd : Kd w a c) (h11 : 11 ≤ c) (hdg : decode cc pc = .ok (.arraylength, 1))
    (kk : W p l e R s m args below meth c0 H locs cells slots Q (F0 m (pc + 1) ls (.int (Int32.ofNat (wL w a)) :: rest))) : W p l e R s m args below meth c0 H locs cells slots Q (F0 m pc ls (.ref (gad G a) :: rest)) := by
  obtain ⟨h17, hc⟩ := hH.arr hkd h11
  have hr : ∃ (t : Nat) (f : Nat → Value), t < 6 ∧ arW G w a = arrV (gA G t) (wL w a) f := by
    unfold arW
    split
    · exact ⟨2, _, by omega, rfl⟩
    · split
      · exact ⟨_, _, by rw [hkd.2]; omega, rfl⟩
      · exact ⟨_, _, by rw [hkd.2]; omega, rfl⟩
  obtain ⟨t, f, ht, hr⟩ := hr
  rw [hr] at hc
  exact W.alen (n := Int32.ofNat (wL w a)) hx hb hc (hK.arr (t := t) ht _ _) (by rw [arrV_size]) rfl rfl hdg kk
/-- writing into arrays -/
theorem x_iast (hx : p.tables.exec = Jvm.exec) (hb : c0.code = cc) (hK : KW G s) (hH : HW al G A w H) (hS : va_S A H0 H locs) {a : Nat} (hkd : Kd w a 12) {i x : Int32} (hin : vp_in i (wL w a)) (hdg : decode cc pc = .ok (.iastore, 1))
    (kk : ∀ (H1 : Heap) (locs1 : List Loc), HW al G A (uX w a i.toNatClampNeg x) H1 → va_S A H0 H1 locs1 → W p l e R s m args below meth c0 H1 locs1 cells slots Q (F0 m (pc + 1) ls rest)) : W p l e R s m args below meth c0 H locs cells slots Q (F0 m pc ls (.int x :: .int i :: .ref (gad G a) :: rest)) := by
  have hc := (hH.arr hkd (by omega)).2
  have hr : arW G w a = arrV (gA G 1) (wL w a) (fun j => .int (wX w a j)) := by simp [arW, hkd.2]
  rw [hr] at hc
  refine W.iast hx hb hc (hK.arr (t := 1) (by omega) _ _) (fun q => by cases q) (by rw [arrV_size]; exact hin) rfl rfl hdg fun H1 e1 z oq => ?_
  refine kk H1 _ (hH.upd (a := a) rfl z oq (Or.inr ⟨by show 11 ≤ wK w a; rw [hkd.2]; omega, by show wK w a < 17; rw [hkd.2]; omega, ?_⟩) (fun _ _ _ => rfl) (fun _ _ _ _ _ => rfl) (fun b _ hb => arW_uX hb)) (hS.put z oq (hH.1 a hkd.1).2)
  rw [e1, arrV_store]
  have hr2 : arW G (uX w a i.toNatClampNeg x) a = arrV (gA G 1) (wL w a) (fun j => .int (wX (uX w a i.toNatClampNeg x) a j)) := by
    have : wK (uX w a i.toNatClampNeg x) a = 12 := hkd.2
    simp only [arW, this]
    rfl
  rw [hr2]
  congr 2
  funext q
  by_cases hq : q = i.toNatClampNeg
  · subst hq
    simp [updV, wX, uX, u2]
  · simp [updV, wX, uX, u2, hq]
theorem x_last (hx : p.tables.exec = Jvm.exec) (hb : c0.code = cc) (hK : KW G s) (hH : HW al G A w H) (hS : va_S A H0 H locs) {a : Nat} (hkd : Kd w a 13) {i : Int32} {x : Int64} (hin : vp_in i (wL w a)) (hdg : decode cc pc = .ok (.lastore, 1))
    (kk : ∀ (H1 : Heap) (locs1 : List Loc), HW al G A (uY w a i.toNatClampNeg x) H1 → va_S A H0 H1 locs1 → W p l e R s m args below meth c0 H1 locs1 cells slots Q (F0 m (pc + 1) ls rest)) : W p l e R s m args below meth c0 H locs cells slots Q (F0 m pc ls (.long x :: .int i :: .ref (gad G a) :: rest)) := by
  have hc := (hH.arr hkd (by omega)).2
  have hr : arW G w a = arrV (gA G 2) (wL w a) (fun j => .long (wY w a j)) := by simp [arW, hkd.2]
  rw [hr] at hc
  refine W.last hx hb hc (hK.arr (t := 2) (by omega) _ _) (fun q => by cases q) (by rw [arrV_size]; exact hin) rfl rfl hdg fun H1 e1 z oq => ?_
  refine kk H1 _ (hH.upd (a := a) rfl z oq (Or.inr ⟨by show 11 ≤ wK w a; rw [hkd.2]; omega, by show wK w a < 17; rw [hkd.2]; omega, ?_⟩) (fun _ _ _ => rfl) (fun _ _ _ _ _ => rfl) (fun b _ hb => arW_uY hb)) (hS.put z oq (hH.1 a hkd.1).2)
  rw [e1, arrV_store]
  have hr2 : arW G (uY w a i.toNatClampNeg x) a = arrV (gA G 2) (wL w a) (fun j => .long (wY (uY w a i.toNatClampNeg x) a j)) := by
    have : wK (uY w a i.toNatClampNeg x) a = 13 := hkd.2
    simp only [arW, this]
    rfl
  rw [hr2]
  congr 2
  funext q
  by_cases hq : q = i.toNatClampNeg
  · subst hq
    simp [updV, wY, uY, u2]
  · simp [updV, wY, uY, u2, hq]
theorem x_bast (hx : p.tables.exec = Jvm.exec) (hb : c0.code = cc) (hK : KW G s) (hH : HW al G A w H) (hS : va_S A H0 H locs) {a : Nat} {ty : FieldType} (hkd : (Kd w a 11 ∧ ty = .byte) ∨ (Kd w a 14 ∧ ty = .boolean)) {i x : Int32} (hin : vp_in i (wL w a)) (hdg : decode cc pc = .ok (.bastore, 1))
    (kk : ∀ (H1 : Heap) (locs1 : List Loc), HW al G A (uX w a i.toNatClampNeg (vp_nar ty x)) H1 → va_S A H0 H1 locs1 → W p l e R s m args below meth c0 H1 locs1 cells slots Q (F0 m (pc + 1) ls rest)) : W p l e R s m args below meth c0 H locs cells slots Q (F0 m pc ls (.int x :: .int i :: .ref (gad G a) :: rest)) := by
  rcases hkd with ⟨hkd, rfl⟩ | ⟨hkd, rfl⟩
  · have hc := (hH.arr hkd (by omega)).2
    have hr : arW G w a = arrV (gA G 0) (wL w a) (fun j => .int (wX w a j)) := by simp [arW, hkd.2]
    rw [hr] at hc
    refine W.bast hx hb hc (hK.arr (t := 0) (by omega) _ _) (fun q => by cases q) (by rw [arrV_size]; exact hin) rfl rfl hdg fun H1 e1 z oq => ?_
    refine kk H1 _ (hH.upd (a := a) rfl z oq (Or.inr ⟨by show 11 ≤ wK w a; rw [hkd.2]; omega, by show wK w a < 17; rw [hkd.2]; omega, ?_⟩) (fun _ _ _ => rfl) (fun _ _ _ _ _ => rfl) (fun b _ hb => arW_uX hb)) (hS.put z oq (hH.1 a hkd.1).2)
    rw [e1, arrV_store]
    have hr2 : arW G (uX w a i.toNatClampNeg (vp_nar .byte x)) a = arrV (gA G 0) (wL w a) (fun j => .int (wX (uX w a i.toNatClampNeg (vp_nar .byte x)) a j)) := by
      have : wK (uX w a i.toNatClampNeg (vp_nar .byte x)) a = 11 := hkd.2
      simp only [arW, this]
      rfl
    rw [hr2]
    congr 2
    funext q
    by_cases hq : q = i.toNatClampNeg
    · subst hq
      simp [updV, wX, uX, u2, vp_nar, narrow]
    · simp [updV, wX, uX, u2, hq]
  · have hc := (hH.arr hkd (by omega)).2
    have hr : arW G w a = arrV (gA G 3) (wL w a) (fun j => .int (wX w a j)) := by simp [arW, hkd.2]
    rw [hr] at hc
    refine W.zast hx hb hc (hK.arr (t := 3) (by omega) _ _) (fun q => by cases q) (by rw [arrV_size]; exact hin) rfl rfl hdg fun H1 e1 z oq => ?_
    refine kk H1 _ (hH.upd (a := a) rfl z oq (Or.inr ⟨by show 11 ≤ wK w a; rw [hkd.2]; omega, by show wK w a < 17; rw [hkd.2]; omega, ?_⟩) (fun _ _ _ => rfl) (fun _ _ _ _ _ => rfl) (fun b _ hb => arW_uX hb)) (hS.put z oq (hH.1 a hkd.1).2)
    rw [e1, arrV_store]
    have hr2 : arW G (uX w a i.toNatClampNeg (vp_nar .boolean x)) a = arrV (gA G 3) (wL w a) (fun j => .int (wX (uX w a i.toNatClampNeg (vp_nar .boolean x)) a j)) := by
      have : wK (uX w a i.toNatClampNeg (vp_nar .boolean x)) a = 14 := hkd.2
      simp only [arW, this]
      rfl
    rw [hr2]
    congr 2
    funext q
    by_cases hq : q = i.toNatClampNeg
    · subst hq
      simp [updV, wX, uX, u2, vp_nar, narrow]
    · simp [updV, wX, uX, u2, hq]
end MROW
end
section
/-! NEW objects and arrays, on the machine. -/
theorem cl_n4 : ∀ (c : Nat) (r : vw_C), vwCl[c]? = some r → ∀ k, k < r.2.2 → fty c k ≠ 4 := by
  intro c r h
  match c, h with
  | 0, h => cases h; decide
  | 1, h => cases h; decide
  | 2, h => cases h; decide
  | 3, h => cases h; decide
  | 4, h => cases h; decide
  | 5, h => cases h; decide
  | 6, h => cases h; decide
  | 7, h => cases h; decide
  | 8, h => cases h; decide
  | 9, h => cases h; decide
  | 10, h => cases h; decide
  | c + 11, h => simp [vwCl] at h
theorem nO_def {G : Gc} {w : Wd} {c n k : Nat} (h : fty c k ≠ 4) : fV G (nO w c n) (wN w) c k = defaultValue (tyc c k) := by
  have e1 : wJ (nO w c n) (wN w) k = 0 := by simp [wJ, nO, ur]
  have e2 : wR (nO w c n) (wN w) k = none := by simp [wR, nO, ur]
  have e3 : wI (nO w c n) (wN w) k = 0 := by simp [wI, nO, ur]
  simp only [fV, gV, e1, e2, e3]
  unfold fty at h ⊢
  cases ht : tyc c k <;> rw [ht] at h <;> simp at h <;> rfl
theorem HW.fresh {al : Bool} {G : Gc} {A : Nat → Prop} {w w' : Wd} {H H1 : Heap} (h : HW al G A w H) (hal : al = true) (hN : wN w' = wN w + 1) (z : H1.size = H.size + 1) (oq : ∀ q, q < H.size → H1[q]? = H[q]?) (hat : atW G w' (wN w) H1) (hK : ∀ b, b < wN w → wK w' b = wK w b) (hf : ∀ b, b < wN w → ∀ c k, fV G w' b c k = fV G w b c k) (hr : ∀ b, b < wN w → arW G w' b = arW G w b) : HW al G A w' H1 := by
  obtain ⟨h1, h2, h3⟩ := h.2.2 hal
  refine ⟨fun b hb => ?_, h.2.1, fun _ => ⟨?_, fun n hn => h2 n (by omega), fun q hq => h3 q (by omega)⟩⟩
  · rw [hN] at hb
    by_cases hba : b = wN w
    · subst hba
      exact ⟨hat, h3 _ (by rw [h1]; exact Nat.le_refl _)⟩
    · have hb' : b < wN w := by omega
      refine ⟨?_, (h.1 b hb').2⟩
      have lt : gad G b < H.size := by
        rcases (h.1 b hb').1 with ⟨r, -, cell, g1, -⟩ | ⟨-, -, g1⟩
        · exact (Array.getElem?_eq_some_iff.mp g1).1
        · exact (Array.getElem?_eq_some_iff.mp g1).1
      have hq : H1[gad G b]? = H[gad G b]? := oq _ lt
      rcases (h.1 b hb').1 with ⟨r, g1, g2⟩ | ⟨g1, g2, g3⟩
      · left
        refine ⟨r, by rw [hK b hb']; exact g1, ?_⟩
        rw [hK b hb']
        exact (g2.kept hq).to (fun k _ => (hf b hb' _ k).symm)
      · right
        rw [hK b hb', hr b hb']
        exact ⟨g1, g2, hq.trans g3⟩
  · rw [hN, h2 _ (Nat.le_refl _), z, h1]
theorem va_S.push {A : Nat → Prop} {H0 H H1 : Heap} {locs : List Loc} (hS : va_S A H0 H locs) (z : H1.size = H.size + 1) (oq : ∀ q, q < H.size → H1[q]? = H[q]?) : va_S A H0 H1 locs := ⟨Nat.le_trans hS.1 (by omega), fun x h1 h2 => (oq x (Nat.lt_of_lt_of_le h1 hS.1)).trans (hS.2.1 x h1 h2), hS.2.2⟩
theorem fV_nO {G : Gc} {w : Wd} {c n b : Nat} (h : b < wN w) (c' k : Nat) : fV G (nO w c n) b c' k = fV G w b c' k := by
  have hne : b ≠ wN w := Nat.ne_of_lt h
  simp only [fV, gV, wJ, wR, wI, nO, ur, hne, if_false]
theorem arW_nO {G : Gc} {w : Wd} {c n b : Nat} (h : b < wN w) : arW G (nO w c n) b = arW G w b := by
  have hne : b ≠ wN w := Nat.ne_of_lt h
  have e1 : wK (nO w c n) b = wK w b := by simp [wK, nO, u1, hne]
  unfold arW
  rw [e1]
  rfl
theorem fV_nA {G : Gc} {w : Wd} {t n b c k : Nat} : fV G (nA w t n) b c k = fV G w b c k := rfl
theorem arW_nA {G : Gc} {w : Wd} {t n b : Nat} (h : b < wN w) : arW G (nA w t n) b = arW G w b := by
  have hne : b ≠ wN w := Nat.ne_of_lt h
  have e1 : wK (nA w t n) b = wK w b := by simp [wK, nA, u1, hne]
  have e2 : wL (nA w t n) b = wL w b := by simp [wL, nA, u1, hne]
  have e3 : ∀ j, wX (nA w t n) b j = wX w b j := fun j => by simp [wX, nA, ur, hne]
  have e4 : ∀ j, wY (nA w t n) b j = wY w b j := fun j => by simp [wY, nA, ur, hne]
  have e5 : ∀ j, wZ (nA w t n) b j = wZ w b j := fun j => by simp [wZ, nA, ur, hne]
  unfold arW
  rw [e1, e2]
  simp only [e3, e4, e5]
/-- the kind of an array of numbers -/
def akd (t : ArrayType) : Option Nat := match t with
  | .byte => some 11
  | .int => some 12
  | .long => some 13
  | .boolean => some 14
  | _ => none
def abt (k : Nat) : Nat := if k = 12 then 4 else if k = 13 then 8 else 1
section MNEW
variable {p : Program} {l : Launch} {e : Env} {R : Room} {s : State} {m : MethodId} {args : Array Value} {below : List Frame} {meth : Method} {c0 : Code} {H : Heap} {locs : List Loc} {cells slots : Nat} {Q : State → Prop}
variable {cc : ByteArray} {G : Gc} {pc : Nat} {ls : Array Slot} {rest : List Value} {A : Nat → Prop} {w : Wd} {H0 : Heap} {Ts : List Cond} {own : String}
theorem x_new (hx : p.tables.exec = Jvm.exec) (hb : c0.code = cc) (hts : ∀ w ∈ Ts, w.before args s = true) (hin : inCl Ts) (hown : s.vm.findClass own = some m.cls) (hK : KW G s) (hH : HW true G A w H) (hS : va_S A H0 H locs) {c i : Nat} {r : vw_C} (hc : vwCl[c]? = some r)
    (hlink : (Cond.classLink own i r.1).before args s = true) (hinst : (Cond.instantiable r.1 r.2.2).before args s = true) (hini : (Cond.initialized r.1).before args s = true) (hcells : cells + 1 ≤ R.cells) (hslots : slots + r.2.2 ≤ R.slots) (hdg : decode cc pc = .ok (.new i, 3))
    (kk : ∀ H1 : Heap, HW true G A (nO w c r.2.2) H1 → va_S A H0 H1 locs → W p l e R s m args below meth c0 H1 locs (cells + 1) (slots + r.2.2) Q (F0 m (pc + 3) ls (.ref (gad G (wN w)) :: rest))) : W p l e R s m args below meth c0 H locs cells slots Q (F0 m pc ls rest) := by
  have hKn := hK.1 c _ hc
  obtain ⟨hty, -⟩ := cl_ty c r hc
  obtain ⟨s1, -, -⟩ := hH.2.2 rfl
  refine W.newcK hx hb hown hlink hinst hini rfl hdg hcells hslots hKn.2.1 s1 fun H1 kC hkC e1 z1 o1 => ?_
  rw [← s1] at z1 o1
  refine kk H1 (hH.fresh rfl rfl z1 o1 (Or.inl ⟨r, ?_, ?_⟩) (fun b hb' => ?_) (fun b hb' => fV_nO hb') (fun b hb' => arW_nO hb')) (hS.push z1 o1)
  · show vwCl[u1 w.2.2.1 (wN w) c (wN w)]? = some r
    rw [show u1 w.2.2.1 (wN w) c (wN w) = c by simp [u1]]
    exact hc
  · have e0 : wK (nO w c r.2.2) (wN w) = c := by simp [wK, nO, u1]
    rw [e0]
    exact (u_born (tyc c) hts (hin c r hc) hKn hkC e1 hty).to (fun k hk => (nO_def (cl_n4 c r hc k hk)).symm)
  · have hne : b ≠ wN w := Nat.ne_of_lt hb'
    simp [wK, nO, u1, hne]
theorem x_newa (hx : p.tables.exec = Jvm.exec) (hb : c0.code = cc) (hK : KW G s) (hH : HW true G A w H) (hS : va_S A H0 H locs) {t : ArrayType} {k : Nat} (ht : akd t = some k) (harr : (Cond.arrayClass (newarray.typeOf t)).before args s = true) {n : Int32} (hn : ¬ n < 0) (hbytes : n.toNatClampNeg * abt k ≤ 536870912) (hcells : cells + 1 ≤ R.cells) (hslots : slots + n.toNatClampNeg ≤ R.slots) (hdg : decode cc pc = .ok (.newarray t, 2))
    (kk : ∀ H1 : Heap, HW true G A (nA w k n.toNatClampNeg) H1 → va_S A H0 H1 locs → W p l e R s m args below meth c0 H1 locs (cells + 1) (slots + n.toNatClampNeg) Q (F0 m (pc + 2) ls (.ref (gad G (wN w)) :: rest))) : W p l e R s m args below meth c0 H locs cells slots Q (F0 m pc ls (.int n :: rest)) := by
  obtain ⟨s1, -, -⟩ := hH.2.2 rfl
  have hk : 11 ≤ k ∧ k < 15 := by cases t <;> cases ht <;> omega
  have hbt : componentBytes (newarray.typeOf t) = abt k := by cases t <;> cases ht <;> rfl
  refine va_newaK hx hb harr rfl hdg rfl hn rfl (by rw [hbt]; exact hbytes) hcells hslots s1 fun H1 cA e1 z1 o1 hAr hNm => ?_
  rw [← s1] at z1 o1
  have e0 : wK (nA w k n.toNatClampNeg) (wN w) = k := by simp [wK, nA, u1]
  have e2 : wL (nA w k n.toNatClampNeg) (wN w) = n.toNatClampNeg := by simp [wL, nA, u1]
  refine kk H1 (hH.fresh rfl rfl z1 o1 (Or.inr ⟨by rw [e0]; omega, by rw [e0]; omega, ?_⟩) (fun b hb' => ?_) (fun b hb' _ _ => rfl) (fun b hb' => arW_nA hb')) (hS.push z1 o1)
  · rw [e1]
    have e3 : ∀ j, wX (nA w k n.toNatClampNeg) (wN w) j = 0 := fun j => by simp [wX, nA, ur]
    have e4 : ∀ j, wY (nA w k n.toNatClampNeg) (wN w) j = 0 := fun j => by simp [wY, nA, ur]
    have key : cA = gA G (k - 11) ∧ arW G (nA w k n.toNatClampNeg) (wN w) = arrV (gA G (k - 11)) n.toNatClampNeg (fun _ => defaultValue (newarray.typeOf t)) := by
      unfold arW
      simp only [e0, e2, e3, e4]
      cases t <;> cases ht
      · exact ⟨Option.some.inj (hNm.symm.trans (hK.2 3 _ rfl).2), rfl⟩
      · exact ⟨Option.some.inj (hNm.symm.trans (hK.2 0 _ rfl).2), rfl⟩
      · exact ⟨Option.some.inj (hNm.symm.trans (hK.2 1 _ rfl).2), rfl⟩
      · exact ⟨Option.some.inj (hNm.symm.trans (hK.2 2 _ rfl).2), rfl⟩
    rw [key.2, key.1]
  · have hne : b ≠ wN w := Nat.ne_of_lt hb'
    simp [wK, nA, u1, hne]
/-- arrays of Ends (15) and of Sights (16) -/
theorem x_anew (hx : p.tables.exec = Jvm.exec) (hb : c0.code = cc) (hown : s.vm.findClass own = some m.cls) (hK : KW G s) (hH : HW true G A w H) (hS : va_S A H0 H locs) {i k : Nat} (hk : k = 15 ∨ k = 16) {C : String} (hC : arty (k - 11) = .object C) (hlink : (Cond.classLink own i C).before args s = true) (hover : (Cond.arrayOver (.object C)).before args s = true) {n : Int32} (hn : ¬ n < 0) (hbytes : n.toNatClampNeg * 4 ≤ 536870912) (hcells : cells + 1 ≤ R.cells) (hslots : slots + n.toNatClampNeg ≤ R.slots) (hdg : decode cc pc = .ok (.anewarray i, 3))
    (kk : ∀ H1 : Heap, HW true G A (nA w k n.toNatClampNeg) H1 → va_S A H0 H1 locs → W p l e R s m args below meth c0 H1 locs (cells + 1) (slots + n.toNatClampNeg) Q (F0 m (pc + 3) ls (.ref (gad G (wN w)) :: rest))) : W p l e R s m args below meth c0 H locs cells slots Q (F0 m pc ls (.int n :: rest)) := by
  obtain ⟨s1, -, -⟩ := hH.2.2 rfl
  refine W.anew hx hb hown hlink hover rfl hdg rfl hn hbytes hcells hslots fun cA kA comp f1 f2 f3 f4 => ?_
  generalize hH1 : H.push ({ cls := cA, slots := Array.replicate n.toNatClampNeg .null, vm := .none } : Cell) = H1
  have z1 : H1.size = H.size + 1 := by rw [← hH1, Array.size_push]
  have e1 : H1[H.size]? = some (arrV cA n.toNatClampNeg (fun _ => .null)) := by rw [← hH1, Array.getElem?_push_size, ← arrV_new]
  have o1 : ∀ q : Nat, q < H.size → H1[q]? = H[q]? := fun q hq => by rw [← hH1, Array.getElem?_push, if_neg (Nat.ne_of_lt hq)]
  have e0 : wK (nA w k n.toNatClampNeg) (wN w) = k := by simp [wK, nA, u1]
  have e2 : wL (nA w k n.toNatClampNeg) (wN w) = n.toNatClampNeg := by simp [wL, nA, u1]
  have e3 : ∀ j, wZ (nA w k n.toNatClampNeg) (wN w) j = none := fun j => by simp [wZ, nA, ur]
  have hcA : cA = gA G (k - 11) := by
    rcases hk with rfl | rfl
    · have hC' : C = "SharesComing$Ends" := by simpa [arty] using hC.symm
      subst hC'
      obtain ⟨_, _, -, -, -, h4⟩ := (hK.2 4 _ rfl).2
      exact Option.some.inj (f1.symm.trans h4)
    · have hC' : C = "SharesComing$Sight" := by simpa [arty] using hC.symm
      subst hC'
      obtain ⟨_, _, -, -, -, h4⟩ := (hK.2 5 _ rfl).2
      exact Option.some.inj (f1.symm.trans h4)
  rw [s1]
  refine kk H1 (hH.fresh rfl rfl z1 o1 (Or.inr ⟨by rw [e0]; omega, by rw [e0]; omega, ?_⟩) (fun b hb' => ?_) (fun b hb' _ _ => rfl) (fun b hb' => arW_nA hb')) (hS.push z1 o1)
  · rw [← s1, e1, hcA]
    unfold arW
    simp only [e0, e2, e3]
    rcases hk with rfl | rfl <;> rfl
  · have hne : b ≠ wN w := Nat.ne_of_lt hb'
    simp [wK, nA, u1, hne]
theorem x_aast {al : Bool} (hx : p.tables.exec = Jvm.exec) (hb : c0.code = cc) (hK : KW G s) (hH : HW al G A w H) (hS : va_S A H0 H locs) {a v : Nat} (hkd : (Kd w a 15 ∧ Kd w v 1) ∨ (Kd w a 16 ∧ Kd w v 5)) {i : Int32} (hin : vp_in i (wL w a)) (hdg : decode cc pc = .ok (.aastore, 1))
    (kk : ∀ (H1 : Heap) (locs1 : List Loc), HW al G A (uZ w a i.toNatClampNeg (some v)) H1 → va_S A H0 H1 locs1 → W p l e R s m args below meth c0 H1 locs1 cells slots Q (F0 m (pc + 1) ls rest)) : W p l e R s m args below meth c0 H locs cells slots Q (F0 m pc ls (.ref (gad G v) :: .int i :: .ref (gad G a) :: rest)) := by
  have hlt : i.toNatClampNeg < wL w a := Nat.not_le.mp fun q => hin (Or.inr q)
  have h0 : ¬ i < 0 := fun q => hin (Or.inl q)
  have go : ∀ (t cv0 : Nat) (C : String) (r : vw_C), t = 4 ∨ t = 5 → Kd w a (t + 11) → Kd w v cv0 → vwCl[cv0]? = some r → (tysG G)[t]? = some (gA G t, .object r.1) → W p l e R s m args below meth c0 H locs cells slots Q (F0 m pc ls (.ref (gad G v) :: .int i :: .ref (gad G a) :: rest)) := by
    intro t cv0 C r ht hka hkv hr htt
    have hc := (hH.arr hka (by omega)).2
    have hra : arW G w a = arrV (gA G t) (wL w a) (fun j => cv G (rfv (wZ w a j))) := by
      have := hka.2
      rcases ht with rfl | rfl <;> simp [arW, this]
    rw [hra] at hc
    obtain ⟨cellV, g1, g2, g3, -⟩ := hH.obj hkv hr
    have hcls := (hK.1 cv0 r hr).2
    obtain ⟨kA, comp, k1, k2, k3, -⟩ := (hK.2 t _ htt).2
    have hcomp : comp = (gD G).1 cv0 := Option.some.inj (k3.symm.trans hcls.1)
    subst hcomp
    obtain ⟨kC, hkC, -⟩ := hcls.2
    refine W.aast hx hb hc (fun q h => by cases h) (fun h => by cases h) k1 k2 rfl hkC ⟨h0, by rw [arrV_size]; exact hlt⟩ g1 (fun q h => by rw [g3] at h; cases h) (by rw [g2]; exact hkC) (by rw [g2]; exact va_assign hcls) rfl rfl hdg fun H1 e1 z oq => ?_
    refine kk H1 _ (hH.upd (a := a) rfl z oq (Or.inr ⟨by show 11 ≤ wK w a; rw [hka.2]; omega, by show wK w a < 17; rw [hka.2]; omega, ?_⟩) (fun _ _ _ => rfl) (fun _ _ _ _ _ => rfl) (fun b _ hb => arW_uZ hb)) (hS.put z oq (hH.1 a hka.1).2)
    rw [e1, arrV_store]
    have hr2 : arW G (uZ w a i.toNatClampNeg (some v)) a = arrV (gA G t) (wL w a) (fun j => cv G (rfv (wZ (uZ w a i.toNatClampNeg (some v)) a j))) := by
      have : wK (uZ w a i.toNatClampNeg (some v)) a = t + 11 := hka.2
      rcases ht with rfl | rfl <;> (simp only [arW, this]; rfl)
    rw [hr2]
    congr 2
    funext q
    by_cases hq : q = i.toNatClampNeg
    · subst hq
      simp [updV, wZ, uZ, u2, rfv, cv]
    · simp [updV, wZ, uZ, u2, hq]
  rcases hkd with ⟨h1, h2⟩ | ⟨h1, h2⟩
  · exact go 4 1 "" _ (Or.inl rfl) h1 h2 rfl rfl
  · exact go 5 5 "" _ (Or.inr rfl) h1 h2 rfl rfl
end MNEW
end
section
/-! TABLES of the program, by number: classes, methods, links, constants (printed of the program). -/
def lk {α : Type} : List (Nat × α) → Nat → Option α
  | [], _ => none
  | e :: l, i => if e.1 = i then some e.2 else lk l i
theorem lk_mem {α : Type} : ∀ {l : List (Nat × α)} {i : Nat} {v : α}, lk l i = some v → (i, v) ∈ l
  | [], _, _, h => by cases h
  | e :: l, i, v, h => by
    unfold lk at h
    by_cases hq : e.1 = i
    · rw [if_pos hq] at h
      cases h
      rw [← hq]
      exact List.mem_cons_self
    · rw [if_neg hq] at h
      exact List.mem_cons_of_mem _ (lk_mem h)
/-- tables with an owner and an index -/
def lo {α : Type} : List (Nat × Nat × α) → Nat → Nat → Option α
  | [], _, _ => none
  | e :: l, o, i => if e.1 = o then (if e.2.1 = i then some e.2.2 else lo l o i) else lo l o i
theorem lo_mem {α : Type} : ∀ {l : List (Nat × Nat × α)} {o i : Nat} {v : α}, lo l o i = some v → (o, i, v) ∈ l
  | [], _, _, _, h => by cases h
  | e :: l, o, i, v, h => by
    unfold lo at h
    by_cases ho : e.1 = o
    · rw [if_pos ho] at h
      by_cases hq : e.2.1 = i
      · rw [if_pos hq] at h
        cases h
        rw [← hq, ← ho]
        exact List.mem_cons_self
      · rw [if_neg hq] at h
        exact List.mem_cons_of_mem _ (lo_mem h)
    · rw [if_neg ho] at h
      exact List.mem_cons_of_mem _ (lo_mem h)
def allP {α : Type} (P : α → Prop) : List α → Prop
  | [] => True
  | a :: l => P a ∧ allP P l
theorem allP_mem {α : Type} {P : α → Prop} : ∀ {l : List α}, allP P l → ∀ a ∈ l, P a
  | [], _, a, h => absurd h List.not_mem_nil
  | b :: l, hp, a, h => by
    rcases List.mem_cons.mp h with rfl | h
    · exact hp.1
    · exact allP_mem hp.2 a h
theorem memP_app {α : Type} {P : α → Prop} {l1 l2 : List α} (h1 : ∀ a ∈ l1, P a) (h2 : ∀ a ∈ l2, P a) : ∀ a ∈ l1 ++ l2, P a := fun a h => (List.mem_append.mp h).elim (h1 a) (h2 a)
def tq (q : Nat) : List Cond := match q with
  | 0 => k2_sels lw_privs
  | 1 => tables_1_1
  | 2 => tables_1_2
  | 3 => tables_1_3
  | 4 => tables_1_4
  | 5 => tables_1_5
  | 6 => tables_1_6
  | 7 => tables_1_7
  | _ => []
theorem tq_in {q : Nat} {w : Cond} (h : w ∈ tq q) : w ∈ lw_tbl := by
  unfold lw_tbl tables_1
  match q, h with
  | 0, h => exact List.mem_append_left _ h
  | 1, h => exact List.mem_append_right _ (List.mem_append_left _ h)
  | 2, h => exact List.mem_append_right _ (List.mem_append_right _ (List.mem_append_left _ h))
  | 3, h => exact List.mem_append_right _ (List.mem_append_right _ (List.mem_append_right _ (List.mem_append_left _ h)))
  | 4, h => exact List.mem_append_right _ (List.mem_append_right _ (List.mem_append_right _ (List.mem_append_right _ (List.mem_append_left _ h))))
  | 5, h => exact List.mem_append_right _ (List.mem_append_right _ (List.mem_append_right _ (List.mem_append_right _ (List.mem_append_right _ (List.mem_append_left _ h)))))
  | 6, h => exact List.mem_append_right _ (List.mem_append_right _ (List.mem_append_right _ (List.mem_append_right _ (List.mem_append_right _ (List.mem_append_right _ (List.mem_append_left _ h))))))
  | 7, h => exact List.mem_append_right _ (List.mem_append_right _ (List.mem_append_right _ (List.mem_append_right _ (List.mem_append_right _ (List.mem_append_right _ (List.mem_append_right _ h))))))
  | q + 8, h => exact absurd h List.not_mem_nil
def WL : List Cond := lw_tbl.filter goodWord
theorem WL_of {q j : Nat} {w : Cond} (h : (tq q)[j]? = some w) (hg : goodWord w = true) : w ∈ WL := List.mem_filter.mpr ⟨tq_in (List.mem_of_getElem? h), hg⟩
theorem WL_good {w : Cond} (h : w ∈ WL) : goodWord w = true := (List.mem_filter.mp h).2
theorem WL_tbl {w : Cond} (h : w ∈ WL) : w ∈ lw_tbl := (List.mem_filter.mp h).1
def oN (i : Nat) : String := (["SharesComing$Book", "SharesComing$Ends", "SharesComing$Ranks", "SharesComing$Reader", "SharesComing$Rows", "SharesComing$Sight", "SharesComing$Table", "SharesComing$Ways", "SharesComing$Will", "SharesComing", "SharesComingModel", "SharesComing$Goals", "SharesComing$State", "SharesComingLaw", "java/lang/Integer", "java/lang/Math", "java/lang/String", "java/lang/StringLatin1", "java/util/Arrays", "jdk/internal/util/Preconditions", "java/lang/StringUTF16"] : List String).getD i ""
def mtab_0 : List (MethodName × ByteArray × Nat × Option FieldType × Nat × Nat × Nat) := [(⟨"SharesComing", "<init>", "()V"⟩, prog_1_method_1_code, 1, none, 9, 0, 2),
  (⟨"SharesComing$Reader", "<init>", "([B)V"⟩, prog_6_method_1_code, 2, none, 3, 1, 2),
  (⟨"SharesComing$Will", "<init>", "()V"⟩, prog_12_method_1_code, 1, none, 8, 0, 2),
  (⟨"SharesComing$Book", "<init>", "(LSharesComing$Will;)V"⟩, prog_2_method_1_code, 5, none, 0, 1, 2),
  (⟨"SharesComing$Ranks", "<init>", "()V"⟩, prog_5_method_1_code, 2, none, 2, 0, 2),
  (⟨"SharesComing$Ranks", "numberAmounts", "([I[I[I)V"⟩, prog_5_method_2_code, 9, none, 2, 3, 0),
  (⟨"java/util/Arrays", "fill", "([II)V"⟩, prog_20_method_103_code, 4, none, 18, 2, 0),
  (⟨"SharesComing$Ranks", "sumUp", "([I[I[I[I)V"⟩, prog_5_method_3_code, 7, none, 2, 4, 0),
  (⟨"SharesComing$Rows", "<init>", "(LSharesComing$Will;LSharesComing$Ranks;)V"⟩, prog_7_method_1_code, 3, none, 4, 2, 2),
  (⟨"SharesComing$Ends", "<init>", "(LSharesComing$Will;LSharesComing$Ranks;ILSharesComing$Ends;)V"⟩, prog_3_method_1_code, 5, none, 1, 4, 2),
  (⟨"SharesComing$Table", "<init>", "()V"⟩, prog_10_method_1_code, 1, none, 6, 0, 2),
  (⟨"SharesComing$Sight", "<init>", "(LSharesComing$Will;LSharesComing$Ranks;ILSharesComing$Ends;)V"⟩, prog_8_method_1_code, 5, none, 5, 4, 2),
  (⟨"SharesComing$Ways", "<init>", "(LSharesComing$Will;LSharesComing$Sight;LSharesComing$Ends;)V"⟩, prog_11_method_1_code, 4, none, 7, 3, 2),
  (⟨"SharesComing", "feed", "(IIIII)I"⟩, prog_1_method_2_code, 6, some FieldType.int, 9, 5, 1),
  (⟨"SharesComing", "addBytes", "(I)V"⟩, prog_1_method_3_code, 3, none, 9, 1, 1),
  (⟨"SharesComing", "end", "(I)Z"⟩, prog_1_method_4_code, 2, some FieldType.boolean, 9, 1, 1)]
def mtab_1 : List (MethodName × ByteArray × Nat × Option FieldType × Nat × Nat × Nat) := [(⟨"SharesComing", "fault", "()I"⟩, prog_1_method_5_code, 1, some FieldType.int, 9, 0, 1),
  (⟨"SharesComing$Reader", "read", "(ILSharesComing$Will;)I"⟩, prog_6_method_2_code, 4, some FieldType.int, 3, 2, 1),
  (⟨"SharesComing$Will", "clear", "()V"⟩, prog_12_method_2_code, 1, none, 8, 0, 1),
  (⟨"SharesComing$Reader", "step", "()V"⟩, prog_6_method_12_code, 1, none, 3, 0, 1),
  (⟨"SharesComing$Reader", "isLetterAt", "(I)Z"⟩, prog_6_method_15_code, 2, some FieldType.boolean, 3, 1, 1),
  (⟨"SharesComing$Reader", "readWord", "()V"⟩, prog_6_method_13_code, 1, none, 3, 0, 1),
  (⟨"SharesComing$Reader", "isDigitAt", "(I)Z"⟩, prog_6_method_16_code, 2, some FieldType.boolean, 3, 1, 1),
  (⟨"SharesComing$Reader", "readNumber", "()V"⟩, prog_6_method_14_code, 1, none, 3, 0, 1),
  (⟨"SharesComing$Will", "early", "()I"⟩, prog_12_method_10_code, 1, some FieldType.int, 8, 0, 1),
  (⟨"SharesComing$Reader", "readPart", "(LSharesComing$Will;)Z"⟩, prog_6_method_3_code, 2, some FieldType.boolean, 3, 1, 1),
  (⟨"SharesComing$Reader", "readHeir", "(LSharesComing$Will;Z)Z"⟩, prog_6_method_4_code, 6, some FieldType.boolean, 3, 2, 1),
  (⟨"SharesComing$Will", "hasRoomForHeir", "()Z"⟩, prog_12_method_3_code, 1, some FieldType.boolean, 8, 0, 1),
  (⟨"SharesComing$Reader", "isName", "()Z"⟩, prog_6_method_11_code, 1, some FieldType.boolean, 3, 0, 1),
  (⟨"SharesComing$Will", "heirNamed", "(J)I"⟩, prog_12_method_6_code, 4, some FieldType.int, 8, 1, 1),
  (⟨"SharesComing$Reader", "isNumber", "(II)Z"⟩, prog_6_method_10_code, 3, some FieldType.boolean, 3, 2, 1),
  (⟨"SharesComing$Will", "putWorth", "(II)V"⟩, prog_12_method_4_code, 3, none, 8, 2, 1)]
def mtab_2 : List (MethodName × ByteArray × Nat × Option FieldType × Nat × Nat × Nat) := [(⟨"SharesComing$Will", "addHeir", "(JZ)V"⟩, prog_12_method_5_code, 4, none, 8, 2, 1),
  (⟨"SharesComing$Reader", "readDay", "(LSharesComing$Will;)Z"⟩, prog_6_method_8_code, 3, some FieldType.boolean, 3, 1, 1),
  (⟨"SharesComing$Will", "hasRoomForDay", "()Z"⟩, prog_12_method_7_code, 1, some FieldType.boolean, 8, 0, 1),
  (⟨"SharesComing$Reader", "readAlt", "(LSharesComing$Will;I)Z"⟩, prog_6_method_9_code, 6, some FieldType.boolean, 3, 2, 1),
  (⟨"SharesComing$Will", "isLate", "(I)Z"⟩, prog_12_method_11_code, 2, some FieldType.boolean, 8, 1, 1),
  (⟨"SharesComing$Will", "putAlt", "(IIII)V"⟩, prog_12_method_8_code, 6, none, 8, 4, 1),
  (⟨"SharesComing$Will", "addDay", "(I)V"⟩, prog_12_method_9_code, 2, none, 8, 1, 1),
  (⟨"SharesComing$Reader", "readHold", "(LSharesComing$Will;)Z"⟩, prog_6_method_5_code, 2, some FieldType.boolean, 3, 1, 1),
  (⟨"SharesComing$Reader", "passSemicolon", "()Z"⟩, prog_6_method_7_code, 1, some FieldType.boolean, 3, 0, 1),
  (⟨"SharesComing$Reader", "readBack", "(LSharesComing$Will;)Z"⟩, prog_6_method_6_code, 2, some FieldType.boolean, 3, 1, 1),
  (⟨"SharesComing", "matter", "()I"⟩, prog_1_method_6_code, 2, some FieldType.int, 9, 0, 1),
  (⟨"SharesComing$Will", "firstState", "()J"⟩, prog_12_method_22_code, 1, some FieldType.long, 8, 0, 1),
  (⟨"SharesComing$Book", "startAnew", "()V"⟩, prog_2_method_2_code, 2, none, 0, 0, 1),
  (⟨"SharesComing$Ranks", "layOut", "(LSharesComing$Will;)V"⟩, prog_5_method_4_code, 5, none, 2, 1, 1),
  (⟨"SharesComing$Ranks", "maskOf", "(LSharesComing$Will;I)I"⟩, prog_5_method_5_code, 5, some FieldType.int, 2, 2, 0),
  (⟨"SharesComing$Will", "mayBringThing", "(I)Z"⟩, prog_12_method_20_code, 3, some FieldType.boolean, 8, 1, 1)]
def mtab_3 : List (MethodName × ByteArray × Nat × Option FieldType × Nat × Nat × Nat) := [(⟨"SharesComing$Will", "alts", "(I)I"⟩, prog_12_method_14_code, 2, some FieldType.int, 8, 1, 1),
  (⟨"SharesComing$Will", "kind", "(II)I"⟩, prog_12_method_17_code, 3, some FieldType.int, 8, 2, 1),
  (⟨"SharesComing$Will", "isAlt", "(II)Z"⟩, prog_12_method_13_code, 3, some FieldType.boolean, 8, 2, 1),
  (⟨"SharesComing$Table", "startAnew", "()V"⟩, prog_10_method_2_code, 1, none, 6, 0, 1),
  (⟨"SharesComing", "heir", "(II)I"⟩, prog_1_method_7_code, 3, some FieldType.int, 9, 2, 1),
  (⟨"SharesComing$Will", "isHeir", "(I)Z"⟩, prog_12_method_12_code, 2, some FieldType.boolean, 8, 1, 1),
  (⟨"SharesComing$State", "isThere", "(JI)Z"⟩, prog_9_method_9_code, 3, some FieldType.boolean, 12, 2, 0),
  (⟨"SharesComing$State", "cameOf", "(J)I"⟩, prog_9_method_8_code, 2, some FieldType.int, 12, 1, 0),
  (⟨"SharesComing$Will", "worth", "(II)I"⟩, prog_12_method_15_code, 3, some FieldType.int, 8, 2, 1),
  (⟨"SharesComing$State", "amount", "(JII)I"⟩, prog_9_method_4_code, 4, some FieldType.int, 12, 3, 0),
  (⟨"SharesComing$Will", "valueOf", "(IJI)I"⟩, prog_12_method_25_code, 10, some FieldType.int, 8, 3, 1),
  (⟨"SharesComing", "alt", "(III)I"⟩, prog_1_method_8_code, 4, some FieldType.int, 9, 3, 1),
  (⟨"SharesComing$Will", "chance", "(II)I"⟩, prog_12_method_16_code, 3, some FieldType.int, 8, 2, 1),
  (⟨"SharesComing$Will", "target", "(II)I"⟩, prog_12_method_18_code, 3, some FieldType.int, 8, 2, 1),
  (⟨"SharesComing", "come", "(I)I"⟩, prog_1_method_9_code, 3, some FieldType.int, 9, 1, 1),
  (⟨"SharesComing$State", "dayOf", "(J)I"⟩, prog_9_method_10_code, 2, some FieldType.int, 12, 1, 0)]
def mtab_4 : List (MethodName × ByteArray × Nat × Option FieldType × Nat × Nat × Nat) := [(⟨"SharesComing$Will", "thing", "(II)I"⟩, prog_12_method_19_code, 3, some FieldType.int, 8, 2, 1),
  (⟨"SharesComing$Will", "passed", "(JII)J"⟩, prog_12_method_23_code, 7, some FieldType.long, 8, 3, 1),
  (⟨"SharesComing", "give", "(I)Z"⟩, prog_1_method_10_code, 2, some FieldType.boolean, 9, 1, 1),
  (⟨"SharesComing$Will", "mayGive", "(JII)Z"⟩, prog_12_method_24_code, 5, some FieldType.boolean, 8, 3, 1),
  (⟨"SharesComing$State", "heldOf", "(J)I"⟩, prog_9_method_6_code, 2, some FieldType.int, 12, 1, 0),
  (⟨"SharesComing$State", "thingsOf", "(JI)I"⟩, prog_9_method_5_code, 3, some FieldType.int, 12, 2, 0),
  (⟨"SharesComing$State", "with", "(JII)J"⟩, prog_9_method_3_code, 4, some FieldType.long, 12, 3, 0),
  (⟨"SharesComing$State", "one", "(II)J"⟩, prog_9_method_2_code, 2, some FieldType.long, 12, 2, 0),
  (⟨"SharesComing", "reached", "(I)I"⟩, prog_1_method_11_code, 2, some FieldType.int, 9, 1, 1),
  (⟨"SharesComing", "canLookAhead", "(I)Z"⟩, prog_1_method_26_code, 2, some FieldType.boolean, 9, 1, 1),
  (⟨"SharesComing", "isGoal", "(I)Z"⟩, prog_1_method_25_code, 1, some FieldType.boolean, 9, 1, 0),
  (⟨"SharesComing", "daysToCome", "()I"⟩, prog_1_method_27_code, 1, some FieldType.int, 9, 0, 1),
  (⟨"SharesComing$Book", "ends", "(II)LSharesComing$Ends;"⟩, prog_2_method_3_code, 5, some (FieldType.object "SharesComing$Ends"), 0, 2, 1),
  (⟨"SharesComing$Ranks", "endPlaces", "()I"⟩, prog_5_method_9_code, 1, some FieldType.int, 2, 0, 1),
  (⟨"SharesComing$Table", "makeReady", "(II)V"⟩, prog_10_method_3_code, 3, none, 6, 2, 1),
  (⟨"java/util/Arrays", "fill", "([JJ)V"⟩, prog_20_method_101_code, 5, none, 18, 2, 0)]
def mtab_5 : List (MethodName × ByteArray × Nat × Option FieldType × Nat × Nat × Nat) := [(⟨"SharesComing$Ends", "value", "(J)J"⟩, prog_3_method_2_code, 6, some FieldType.long, 1, 1, 1),
  (⟨"SharesComing$Ranks", "endPlaceOf", "(J)I"⟩, prog_5_method_12_code, 4, some FieldType.int, 2, 1, 1),
  (⟨"SharesComing$Ranks", "cellPlace", "(JI)I"⟩, prog_5_method_13_code, 7, some FieldType.int, 2, 2, 1),
  (⟨"SharesComing$Ranks", "lateOf", "(J)I"⟩, prog_5_method_6_code, 3, some FieldType.int, 2, 1, 1),
  (⟨"SharesComing$Table", "at", "(I)J"⟩, prog_10_method_4_code, 2, some FieldType.long, 6, 1, 1),
  (⟨"SharesComing$Ends", "find", "(J)J"⟩, prog_3_method_3_code, 4, some FieldType.long, 1, 1, 1),
  (⟨"SharesComing$State", "firstHeld", "(J)I"⟩, prog_9_method_7_code, 3, some FieldType.int, 12, 1, 0),
  (⟨"SharesComing$Ends", "bestHandedOut", "(JI)J"⟩, prog_3_method_4_code, 9, some FieldType.long, 1, 2, 1),
  (⟨"SharesComing$Ends", "bestTakenBack", "(JLSharesComing$Ends;)J"⟩, prog_3_method_5_code, 8, some FieldType.long, 1, 2, 1),
  (⟨"SharesComing$Ends", "bestMoved", "(JIILSharesComing$Ends;)J"⟩, prog_3_method_6_code, 11, some FieldType.long, 1, 4, 1),
  (⟨"SharesComing$Goals", "leastShare", "(LSharesComing$Will;J)I"⟩, prog_4_method_2_code, 9, some FieldType.int, 11, 2, 0),
  (⟨"java/lang/Integer", "bitCount", "(I)I"⟩, prog_15_method_49_code, 1, some FieldType.int, 14, 1, 0),
  (⟨"SharesComing$Goals", "mostLeftOut", "(LSharesComing$Will;J)I"⟩, prog_4_method_3_code, 6, some FieldType.int, 11, 2, 0),
  (⟨"SharesComing$Goals", "leftOut", "(LSharesComing$Will;JII)I"⟩, prog_4_method_4_code, 11, some FieldType.int, 11, 4, 0),
  (⟨"SharesComing$Goals", "sum", "(LSharesComing$Will;J)I"⟩, prog_4_method_5_code, 5, some FieldType.int, 11, 2, 0),
  (⟨"SharesComing$Table", "put", "(IJ)V"⟩, prog_10_method_5_code, 4, none, 6, 2, 1)]
def mtab_6 : List (MethodName × ByteArray × Nat × Option FieldType × Nat × Nat × Nat) := [(⟨"SharesComing", "sure", "(IZ)I"⟩, prog_1_method_12_code, 5, some FieldType.int, 9, 2, 1),
  (⟨"SharesComing", "worthNow", "(II)J"⟩, prog_1_method_28_code, 4, some FieldType.long, 9, 2, 1),
  (⟨"SharesComing$Book", "sight", "(II)LSharesComing$Sight;"⟩, prog_2_method_4_code, 4, some (FieldType.object "SharesComing$Sight"), 0, 2, 1),
  (⟨"SharesComing$Ranks", "dayPlaces", "()I"⟩, prog_5_method_8_code, 1, some FieldType.int, 2, 0, 1),
  (⟨"SharesComing$Sight", "endsBy", "(LSharesComing$Ends;)V"⟩, prog_8_method_2_code, 2, none, 5, 1, 1),
  (⟨"SharesComing$Sight", "worth", "(J)J"⟩, prog_8_method_3_code, 7, some FieldType.long, 5, 1, 1),
  (⟨"SharesComing$Ranks", "placeOf", "(J)I"⟩, prog_5_method_11_code, 5, some FieldType.int, 2, 1, 1),
  (⟨"SharesComing$Sight", "weighed", "(JI)J"⟩, prog_8_method_4_code, 7, some FieldType.long, 5, 2, 1),
  (⟨"SharesComing$Sight", "afterAlt", "(JII)J"⟩, prog_8_method_6_code, 8, some FieldType.long, 5, 3, 1),
  (⟨"SharesComing$Sight", "given", "(JI)J"⟩, prog_8_method_7_code, 7, some FieldType.long, 5, 2, 1),
  (⟨"SharesComing$Sight", "holdable", "()I"⟩, prog_8_method_10_code, 1, some FieldType.int, 5, 0, 1),
  (⟨"SharesComing$Sight", "least", "(JI)J"⟩, prog_8_method_5_code, 7, some FieldType.long, 5, 2, 1),
  (⟨"SharesComing", "thousandths", "(J)I"⟩, prog_1_method_29_code, 6, some FieldType.int, 9, 1, 1),
  (⟨"SharesComing", "best", "(IZ)I"⟩, prog_1_method_13_code, 3, some FieldType.int, 9, 2, 1),
  (⟨"SharesComing$Sight", "bestGift", "(JI)I"⟩, prog_8_method_8_code, 7, some FieldType.int, 5, 2, 1),
  (⟨"SharesComing", "proof", "(II)I"⟩, prog_1_method_14_code, 12, some FieldType.int, 9, 2, 1)]
def mtab_7 : List (MethodName × ByteArray × Nat × Option FieldType × Nat × Nat × Nat) := [(⟨"SharesComing$Sight", "worstAlt", "(JI)I"⟩, prog_8_method_9_code, 7, some FieldType.int, 5, 2, 1),
  (⟨"SharesComing", "known", "(II)I"⟩, prog_1_method_15_code, 3, some FieldType.int, 9, 2, 1),
  (⟨"SharesComing$Rows", "canBe", "(IJ)Z"⟩, prog_7_method_3_code, 6, some FieldType.boolean, 4, 2, 1),
  (⟨"SharesComing$Rows", "digit", "(II)I"⟩, prog_7_method_2_code, 2, some FieldType.int, 4, 2, 0),
  (⟨"SharesComing$Rows", "canHoldGifts", "(IJ)Z"⟩, prog_7_method_4_code, 4, some FieldType.boolean, 4, 2, 1),
  (⟨"SharesComing$Rows", "greatest", "(JILSharesComing$Ends;)J"⟩, prog_7_method_7_code, 9, some FieldType.long, 4, 3, 1),
  (⟨"SharesComing$Rows", "traced", "(JII)J"⟩, prog_7_method_11_code, 8, some FieldType.long, 4, 3, 1),
  (⟨"SharesComing$Rows", "ending", "(JJ)J"⟩, prog_7_method_12_code, 4, some FieldType.long, 4, 2, 0),
  (⟨"SharesComing$Rows", "spread", "(JJIILSharesComing$Ends;)J"⟩, prog_7_method_13_code, 16, some FieldType.long, 4, 5, 1),
  (⟨"SharesComing$Ranks", "cameWith", "(I)I"⟩, prog_5_method_7_code, 2, some FieldType.int, 2, 1, 1),
  (⟨"SharesComing", "cost", "(I)I"⟩, prog_1_method_16_code, 4, some FieldType.int, 9, 1, 1),
  (⟨"SharesComing$Rows", "leastGreatest", "(JLSharesComing$Ends;J)J"⟩, prog_7_method_8_code, 7, some FieldType.long, 4, 3, 1),
  (⟨"SharesComing$Ranks", "allPlaces", "()I"⟩, prog_5_method_10_code, 1, some FieldType.int, 2, 0, 1),
  (⟨"SharesComing$Rows", "walkOn", "(JJLSharesComing$Ends;)V"⟩, prog_7_method_9_code, 8, none, 4, 3, 1),
  (⟨"SharesComing$Rows", "wasWalked", "(I)Z"⟩, prog_7_method_10_code, 3, some FieldType.boolean, 4, 1, 1),
  (⟨"SharesComing", "fare", "(IIZ)I"⟩, prog_1_method_17_code, 6, some FieldType.int, 9, 3, 1)]
def mtab_8 : List (MethodName × ByteArray × Nat × Option FieldType × Nat × Nat × Nat) := [(⟨"SharesComing$Book", "ways", "(IIZ)LSharesComing$Ways;"⟩, prog_2_method_5_code, 4, some (FieldType.object "SharesComing$Ways"), 0, 3, 1),
  (⟨"SharesComing$Ways", "goBy", "(IZLSharesComing$Ends;)V"⟩, prog_11_method_2_code, 4, none, 7, 3, 1),
  (⟨"SharesComing$Ways", "outcome", "(J)J"⟩, prog_11_method_3_code, 14, some FieldType.long, 7, 1, 1),
  (⟨"SharesComing$Ways", "gift", "(JI)I"⟩, prog_11_method_4_code, 6, some FieldType.int, 7, 2, 1),
  (⟨"SharesComing$Ways", "claim", "(JII)I"⟩, prog_11_method_5_code, 5, some FieldType.int, 7, 3, 1),
  (⟨"SharesComing", "mended", "(II)I"⟩, prog_1_method_18_code, 4, some FieldType.int, 9, 2, 1),
  (⟨"SharesComing", "paper", "(II)I"⟩, prog_1_method_19_code, 3, some FieldType.int, 9, 2, 1),
  (⟨"SharesComing$Will", "chancesFrom", "(II)I"⟩, prog_12_method_21_code, 6, some FieldType.int, 8, 2, 1),
  (⟨"SharesComing", "judge", "(II)I"⟩, prog_1_method_20_code, 3, some FieldType.int, 9, 2, 1),
  (⟨"SharesComing$Rows", "firstUnlawful", "(JII)I"⟩, prog_7_method_5_code, 12, some FieldType.int, 4, 3, 1),
  (⟨"SharesComing", "judged", "(III)I"⟩, prog_1_method_21_code, 4, some FieldType.int, 9, 3, 1),
  (⟨"SharesComing$Rows", "stateAfter", "(JII)J"⟩, prog_7_method_6_code, 11, some FieldType.long, 4, 3, 1),
  (⟨"SharesComing", "image", "(I)Z"⟩, prog_1_method_22_code, 2, some FieldType.boolean, 9, 1, 1),
  (⟨"SharesComing", "on", "(I)Z"⟩, prog_1_method_23_code, 2, some FieldType.boolean, 9, 1, 1),
  (⟨"SharesComing", "count", "(I)I"⟩, prog_1_method_24_code, 2, some FieldType.int, 9, 1, 1),
  (⟨"SharesComingModel", "<init>", "()V"⟩, prog_14_method_1_code, 1, none, 10, 0, 2)]
def mtab_9 : List (MethodName × ByteArray × Nat × Option FieldType × Nat × Nat × Nat) := [(⟨"SharesComingModel", "feed", "(IIIII)I"⟩, prog_14_method_3_code, 8, some FieldType.int, 10, 5, 1),
  (⟨"SharesComingModel", "end", "(I)Z"⟩, prog_14_method_4_code, 2, some FieldType.boolean, 10, 1, 1),
  (⟨"SharesComingModel", "in", "(III)Z"⟩, prog_14_method_2_code, 3, some FieldType.boolean, 10, 3, 0),
  (⟨"SharesComingModel", "fault", "()I"⟩, prog_14_method_19_code, 2, some FieldType.int, 10, 0, 1),
  (⟨"SharesComingModel", "next", "()V"⟩, prog_14_method_7_code, 2, none, 10, 0, 1),
  (⟨"SharesComingModel", "isLetter", "(I)Z"⟩, prog_14_method_5_code, 1, some FieldType.boolean, 10, 1, 0),
  (⟨"SharesComingModel", "isDigit", "(I)Z"⟩, prog_14_method_6_code, 1, some FieldType.boolean, 10, 1, 0),
  (⟨"SharesComingModel", "line", "()Z"⟩, prog_14_method_18_code, 2, some FieldType.boolean, 10, 0, 1),
  (⟨"SharesComingModel", "isWord", "(Ljava/lang/String;)Z"⟩, prog_14_method_9_code, 2, some FieldType.boolean, 10, 1, 1),
  (⟨"SharesComingModel", "packed", "(Ljava/lang/String;)J"⟩, prog_14_method_8_code, 4, some FieldType.long, 10, 1, 0),
  (⟨"java/lang/String", "length", "()I"⟩, prog_17_method_54_code, 1, some FieldType.int, 16, 0, 1),
  (⟨"java/lang/String", "coder", "()B"⟩, prog_17_method_152_code, 1, some FieldType.byte, 16, 0, 1),
  (⟨"java/lang/String", "charAt", "(I)C"⟩, prog_17_method_56_code, 2, some FieldType.char, 16, 1, 1),
  (⟨"java/lang/String", "isLatin1", "()Z"⟩, prog_17_method_154_code, 1, some FieldType.boolean, 16, 0, 1),
  (⟨"java/lang/StringLatin1", "charAt", "([BI)C"⟩, prog_18_method_2_code, 2, some FieldType.char, 17, 2, 0),
  (⟨"java/lang/String", "checkIndex", "(II)V"⟩, prog_17_method_155_code, 2, none, 16, 2, 0)]
def mtab_10 : List (MethodName × ByteArray × Nat × Option FieldType × Nat × Nat × Nat) := [(⟨"jdk/internal/util/Preconditions", "checkIndex", "(IILjava/util/function/BiFunction;)I"⟩, prog_21_method_11_code, 3, some FieldType.int, 19, 3, 0),
  (⟨"SharesComingModel", "heirLine", "(Z)Z"⟩, prog_14_method_15_code, 3, some FieldType.boolean, 10, 1, 1),
  (⟨"SharesComingModel", "isName", "()Z"⟩, prog_14_method_12_code, 1, some FieldType.boolean, 10, 0, 1),
  (⟨"SharesComingModel", "named", "(J)I"⟩, prog_14_method_13_code, 4, some FieldType.int, 10, 1, 1),
  (⟨"SharesComingModel", "isNumber", "(II)Z"⟩, prog_14_method_11_code, 3, some FieldType.boolean, 10, 2, 1),
  (⟨"SharesComingModel", "closes", "()Z"⟩, prog_14_method_14_code, 1, some FieldType.boolean, 10, 0, 1),
  (⟨"SharesComingModel", "isSign", "(I)Z"⟩, prog_14_method_10_code, 2, some FieldType.boolean, 10, 1, 1),
  (⟨"SharesComingModel", "dayLine", "()Z"⟩, prog_14_method_17_code, 1, some FieldType.boolean, 10, 0, 1),
  (⟨"SharesComingModel", "altHere", "()Z"⟩, prog_14_method_16_code, 3, some FieldType.boolean, 10, 0, 1),
  (⟨"SharesComingModel", "matter", "()I"⟩, prog_14_method_20_code, 2, some FieldType.int, 10, 0, 1),
  (⟨"SharesComingModel", "forgets", "()V"⟩, prog_14_method_32_code, 2, none, 10, 0, 1),
  (⟨"SharesComingModel", "heir", "(II)I"⟩, prog_14_method_46_code, 3, some FieldType.int, 10, 2, 1),
  (⟨"SharesComingModel", "isHeir", "(I)Z"⟩, prog_14_method_45_code, 2, some FieldType.boolean, 10, 1, 1),
  (⟨"SharesComingModel", "hasCome", "(JI)Z"⟩, prog_14_method_23_code, 3, some FieldType.boolean, 10, 2, 0),
  (⟨"SharesComingModel", "things", "(JII)I"⟩, prog_14_method_21_code, 4, some FieldType.int, 10, 3, 0),
  (⟨"SharesComingModel", "worthTo", "(JII)I"⟩, prog_14_method_27_code, 7, some FieldType.int, 10, 3, 1)]
def mtab_11 : List (MethodName × ByteArray × Nat × Option FieldType × Nat × Nat × Nat) := [(⟨"SharesComingModel", "alt", "(III)I"⟩, prog_14_method_47_code, 4, some FieldType.int, 10, 3, 1),
  (⟨"SharesComingModel", "altOf", "(III)I"⟩, prog_14_method_26_code, 4, some FieldType.int, 10, 3, 1),
  (⟨"SharesComingModel", "come", "(I)I"⟩, prog_14_method_48_code, 3, some FieldType.int, 10, 1, 1),
  (⟨"SharesComingModel", "give", "(I)Z"⟩, prog_14_method_49_code, 2, some FieldType.boolean, 10, 1, 1),
  (⟨"SharesComingModel", "mayGive", "(JII)Z"⟩, prog_14_method_25_code, 4, some FieldType.boolean, 10, 3, 0),
  (⟨"SharesComingModel", "held", "(J)I"⟩, prog_14_method_24_code, 2, some FieldType.int, 10, 1, 0),
  (⟨"SharesComingModel", "one", "(II)J"⟩, prog_14_method_22_code, 2, some FieldType.long, 10, 2, 0),
  (⟨"SharesComingModel", "reached", "(I)I"⟩, prog_14_method_50_code, 2, some FieldType.int, 10, 1, 1),
  (⟨"SharesComingModel", "isGoal", "(I)Z"⟩, prog_14_method_43_code, 1, some FieldType.boolean, 10, 1, 0),
  (⟨"SharesComingModel", "ends", "(JII)I"⟩, prog_14_method_35_code, 19, some FieldType.int, 10, 3, 1),
  (⟨"SharesComingModel", "backed", "(JII)I"⟩, prog_14_method_33_code, 12, some FieldType.int, 10, 3, 1),
  (⟨"SharesComingModel", "goalOf", "(JI)I"⟩, prog_14_method_31_code, 8, some FieldType.int, 10, 2, 1),
  (⟨"SharesComingModel", "share", "(J)I"⟩, prog_14_method_29_code, 8, some FieldType.int, 10, 1, 1),
  (⟨"SharesComingModel", "manyCame", "(J)I"⟩, prog_14_method_28_code, 5, some FieldType.int, 10, 1, 1),
  (⟨"SharesComingModel", "leftOut", "(JII)I"⟩, prog_14_method_30_code, 12, some FieldType.int, 10, 3, 1),
  (⟨"SharesComingModel", "twice", "(JI)I"⟩, prog_14_method_34_code, 9, some FieldType.int, 10, 2, 1)]
def mtab_12 : List (MethodName × ByteArray × Nat × Option FieldType × Nat × Nat × Nat) := [(⟨"SharesComingModel", "sure", "(IZ)I"⟩, prog_14_method_51_code, 3, some FieldType.int, 10, 2, 1),
  (⟨"SharesComingModel", "solved", "(IZII)J"⟩, prog_14_method_42_code, 12, some FieldType.long, 10, 4, 1),
  (⟨"SharesComingModel", "laysAll", "(I)V"⟩, prog_14_method_39_code, 10, none, 10, 1, 1),
  (⟨"SharesComingModel", "lays", "(JI)V"⟩, prog_14_method_37_code, 5, none, 10, 2, 1),
  (⟨"SharesComingModel", "placeOf", "(JII)I"⟩, prog_14_method_36_code, 6, some FieldType.int, 10, 3, 1),
  (⟨"SharesComingModel", "after", "(JIII)J"⟩, prog_14_method_40_code, 7, some FieldType.long, 10, 4, 1),
  (⟨"SharesComingModel", "valueOf", "(JI)J"⟩, prog_14_method_38_code, 4, some FieldType.long, 10, 2, 1),
  (⟨"SharesComingModel", "given", "(JIII)J"⟩, prog_14_method_41_code, 12, some FieldType.long, 10, 4, 1),
  (⟨"SharesComingModel", "told", "(JZ)I"⟩, prog_14_method_44_code, 7, some FieldType.int, 10, 2, 1),
  (⟨"SharesComingModel", "best", "(IZ)I"⟩, prog_14_method_52_code, 6, some FieldType.int, 10, 2, 1),
  (⟨"SharesComingModel", "proof", "(II)I"⟩, prog_14_method_53_code, 15, some FieldType.int, 10, 2, 1),
  (⟨"SharesComingModel", "known", "(II)I"⟩, prog_14_method_57_code, 3, some FieldType.int, 10, 2, 1),
  (⟨"SharesComingModel", "isAltRow", "(I)Z"⟩, prog_14_method_55_code, 3, some FieldType.boolean, 10, 1, 1),
  (⟨"SharesComingModel", "isRow", "(I)Z"⟩, prog_14_method_54_code, 4, some FieldType.boolean, 10, 1, 1),
  (⟨"SharesComingModel", "knownBy", "(I)I"⟩, prog_14_method_56_code, 11, some FieldType.int, 10, 1, 1),
  (⟨"SharesComingModel", "cost", "(I)I"⟩, prog_14_method_58_code, 6, some FieldType.int, 10, 1, 1)]
def mtab_13 : List (MethodName × ByteArray × Nat × Option FieldType × Nat × Nat × Nat) := [(⟨"SharesComingModel", "fare", "(IIZ)I"⟩, prog_14_method_62_code, 13, some FieldType.int, 10, 3, 1),
  (⟨"SharesComingModel", "goesTo", "(JIII)I"⟩, prog_14_method_59_code, 8, some FieldType.int, 10, 4, 1),
  (⟨"SharesComingModel", "isBefore", "(JIIII)Z"⟩, prog_14_method_60_code, 7, some FieldType.boolean, 10, 5, 1),
  (⟨"SharesComingModel", "manyOf", "(JI)I"⟩, prog_14_method_61_code, 3, some FieldType.int, 10, 2, 0),
  (⟨"SharesComingModel", "mended", "(II)I"⟩, prog_14_method_63_code, 5, some FieldType.int, 10, 2, 1),
  (⟨"SharesComingModel", "paper", "(II)I"⟩, prog_14_method_64_code, 6, some FieldType.int, 10, 2, 1),
  (⟨"SharesComingModel", "judge", "(II)I"⟩, prog_14_method_65_code, 9, some FieldType.int, 10, 2, 1),
  (⟨"SharesComingModel", "judged", "(III)I"⟩, prog_14_method_66_code, 4, some FieldType.int, 10, 3, 1),
  (⟨"SharesComingModel", "image", "(I)Z"⟩, prog_14_method_67_code, 2, some FieldType.boolean, 10, 1, 1),
  (⟨"SharesComingModel", "on", "(I)Z"⟩, prog_14_method_68_code, 2, some FieldType.boolean, 10, 1, 1),
  (⟨"SharesComingModel", "count", "(I)I"⟩, prog_14_method_69_code, 2, some FieldType.int, 10, 1, 1),
  (⟨"SharesComingLaw", "law", "([I)Z"⟩, code, 4, some .boolean, 13, 1, 0)]
def mtab (i : Nat) : MethodName × ByteArray × Nat × Option FieldType × Nat × Nat × Nat := ((match i / 16 with
  | 0 => mtab_0
  | 1 => mtab_1
  | 2 => mtab_2
  | 3 => mtab_3
  | 4 => mtab_4
  | 5 => mtab_5
  | 6 => mtab_6
  | 7 => mtab_7
  | 8 => mtab_8
  | 9 => mtab_9
  | 10 => mtab_10
  | 11 => mtab_11
  | 12 => mtab_12
  | 13 => mtab_13
  | _ => []) : List (MethodName × ByteArray × Nat × Option FieldType × Nat × Nat × Nat)).getD (i % 16) (⟨"", "", ""⟩, ⟨#[]⟩, 0, none, 0, 0, 9)
def mY (i : Nat) : MethodName := (mtab i).1
def mB (i : Nat) : ByteArray := (mtab i).2.1
def mL (i : Nat) : Nat := (mtab i).2.2.1
def mT (i : Nat) : Option FieldType := (mtab i).2.2.2.1
/-- the class that it is of, how many arguments, and 0 static, 1 of an object, 2 a constructor -/
def mO (i : Nat) : Nat := (mtab i).2.2.2.2.1
def mA (i : Nat) : Nat := (mtab i).2.2.2.2.2.1
def mS (i : Nat) : Nat := (mtab i).2.2.2.2.2.2
/-- what the tables say of method i -/
def okM (i : Nat) : Prop := Cond.code (mY i) (mB i) (mL i) (mT i) ∈ WL ∧ Cond.initialized (mY i).cls ∈ WL ∧ (mS i = 0 ∧ Cond.static (mY i) ∈ WL ∨ mS i = 1 ∧ Cond.instanceMethod (mY i) ∈ WL ∧ Cond.selects (mY i).cls (mY i) (mY i) ∈ WL ∨ mS i = 2 ∧ Cond.instanceMethod (mY i) ∈ WL ∧ (mY i).name = "<init>" ∧ mT i = none) ∧ plainName (mY i).cls = true ∧ oN (mO i) = (mY i).cls ∧ ((mY i).cls ≠ "java/lang/invoke/MethodHandle" ∧ (mY i).cls ≠ "java/lang/invoke/VarHandle" ∧ (parseMethodDescriptor (mY i).desc).map (fun d => d.parameters.length) = some (mA i)) ∧ mL i ≤ 60
end
section
/-! The tables hold what okM says. -/
theorem okM_0 : okM 0 := ⟨WL_of (q := 1) (j := 25) rfl rfl, WL_of (q := 1) (j := 1) rfl rfl, Or.inr (Or.inr ⟨rfl, WL_of (q := 1) (j := 24) rfl rfl, rfl, rfl⟩), by decide +kernel, rfl, ⟨by decide +kernel, by decide +kernel, by decide +kernel⟩, by decide⟩
theorem okM_1 : okM 1 := ⟨WL_of (q := 1) (j := 33) rfl rfl, WL_of (q := 1) (j := 2) rfl rfl, Or.inr (Or.inr ⟨rfl, WL_of (q := 1) (j := 32) rfl rfl, rfl, rfl⟩), by decide +kernel, rfl, ⟨by decide +kernel, by decide +kernel, by decide +kernel⟩, by decide⟩
theorem okM_2 : okM 2 := ⟨WL_of (q := 1) (j := 65) rfl rfl, WL_of (q := 1) (j := 3) rfl rfl, Or.inr (Or.inr ⟨rfl, WL_of (q := 1) (j := 64) rfl rfl, rfl, rfl⟩), by decide +kernel, rfl, ⟨by decide +kernel, by decide +kernel, by decide +kernel⟩, by decide⟩
theorem okM_3 : okM 3 := ⟨WL_of (q := 1) (j := 133) rfl rfl, WL_of (q := 1) (j := 4) rfl rfl, Or.inr (Or.inr ⟨rfl, WL_of (q := 1) (j := 132) rfl rfl, rfl, rfl⟩), by decide +kernel, rfl, ⟨by decide +kernel, by decide +kernel, by decide +kernel⟩, by decide⟩
theorem okM_4 : okM 4 := ⟨WL_of (q := 1) (j := 139) rfl rfl, WL_of (q := 1) (j := 5) rfl rfl, Or.inr (Or.inr ⟨rfl, WL_of (q := 1) (j := 138) rfl rfl, rfl, rfl⟩), by decide +kernel, rfl, ⟨by decide +kernel, by decide +kernel, by decide +kernel⟩, by decide⟩
theorem okM_5 : okM 5 := ⟨WL_of (q := 1) (j := 143) rfl rfl, WL_of (q := 1) (j := 5) rfl rfl, Or.inl ⟨rfl, WL_of (q := 1) (j := 142) rfl rfl⟩, by decide +kernel, rfl, ⟨by decide +kernel, by decide +kernel, by decide +kernel⟩, by decide⟩
theorem okM_6 : okM 6 := ⟨WL_of (q := 1) (j := 146) rfl rfl, WL_of (q := 1) (j := 6) rfl rfl, Or.inl ⟨rfl, WL_of (q := 1) (j := 145) rfl rfl⟩, by decide +kernel, rfl, ⟨by decide +kernel, by decide +kernel, by decide +kernel⟩, by decide⟩
theorem okM_7 : okM 7 := ⟨WL_of (q := 1) (j := 149) rfl rfl, WL_of (q := 1) (j := 5) rfl rfl, Or.inl ⟨rfl, WL_of (q := 1) (j := 148) rfl rfl⟩, by decide +kernel, rfl, ⟨by decide +kernel, by decide +kernel, by decide +kernel⟩, by decide⟩
theorem okM_8 : okM 8 := ⟨WL_of (q := 1) (j := 191) rfl rfl, WL_of (q := 1) (j := 7) rfl rfl, Or.inr (Or.inr ⟨rfl, WL_of (q := 1) (j := 190) rfl rfl, rfl, rfl⟩), by decide +kernel, rfl, ⟨by decide +kernel, by decide +kernel, by decide +kernel⟩, by decide⟩
theorem okM_9 : okM 9 := ⟨WL_of (q := 1) (j := 217) rfl rfl, WL_of (q := 1) (j := 8) rfl rfl, Or.inr (Or.inr ⟨rfl, WL_of (q := 1) (j := 216) rfl rfl, rfl, rfl⟩), by decide +kernel, rfl, ⟨by decide +kernel, by decide +kernel, by decide +kernel⟩, by decide⟩
theorem okM_10 : okM 10 := ⟨WL_of (q := 1) (j := 223) rfl rfl, WL_of (q := 1) (j := 9) rfl rfl, Or.inr (Or.inr ⟨rfl, WL_of (q := 1) (j := 222) rfl rfl, rfl, rfl⟩), by decide +kernel, rfl, ⟨by decide +kernel, by decide +kernel, by decide +kernel⟩, by decide⟩
theorem okM_11 : okM 11 := ⟨WL_of (q := 2) (j := 14) rfl rfl, WL_of (q := 1) (j := 10) rfl rfl, Or.inr (Or.inr ⟨rfl, WL_of (q := 2) (j := 13) rfl rfl, rfl, rfl⟩), by decide +kernel, rfl, ⟨by decide +kernel, by decide +kernel, by decide +kernel⟩, by decide⟩
theorem okM_12 : okM 12 := ⟨WL_of (q := 2) (j := 39) rfl rfl, WL_of (q := 1) (j := 11) rfl rfl, Or.inr (Or.inr ⟨rfl, WL_of (q := 2) (j := 38) rfl rfl, rfl, rfl⟩), by decide +kernel, rfl, ⟨by decide +kernel, by decide +kernel, by decide +kernel⟩, by decide⟩
theorem okM_13 : okM 13 := ⟨WL_of (q := 2) (j := 118) rfl rfl, WL_of (q := 1) (j := 1) rfl rfl, Or.inr (Or.inl ⟨rfl, WL_of (q := 2) (j := 116) rfl rfl, WL_of (q := 2) (j := 117) rfl rfl⟩), by decide +kernel, rfl, ⟨by decide +kernel, by decide +kernel, by decide +kernel⟩, by decide⟩
theorem okM_14 : okM 14 := ⟨WL_of (q := 2) (j := 122) rfl rfl, WL_of (q := 1) (j := 1) rfl rfl, Or.inr (Or.inl ⟨rfl, WL_of (q := 2) (j := 121) rfl rfl, WL_of (q := 0) (j := 0) rfl rfl⟩), by decide +kernel, rfl, ⟨by decide +kernel, by decide +kernel, by decide +kernel⟩, by decide⟩
theorem okM_15 : okM 15 := ⟨WL_of (q := 2) (j := 126) rfl rfl, WL_of (q := 1) (j := 1) rfl rfl, Or.inr (Or.inl ⟨rfl, WL_of (q := 2) (j := 124) rfl rfl, WL_of (q := 2) (j := 125) rfl rfl⟩), by decide +kernel, rfl, ⟨by decide +kernel, by decide +kernel, by decide +kernel⟩, by decide⟩
theorem okM_16 : okM 16 := ⟨WL_of (q := 2) (j := 130) rfl rfl, WL_of (q := 1) (j := 1) rfl rfl, Or.inr (Or.inl ⟨rfl, WL_of (q := 2) (j := 128) rfl rfl, WL_of (q := 2) (j := 129) rfl rfl⟩), by decide +kernel, rfl, ⟨by decide +kernel, by decide +kernel, by decide +kernel⟩, by decide⟩
theorem okM_17 : okM 17 := ⟨WL_of (q := 2) (j := 134) rfl rfl, WL_of (q := 1) (j := 2) rfl rfl, Or.inr (Or.inl ⟨rfl, WL_of (q := 2) (j := 132) rfl rfl, WL_of (q := 2) (j := 133) rfl rfl⟩), by decide +kernel, rfl, ⟨by decide +kernel, by decide +kernel, by decide +kernel⟩, by decide⟩
theorem okM_18 : okM 18 := ⟨WL_of (q := 2) (j := 141) rfl rfl, WL_of (q := 1) (j := 3) rfl rfl, Or.inr (Or.inl ⟨rfl, WL_of (q := 2) (j := 139) rfl rfl, WL_of (q := 2) (j := 140) rfl rfl⟩), by decide +kernel, rfl, ⟨by decide +kernel, by decide +kernel, by decide +kernel⟩, by decide⟩
theorem okM_19 : okM 19 := ⟨WL_of (q := 2) (j := 145) rfl rfl, WL_of (q := 1) (j := 2) rfl rfl, Or.inr (Or.inl ⟨rfl, WL_of (q := 2) (j := 144) rfl rfl, WL_of (q := 0) (j := 1) rfl rfl⟩), by decide +kernel, rfl, ⟨by decide +kernel, by decide +kernel, by decide +kernel⟩, by decide⟩
theorem okM_20 : okM 20 := ⟨WL_of (q := 2) (j := 149) rfl rfl, WL_of (q := 1) (j := 2) rfl rfl, Or.inr (Or.inl ⟨rfl, WL_of (q := 2) (j := 148) rfl rfl, WL_of (q := 0) (j := 2) rfl rfl⟩), by decide +kernel, rfl, ⟨by decide +kernel, by decide +kernel, by decide +kernel⟩, by decide⟩
theorem okM_21 : okM 21 := ⟨WL_of (q := 2) (j := 153) rfl rfl, WL_of (q := 1) (j := 2) rfl rfl, Or.inr (Or.inl ⟨rfl, WL_of (q := 2) (j := 152) rfl rfl, WL_of (q := 0) (j := 3) rfl rfl⟩), by decide +kernel, rfl, ⟨by decide +kernel, by decide +kernel, by decide +kernel⟩, by decide⟩
theorem okM_22 : okM 22 := ⟨WL_of (q := 2) (j := 157) rfl rfl, WL_of (q := 1) (j := 2) rfl rfl, Or.inr (Or.inl ⟨rfl, WL_of (q := 2) (j := 156) rfl rfl, WL_of (q := 0) (j := 4) rfl rfl⟩), by decide +kernel, rfl, ⟨by decide +kernel, by decide +kernel, by decide +kernel⟩, by decide⟩
theorem okM_23 : okM 23 := ⟨WL_of (q := 2) (j := 161) rfl rfl, WL_of (q := 1) (j := 2) rfl rfl, Or.inr (Or.inl ⟨rfl, WL_of (q := 2) (j := 160) rfl rfl, WL_of (q := 0) (j := 5) rfl rfl⟩), by decide +kernel, rfl, ⟨by decide +kernel, by decide +kernel, by decide +kernel⟩, by decide⟩
theorem okM_24 : okM 24 := ⟨WL_of (q := 2) (j := 165) rfl rfl, WL_of (q := 1) (j := 3) rfl rfl, Or.inr (Or.inl ⟨rfl, WL_of (q := 2) (j := 163) rfl rfl, WL_of (q := 2) (j := 164) rfl rfl⟩), by decide +kernel, rfl, ⟨by decide +kernel, by decide +kernel, by decide +kernel⟩, by decide⟩
theorem okM_25 : okM 25 := ⟨WL_of (q := 2) (j := 169) rfl rfl, WL_of (q := 1) (j := 2) rfl rfl, Or.inr (Or.inl ⟨rfl, WL_of (q := 2) (j := 168) rfl rfl, WL_of (q := 0) (j := 6) rfl rfl⟩), by decide +kernel, rfl, ⟨by decide +kernel, by decide +kernel, by decide +kernel⟩, by decide⟩
theorem okM_26 : okM 26 := ⟨WL_of (q := 2) (j := 175) rfl rfl, WL_of (q := 1) (j := 2) rfl rfl, Or.inr (Or.inl ⟨rfl, WL_of (q := 2) (j := 174) rfl rfl, WL_of (q := 0) (j := 7) rfl rfl⟩), by decide +kernel, rfl, ⟨by decide +kernel, by decide +kernel, by decide +kernel⟩, by decide⟩
theorem okM_27 : okM 27 := ⟨WL_of (q := 2) (j := 179) rfl rfl, WL_of (q := 1) (j := 3) rfl rfl, Or.inr (Or.inl ⟨rfl, WL_of (q := 2) (j := 177) rfl rfl, WL_of (q := 2) (j := 178) rfl rfl⟩), by decide +kernel, rfl, ⟨by decide +kernel, by decide +kernel, by decide +kernel⟩, by decide⟩
theorem okM_28 : okM 28 := ⟨WL_of (q := 2) (j := 183) rfl rfl, WL_of (q := 1) (j := 2) rfl rfl, Or.inr (Or.inl ⟨rfl, WL_of (q := 2) (j := 182) rfl rfl, WL_of (q := 0) (j := 8) rfl rfl⟩), by decide +kernel, rfl, ⟨by decide +kernel, by decide +kernel, by decide +kernel⟩, by decide⟩
theorem okM_29 : okM 29 := ⟨WL_of (q := 2) (j := 193) rfl rfl, WL_of (q := 1) (j := 3) rfl rfl, Or.inr (Or.inl ⟨rfl, WL_of (q := 2) (j := 191) rfl rfl, WL_of (q := 2) (j := 192) rfl rfl⟩), by decide +kernel, rfl, ⟨by decide +kernel, by decide +kernel, by decide +kernel⟩, by decide⟩
theorem okM_30 : okM 30 := ⟨WL_of (q := 2) (j := 197) rfl rfl, WL_of (q := 1) (j := 2) rfl rfl, Or.inr (Or.inl ⟨rfl, WL_of (q := 2) (j := 196) rfl rfl, WL_of (q := 0) (j := 9) rfl rfl⟩), by decide +kernel, rfl, ⟨by decide +kernel, by decide +kernel, by decide +kernel⟩, by decide⟩
theorem okM_31 : okM 31 := ⟨WL_of (q := 2) (j := 201) rfl rfl, WL_of (q := 1) (j := 3) rfl rfl, Or.inr (Or.inl ⟨rfl, WL_of (q := 2) (j := 199) rfl rfl, WL_of (q := 2) (j := 200) rfl rfl⟩), by decide +kernel, rfl, ⟨by decide +kernel, by decide +kernel, by decide +kernel⟩, by decide⟩
theorem okM_32 : okM 32 := ⟨WL_of (q := 2) (j := 206) rfl rfl, WL_of (q := 1) (j := 3) rfl rfl, Or.inr (Or.inl ⟨rfl, WL_of (q := 2) (j := 204) rfl rfl, WL_of (q := 2) (j := 205) rfl rfl⟩), by decide +kernel, rfl, ⟨by decide +kernel, by decide +kernel, by decide +kernel⟩, by decide⟩
theorem okM_33 : okM 33 := ⟨WL_of (q := 2) (j := 210) rfl rfl, WL_of (q := 1) (j := 2) rfl rfl, Or.inr (Or.inl ⟨rfl, WL_of (q := 2) (j := 209) rfl rfl, WL_of (q := 0) (j := 10) rfl rfl⟩), by decide +kernel, rfl, ⟨by decide +kernel, by decide +kernel, by decide +kernel⟩, by decide⟩
theorem okM_34 : okM 34 := ⟨WL_of (q := 2) (j := 214) rfl rfl, WL_of (q := 1) (j := 3) rfl rfl, Or.inr (Or.inl ⟨rfl, WL_of (q := 2) (j := 212) rfl rfl, WL_of (q := 2) (j := 213) rfl rfl⟩), by decide +kernel, rfl, ⟨by decide +kernel, by decide +kernel, by decide +kernel⟩, by decide⟩
theorem okM_35 : okM 35 := ⟨WL_of (q := 2) (j := 218) rfl rfl, WL_of (q := 1) (j := 2) rfl rfl, Or.inr (Or.inl ⟨rfl, WL_of (q := 2) (j := 217) rfl rfl, WL_of (q := 0) (j := 11) rfl rfl⟩), by decide +kernel, rfl, ⟨by decide +kernel, by decide +kernel, by decide +kernel⟩, by decide⟩
theorem okM_36 : okM 36 := ⟨WL_of (q := 2) (j := 222) rfl rfl, WL_of (q := 1) (j := 3) rfl rfl, Or.inr (Or.inl ⟨rfl, WL_of (q := 2) (j := 220) rfl rfl, WL_of (q := 2) (j := 221) rfl rfl⟩), by decide +kernel, rfl, ⟨by decide +kernel, by decide +kernel, by decide +kernel⟩, by decide⟩
theorem okM_37 : okM 37 := ⟨WL_of (q := 2) (j := 226) rfl rfl, WL_of (q := 1) (j := 3) rfl rfl, Or.inr (Or.inl ⟨rfl, WL_of (q := 2) (j := 224) rfl rfl, WL_of (q := 2) (j := 225) rfl rfl⟩), by decide +kernel, rfl, ⟨by decide +kernel, by decide +kernel, by decide +kernel⟩, by decide⟩
theorem okM_38 : okM 38 := ⟨WL_of (q := 2) (j := 231) rfl rfl, WL_of (q := 1) (j := 3) rfl rfl, Or.inr (Or.inl ⟨rfl, WL_of (q := 2) (j := 229) rfl rfl, WL_of (q := 2) (j := 230) rfl rfl⟩), by decide +kernel, rfl, ⟨by decide +kernel, by decide +kernel, by decide +kernel⟩, by decide⟩
theorem okM_39 : okM 39 := ⟨WL_of (q := 2) (j := 235) rfl rfl, WL_of (q := 1) (j := 2) rfl rfl, Or.inr (Or.inl ⟨rfl, WL_of (q := 2) (j := 234) rfl rfl, WL_of (q := 0) (j := 12) rfl rfl⟩), by decide +kernel, rfl, ⟨by decide +kernel, by decide +kernel, by decide +kernel⟩, by decide⟩
theorem okM_40 : okM 40 := ⟨WL_of (q := 2) (j := 239) rfl rfl, WL_of (q := 1) (j := 2) rfl rfl, Or.inr (Or.inl ⟨rfl, WL_of (q := 2) (j := 238) rfl rfl, WL_of (q := 0) (j := 13) rfl rfl⟩), by decide +kernel, rfl, ⟨by decide +kernel, by decide +kernel, by decide +kernel⟩, by decide⟩
theorem okM_41 : okM 41 := ⟨WL_of (q := 3) (j := 3) rfl rfl, WL_of (q := 1) (j := 2) rfl rfl, Or.inr (Or.inl ⟨rfl, WL_of (q := 3) (j := 2) rfl rfl, WL_of (q := 0) (j := 14) rfl rfl⟩), by decide +kernel, rfl, ⟨by decide +kernel, by decide +kernel, by decide +kernel⟩, by decide⟩
theorem okM_42 : okM 42 := ⟨WL_of (q := 3) (j := 7) rfl rfl, WL_of (q := 1) (j := 1) rfl rfl, Or.inr (Or.inl ⟨rfl, WL_of (q := 3) (j := 5) rfl rfl, WL_of (q := 3) (j := 6) rfl rfl⟩), by decide +kernel, rfl, ⟨by decide +kernel, by decide +kernel, by decide +kernel⟩, by decide⟩
theorem okM_43 : okM 43 := ⟨WL_of (q := 3) (j := 11) rfl rfl, WL_of (q := 1) (j := 3) rfl rfl, Or.inr (Or.inl ⟨rfl, WL_of (q := 3) (j := 9) rfl rfl, WL_of (q := 3) (j := 10) rfl rfl⟩), by decide +kernel, rfl, ⟨by decide +kernel, by decide +kernel, by decide +kernel⟩, by decide⟩
theorem okM_44 : okM 44 := ⟨WL_of (q := 3) (j := 16) rfl rfl, WL_of (q := 1) (j := 4) rfl rfl, Or.inr (Or.inl ⟨rfl, WL_of (q := 3) (j := 14) rfl rfl, WL_of (q := 3) (j := 15) rfl rfl⟩), by decide +kernel, rfl, ⟨by decide +kernel, by decide +kernel, by decide +kernel⟩, by decide⟩
theorem okM_45 : okM 45 := ⟨WL_of (q := 3) (j := 20) rfl rfl, WL_of (q := 1) (j := 5) rfl rfl, Or.inr (Or.inl ⟨rfl, WL_of (q := 3) (j := 18) rfl rfl, WL_of (q := 3) (j := 19) rfl rfl⟩), by decide +kernel, rfl, ⟨by decide +kernel, by decide +kernel, by decide +kernel⟩, by decide⟩
theorem okM_46 : okM 46 := ⟨WL_of (q := 3) (j := 24) rfl rfl, WL_of (q := 1) (j := 5) rfl rfl, Or.inl ⟨rfl, WL_of (q := 3) (j := 23) rfl rfl⟩, by decide +kernel, rfl, ⟨by decide +kernel, by decide +kernel, by decide +kernel⟩, by decide⟩
theorem okM_47 : okM 47 := ⟨WL_of (q := 3) (j := 33) rfl rfl, WL_of (q := 1) (j := 3) rfl rfl, Or.inr (Or.inl ⟨rfl, WL_of (q := 3) (j := 31) rfl rfl, WL_of (q := 3) (j := 32) rfl rfl⟩), by decide +kernel, rfl, ⟨by decide +kernel, by decide +kernel, by decide +kernel⟩, by decide⟩
theorem okM_48 : okM 48 := ⟨WL_of (q := 3) (j := 37) rfl rfl, WL_of (q := 1) (j := 3) rfl rfl, Or.inr (Or.inl ⟨rfl, WL_of (q := 3) (j := 35) rfl rfl, WL_of (q := 3) (j := 36) rfl rfl⟩), by decide +kernel, rfl, ⟨by decide +kernel, by decide +kernel, by decide +kernel⟩, by decide⟩
theorem okM_49 : okM 49 := ⟨WL_of (q := 3) (j := 41) rfl rfl, WL_of (q := 1) (j := 3) rfl rfl, Or.inr (Or.inl ⟨rfl, WL_of (q := 3) (j := 39) rfl rfl, WL_of (q := 3) (j := 40) rfl rfl⟩), by decide +kernel, rfl, ⟨by decide +kernel, by decide +kernel, by decide +kernel⟩, by decide⟩
theorem okM_50 : okM 50 := ⟨WL_of (q := 3) (j := 45) rfl rfl, WL_of (q := 1) (j := 3) rfl rfl, Or.inr (Or.inl ⟨rfl, WL_of (q := 3) (j := 43) rfl rfl, WL_of (q := 3) (j := 44) rfl rfl⟩), by decide +kernel, rfl, ⟨by decide +kernel, by decide +kernel, by decide +kernel⟩, by decide⟩
theorem okM_51 : okM 51 := ⟨WL_of (q := 3) (j := 49) rfl rfl, WL_of (q := 1) (j := 9) rfl rfl, Or.inr (Or.inl ⟨rfl, WL_of (q := 3) (j := 47) rfl rfl, WL_of (q := 3) (j := 48) rfl rfl⟩), by decide +kernel, rfl, ⟨by decide +kernel, by decide +kernel, by decide +kernel⟩, by decide⟩
theorem okM_52 : okM 52 := ⟨WL_of (q := 3) (j := 53) rfl rfl, WL_of (q := 1) (j := 1) rfl rfl, Or.inr (Or.inl ⟨rfl, WL_of (q := 3) (j := 51) rfl rfl, WL_of (q := 3) (j := 52) rfl rfl⟩), by decide +kernel, rfl, ⟨by decide +kernel, by decide +kernel, by decide +kernel⟩, by decide⟩
theorem okM_53 : okM 53 := ⟨WL_of (q := 3) (j := 57) rfl rfl, WL_of (q := 1) (j := 3) rfl rfl, Or.inr (Or.inl ⟨rfl, WL_of (q := 3) (j := 55) rfl rfl, WL_of (q := 3) (j := 56) rfl rfl⟩), by decide +kernel, rfl, ⟨by decide +kernel, by decide +kernel, by decide +kernel⟩, by decide⟩
theorem okM_54 : okM 54 := ⟨WL_of (q := 3) (j := 60) rfl rfl, WL_of (q := 1) (j := 18) rfl rfl, Or.inl ⟨rfl, WL_of (q := 3) (j := 59) rfl rfl⟩, by decide +kernel, rfl, ⟨by decide +kernel, by decide +kernel, by decide +kernel⟩, by decide⟩
theorem okM_55 : okM 55 := ⟨WL_of (q := 3) (j := 63) rfl rfl, WL_of (q := 1) (j := 18) rfl rfl, Or.inl ⟨rfl, WL_of (q := 3) (j := 62) rfl rfl⟩, by decide +kernel, rfl, ⟨by decide +kernel, by decide +kernel, by decide +kernel⟩, by decide⟩
theorem okM_56 : okM 56 := ⟨WL_of (q := 3) (j := 67) rfl rfl, WL_of (q := 1) (j := 3) rfl rfl, Or.inr (Or.inl ⟨rfl, WL_of (q := 3) (j := 65) rfl rfl, WL_of (q := 3) (j := 66) rfl rfl⟩), by decide +kernel, rfl, ⟨by decide +kernel, by decide +kernel, by decide +kernel⟩, by decide⟩
theorem okM_57 : okM 57 := ⟨WL_of (q := 3) (j := 70) rfl rfl, WL_of (q := 1) (j := 18) rfl rfl, Or.inl ⟨rfl, WL_of (q := 3) (j := 69) rfl rfl⟩, by decide +kernel, rfl, ⟨by decide +kernel, by decide +kernel, by decide +kernel⟩, by decide⟩
theorem okM_58 : okM 58 := ⟨WL_of (q := 3) (j := 74) rfl rfl, WL_of (q := 1) (j := 3) rfl rfl, Or.inr (Or.inl ⟨rfl, WL_of (q := 3) (j := 72) rfl rfl, WL_of (q := 3) (j := 73) rfl rfl⟩), by decide +kernel, rfl, ⟨by decide +kernel, by decide +kernel, by decide +kernel⟩, by decide⟩
theorem okM_59 : okM 59 := ⟨WL_of (q := 3) (j := 78) rfl rfl, WL_of (q := 1) (j := 1) rfl rfl, Or.inr (Or.inl ⟨rfl, WL_of (q := 3) (j := 76) rfl rfl, WL_of (q := 3) (j := 77) rfl rfl⟩), by decide +kernel, rfl, ⟨by decide +kernel, by decide +kernel, by decide +kernel⟩, by decide⟩
theorem okM_60 : okM 60 := ⟨WL_of (q := 3) (j := 83) rfl rfl, WL_of (q := 1) (j := 3) rfl rfl, Or.inr (Or.inl ⟨rfl, WL_of (q := 3) (j := 81) rfl rfl, WL_of (q := 3) (j := 82) rfl rfl⟩), by decide +kernel, rfl, ⟨by decide +kernel, by decide +kernel, by decide +kernel⟩, by decide⟩
theorem okM_61 : okM 61 := ⟨WL_of (q := 3) (j := 88) rfl rfl, WL_of (q := 1) (j := 3) rfl rfl, Or.inr (Or.inl ⟨rfl, WL_of (q := 3) (j := 86) rfl rfl, WL_of (q := 3) (j := 87) rfl rfl⟩), by decide +kernel, rfl, ⟨by decide +kernel, by decide +kernel, by decide +kernel⟩, by decide⟩
theorem okM_62 : okM 62 := ⟨WL_of (q := 3) (j := 92) rfl rfl, WL_of (q := 1) (j := 1) rfl rfl, Or.inr (Or.inl ⟨rfl, WL_of (q := 3) (j := 90) rfl rfl, WL_of (q := 3) (j := 91) rfl rfl⟩), by decide +kernel, rfl, ⟨by decide +kernel, by decide +kernel, by decide +kernel⟩, by decide⟩
theorem okM_63 : okM 63 := ⟨WL_of (q := 3) (j := 95) rfl rfl, WL_of (q := 1) (j := 18) rfl rfl, Or.inl ⟨rfl, WL_of (q := 3) (j := 94) rfl rfl⟩, by decide +kernel, rfl, ⟨by decide +kernel, by decide +kernel, by decide +kernel⟩, by decide⟩
theorem okM_64 : okM 64 := ⟨WL_of (q := 3) (j := 99) rfl rfl, WL_of (q := 1) (j := 3) rfl rfl, Or.inr (Or.inl ⟨rfl, WL_of (q := 3) (j := 97) rfl rfl, WL_of (q := 3) (j := 98) rfl rfl⟩), by decide +kernel, rfl, ⟨by decide +kernel, by decide +kernel, by decide +kernel⟩, by decide⟩
theorem okM_65 : okM 65 := ⟨WL_of (q := 3) (j := 104) rfl rfl, WL_of (q := 1) (j := 3) rfl rfl, Or.inr (Or.inl ⟨rfl, WL_of (q := 3) (j := 102) rfl rfl, WL_of (q := 3) (j := 103) rfl rfl⟩), by decide +kernel, rfl, ⟨by decide +kernel, by decide +kernel, by decide +kernel⟩, by decide⟩
theorem okM_66 : okM 66 := ⟨WL_of (q := 3) (j := 109) rfl rfl, WL_of (q := 1) (j := 1) rfl rfl, Or.inr (Or.inl ⟨rfl, WL_of (q := 3) (j := 107) rfl rfl, WL_of (q := 3) (j := 108) rfl rfl⟩), by decide +kernel, rfl, ⟨by decide +kernel, by decide +kernel, by decide +kernel⟩, by decide⟩
theorem okM_67 : okM 67 := ⟨WL_of (q := 3) (j := 113) rfl rfl, WL_of (q := 1) (j := 3) rfl rfl, Or.inr (Or.inl ⟨rfl, WL_of (q := 3) (j := 111) rfl rfl, WL_of (q := 3) (j := 112) rfl rfl⟩), by decide +kernel, rfl, ⟨by decide +kernel, by decide +kernel, by decide +kernel⟩, by decide⟩
theorem okM_68 : okM 68 := ⟨WL_of (q := 3) (j := 116) rfl rfl, WL_of (q := 1) (j := 18) rfl rfl, Or.inl ⟨rfl, WL_of (q := 3) (j := 115) rfl rfl⟩, by decide +kernel, rfl, ⟨by decide +kernel, by decide +kernel, by decide +kernel⟩, by decide⟩
theorem okM_69 : okM 69 := ⟨WL_of (q := 3) (j := 119) rfl rfl, WL_of (q := 1) (j := 18) rfl rfl, Or.inl ⟨rfl, WL_of (q := 3) (j := 118) rfl rfl⟩, by decide +kernel, rfl, ⟨by decide +kernel, by decide +kernel, by decide +kernel⟩, by decide⟩
theorem okM_70 : okM 70 := ⟨WL_of (q := 3) (j := 125) rfl rfl, WL_of (q := 1) (j := 18) rfl rfl, Or.inl ⟨rfl, WL_of (q := 3) (j := 124) rfl rfl⟩, by decide +kernel, rfl, ⟨by decide +kernel, by decide +kernel, by decide +kernel⟩, by decide⟩
theorem okM_71 : okM 71 := ⟨WL_of (q := 3) (j := 128) rfl rfl, WL_of (q := 1) (j := 18) rfl rfl, Or.inl ⟨rfl, WL_of (q := 3) (j := 127) rfl rfl⟩, by decide +kernel, rfl, ⟨by decide +kernel, by decide +kernel, by decide +kernel⟩, by decide⟩
theorem okM_72 : okM 72 := ⟨WL_of (q := 3) (j := 132) rfl rfl, WL_of (q := 1) (j := 1) rfl rfl, Or.inr (Or.inl ⟨rfl, WL_of (q := 3) (j := 130) rfl rfl, WL_of (q := 3) (j := 131) rfl rfl⟩), by decide +kernel, rfl, ⟨by decide +kernel, by decide +kernel, by decide +kernel⟩, by decide⟩
theorem okM_73 : okM 73 := ⟨WL_of (q := 3) (j := 136) rfl rfl, WL_of (q := 1) (j := 1) rfl rfl, Or.inr (Or.inl ⟨rfl, WL_of (q := 3) (j := 135) rfl rfl, WL_of (q := 0) (j := 15) rfl rfl⟩), by decide +kernel, rfl, ⟨by decide +kernel, by decide +kernel, by decide +kernel⟩, by decide⟩
theorem okM_74 : okM 74 := ⟨WL_of (q := 3) (j := 139) rfl rfl, WL_of (q := 1) (j := 1) rfl rfl, Or.inl ⟨rfl, WL_of (q := 3) (j := 138) rfl rfl⟩, by decide +kernel, rfl, ⟨by decide +kernel, by decide +kernel, by decide +kernel⟩, by decide⟩
theorem okM_75 : okM 75 := ⟨WL_of (q := 3) (j := 143) rfl rfl, WL_of (q := 1) (j := 1) rfl rfl, Or.inr (Or.inl ⟨rfl, WL_of (q := 3) (j := 142) rfl rfl, WL_of (q := 0) (j := 16) rfl rfl⟩), by decide +kernel, rfl, ⟨by decide +kernel, by decide +kernel, by decide +kernel⟩, by decide⟩
theorem okM_76 : okM 76 := ⟨WL_of (q := 3) (j := 148) rfl rfl, WL_of (q := 1) (j := 4) rfl rfl, Or.inr (Or.inl ⟨rfl, WL_of (q := 3) (j := 146) rfl rfl, WL_of (q := 3) (j := 147) rfl rfl⟩), by decide +kernel, rfl, ⟨by decide +kernel, by decide +kernel, by decide +kernel⟩, by decide⟩
theorem okM_77 : okM 77 := ⟨WL_of (q := 3) (j := 152) rfl rfl, WL_of (q := 1) (j := 5) rfl rfl, Or.inr (Or.inl ⟨rfl, WL_of (q := 3) (j := 150) rfl rfl, WL_of (q := 3) (j := 151) rfl rfl⟩), by decide +kernel, rfl, ⟨by decide +kernel, by decide +kernel, by decide +kernel⟩, by decide⟩
theorem okM_78 : okM 78 := ⟨WL_of (q := 3) (j := 157) rfl rfl, WL_of (q := 1) (j := 9) rfl rfl, Or.inr (Or.inl ⟨rfl, WL_of (q := 3) (j := 155) rfl rfl, WL_of (q := 3) (j := 156) rfl rfl⟩), by decide +kernel, rfl, ⟨by decide +kernel, by decide +kernel, by decide +kernel⟩, by decide⟩
theorem okM_79 : okM 79 := ⟨WL_of (q := 3) (j := 163) rfl rfl, WL_of (q := 1) (j := 6) rfl rfl, Or.inl ⟨rfl, WL_of (q := 3) (j := 162) rfl rfl⟩, by decide +kernel, rfl, ⟨by decide +kernel, by decide +kernel, by decide +kernel⟩, by decide⟩
theorem okM_80 : okM 80 := ⟨WL_of (q := 3) (j := 167) rfl rfl, WL_of (q := 1) (j := 8) rfl rfl, Or.inr (Or.inl ⟨rfl, WL_of (q := 3) (j := 165) rfl rfl, WL_of (q := 3) (j := 166) rfl rfl⟩), by decide +kernel, rfl, ⟨by decide +kernel, by decide +kernel, by decide +kernel⟩, by decide⟩
theorem okM_81 : okM 81 := ⟨WL_of (q := 3) (j := 171) rfl rfl, WL_of (q := 1) (j := 5) rfl rfl, Or.inr (Or.inl ⟨rfl, WL_of (q := 3) (j := 169) rfl rfl, WL_of (q := 3) (j := 170) rfl rfl⟩), by decide +kernel, rfl, ⟨by decide +kernel, by decide +kernel, by decide +kernel⟩, by decide⟩
theorem okM_82 : okM 82 := ⟨WL_of (q := 3) (j := 175) rfl rfl, WL_of (q := 1) (j := 5) rfl rfl, Or.inr (Or.inl ⟨rfl, WL_of (q := 3) (j := 174) rfl rfl, WL_of (q := 0) (j := 17) rfl rfl⟩), by decide +kernel, rfl, ⟨by decide +kernel, by decide +kernel, by decide +kernel⟩, by decide⟩
theorem okM_83 : okM 83 := ⟨WL_of (q := 3) (j := 179) rfl rfl, WL_of (q := 1) (j := 5) rfl rfl, Or.inr (Or.inl ⟨rfl, WL_of (q := 3) (j := 177) rfl rfl, WL_of (q := 3) (j := 178) rfl rfl⟩), by decide +kernel, rfl, ⟨by decide +kernel, by decide +kernel, by decide +kernel⟩, by decide⟩
theorem okM_84 : okM 84 := ⟨WL_of (q := 3) (j := 184) rfl rfl, WL_of (q := 1) (j := 9) rfl rfl, Or.inr (Or.inl ⟨rfl, WL_of (q := 3) (j := 182) rfl rfl, WL_of (q := 3) (j := 183) rfl rfl⟩), by decide +kernel, rfl, ⟨by decide +kernel, by decide +kernel, by decide +kernel⟩, by decide⟩
theorem okM_85 : okM 85 := ⟨WL_of (q := 3) (j := 189) rfl rfl, WL_of (q := 1) (j := 8) rfl rfl, Or.inr (Or.inl ⟨rfl, WL_of (q := 3) (j := 188) rfl rfl, WL_of (q := 0) (j := 18) rfl rfl⟩), by decide +kernel, rfl, ⟨by decide +kernel, by decide +kernel, by decide +kernel⟩, by decide⟩
theorem okM_86 : okM 86 := ⟨WL_of (q := 3) (j := 192) rfl rfl, WL_of (q := 1) (j := 18) rfl rfl, Or.inl ⟨rfl, WL_of (q := 3) (j := 191) rfl rfl⟩, by decide +kernel, rfl, ⟨by decide +kernel, by decide +kernel, by decide +kernel⟩, by decide⟩
theorem okM_87 : okM 87 := ⟨WL_of (q := 3) (j := 196) rfl rfl, WL_of (q := 1) (j := 8) rfl rfl, Or.inr (Or.inl ⟨rfl, WL_of (q := 3) (j := 195) rfl rfl, WL_of (q := 0) (j := 19) rfl rfl⟩), by decide +kernel, rfl, ⟨by decide +kernel, by decide +kernel, by decide +kernel⟩, by decide⟩
theorem okM_88 : okM 88 := ⟨WL_of (q := 3) (j := 207) rfl rfl, WL_of (q := 1) (j := 8) rfl rfl, Or.inr (Or.inl ⟨rfl, WL_of (q := 3) (j := 206) rfl rfl, WL_of (q := 0) (j := 20) rfl rfl⟩), by decide +kernel, rfl, ⟨by decide +kernel, by decide +kernel, by decide +kernel⟩, by decide⟩
theorem okM_89 : okM 89 := ⟨WL_of (q := 3) (j := 212) rfl rfl, WL_of (q := 1) (j := 8) rfl rfl, Or.inr (Or.inl ⟨rfl, WL_of (q := 3) (j := 211) rfl rfl, WL_of (q := 0) (j := 21) rfl rfl⟩), by decide +kernel, rfl, ⟨by decide +kernel, by decide +kernel, by decide +kernel⟩, by decide⟩
theorem okM_90 : okM 90 := ⟨WL_of (q := 3) (j := 215) rfl rfl, WL_of (q := 1) (j := 19) rfl rfl, Or.inl ⟨rfl, WL_of (q := 3) (j := 214) rfl rfl⟩, by decide +kernel, rfl, ⟨by decide +kernel, by decide +kernel, by decide +kernel⟩, by decide⟩
theorem okM_91 : okM 91 := ⟨WL_of (q := 3) (j := 219) rfl rfl, WL_of (q := 1) (j := 20) rfl rfl, Or.inl ⟨rfl, WL_of (q := 3) (j := 218) rfl rfl⟩, by decide +kernel, rfl, ⟨by decide +kernel, by decide +kernel, by decide +kernel⟩, by decide⟩
theorem okM_92 : okM 92 := ⟨WL_of (q := 3) (j := 228) rfl rfl, WL_of (q := 1) (j := 19) rfl rfl, Or.inl ⟨rfl, WL_of (q := 3) (j := 227) rfl rfl⟩, by decide +kernel, rfl, ⟨by decide +kernel, by decide +kernel, by decide +kernel⟩, by decide⟩
theorem okM_93 : okM 93 := ⟨WL_of (q := 3) (j := 231) rfl rfl, WL_of (q := 1) (j := 19) rfl rfl, Or.inl ⟨rfl, WL_of (q := 3) (j := 230) rfl rfl⟩, by decide +kernel, rfl, ⟨by decide +kernel, by decide +kernel, by decide +kernel⟩, by decide⟩
theorem okM_94 : okM 94 := ⟨WL_of (q := 3) (j := 238) rfl rfl, WL_of (q := 1) (j := 19) rfl rfl, Or.inl ⟨rfl, WL_of (q := 3) (j := 237) rfl rfl⟩, by decide +kernel, rfl, ⟨by decide +kernel, by decide +kernel, by decide +kernel⟩, by decide⟩
theorem okM_95 : okM 95 := ⟨WL_of (q := 4) (j := 2) rfl rfl, WL_of (q := 1) (j := 9) rfl rfl, Or.inr (Or.inl ⟨rfl, WL_of (q := 4) (j := 0) rfl rfl, WL_of (q := 4) (j := 1) rfl rfl⟩), by decide +kernel, rfl, ⟨by decide +kernel, by decide +kernel, by decide +kernel⟩, by decide⟩
theorem okM_96 : okM 96 := ⟨WL_of (q := 4) (j := 6) rfl rfl, WL_of (q := 1) (j := 1) rfl rfl, Or.inr (Or.inl ⟨rfl, WL_of (q := 4) (j := 4) rfl rfl, WL_of (q := 4) (j := 5) rfl rfl⟩), by decide +kernel, rfl, ⟨by decide +kernel, by decide +kernel, by decide +kernel⟩, by decide⟩
theorem okM_97 : okM 97 := ⟨WL_of (q := 4) (j := 10) rfl rfl, WL_of (q := 1) (j := 1) rfl rfl, Or.inr (Or.inl ⟨rfl, WL_of (q := 4) (j := 9) rfl rfl, WL_of (q := 0) (j := 22) rfl rfl⟩), by decide +kernel, rfl, ⟨by decide +kernel, by decide +kernel, by decide +kernel⟩, by decide⟩
theorem okM_98 : okM 98 := ⟨WL_of (q := 4) (j := 14) rfl rfl, WL_of (q := 1) (j := 4) rfl rfl, Or.inr (Or.inl ⟨rfl, WL_of (q := 4) (j := 12) rfl rfl, WL_of (q := 4) (j := 13) rfl rfl⟩), by decide +kernel, rfl, ⟨by decide +kernel, by decide +kernel, by decide +kernel⟩, by decide⟩
theorem okM_99 : okM 99 := ⟨WL_of (q := 4) (j := 18) rfl rfl, WL_of (q := 1) (j := 5) rfl rfl, Or.inr (Or.inl ⟨rfl, WL_of (q := 4) (j := 16) rfl rfl, WL_of (q := 4) (j := 17) rfl rfl⟩), by decide +kernel, rfl, ⟨by decide +kernel, by decide +kernel, by decide +kernel⟩, by decide⟩
theorem okM_100 : okM 100 := ⟨WL_of (q := 4) (j := 24) rfl rfl, WL_of (q := 1) (j := 10) rfl rfl, Or.inr (Or.inl ⟨rfl, WL_of (q := 4) (j := 22) rfl rfl, WL_of (q := 4) (j := 23) rfl rfl⟩), by decide +kernel, rfl, ⟨by decide +kernel, by decide +kernel, by decide +kernel⟩, by decide⟩
theorem okM_101 : okM 101 := ⟨WL_of (q := 4) (j := 28) rfl rfl, WL_of (q := 1) (j := 10) rfl rfl, Or.inr (Or.inl ⟨rfl, WL_of (q := 4) (j := 26) rfl rfl, WL_of (q := 4) (j := 27) rfl rfl⟩), by decide +kernel, rfl, ⟨by decide +kernel, by decide +kernel, by decide +kernel⟩, by decide⟩
theorem okM_102 : okM 102 := ⟨WL_of (q := 4) (j := 34) rfl rfl, WL_of (q := 1) (j := 5) rfl rfl, Or.inr (Or.inl ⟨rfl, WL_of (q := 4) (j := 32) rfl rfl, WL_of (q := 4) (j := 33) rfl rfl⟩), by decide +kernel, rfl, ⟨by decide +kernel, by decide +kernel, by decide +kernel⟩, by decide⟩
theorem okM_103 : okM 103 := ⟨WL_of (q := 4) (j := 41) rfl rfl, WL_of (q := 1) (j := 10) rfl rfl, Or.inr (Or.inl ⟨rfl, WL_of (q := 4) (j := 40) rfl rfl, WL_of (q := 0) (j := 23) rfl rfl⟩), by decide +kernel, rfl, ⟨by decide +kernel, by decide +kernel, by decide +kernel⟩, by decide⟩
theorem okM_104 : okM 104 := ⟨WL_of (q := 4) (j := 47) rfl rfl, WL_of (q := 1) (j := 10) rfl rfl, Or.inr (Or.inl ⟨rfl, WL_of (q := 4) (j := 46) rfl rfl, WL_of (q := 0) (j := 24) rfl rfl⟩), by decide +kernel, rfl, ⟨by decide +kernel, by decide +kernel, by decide +kernel⟩, by decide⟩
theorem okM_105 : okM 105 := ⟨WL_of (q := 4) (j := 54) rfl rfl, WL_of (q := 1) (j := 10) rfl rfl, Or.inr (Or.inl ⟨rfl, WL_of (q := 4) (j := 52) rfl rfl, WL_of (q := 4) (j := 53) rfl rfl⟩), by decide +kernel, rfl, ⟨by decide +kernel, by decide +kernel, by decide +kernel⟩, by decide⟩
theorem okM_106 : okM 106 := ⟨WL_of (q := 4) (j := 58) rfl rfl, WL_of (q := 1) (j := 10) rfl rfl, Or.inr (Or.inl ⟨rfl, WL_of (q := 4) (j := 57) rfl rfl, WL_of (q := 0) (j := 25) rfl rfl⟩), by decide +kernel, rfl, ⟨by decide +kernel, by decide +kernel, by decide +kernel⟩, by decide⟩
theorem okM_107 : okM 107 := ⟨WL_of (q := 4) (j := 65) rfl rfl, WL_of (q := 1) (j := 10) rfl rfl, Or.inr (Or.inl ⟨rfl, WL_of (q := 4) (j := 64) rfl rfl, WL_of (q := 0) (j := 26) rfl rfl⟩), by decide +kernel, rfl, ⟨by decide +kernel, by decide +kernel, by decide +kernel⟩, by decide⟩
theorem okM_108 : okM 108 := ⟨WL_of (q := 4) (j := 75) rfl rfl, WL_of (q := 1) (j := 1) rfl rfl, Or.inr (Or.inl ⟨rfl, WL_of (q := 4) (j := 74) rfl rfl, WL_of (q := 0) (j := 27) rfl rfl⟩), by decide +kernel, rfl, ⟨by decide +kernel, by decide +kernel, by decide +kernel⟩, by decide⟩
theorem okM_109 : okM 109 := ⟨WL_of (q := 4) (j := 81) rfl rfl, WL_of (q := 1) (j := 1) rfl rfl, Or.inr (Or.inl ⟨rfl, WL_of (q := 4) (j := 79) rfl rfl, WL_of (q := 4) (j := 80) rfl rfl⟩), by decide +kernel, rfl, ⟨by decide +kernel, by decide +kernel, by decide +kernel⟩, by decide⟩
theorem okM_110 : okM 110 := ⟨WL_of (q := 4) (j := 85) rfl rfl, WL_of (q := 1) (j := 10) rfl rfl, Or.inr (Or.inl ⟨rfl, WL_of (q := 4) (j := 83) rfl rfl, WL_of (q := 4) (j := 84) rfl rfl⟩), by decide +kernel, rfl, ⟨by decide +kernel, by decide +kernel, by decide +kernel⟩, by decide⟩
theorem okM_111 : okM 111 := ⟨WL_of (q := 4) (j := 89) rfl rfl, WL_of (q := 1) (j := 1) rfl rfl, Or.inr (Or.inl ⟨rfl, WL_of (q := 4) (j := 87) rfl rfl, WL_of (q := 4) (j := 88) rfl rfl⟩), by decide +kernel, rfl, ⟨by decide +kernel, by decide +kernel, by decide +kernel⟩, by decide⟩
theorem okM_112 : okM 112 := ⟨WL_of (q := 4) (j := 93) rfl rfl, WL_of (q := 1) (j := 10) rfl rfl, Or.inr (Or.inl ⟨rfl, WL_of (q := 4) (j := 91) rfl rfl, WL_of (q := 4) (j := 92) rfl rfl⟩), by decide +kernel, rfl, ⟨by decide +kernel, by decide +kernel, by decide +kernel⟩, by decide⟩
theorem okM_113 : okM 113 := ⟨WL_of (q := 4) (j := 97) rfl rfl, WL_of (q := 1) (j := 1) rfl rfl, Or.inr (Or.inl ⟨rfl, WL_of (q := 4) (j := 95) rfl rfl, WL_of (q := 4) (j := 96) rfl rfl⟩), by decide +kernel, rfl, ⟨by decide +kernel, by decide +kernel, by decide +kernel⟩, by decide⟩
theorem okM_114 : okM 114 := ⟨WL_of (q := 4) (j := 101) rfl rfl, WL_of (q := 1) (j := 7) rfl rfl, Or.inr (Or.inl ⟨rfl, WL_of (q := 4) (j := 99) rfl rfl, WL_of (q := 4) (j := 100) rfl rfl⟩), by decide +kernel, rfl, ⟨by decide +kernel, by decide +kernel, by decide +kernel⟩, by decide⟩
theorem okM_115 : okM 115 := ⟨WL_of (q := 4) (j := 105) rfl rfl, WL_of (q := 1) (j := 7) rfl rfl, Or.inl ⟨rfl, WL_of (q := 4) (j := 104) rfl rfl⟩, by decide +kernel, rfl, ⟨by decide +kernel, by decide +kernel, by decide +kernel⟩, by decide⟩
theorem okM_116 : okM 116 := ⟨WL_of (q := 4) (j := 110) rfl rfl, WL_of (q := 1) (j := 7) rfl rfl, Or.inr (Or.inl ⟨rfl, WL_of (q := 4) (j := 108) rfl rfl, WL_of (q := 4) (j := 109) rfl rfl⟩), by decide +kernel, rfl, ⟨by decide +kernel, by decide +kernel, by decide +kernel⟩, by decide⟩
theorem okM_117 : okM 117 := ⟨WL_of (q := 4) (j := 114) rfl rfl, WL_of (q := 1) (j := 7) rfl rfl, Or.inr (Or.inl ⟨rfl, WL_of (q := 4) (j := 112) rfl rfl, WL_of (q := 4) (j := 113) rfl rfl⟩), by decide +kernel, rfl, ⟨by decide +kernel, by decide +kernel, by decide +kernel⟩, by decide⟩
theorem okM_118 : okM 118 := ⟨WL_of (q := 4) (j := 119) rfl rfl, WL_of (q := 1) (j := 7) rfl rfl, Or.inr (Or.inl ⟨rfl, WL_of (q := 4) (j := 118) rfl rfl, WL_of (q := 0) (j := 28) rfl rfl⟩), by decide +kernel, rfl, ⟨by decide +kernel, by decide +kernel, by decide +kernel⟩, by decide⟩
theorem okM_119 : okM 119 := ⟨WL_of (q := 4) (j := 126) rfl rfl, WL_of (q := 1) (j := 7) rfl rfl, Or.inl ⟨rfl, WL_of (q := 4) (j := 125) rfl rfl⟩, by decide +kernel, rfl, ⟨by decide +kernel, by decide +kernel, by decide +kernel⟩, by decide⟩
theorem okM_120 : okM 120 := ⟨WL_of (q := 4) (j := 131) rfl rfl, WL_of (q := 1) (j := 7) rfl rfl, Or.inr (Or.inl ⟨rfl, WL_of (q := 4) (j := 130) rfl rfl, WL_of (q := 0) (j := 29) rfl rfl⟩), by decide +kernel, rfl, ⟨by decide +kernel, by decide +kernel, by decide +kernel⟩, by decide⟩
theorem okM_121 : okM 121 := ⟨WL_of (q := 4) (j := 137) rfl rfl, WL_of (q := 1) (j := 5) rfl rfl, Or.inr (Or.inl ⟨rfl, WL_of (q := 4) (j := 135) rfl rfl, WL_of (q := 4) (j := 136) rfl rfl⟩), by decide +kernel, rfl, ⟨by decide +kernel, by decide +kernel, by decide +kernel⟩, by decide⟩
theorem okM_122 : okM 122 := ⟨WL_of (q := 4) (j := 144) rfl rfl, WL_of (q := 1) (j := 1) rfl rfl, Or.inr (Or.inl ⟨rfl, WL_of (q := 4) (j := 142) rfl rfl, WL_of (q := 4) (j := 143) rfl rfl⟩), by decide +kernel, rfl, ⟨by decide +kernel, by decide +kernel, by decide +kernel⟩, by decide⟩
theorem okM_123 : okM 123 := ⟨WL_of (q := 4) (j := 148) rfl rfl, WL_of (q := 1) (j := 7) rfl rfl, Or.inr (Or.inl ⟨rfl, WL_of (q := 4) (j := 146) rfl rfl, WL_of (q := 4) (j := 147) rfl rfl⟩), by decide +kernel, rfl, ⟨by decide +kernel, by decide +kernel, by decide +kernel⟩, by decide⟩
theorem okM_124 : okM 124 := ⟨WL_of (q := 4) (j := 152) rfl rfl, WL_of (q := 1) (j := 5) rfl rfl, Or.inr (Or.inl ⟨rfl, WL_of (q := 4) (j := 150) rfl rfl, WL_of (q := 4) (j := 151) rfl rfl⟩), by decide +kernel, rfl, ⟨by decide +kernel, by decide +kernel, by decide +kernel⟩, by decide⟩
theorem okM_125 : okM 125 := ⟨WL_of (q := 4) (j := 160) rfl rfl, WL_of (q := 1) (j := 7) rfl rfl, Or.inr (Or.inl ⟨rfl, WL_of (q := 4) (j := 159) rfl rfl, WL_of (q := 0) (j := 30) rfl rfl⟩), by decide +kernel, rfl, ⟨by decide +kernel, by decide +kernel, by decide +kernel⟩, by decide⟩
theorem okM_126 : okM 126 := ⟨WL_of (q := 4) (j := 165) rfl rfl, WL_of (q := 1) (j := 7) rfl rfl, Or.inr (Or.inl ⟨rfl, WL_of (q := 4) (j := 164) rfl rfl, WL_of (q := 0) (j := 31) rfl rfl⟩), by decide +kernel, rfl, ⟨by decide +kernel, by decide +kernel, by decide +kernel⟩, by decide⟩
theorem okM_127 : okM 127 := ⟨WL_of (q := 4) (j := 171) rfl rfl, WL_of (q := 1) (j := 1) rfl rfl, Or.inr (Or.inl ⟨rfl, WL_of (q := 4) (j := 169) rfl rfl, WL_of (q := 4) (j := 170) rfl rfl⟩), by decide +kernel, rfl, ⟨by decide +kernel, by decide +kernel, by decide +kernel⟩, by decide⟩
theorem okM_128 : okM 128 := ⟨WL_of (q := 4) (j := 175) rfl rfl, WL_of (q := 1) (j := 4) rfl rfl, Or.inr (Or.inl ⟨rfl, WL_of (q := 4) (j := 173) rfl rfl, WL_of (q := 4) (j := 174) rfl rfl⟩), by decide +kernel, rfl, ⟨by decide +kernel, by decide +kernel, by decide +kernel⟩, by decide⟩
theorem okM_129 : okM 129 := ⟨WL_of (q := 4) (j := 180) rfl rfl, WL_of (q := 1) (j := 11) rfl rfl, Or.inr (Or.inl ⟨rfl, WL_of (q := 4) (j := 178) rfl rfl, WL_of (q := 4) (j := 179) rfl rfl⟩), by decide +kernel, rfl, ⟨by decide +kernel, by decide +kernel, by decide +kernel⟩, by decide⟩
theorem okM_130 : okM 130 := ⟨WL_of (q := 4) (j := 184) rfl rfl, WL_of (q := 1) (j := 11) rfl rfl, Or.inr (Or.inl ⟨rfl, WL_of (q := 4) (j := 182) rfl rfl, WL_of (q := 4) (j := 183) rfl rfl⟩), by decide +kernel, rfl, ⟨by decide +kernel, by decide +kernel, by decide +kernel⟩, by decide⟩
theorem okM_131 : okM 131 := ⟨WL_of (q := 4) (j := 195) rfl rfl, WL_of (q := 1) (j := 11) rfl rfl, Or.inr (Or.inl ⟨rfl, WL_of (q := 4) (j := 194) rfl rfl, WL_of (q := 0) (j := 32) rfl rfl⟩), by decide +kernel, rfl, ⟨by decide +kernel, by decide +kernel, by decide +kernel⟩, by decide⟩
theorem okM_132 : okM 132 := ⟨WL_of (q := 4) (j := 201) rfl rfl, WL_of (q := 1) (j := 11) rfl rfl, Or.inr (Or.inl ⟨rfl, WL_of (q := 4) (j := 200) rfl rfl, WL_of (q := 0) (j := 33) rfl rfl⟩), by decide +kernel, rfl, ⟨by decide +kernel, by decide +kernel, by decide +kernel⟩, by decide⟩
theorem okM_133 : okM 133 := ⟨WL_of (q := 4) (j := 212) rfl rfl, WL_of (q := 1) (j := 1) rfl rfl, Or.inr (Or.inl ⟨rfl, WL_of (q := 4) (j := 210) rfl rfl, WL_of (q := 4) (j := 211) rfl rfl⟩), by decide +kernel, rfl, ⟨by decide +kernel, by decide +kernel, by decide +kernel⟩, by decide⟩
theorem okM_134 : okM 134 := ⟨WL_of (q := 4) (j := 216) rfl rfl, WL_of (q := 1) (j := 1) rfl rfl, Or.inr (Or.inl ⟨rfl, WL_of (q := 4) (j := 214) rfl rfl, WL_of (q := 4) (j := 215) rfl rfl⟩), by decide +kernel, rfl, ⟨by decide +kernel, by decide +kernel, by decide +kernel⟩, by decide⟩
theorem okM_135 : okM 135 := ⟨WL_of (q := 4) (j := 220) rfl rfl, WL_of (q := 1) (j := 3) rfl rfl, Or.inr (Or.inl ⟨rfl, WL_of (q := 4) (j := 218) rfl rfl, WL_of (q := 4) (j := 219) rfl rfl⟩), by decide +kernel, rfl, ⟨by decide +kernel, by decide +kernel, by decide +kernel⟩, by decide⟩
theorem okM_136 : okM 136 := ⟨WL_of (q := 4) (j := 226) rfl rfl, WL_of (q := 1) (j := 1) rfl rfl, Or.inr (Or.inl ⟨rfl, WL_of (q := 4) (j := 224) rfl rfl, WL_of (q := 4) (j := 225) rfl rfl⟩), by decide +kernel, rfl, ⟨by decide +kernel, by decide +kernel, by decide +kernel⟩, by decide⟩
theorem okM_137 : okM 137 := ⟨WL_of (q := 4) (j := 231) rfl rfl, WL_of (q := 1) (j := 7) rfl rfl, Or.inr (Or.inl ⟨rfl, WL_of (q := 4) (j := 229) rfl rfl, WL_of (q := 4) (j := 230) rfl rfl⟩), by decide +kernel, rfl, ⟨by decide +kernel, by decide +kernel, by decide +kernel⟩, by decide⟩
theorem okM_138 : okM 138 := ⟨WL_of (q := 4) (j := 236) rfl rfl, WL_of (q := 1) (j := 1) rfl rfl, Or.inr (Or.inl ⟨rfl, WL_of (q := 4) (j := 234) rfl rfl, WL_of (q := 4) (j := 235) rfl rfl⟩), by decide +kernel, rfl, ⟨by decide +kernel, by decide +kernel, by decide +kernel⟩, by decide⟩
theorem okM_139 : okM 139 := ⟨WL_of (q := 5) (j := 1) rfl rfl, WL_of (q := 1) (j := 7) rfl rfl, Or.inr (Or.inl ⟨rfl, WL_of (q := 4) (j := 239) rfl rfl, WL_of (q := 5) (j := 0) rfl rfl⟩), by decide +kernel, rfl, ⟨by decide +kernel, by decide +kernel, by decide +kernel⟩, by decide⟩
theorem okM_140 : okM 140 := ⟨WL_of (q := 5) (j := 5) rfl rfl, WL_of (q := 1) (j := 1) rfl rfl, Or.inr (Or.inl ⟨rfl, WL_of (q := 5) (j := 3) rfl rfl, WL_of (q := 5) (j := 4) rfl rfl⟩), by decide +kernel, rfl, ⟨by decide +kernel, by decide +kernel, by decide +kernel⟩, by decide⟩
theorem okM_141 : okM 141 := ⟨WL_of (q := 5) (j := 9) rfl rfl, WL_of (q := 1) (j := 1) rfl rfl, Or.inr (Or.inl ⟨rfl, WL_of (q := 5) (j := 7) rfl rfl, WL_of (q := 5) (j := 8) rfl rfl⟩), by decide +kernel, rfl, ⟨by decide +kernel, by decide +kernel, by decide +kernel⟩, by decide⟩
theorem okM_142 : okM 142 := ⟨WL_of (q := 5) (j := 13) rfl rfl, WL_of (q := 1) (j := 1) rfl rfl, Or.inr (Or.inl ⟨rfl, WL_of (q := 5) (j := 11) rfl rfl, WL_of (q := 5) (j := 12) rfl rfl⟩), by decide +kernel, rfl, ⟨by decide +kernel, by decide +kernel, by decide +kernel⟩, by decide⟩
theorem okM_143 : okM 143 := ⟨WL_of (q := 5) (j := 20) rfl rfl, WL_of (q := 1) (j := 12) rfl rfl, Or.inr (Or.inr ⟨rfl, WL_of (q := 5) (j := 19) rfl rfl, rfl, rfl⟩), by decide +kernel, rfl, ⟨by decide +kernel, by decide +kernel, by decide +kernel⟩, by decide⟩
theorem okM_144 : okM 144 := ⟨WL_of (q := 5) (j := 170) rfl rfl, WL_of (q := 1) (j := 12) rfl rfl, Or.inr (Or.inl ⟨rfl, WL_of (q := 5) (j := 168) rfl rfl, WL_of (q := 5) (j := 169) rfl rfl⟩), by decide +kernel, rfl, ⟨by decide +kernel, by decide +kernel, by decide +kernel⟩, by decide⟩
theorem okM_145 : okM 145 := ⟨WL_of (q := 5) (j := 174) rfl rfl, WL_of (q := 1) (j := 12) rfl rfl, Or.inr (Or.inl ⟨rfl, WL_of (q := 5) (j := 172) rfl rfl, WL_of (q := 5) (j := 173) rfl rfl⟩), by decide +kernel, rfl, ⟨by decide +kernel, by decide +kernel, by decide +kernel⟩, by decide⟩
theorem okM_146 : okM 146 := ⟨WL_of (q := 5) (j := 177) rfl rfl, WL_of (q := 1) (j := 12) rfl rfl, Or.inl ⟨rfl, WL_of (q := 5) (j := 176) rfl rfl⟩, by decide +kernel, rfl, ⟨by decide +kernel, by decide +kernel, by decide +kernel⟩, by decide⟩
theorem okM_147 : okM 147 := ⟨WL_of (q := 5) (j := 181) rfl rfl, WL_of (q := 1) (j := 12) rfl rfl, Or.inr (Or.inl ⟨rfl, WL_of (q := 5) (j := 179) rfl rfl, WL_of (q := 5) (j := 180) rfl rfl⟩), by decide +kernel, rfl, ⟨by decide +kernel, by decide +kernel, by decide +kernel⟩, by decide⟩
theorem okM_148 : okM 148 := ⟨WL_of (q := 5) (j := 185) rfl rfl, WL_of (q := 1) (j := 12) rfl rfl, Or.inr (Or.inl ⟨rfl, WL_of (q := 5) (j := 184) rfl rfl, WL_of (q := 0) (j := 34) rfl rfl⟩), by decide +kernel, rfl, ⟨by decide +kernel, by decide +kernel, by decide +kernel⟩, by decide⟩
theorem okM_149 : okM 149 := ⟨WL_of (q := 5) (j := 188) rfl rfl, WL_of (q := 1) (j := 12) rfl rfl, Or.inl ⟨rfl, WL_of (q := 5) (j := 187) rfl rfl⟩, by decide +kernel, rfl, ⟨by decide +kernel, by decide +kernel, by decide +kernel⟩, by decide⟩
theorem okM_150 : okM 150 := ⟨WL_of (q := 5) (j := 191) rfl rfl, WL_of (q := 1) (j := 12) rfl rfl, Or.inl ⟨rfl, WL_of (q := 5) (j := 190) rfl rfl⟩, by decide +kernel, rfl, ⟨by decide +kernel, by decide +kernel, by decide +kernel⟩, by decide⟩
theorem okM_151 : okM 151 := ⟨WL_of (q := 5) (j := 198) rfl rfl, WL_of (q := 1) (j := 12) rfl rfl, Or.inr (Or.inl ⟨rfl, WL_of (q := 5) (j := 197) rfl rfl, WL_of (q := 0) (j := 35) rfl rfl⟩), by decide +kernel, rfl, ⟨by decide +kernel, by decide +kernel, by decide +kernel⟩, by decide⟩
theorem okM_152 : okM 152 := ⟨WL_of (q := 5) (j := 203) rfl rfl, WL_of (q := 1) (j := 12) rfl rfl, Or.inr (Or.inl ⟨rfl, WL_of (q := 5) (j := 202) rfl rfl, WL_of (q := 0) (j := 36) rfl rfl⟩), by decide +kernel, rfl, ⟨by decide +kernel, by decide +kernel, by decide +kernel⟩, by decide⟩
theorem okM_153 : okM 153 := ⟨WL_of (q := 5) (j := 206) rfl rfl, WL_of (q := 1) (j := 12) rfl rfl, Or.inl ⟨rfl, WL_of (q := 5) (j := 205) rfl rfl⟩, by decide +kernel, rfl, ⟨by decide +kernel, by decide +kernel, by decide +kernel⟩, by decide⟩
theorem okM_154 : okM 154 := ⟨WL_of (q := 5) (j := 210) rfl rfl, WL_of (q := 1) (j := 14) rfl rfl, Or.inr (Or.inl ⟨rfl, WL_of (q := 5) (j := 208) rfl rfl, WL_of (q := 5) (j := 209) rfl rfl⟩), by decide +kernel, rfl, ⟨by decide +kernel, by decide +kernel, by decide +kernel⟩, by decide⟩
theorem okM_155 : okM 155 := ⟨WL_of (q := 5) (j := 214) rfl rfl, WL_of (q := 1) (j := 14) rfl rfl, Or.inr (Or.inl ⟨rfl, WL_of (q := 5) (j := 212) rfl rfl, WL_of (q := 5) (j := 213) rfl rfl⟩), by decide +kernel, rfl, ⟨by decide +kernel, by decide +kernel, by decide +kernel⟩, by decide⟩
theorem okM_156 : okM 156 := ⟨WL_of (q := 5) (j := 220) rfl rfl, WL_of (q := 1) (j := 14) rfl rfl, Or.inr (Or.inl ⟨rfl, WL_of (q := 5) (j := 218) rfl rfl, WL_of (q := 5) (j := 219) rfl rfl⟩), by decide +kernel, rfl, ⟨by decide +kernel, by decide +kernel, by decide +kernel⟩, by decide⟩
theorem okM_157 : okM 157 := ⟨WL_of (q := 5) (j := 224) rfl rfl, WL_of (q := 1) (j := 14) rfl rfl, Or.inr (Or.inl ⟨rfl, WL_of (q := 5) (j := 222) rfl rfl, WL_of (q := 5) (j := 223) rfl rfl⟩), by decide +kernel, rfl, ⟨by decide +kernel, by decide +kernel, by decide +kernel⟩, by decide⟩
theorem okM_158 : okM 158 := ⟨WL_of (q := 5) (j := 227) rfl rfl, WL_of (q := 1) (j := 15) rfl rfl, Or.inl ⟨rfl, WL_of (q := 5) (j := 226) rfl rfl⟩, by decide +kernel, rfl, ⟨by decide +kernel, by decide +kernel, by decide +kernel⟩, by decide⟩
theorem okM_159 : okM 159 := ⟨WL_of (q := 5) (j := 230) rfl rfl, WL_of (q := 1) (j := 14) rfl rfl, Or.inl ⟨rfl, WL_of (q := 5) (j := 229) rfl rfl⟩, by decide +kernel, rfl, ⟨by decide +kernel, by decide +kernel, by decide +kernel⟩, by decide⟩
theorem okM_160 : okM 160 := ⟨WL_of (q := 5) (j := 235) rfl rfl, WL_of (q := 1) (j := 16) rfl rfl, Or.inl ⟨rfl, WL_of (q := 5) (j := 234) rfl rfl⟩, by decide +kernel, rfl, ⟨by decide +kernel, by decide +kernel, by decide +kernel⟩, by decide⟩
theorem okM_161 : okM 161 := ⟨WL_of (q := 6) (j := 19) rfl rfl, WL_of (q := 1) (j := 12) rfl rfl, Or.inr (Or.inl ⟨rfl, WL_of (q := 6) (j := 18) rfl rfl, WL_of (q := 0) (j := 37) rfl rfl⟩), by decide +kernel, rfl, ⟨by decide +kernel, by decide +kernel, by decide +kernel⟩, by decide⟩
theorem okM_162 : okM 162 := ⟨WL_of (q := 6) (j := 23) rfl rfl, WL_of (q := 1) (j := 12) rfl rfl, Or.inr (Or.inl ⟨rfl, WL_of (q := 6) (j := 22) rfl rfl, WL_of (q := 0) (j := 38) rfl rfl⟩), by decide +kernel, rfl, ⟨by decide +kernel, by decide +kernel, by decide +kernel⟩, by decide⟩
theorem okM_163 : okM 163 := ⟨WL_of (q := 6) (j := 33) rfl rfl, WL_of (q := 1) (j := 12) rfl rfl, Or.inr (Or.inl ⟨rfl, WL_of (q := 6) (j := 32) rfl rfl, WL_of (q := 0) (j := 39) rfl rfl⟩), by decide +kernel, rfl, ⟨by decide +kernel, by decide +kernel, by decide +kernel⟩, by decide⟩
theorem okM_164 : okM 164 := ⟨WL_of (q := 6) (j := 37) rfl rfl, WL_of (q := 1) (j := 12) rfl rfl, Or.inr (Or.inl ⟨rfl, WL_of (q := 6) (j := 36) rfl rfl, WL_of (q := 0) (j := 40) rfl rfl⟩), by decide +kernel, rfl, ⟨by decide +kernel, by decide +kernel, by decide +kernel⟩, by decide⟩
theorem okM_165 : okM 165 := ⟨WL_of (q := 6) (j := 41) rfl rfl, WL_of (q := 1) (j := 12) rfl rfl, Or.inr (Or.inl ⟨rfl, WL_of (q := 6) (j := 40) rfl rfl, WL_of (q := 0) (j := 41) rfl rfl⟩), by decide +kernel, rfl, ⟨by decide +kernel, by decide +kernel, by decide +kernel⟩, by decide⟩
theorem okM_166 : okM 166 := ⟨WL_of (q := 6) (j := 45) rfl rfl, WL_of (q := 1) (j := 12) rfl rfl, Or.inr (Or.inl ⟨rfl, WL_of (q := 6) (j := 44) rfl rfl, WL_of (q := 0) (j := 42) rfl rfl⟩), by decide +kernel, rfl, ⟨by decide +kernel, by decide +kernel, by decide +kernel⟩, by decide⟩
theorem okM_167 : okM 167 := ⟨WL_of (q := 6) (j := 49) rfl rfl, WL_of (q := 1) (j := 12) rfl rfl, Or.inr (Or.inl ⟨rfl, WL_of (q := 6) (j := 48) rfl rfl, WL_of (q := 0) (j := 43) rfl rfl⟩), by decide +kernel, rfl, ⟨by decide +kernel, by decide +kernel, by decide +kernel⟩, by decide⟩
theorem okM_168 : okM 168 := ⟨WL_of (q := 6) (j := 53) rfl rfl, WL_of (q := 1) (j := 12) rfl rfl, Or.inr (Or.inl ⟨rfl, WL_of (q := 6) (j := 52) rfl rfl, WL_of (q := 0) (j := 44) rfl rfl⟩), by decide +kernel, rfl, ⟨by decide +kernel, by decide +kernel, by decide +kernel⟩, by decide⟩
theorem okM_169 : okM 169 := ⟨WL_of (q := 6) (j := 57) rfl rfl, WL_of (q := 1) (j := 12) rfl rfl, Or.inr (Or.inl ⟨rfl, WL_of (q := 6) (j := 55) rfl rfl, WL_of (q := 6) (j := 56) rfl rfl⟩), by decide +kernel, rfl, ⟨by decide +kernel, by decide +kernel, by decide +kernel⟩, by decide⟩
theorem okM_170 : okM 170 := ⟨WL_of (q := 6) (j := 62) rfl rfl, WL_of (q := 1) (j := 12) rfl rfl, Or.inr (Or.inl ⟨rfl, WL_of (q := 6) (j := 61) rfl rfl, WL_of (q := 0) (j := 45) rfl rfl⟩), by decide +kernel, rfl, ⟨by decide +kernel, by decide +kernel, by decide +kernel⟩, by decide⟩
theorem okM_171 : okM 171 := ⟨WL_of (q := 6) (j := 66) rfl rfl, WL_of (q := 1) (j := 12) rfl rfl, Or.inr (Or.inl ⟨rfl, WL_of (q := 6) (j := 64) rfl rfl, WL_of (q := 6) (j := 65) rfl rfl⟩), by decide +kernel, rfl, ⟨by decide +kernel, by decide +kernel, by decide +kernel⟩, by decide⟩
theorem okM_172 : okM 172 := ⟨WL_of (q := 6) (j := 70) rfl rfl, WL_of (q := 1) (j := 12) rfl rfl, Or.inr (Or.inl ⟨rfl, WL_of (q := 6) (j := 69) rfl rfl, WL_of (q := 0) (j := 46) rfl rfl⟩), by decide +kernel, rfl, ⟨by decide +kernel, by decide +kernel, by decide +kernel⟩, by decide⟩
theorem okM_173 : okM 173 := ⟨WL_of (q := 6) (j := 73) rfl rfl, WL_of (q := 1) (j := 12) rfl rfl, Or.inl ⟨rfl, WL_of (q := 6) (j := 72) rfl rfl⟩, by decide +kernel, rfl, ⟨by decide +kernel, by decide +kernel, by decide +kernel⟩, by decide⟩
theorem okM_174 : okM 174 := ⟨WL_of (q := 6) (j := 76) rfl rfl, WL_of (q := 1) (j := 12) rfl rfl, Or.inl ⟨rfl, WL_of (q := 6) (j := 75) rfl rfl⟩, by decide +kernel, rfl, ⟨by decide +kernel, by decide +kernel, by decide +kernel⟩, by decide⟩
theorem okM_175 : okM 175 := ⟨WL_of (q := 6) (j := 80) rfl rfl, WL_of (q := 1) (j := 12) rfl rfl, Or.inr (Or.inl ⟨rfl, WL_of (q := 6) (j := 79) rfl rfl, WL_of (q := 0) (j := 47) rfl rfl⟩), by decide +kernel, rfl, ⟨by decide +kernel, by decide +kernel, by decide +kernel⟩, by decide⟩
theorem okM_176 : okM 176 := ⟨WL_of (q := 6) (j := 84) rfl rfl, WL_of (q := 1) (j := 12) rfl rfl, Or.inr (Or.inl ⟨rfl, WL_of (q := 6) (j := 82) rfl rfl, WL_of (q := 6) (j := 83) rfl rfl⟩), by decide +kernel, rfl, ⟨by decide +kernel, by decide +kernel, by decide +kernel⟩, by decide⟩
theorem okM_177 : okM 177 := ⟨WL_of (q := 6) (j := 88) rfl rfl, WL_of (q := 1) (j := 12) rfl rfl, Or.inr (Or.inl ⟨rfl, WL_of (q := 6) (j := 87) rfl rfl, WL_of (q := 0) (j := 48) rfl rfl⟩), by decide +kernel, rfl, ⟨by decide +kernel, by decide +kernel, by decide +kernel⟩, by decide⟩
theorem okM_178 : okM 178 := ⟨WL_of (q := 6) (j := 92) rfl rfl, WL_of (q := 1) (j := 12) rfl rfl, Or.inr (Or.inl ⟨rfl, WL_of (q := 6) (j := 90) rfl rfl, WL_of (q := 6) (j := 91) rfl rfl⟩), by decide +kernel, rfl, ⟨by decide +kernel, by decide +kernel, by decide +kernel⟩, by decide⟩
theorem okM_179 : okM 179 := ⟨WL_of (q := 6) (j := 96) rfl rfl, WL_of (q := 1) (j := 12) rfl rfl, Or.inr (Or.inl ⟨rfl, WL_of (q := 6) (j := 94) rfl rfl, WL_of (q := 6) (j := 95) rfl rfl⟩), by decide +kernel, rfl, ⟨by decide +kernel, by decide +kernel, by decide +kernel⟩, by decide⟩
theorem okM_180 : okM 180 := ⟨WL_of (q := 6) (j := 99) rfl rfl, WL_of (q := 1) (j := 12) rfl rfl, Or.inl ⟨rfl, WL_of (q := 6) (j := 98) rfl rfl⟩, by decide +kernel, rfl, ⟨by decide +kernel, by decide +kernel, by decide +kernel⟩, by decide⟩
theorem okM_181 : okM 181 := ⟨WL_of (q := 6) (j := 102) rfl rfl, WL_of (q := 1) (j := 12) rfl rfl, Or.inl ⟨rfl, WL_of (q := 6) (j := 101) rfl rfl⟩, by decide +kernel, rfl, ⟨by decide +kernel, by decide +kernel, by decide +kernel⟩, by decide⟩
theorem okM_182 : okM 182 := ⟨WL_of (q := 6) (j := 105) rfl rfl, WL_of (q := 1) (j := 12) rfl rfl, Or.inl ⟨rfl, WL_of (q := 6) (j := 104) rfl rfl⟩, by decide +kernel, rfl, ⟨by decide +kernel, by decide +kernel, by decide +kernel⟩, by decide⟩
theorem okM_183 : okM 183 := ⟨WL_of (q := 6) (j := 109) rfl rfl, WL_of (q := 1) (j := 12) rfl rfl, Or.inr (Or.inl ⟨rfl, WL_of (q := 6) (j := 107) rfl rfl, WL_of (q := 6) (j := 108) rfl rfl⟩), by decide +kernel, rfl, ⟨by decide +kernel, by decide +kernel, by decide +kernel⟩, by decide⟩
theorem okM_184 : okM 184 := ⟨WL_of (q := 6) (j := 112) rfl rfl, WL_of (q := 1) (j := 12) rfl rfl, Or.inl ⟨rfl, WL_of (q := 6) (j := 111) rfl rfl⟩, by decide +kernel, rfl, ⟨by decide +kernel, by decide +kernel, by decide +kernel⟩, by decide⟩
theorem okM_185 : okM 185 := ⟨WL_of (q := 6) (j := 116) rfl rfl, WL_of (q := 1) (j := 12) rfl rfl, Or.inr (Or.inl ⟨rfl, WL_of (q := 6) (j := 115) rfl rfl, WL_of (q := 0) (j := 49) rfl rfl⟩), by decide +kernel, rfl, ⟨by decide +kernel, by decide +kernel, by decide +kernel⟩, by decide⟩
theorem okM_186 : okM 186 := ⟨WL_of (q := 6) (j := 124) rfl rfl, WL_of (q := 1) (j := 12) rfl rfl, Or.inr (Or.inl ⟨rfl, WL_of (q := 6) (j := 123) rfl rfl, WL_of (q := 0) (j := 50) rfl rfl⟩), by decide +kernel, rfl, ⟨by decide +kernel, by decide +kernel, by decide +kernel⟩, by decide⟩
theorem okM_187 : okM 187 := ⟨WL_of (q := 6) (j := 128) rfl rfl, WL_of (q := 1) (j := 12) rfl rfl, Or.inr (Or.inl ⟨rfl, WL_of (q := 6) (j := 127) rfl rfl, WL_of (q := 0) (j := 51) rfl rfl⟩), by decide +kernel, rfl, ⟨by decide +kernel, by decide +kernel, by decide +kernel⟩, by decide⟩
theorem okM_188 : okM 188 := ⟨WL_of (q := 6) (j := 132) rfl rfl, WL_of (q := 1) (j := 12) rfl rfl, Or.inr (Or.inl ⟨rfl, WL_of (q := 6) (j := 131) rfl rfl, WL_of (q := 0) (j := 52) rfl rfl⟩), by decide +kernel, rfl, ⟨by decide +kernel, by decide +kernel, by decide +kernel⟩, by decide⟩
theorem okM_189 : okM 189 := ⟨WL_of (q := 6) (j := 136) rfl rfl, WL_of (q := 1) (j := 12) rfl rfl, Or.inr (Or.inl ⟨rfl, WL_of (q := 6) (j := 135) rfl rfl, WL_of (q := 0) (j := 53) rfl rfl⟩), by decide +kernel, rfl, ⟨by decide +kernel, by decide +kernel, by decide +kernel⟩, by decide⟩
theorem okM_190 : okM 190 := ⟨WL_of (q := 6) (j := 140) rfl rfl, WL_of (q := 1) (j := 12) rfl rfl, Or.inr (Or.inl ⟨rfl, WL_of (q := 6) (j := 139) rfl rfl, WL_of (q := 0) (j := 54) rfl rfl⟩), by decide +kernel, rfl, ⟨by decide +kernel, by decide +kernel, by decide +kernel⟩, by decide⟩
theorem okM_191 : okM 191 := ⟨WL_of (q := 6) (j := 144) rfl rfl, WL_of (q := 1) (j := 12) rfl rfl, Or.inr (Or.inl ⟨rfl, WL_of (q := 6) (j := 143) rfl rfl, WL_of (q := 0) (j := 55) rfl rfl⟩), by decide +kernel, rfl, ⟨by decide +kernel, by decide +kernel, by decide +kernel⟩, by decide⟩
theorem okM_192 : okM 192 := ⟨WL_of (q := 6) (j := 149) rfl rfl, WL_of (q := 1) (j := 12) rfl rfl, Or.inr (Or.inl ⟨rfl, WL_of (q := 6) (j := 147) rfl rfl, WL_of (q := 6) (j := 148) rfl rfl⟩), by decide +kernel, rfl, ⟨by decide +kernel, by decide +kernel, by decide +kernel⟩, by decide⟩
theorem okM_193 : okM 193 := ⟨WL_of (q := 6) (j := 153) rfl rfl, WL_of (q := 1) (j := 12) rfl rfl, Or.inr (Or.inl ⟨rfl, WL_of (q := 6) (j := 152) rfl rfl, WL_of (q := 0) (j := 56) rfl rfl⟩), by decide +kernel, rfl, ⟨by decide +kernel, by decide +kernel, by decide +kernel⟩, by decide⟩
theorem okM_194 : okM 194 := ⟨WL_of (q := 6) (j := 157) rfl rfl, WL_of (q := 1) (j := 12) rfl rfl, Or.inr (Or.inl ⟨rfl, WL_of (q := 6) (j := 156) rfl rfl, WL_of (q := 0) (j := 57) rfl rfl⟩), by decide +kernel, rfl, ⟨by decide +kernel, by decide +kernel, by decide +kernel⟩, by decide⟩
theorem okM_195 : okM 195 := ⟨WL_of (q := 6) (j := 161) rfl rfl, WL_of (q := 1) (j := 12) rfl rfl, Or.inr (Or.inl ⟨rfl, WL_of (q := 6) (j := 160) rfl rfl, WL_of (q := 0) (j := 58) rfl rfl⟩), by decide +kernel, rfl, ⟨by decide +kernel, by decide +kernel, by decide +kernel⟩, by decide⟩
theorem okM_196 : okM 196 := ⟨WL_of (q := 6) (j := 165) rfl rfl, WL_of (q := 1) (j := 12) rfl rfl, Or.inr (Or.inl ⟨rfl, WL_of (q := 6) (j := 164) rfl rfl, WL_of (q := 0) (j := 59) rfl rfl⟩), by decide +kernel, rfl, ⟨by decide +kernel, by decide +kernel, by decide +kernel⟩, by decide⟩
theorem okM_197 : okM 197 := ⟨WL_of (q := 6) (j := 171) rfl rfl, WL_of (q := 1) (j := 12) rfl rfl, Or.inr (Or.inl ⟨rfl, WL_of (q := 6) (j := 170) rfl rfl, WL_of (q := 0) (j := 60) rfl rfl⟩), by decide +kernel, rfl, ⟨by decide +kernel, by decide +kernel, by decide +kernel⟩, by decide⟩
theorem okM_198 : okM 198 := ⟨WL_of (q := 6) (j := 175) rfl rfl, WL_of (q := 1) (j := 12) rfl rfl, Or.inr (Or.inl ⟨rfl, WL_of (q := 6) (j := 174) rfl rfl, WL_of (q := 0) (j := 61) rfl rfl⟩), by decide +kernel, rfl, ⟨by decide +kernel, by decide +kernel, by decide +kernel⟩, by decide⟩
theorem okM_199 : okM 199 := ⟨WL_of (q := 6) (j := 179) rfl rfl, WL_of (q := 1) (j := 12) rfl rfl, Or.inr (Or.inl ⟨rfl, WL_of (q := 6) (j := 178) rfl rfl, WL_of (q := 0) (j := 62) rfl rfl⟩), by decide +kernel, rfl, ⟨by decide +kernel, by decide +kernel, by decide +kernel⟩, by decide⟩
theorem okM_200 : okM 200 := ⟨WL_of (q := 6) (j := 184) rfl rfl, WL_of (q := 1) (j := 12) rfl rfl, Or.inr (Or.inl ⟨rfl, WL_of (q := 6) (j := 183) rfl rfl, WL_of (q := 0) (j := 63) rfl rfl⟩), by decide +kernel, rfl, ⟨by decide +kernel, by decide +kernel, by decide +kernel⟩, by decide⟩
theorem okM_201 : okM 201 := ⟨WL_of (q := 6) (j := 190) rfl rfl, WL_of (q := 1) (j := 12) rfl rfl, Or.inr (Or.inl ⟨rfl, WL_of (q := 6) (j := 188) rfl rfl, WL_of (q := 6) (j := 189) rfl rfl⟩), by decide +kernel, rfl, ⟨by decide +kernel, by decide +kernel, by decide +kernel⟩, by decide⟩
theorem okM_202 : okM 202 := ⟨WL_of (q := 6) (j := 194) rfl rfl, WL_of (q := 1) (j := 12) rfl rfl, Or.inr (Or.inl ⟨rfl, WL_of (q := 6) (j := 192) rfl rfl, WL_of (q := 6) (j := 193) rfl rfl⟩), by decide +kernel, rfl, ⟨by decide +kernel, by decide +kernel, by decide +kernel⟩, by decide⟩
theorem okM_203 : okM 203 := ⟨WL_of (q := 6) (j := 198) rfl rfl, WL_of (q := 1) (j := 12) rfl rfl, Or.inr (Or.inl ⟨rfl, WL_of (q := 6) (j := 196) rfl rfl, WL_of (q := 6) (j := 197) rfl rfl⟩), by decide +kernel, rfl, ⟨by decide +kernel, by decide +kernel, by decide +kernel⟩, by decide⟩
theorem okM_204 : okM 204 := ⟨WL_of (q := 6) (j := 202) rfl rfl, WL_of (q := 1) (j := 12) rfl rfl, Or.inr (Or.inl ⟨rfl, WL_of (q := 6) (j := 201) rfl rfl, WL_of (q := 0) (j := 64) rfl rfl⟩), by decide +kernel, rfl, ⟨by decide +kernel, by decide +kernel, by decide +kernel⟩, by decide⟩
theorem okM_205 : okM 205 := ⟨WL_of (q := 6) (j := 206) rfl rfl, WL_of (q := 1) (j := 12) rfl rfl, Or.inr (Or.inl ⟨rfl, WL_of (q := 6) (j := 205) rfl rfl, WL_of (q := 0) (j := 65) rfl rfl⟩), by decide +kernel, rfl, ⟨by decide +kernel, by decide +kernel, by decide +kernel⟩, by decide⟩
theorem okM_206 : okM 206 := ⟨WL_of (q := 6) (j := 210) rfl rfl, WL_of (q := 1) (j := 12) rfl rfl, Or.inr (Or.inl ⟨rfl, WL_of (q := 6) (j := 209) rfl rfl, WL_of (q := 0) (j := 66) rfl rfl⟩), by decide +kernel, rfl, ⟨by decide +kernel, by decide +kernel, by decide +kernel⟩, by decide⟩
theorem okM_207 : okM 207 := ⟨WL_of (q := 6) (j := 214) rfl rfl, WL_of (q := 1) (j := 12) rfl rfl, Or.inr (Or.inl ⟨rfl, WL_of (q := 6) (j := 212) rfl rfl, WL_of (q := 6) (j := 213) rfl rfl⟩), by decide +kernel, rfl, ⟨by decide +kernel, by decide +kernel, by decide +kernel⟩, by decide⟩
theorem okM_208 : okM 208 := ⟨WL_of (q := 6) (j := 218) rfl rfl, WL_of (q := 1) (j := 12) rfl rfl, Or.inr (Or.inl ⟨rfl, WL_of (q := 6) (j := 216) rfl rfl, WL_of (q := 6) (j := 217) rfl rfl⟩), by decide +kernel, rfl, ⟨by decide +kernel, by decide +kernel, by decide +kernel⟩, by decide⟩
theorem okM_209 : okM 209 := ⟨WL_of (q := 6) (j := 222) rfl rfl, WL_of (q := 1) (j := 12) rfl rfl, Or.inr (Or.inl ⟨rfl, WL_of (q := 6) (j := 221) rfl rfl, WL_of (q := 0) (j := 67) rfl rfl⟩), by decide +kernel, rfl, ⟨by decide +kernel, by decide +kernel, by decide +kernel⟩, by decide⟩
theorem okM_210 : okM 210 := ⟨WL_of (q := 6) (j := 226) rfl rfl, WL_of (q := 1) (j := 12) rfl rfl, Or.inr (Or.inl ⟨rfl, WL_of (q := 6) (j := 225) rfl rfl, WL_of (q := 0) (j := 68) rfl rfl⟩), by decide +kernel, rfl, ⟨by decide +kernel, by decide +kernel, by decide +kernel⟩, by decide⟩
theorem okM_211 : okM 211 := ⟨WL_of (q := 6) (j := 229) rfl rfl, WL_of (q := 1) (j := 12) rfl rfl, Or.inl ⟨rfl, WL_of (q := 6) (j := 228) rfl rfl⟩, by decide +kernel, rfl, ⟨by decide +kernel, by decide +kernel, by decide +kernel⟩, by decide⟩
theorem okM_212 : okM 212 := ⟨WL_of (q := 6) (j := 233) rfl rfl, WL_of (q := 1) (j := 12) rfl rfl, Or.inr (Or.inl ⟨rfl, WL_of (q := 6) (j := 231) rfl rfl, WL_of (q := 6) (j := 232) rfl rfl⟩), by decide +kernel, rfl, ⟨by decide +kernel, by decide +kernel, by decide +kernel⟩, by decide⟩
theorem okM_213 : okM 213 := ⟨WL_of (q := 6) (j := 237) rfl rfl, WL_of (q := 1) (j := 12) rfl rfl, Or.inr (Or.inl ⟨rfl, WL_of (q := 6) (j := 235) rfl rfl, WL_of (q := 6) (j := 236) rfl rfl⟩), by decide +kernel, rfl, ⟨by decide +kernel, by decide +kernel, by decide +kernel⟩, by decide⟩
theorem okM_214 : okM 214 := ⟨WL_of (q := 7) (j := 1) rfl rfl, WL_of (q := 1) (j := 12) rfl rfl, Or.inr (Or.inl ⟨rfl, WL_of (q := 6) (j := 239) rfl rfl, WL_of (q := 7) (j := 0) rfl rfl⟩), by decide +kernel, rfl, ⟨by decide +kernel, by decide +kernel, by decide +kernel⟩, by decide⟩
theorem okM_215 : okM 215 := ⟨WL_of (q := 7) (j := 5) rfl rfl, WL_of (q := 1) (j := 12) rfl rfl, Or.inr (Or.inl ⟨rfl, WL_of (q := 7) (j := 3) rfl rfl, WL_of (q := 7) (j := 4) rfl rfl⟩), by decide +kernel, rfl, ⟨by decide +kernel, by decide +kernel, by decide +kernel⟩, by decide⟩
theorem okM_216 : okM 216 := ⟨WL_of (q := 7) (j := 10) rfl rfl, WL_of (q := 1) (j := 12) rfl rfl, Or.inr (Or.inl ⟨rfl, WL_of (q := 7) (j := 8) rfl rfl, WL_of (q := 7) (j := 9) rfl rfl⟩), by decide +kernel, rfl, ⟨by decide +kernel, by decide +kernel, by decide +kernel⟩, by decide⟩
theorem okM_217 : okM 217 := ⟨WL_of (q := 7) (j := 14) rfl rfl, WL_of (q := 1) (j := 12) rfl rfl, Or.inr (Or.inl ⟨rfl, WL_of (q := 7) (j := 12) rfl rfl, WL_of (q := 7) (j := 13) rfl rfl⟩), by decide +kernel, rfl, ⟨by decide +kernel, by decide +kernel, by decide +kernel⟩, by decide⟩
theorem okM_218 : okM 218 := ⟨WL_of (q := 7) (j := 18) rfl rfl, WL_of (q := 1) (j := 12) rfl rfl, Or.inr (Or.inl ⟨rfl, WL_of (q := 7) (j := 16) rfl rfl, WL_of (q := 7) (j := 17) rfl rfl⟩), by decide +kernel, rfl, ⟨by decide +kernel, by decide +kernel, by decide +kernel⟩, by decide⟩
def NM : Nat := 219
theorem okM_all : ∀ i, i < NM → okM i := by
  intro i hi
  have hi : i < 219 := hi
  match i, hi with
  | 0, _ => exact okM_0
  | 1, _ => exact okM_1
  | 2, _ => exact okM_2
  | 3, _ => exact okM_3
  | 4, _ => exact okM_4
  | 5, _ => exact okM_5
  | 6, _ => exact okM_6
  | 7, _ => exact okM_7
  | 8, _ => exact okM_8
  | 9, _ => exact okM_9
  | 10, _ => exact okM_10
  | 11, _ => exact okM_11
  | 12, _ => exact okM_12
  | 13, _ => exact okM_13
  | 14, _ => exact okM_14
  | 15, _ => exact okM_15
  | 16, _ => exact okM_16
  | 17, _ => exact okM_17
  | 18, _ => exact okM_18
  | 19, _ => exact okM_19
  | 20, _ => exact okM_20
  | 21, _ => exact okM_21
  | 22, _ => exact okM_22
  | 23, _ => exact okM_23
  | 24, _ => exact okM_24
  | 25, _ => exact okM_25
  | 26, _ => exact okM_26
  | 27, _ => exact okM_27
  | 28, _ => exact okM_28
  | 29, _ => exact okM_29
  | 30, _ => exact okM_30
  | 31, _ => exact okM_31
  | 32, _ => exact okM_32
  | 33, _ => exact okM_33
  | 34, _ => exact okM_34
  | 35, _ => exact okM_35
  | 36, _ => exact okM_36
  | 37, _ => exact okM_37
  | 38, _ => exact okM_38
  | 39, _ => exact okM_39
  | 40, _ => exact okM_40
  | 41, _ => exact okM_41
  | 42, _ => exact okM_42
  | 43, _ => exact okM_43
  | 44, _ => exact okM_44
  | 45, _ => exact okM_45
  | 46, _ => exact okM_46
  | 47, _ => exact okM_47
  | 48, _ => exact okM_48
  | 49, _ => exact okM_49
  | 50, _ => exact okM_50
  | 51, _ => exact okM_51
  | 52, _ => exact okM_52
  | 53, _ => exact okM_53
  | 54, _ => exact okM_54
  | 55, _ => exact okM_55
  | 56, _ => exact okM_56
  | 57, _ => exact okM_57
  | 58, _ => exact okM_58
  | 59, _ => exact okM_59
  | 60, _ => exact okM_60
  | 61, _ => exact okM_61
  | 62, _ => exact okM_62
  | 63, _ => exact okM_63
  | 64, _ => exact okM_64
  | 65, _ => exact okM_65
  | 66, _ => exact okM_66
  | 67, _ => exact okM_67
  | 68, _ => exact okM_68
  | 69, _ => exact okM_69
  | 70, _ => exact okM_70
  | 71, _ => exact okM_71
  | 72, _ => exact okM_72
  | 73, _ => exact okM_73
  | 74, _ => exact okM_74
  | 75, _ => exact okM_75
  | 76, _ => exact okM_76
  | 77, _ => exact okM_77
  | 78, _ => exact okM_78
  | 79, _ => exact okM_79
  | 80, _ => exact okM_80
  | 81, _ => exact okM_81
  | 82, _ => exact okM_82
  | 83, _ => exact okM_83
  | 84, _ => exact okM_84
  | 85, _ => exact okM_85
  | 86, _ => exact okM_86
  | 87, _ => exact okM_87
  | 88, _ => exact okM_88
  | 89, _ => exact okM_89
  | 90, _ => exact okM_90
  | 91, _ => exact okM_91
  | 92, _ => exact okM_92
  | 93, _ => exact okM_93
  | 94, _ => exact okM_94
  | 95, _ => exact okM_95
  | 96, _ => exact okM_96
  | 97, _ => exact okM_97
  | 98, _ => exact okM_98
  | 99, _ => exact okM_99
  | 100, _ => exact okM_100
  | 101, _ => exact okM_101
  | 102, _ => exact okM_102
  | 103, _ => exact okM_103
  | 104, _ => exact okM_104
  | 105, _ => exact okM_105
  | 106, _ => exact okM_106
  | 107, _ => exact okM_107
  | 108, _ => exact okM_108
  | 109, _ => exact okM_109
  | 110, _ => exact okM_110
  | 111, _ => exact okM_111
  | 112, _ => exact okM_112
  | 113, _ => exact okM_113
  | 114, _ => exact okM_114
  | 115, _ => exact okM_115
  | 116, _ => exact okM_116
  | 117, _ => exact okM_117
  | 118, _ => exact okM_118
  | 119, _ => exact okM_119
  | 120, _ => exact okM_120
  | 121, _ => exact okM_121
  | 122, _ => exact okM_122
  | 123, _ => exact okM_123
  | 124, _ => exact okM_124
  | 125, _ => exact okM_125
  | 126, _ => exact okM_126
  | 127, _ => exact okM_127
  | 128, _ => exact okM_128
  | 129, _ => exact okM_129
  | 130, _ => exact okM_130
  | 131, _ => exact okM_131
  | 132, _ => exact okM_132
  | 133, _ => exact okM_133
  | 134, _ => exact okM_134
  | 135, _ => exact okM_135
  | 136, _ => exact okM_136
  | 137, _ => exact okM_137
  | 138, _ => exact okM_138
  | 139, _ => exact okM_139
  | 140, _ => exact okM_140
  | 141, _ => exact okM_141
  | 142, _ => exact okM_142
  | 143, _ => exact okM_143
  | 144, _ => exact okM_144
  | 145, _ => exact okM_145
  | 146, _ => exact okM_146
  | 147, _ => exact okM_147
  | 148, _ => exact okM_148
  | 149, _ => exact okM_149
  | 150, _ => exact okM_150
  | 151, _ => exact okM_151
  | 152, _ => exact okM_152
  | 153, _ => exact okM_153
  | 154, _ => exact okM_154
  | 155, _ => exact okM_155
  | 156, _ => exact okM_156
  | 157, _ => exact okM_157
  | 158, _ => exact okM_158
  | 159, _ => exact okM_159
  | 160, _ => exact okM_160
  | 161, _ => exact okM_161
  | 162, _ => exact okM_162
  | 163, _ => exact okM_163
  | 164, _ => exact okM_164
  | 165, _ => exact okM_165
  | 166, _ => exact okM_166
  | 167, _ => exact okM_167
  | 168, _ => exact okM_168
  | 169, _ => exact okM_169
  | 170, _ => exact okM_170
  | 171, _ => exact okM_171
  | 172, _ => exact okM_172
  | 173, _ => exact okM_173
  | 174, _ => exact okM_174
  | 175, _ => exact okM_175
  | 176, _ => exact okM_176
  | 177, _ => exact okM_177
  | 178, _ => exact okM_178
  | 179, _ => exact okM_179
  | 180, _ => exact okM_180
  | 181, _ => exact okM_181
  | 182, _ => exact okM_182
  | 183, _ => exact okM_183
  | 184, _ => exact okM_184
  | 185, _ => exact okM_185
  | 186, _ => exact okM_186
  | 187, _ => exact okM_187
  | 188, _ => exact okM_188
  | 189, _ => exact okM_189
  | 190, _ => exact okM_190
  | 191, _ => exact okM_191
  | 192, _ => exact okM_192
  | 193, _ => exact okM_193
  | 194, _ => exact okM_194
  | 195, _ => exact okM_195
  | 196, _ => exact okM_196
  | 197, _ => exact okM_197
  | 198, _ => exact okM_198
  | 199, _ => exact okM_199
  | 200, _ => exact okM_200
  | 201, _ => exact okM_201
  | 202, _ => exact okM_202
  | 203, _ => exact okM_203
  | 204, _ => exact okM_204
  | 205, _ => exact okM_205
  | 206, _ => exact okM_206
  | 207, _ => exact okM_207
  | 208, _ => exact okM_208
  | 209, _ => exact okM_209
  | 210, _ => exact okM_210
  | 211, _ => exact okM_211
  | 212, _ => exact okM_212
  | 213, _ => exact okM_213
  | 214, _ => exact okM_214
  | 215, _ => exact okM_215
  | 216, _ => exact okM_216
  | 217, _ => exact okM_217
  | 218, _ => exact okM_218
  | i + 219, hi => omega
end
section
/-! LINKS, by owner and index. -/
def mthY (k : Nat) : MethodName := match k with
  | 0 => Lib.Math.max.name
  | 1 => Lib.MathLoose.max_long.x
  | 2 => Lib.Math.min.name
  | _ => Lib.MathLoose.min_long.x
def mthP (e : Nat × Nat × Nat) : Prop := e.2.2 < 4 ∧ Cond.methodLink (oN e.1) e.2.1 (mthY e.2.2) ∈ WL
def mthF_0 : List (Nat × Nat × Nat) := [(3, 15, 2), (2, 64, 2), (2, 85, 0), (6, 17, 2), (6, 23, 0), (1, 99, 1), (11, 37, 2), (11, 47, 0), (5, 116, 1), (5, 87, 3), (4, 144, 1), (4, 84, 2), (4, 89, 0), (4, 117, 3), (7, 82, 3)]
def mthF : List (Nat × Nat × Nat) := mthF_0
theorem mthF_ok0 : ∀ e ∈ mthF_0, mthP e := allP_mem ⟨⟨by decide, WL_of (q := 2) (j := 135) rfl rfl⟩, ⟨⟨by decide, WL_of (q := 3) (j := 21) rfl rfl⟩, ⟨⟨by decide, WL_of (q := 3) (j := 27) rfl rfl⟩, ⟨⟨by decide, WL_of (q := 3) (j := 158) rfl rfl⟩, ⟨⟨by decide, WL_of (q := 3) (j := 159) rfl rfl⟩, ⟨⟨by decide, WL_of (q := 3) (j := 201) rfl rfl⟩, ⟨⟨by decide, WL_of (q := 3) (j := 225) rfl rfl⟩, ⟨⟨by decide, WL_of (q := 3) (j := 235) rfl rfl⟩, ⟨⟨by decide, WL_of (q := 4) (j := 61) rfl rfl⟩, ⟨⟨by decide, WL_of (q := 4) (j := 67) rfl rfl⟩, ⟨⟨by decide, WL_of (q := 4) (j := 140) rfl rfl⟩, ⟨⟨by decide, WL_of (q := 4) (j := 154) rfl rfl⟩, ⟨⟨by decide, WL_of (q := 4) (j := 155) rfl rfl⟩, ⟨⟨by decide, WL_of (q := 4) (j := 166) rfl rfl⟩, ⟨⟨by decide, WL_of (q := 4) (j := 208) rfl rfl⟩, trivial⟩⟩⟩⟩⟩⟩⟩⟩⟩⟩⟩⟩⟩⟩⟩
theorem mthF_ok : ∀ e ∈ mthF, mthP e := mthF_ok0
def mth (o i : Nat) : Option Nat := lo mthF o i
theorem mthw : (Cond.static (mthY 0) ∈ WL ∧ Cond.code (mthY 0) Lib.Math.max.code 2 (some .int) ∈ WL) ∧ (Cond.static (mthY 1) ∈ WL ∧ Cond.code (mthY 1) Lib.MathLoose.max_long.code 4 (some .long) ∈ WL) ∧ (Cond.static (mthY 2) ∈ WL ∧ Cond.code (mthY 2) Lib.Math.min.code 2 (some .int) ∈ WL) ∧ (Cond.static (mthY 3) ∈ WL ∧ Cond.code (mthY 3) Lib.MathLoose.min_long.code 4 (some .long) ∈ WL) ∧ Cond.initialized "java/lang/Math" ∈ WL := ⟨⟨WL_of (q := 3) (j := 28) rfl rfl, WL_of (q := 3) (j := 29) rfl rfl⟩, ⟨WL_of (q := 3) (j := 202) rfl rfl, WL_of (q := 3) (j := 203) rfl rfl⟩, ⟨WL_of (q := 2) (j := 136) rfl rfl, WL_of (q := 2) (j := 137) rfl rfl⟩, ⟨WL_of (q := 4) (j := 68) rfl rfl, WL_of (q := 4) (j := 69) rfl rfl⟩, WL_of (q := 1) (j := 13) rfl rfl⟩
def mlP (e : Nat × Nat × Nat) : Prop := Cond.methodLink (oN e.1) e.2.1 (mY e.2.2) ∈ WL
def mlF_0 : List (Nat × Nat × Nat) := [(13, 9, 0), (9, 15, 1), (9, 24, 2), (9, 34, 3), (0, 17, 4), (2, 46, 5), (2, 54, 6), (2, 50, 7), (0, 24, 8), (0, 37, 9), (1, 11, 10), (0, 46, 11), (5, 11, 10), (0, 49, 12), (13, 13, 13), (9, 60, 14), (13, 18, 15), (13, 23, 16), (9, 64, 17), (3, 28, 18), (3, 33, 19), (3, 149, 20), (3, 152, 21), (3, 155, 22)]
def mlF_1 : List (Nat × Nat × Nat) := [(3, 158, 23), (3, 39, 24), (3, 46, 25), (3, 58, 26), (3, 77, 27), (3, 81, 28), (3, 84, 29), (3, 90, 30), (3, 97, 31), (8, 56, 27), (3, 101, 32), (3, 64, 33), (3, 121, 34), (3, 127, 35), (3, 139, 36), (3, 145, 37), (8, 60, 34), (3, 131, 38), (3, 69, 39), (3, 112, 40), (3, 74, 41), (13, 28, 42), (9, 72, 43), (8, 84, 24)]
def mlF_2 : List (Nat × Nat × Nat) := [(9, 80, 44), (0, 56, 45), (2, 74, 46), (2, 92, 36), (2, 78, 24), (2, 88, 47), (8, 74, 48), (8, 67, 49), (8, 63, 50), (0, 64, 51), (13, 32, 52), (9, 86, 53), (9, 90, 54), (12, 23, 55), (9, 96, 56), (9, 100, 57), (9, 104, 58), (13, 37, 59), (9, 108, 50), (9, 112, 60), (9, 115, 49), (9, 118, 61), (13, 42, 62), (9, 121, 63)]
def mlF_3 : List (Nat × Nat × Nat) := [(9, 125, 64), (8, 71, 61), (9, 128, 65), (13, 47, 66), (9, 135, 67), (8, 90, 68), (12, 19, 69), (12, 15, 57), (8, 94, 53), (8, 98, 54), (9, 139, 70), (12, 11, 71), (13, 51, 72), (9, 142, 73), (9, 163, 74), (9, 145, 75), (9, 153, 76), (0, 70, 77), (0, 75, 78), (6, 28, 79), (9, 157, 80), (1, 34, 81), (2, 102, 82), (2, 106, 83)]
def mlF_4 : List (Nat × Nat × Nat) := [(2, 95, 55), (1, 40, 84), (1, 46, 85), (1, 54, 86), (1, 59, 87), (1, 79, 71), (1, 88, 54), (1, 92, 70), (1, 96, 80), (1, 63, 88), (1, 105, 57), (1, 109, 89), (1, 67, 90), (11, 9, 55), (11, 15, 91), (11, 27, 54), (11, 31, 58), (1, 73, 92), (11, 43, 93), (11, 50, 57), (11, 54, 56), (11, 57, 71), (1, 76, 94), (1, 50, 95)]
def mlF_5 : List (Nat × Nat × Nat) := [(13, 55, 96), (9, 168, 97), (9, 175, 98), (0, 79, 99), (0, 89, 76), (0, 92, 100), (9, 237, 101), (5, 34, 63), (5, 45, 80), (5, 51, 102), (2, 99, 63), (5, 56, 84), (5, 62, 103), (5, 73, 48), (5, 77, 60), (5, 81, 104), (5, 93, 64), (5, 96, 65), (5, 99, 101), (5, 102, 105), (5, 105, 106), (5, 109, 67), (5, 113, 70), (5, 66, 107)]
def mlF_6 : List (Nat × Nat × Nat) := [(5, 69, 95), (9, 239, 105), (9, 172, 108), (13, 60, 109), (9, 179, 110), (13, 64, 111), (9, 183, 112), (13, 68, 113), (9, 190, 114), (4, 25, 63), (4, 35, 115), (4, 39, 50), (4, 43, 116), (9, 196, 117), (4, 66, 118), (4, 47, 64), (4, 50, 65), (4, 123, 83), (4, 61, 70), (4, 69, 119), (4, 73, 120), (4, 130, 80), (4, 136, 121), (4, 141, 68)]
def mlF_7 : List (Nat × Nat × Nat) := [(13, 72, 122), (9, 200, 123), (4, 77, 124), (4, 106, 125), (4, 110, 102), (4, 113, 126), (4, 119, 48), (13, 76, 127), (9, 206, 128), (0, 98, 98), (0, 102, 129), (9, 210, 130), (7, 31, 63), (7, 42, 80), (7, 52, 48), (7, 56, 64), (7, 60, 65), (7, 64, 110), (7, 70, 131), (7, 91, 67), (7, 98, 54), (7, 102, 132), (7, 106, 69), (7, 109, 58)]
def mlF_8 : List (Nat × Nat × Nat) := [(7, 113, 56), (7, 73, 70), (7, 76, 130), (7, 79, 60), (13, 81, 133), (13, 85, 134), (9, 213, 135), (8, 78, 64), (8, 81, 60), (13, 89, 136), (9, 216, 116), (9, 219, 137), (4, 57, 67), (13, 93, 138), (9, 222, 136), (9, 225, 139), (13, 97, 140), (13, 101, 141), (13, 105, 142), (9, 231, 55), (9, 234, 68), (13, 12, 143), (13, 17, 144), (13, 22, 145)]
def mlF_9 : List (Nat × Nat × Nat) := [(10, 98, 146), (13, 27, 147), (10, 168, 148), (10, 115, 149), (10, 119, 150), (10, 208, 151), (10, 144, 152), (10, 138, 153), (10, 128, 154), (16, 335, 155), (10, 134, 156), (16, 492, 157), (16, 495, 158), (17, 9, 159), (16, 1059, 160), (20, 414, 159), (10, 195, 161), (10, 171, 162), (10, 175, 163), (10, 179, 164), (10, 183, 165), (10, 165, 166), (10, 199, 167), (10, 192, 168)]
def mlF_10 : List (Nat × Nat × Nat) := [(13, 31, 169), (10, 211, 147), (10, 234, 170), (13, 36, 171), (10, 332, 172), (10, 244, 173), (10, 237, 174), (10, 251, 175), (13, 41, 176), (10, 304, 177), (13, 46, 178), (13, 50, 179), (10, 300, 180), (10, 241, 181), (10, 254, 182), (13, 54, 183), (10, 335, 184), (10, 322, 185), (10, 280, 186), (10, 267, 187), (10, 258, 188), (10, 248, 189), (10, 261, 190), (10, 271, 191)]
def mlF_11 : List (Nat × Nat × Nat) := [(13, 59, 192), (10, 338, 193), (10, 318, 194), (10, 296, 195), (10, 290, 196), (10, 325, 197), (10, 308, 198), (10, 312, 199), (10, 342, 200), (13, 63, 201), (13, 67, 202), (13, 71, 203), (10, 349, 204), (10, 346, 205), (10, 352, 206), (13, 75, 207), (13, 80, 208), (10, 363, 209), (10, 356, 210), (10, 360, 211), (13, 84, 212), (13, 88, 213), (13, 92, 214), (13, 96, 215)]
def mlF_12 : List (Nat × Nat × Nat) := [(10, 370, 214), (13, 100, 216), (13, 104, 217), (13, 108, 218)]
def mlF : List (Nat × Nat × Nat) := mlF_0 ++ (mlF_1 ++ (mlF_2 ++ (mlF_3 ++ (mlF_4 ++ (mlF_5 ++ (mlF_6 ++ (mlF_7 ++ (mlF_8 ++ (mlF_9 ++ (mlF_10 ++ (mlF_11 ++ (mlF_12))))))))))))
theorem mlF_ok0 : ∀ e ∈ mlF_0, mlP e := allP_mem ⟨WL_of (q := 1) (j := 23) rfl rfl, ⟨WL_of (q := 1) (j := 31) rfl rfl, ⟨WL_of (q := 1) (j := 63) rfl rfl, ⟨WL_of (q := 1) (j := 131) rfl rfl, ⟨WL_of (q := 1) (j := 137) rfl rfl, ⟨WL_of (q := 1) (j := 141) rfl rfl, ⟨WL_of (q := 1) (j := 144) rfl rfl, ⟨WL_of (q := 1) (j := 147) rfl rfl, ⟨WL_of (q := 1) (j := 189) rfl rfl, ⟨WL_of (q := 1) (j := 215) rfl rfl, ⟨WL_of (q := 1) (j := 221) rfl rfl, ⟨WL_of (q := 2) (j := 12) rfl rfl, ⟨WL_of (q := 2) (j := 17) rfl rfl, ⟨WL_of (q := 2) (j := 37) rfl rfl, ⟨WL_of (q := 2) (j := 115) rfl rfl, ⟨WL_of (q := 2) (j := 119) rfl rfl, ⟨WL_of (q := 2) (j := 123) rfl rfl, ⟨WL_of (q := 2) (j := 127) rfl rfl, ⟨WL_of (q := 2) (j := 131) rfl rfl, ⟨WL_of (q := 2) (j := 138) rfl rfl, ⟨WL_of (q := 2) (j := 142) rfl rfl, ⟨WL_of (q := 2) (j := 146) rfl rfl, ⟨WL_of (q := 2) (j := 150) rfl rfl, ⟨WL_of (q := 2) (j := 154) rfl rfl, trivial⟩⟩⟩⟩⟩⟩⟩⟩⟩⟩⟩⟩⟩⟩⟩⟩⟩⟩⟩⟩⟩⟩⟩⟩
theorem mlF_ok1 : ∀ e ∈ mlF_1, mlP e := allP_mem ⟨WL_of (q := 2) (j := 158) rfl rfl, ⟨WL_of (q := 2) (j := 162) rfl rfl, ⟨WL_of (q := 2) (j := 166) rfl rfl, ⟨WL_of (q := 2) (j := 172) rfl rfl, ⟨WL_of (q := 2) (j := 176) rfl rfl, ⟨WL_of (q := 2) (j := 180) rfl rfl, ⟨WL_of (q := 2) (j := 190) rfl rfl, ⟨WL_of (q := 2) (j := 194) rfl rfl, ⟨WL_of (q := 2) (j := 198) rfl rfl, ⟨WL_of (q := 2) (j := 202) rfl rfl, ⟨WL_of (q := 2) (j := 203) rfl rfl, ⟨WL_of (q := 2) (j := 207) rfl rfl, ⟨WL_of (q := 2) (j := 211) rfl rfl, ⟨WL_of (q := 2) (j := 215) rfl rfl, ⟨WL_of (q := 2) (j := 219) rfl rfl, ⟨WL_of (q := 2) (j := 223) rfl rfl, ⟨WL_of (q := 2) (j := 227) rfl rfl, ⟨WL_of (q := 2) (j := 228) rfl rfl, ⟨WL_of (q := 2) (j := 232) rfl rfl, ⟨WL_of (q := 2) (j := 236) rfl rfl, ⟨WL_of (q := 3) (j := 0) rfl rfl, ⟨WL_of (q := 3) (j := 4) rfl rfl, ⟨WL_of (q := 3) (j := 8) rfl rfl, ⟨WL_of (q := 3) (j := 12) rfl rfl, trivial⟩⟩⟩⟩⟩⟩⟩⟩⟩⟩⟩⟩⟩⟩⟩⟩⟩⟩⟩⟩⟩⟩⟩⟩
theorem mlF_ok2 : ∀ e ∈ mlF_2, mlP e := allP_mem ⟨WL_of (q := 3) (j := 13) rfl rfl, ⟨WL_of (q := 3) (j := 17) rfl rfl, ⟨WL_of (q := 3) (j := 22) rfl rfl, ⟨WL_of (q := 3) (j := 25) rfl rfl, ⟨WL_of (q := 3) (j := 26) rfl rfl, ⟨WL_of (q := 3) (j := 30) rfl rfl, ⟨WL_of (q := 3) (j := 34) rfl rfl, ⟨WL_of (q := 3) (j := 38) rfl rfl, ⟨WL_of (q := 3) (j := 42) rfl rfl, ⟨WL_of (q := 3) (j := 46) rfl rfl, ⟨WL_of (q := 3) (j := 50) rfl rfl, ⟨WL_of (q := 3) (j := 54) rfl rfl, ⟨WL_of (q := 3) (j := 58) rfl rfl, ⟨WL_of (q := 3) (j := 61) rfl rfl, ⟨WL_of (q := 3) (j := 64) rfl rfl, ⟨WL_of (q := 3) (j := 68) rfl rfl, ⟨WL_of (q := 3) (j := 71) rfl rfl, ⟨WL_of (q := 3) (j := 75) rfl rfl, ⟨WL_of (q := 3) (j := 79) rfl rfl, ⟨WL_of (q := 3) (j := 80) rfl rfl, ⟨WL_of (q := 3) (j := 84) rfl rfl, ⟨WL_of (q := 3) (j := 85) rfl rfl, ⟨WL_of (q := 3) (j := 89) rfl rfl, ⟨WL_of (q := 3) (j := 93) rfl rfl, trivial⟩⟩⟩⟩⟩⟩⟩⟩⟩⟩⟩⟩⟩⟩⟩⟩⟩⟩⟩⟩⟩⟩⟩⟩
theorem mlF_ok3 : ∀ e ∈ mlF_3, mlP e := allP_mem ⟨WL_of (q := 3) (j := 96) rfl rfl, ⟨WL_of (q := 3) (j := 100) rfl rfl, ⟨WL_of (q := 3) (j := 101) rfl rfl, ⟨WL_of (q := 3) (j := 106) rfl rfl, ⟨WL_of (q := 3) (j := 110) rfl rfl, ⟨WL_of (q := 3) (j := 114) rfl rfl, ⟨WL_of (q := 3) (j := 117) rfl rfl, ⟨WL_of (q := 3) (j := 120) rfl rfl, ⟨WL_of (q := 3) (j := 121) rfl rfl, ⟨WL_of (q := 3) (j := 122) rfl rfl, ⟨WL_of (q := 3) (j := 123) rfl rfl, ⟨WL_of (q := 3) (j := 126) rfl rfl, ⟨WL_of (q := 3) (j := 129) rfl rfl, ⟨WL_of (q := 3) (j := 133) rfl rfl, ⟨WL_of (q := 3) (j := 137) rfl rfl, ⟨WL_of (q := 3) (j := 140) rfl rfl, ⟨WL_of (q := 3) (j := 145) rfl rfl, ⟨WL_of (q := 3) (j := 149) rfl rfl, ⟨WL_of (q := 3) (j := 154) rfl rfl, ⟨WL_of (q := 3) (j := 161) rfl rfl, ⟨WL_of (q := 3) (j := 164) rfl rfl, ⟨WL_of (q := 3) (j := 168) rfl rfl, ⟨WL_of (q := 3) (j := 172) rfl rfl, ⟨WL_of (q := 3) (j := 176) rfl rfl, trivial⟩⟩⟩⟩⟩⟩⟩⟩⟩⟩⟩⟩⟩⟩⟩⟩⟩⟩⟩⟩⟩⟩⟩⟩
theorem mlF_ok4 : ∀ e ∈ mlF_4, mlP e := allP_mem ⟨WL_of (q := 3) (j := 180) rfl rfl, ⟨WL_of (q := 3) (j := 181) rfl rfl, ⟨WL_of (q := 3) (j := 186) rfl rfl, ⟨WL_of (q := 3) (j := 190) rfl rfl, ⟨WL_of (q := 3) (j := 193) rfl rfl, ⟨WL_of (q := 3) (j := 197) rfl rfl, ⟨WL_of (q := 3) (j := 198) rfl rfl, ⟨WL_of (q := 3) (j := 199) rfl rfl, ⟨WL_of (q := 3) (j := 200) rfl rfl, ⟨WL_of (q := 3) (j := 204) rfl rfl, ⟨WL_of (q := 3) (j := 208) rfl rfl, ⟨WL_of (q := 3) (j := 209) rfl rfl, ⟨WL_of (q := 3) (j := 213) rfl rfl, ⟨WL_of (q := 3) (j := 216) rfl rfl, ⟨WL_of (q := 3) (j := 217) rfl rfl, ⟨WL_of (q := 3) (j := 223) rfl rfl, ⟨WL_of (q := 3) (j := 224) rfl rfl, ⟨WL_of (q := 3) (j := 226) rfl rfl, ⟨WL_of (q := 3) (j := 229) rfl rfl, ⟨WL_of (q := 3) (j := 232) rfl rfl, ⟨WL_of (q := 3) (j := 233) rfl rfl, ⟨WL_of (q := 3) (j := 234) rfl rfl, ⟨WL_of (q := 3) (j := 236) rfl rfl, ⟨WL_of (q := 3) (j := 239) rfl rfl, trivial⟩⟩⟩⟩⟩⟩⟩⟩⟩⟩⟩⟩⟩⟩⟩⟩⟩⟩⟩⟩⟩⟩⟩⟩
theorem mlF_ok5 : ∀ e ∈ mlF_5, mlP e := allP_mem ⟨WL_of (q := 4) (j := 3) rfl rfl, ⟨WL_of (q := 4) (j := 7) rfl rfl, ⟨WL_of (q := 4) (j := 11) rfl rfl, ⟨WL_of (q := 4) (j := 15) rfl rfl, ⟨WL_of (q := 4) (j := 20) rfl rfl, ⟨WL_of (q := 4) (j := 21) rfl rfl, ⟨WL_of (q := 4) (j := 25) rfl rfl, ⟨WL_of (q := 4) (j := 29) rfl rfl, ⟨WL_of (q := 4) (j := 30) rfl rfl, ⟨WL_of (q := 4) (j := 31) rfl rfl, ⟨WL_of (q := 4) (j := 35) rfl rfl, ⟨WL_of (q := 4) (j := 36) rfl rfl, ⟨WL_of (q := 4) (j := 38) rfl rfl, ⟨WL_of (q := 4) (j := 42) rfl rfl, ⟨WL_of (q := 4) (j := 43) rfl rfl, ⟨WL_of (q := 4) (j := 44) rfl rfl, ⟨WL_of (q := 4) (j := 48) rfl rfl, ⟨WL_of (q := 4) (j := 49) rfl rfl, ⟨WL_of (q := 4) (j := 50) rfl rfl, ⟨WL_of (q := 4) (j := 51) rfl rfl, ⟨WL_of (q := 4) (j := 55) rfl rfl, ⟨WL_of (q := 4) (j := 59) rfl rfl, ⟨WL_of (q := 4) (j := 60) rfl rfl, ⟨WL_of (q := 4) (j := 62) rfl rfl, trivial⟩⟩⟩⟩⟩⟩⟩⟩⟩⟩⟩⟩⟩⟩⟩⟩⟩⟩⟩⟩⟩⟩⟩⟩
theorem mlF_ok6 : ∀ e ∈ mlF_6, mlP e := allP_mem ⟨WL_of (q := 4) (j := 70) rfl rfl, ⟨WL_of (q := 4) (j := 71) rfl rfl, ⟨WL_of (q := 4) (j := 72) rfl rfl, ⟨WL_of (q := 4) (j := 78) rfl rfl, ⟨WL_of (q := 4) (j := 82) rfl rfl, ⟨WL_of (q := 4) (j := 86) rfl rfl, ⟨WL_of (q := 4) (j := 90) rfl rfl, ⟨WL_of (q := 4) (j := 94) rfl rfl, ⟨WL_of (q := 4) (j := 98) rfl rfl, ⟨WL_of (q := 4) (j := 102) rfl rfl, ⟨WL_of (q := 4) (j := 103) rfl rfl, ⟨WL_of (q := 4) (j := 106) rfl rfl, ⟨WL_of (q := 4) (j := 107) rfl rfl, ⟨WL_of (q := 4) (j := 111) rfl rfl, ⟨WL_of (q := 4) (j := 116) rfl rfl, ⟨WL_of (q := 4) (j := 120) rfl rfl, ⟨WL_of (q := 4) (j := 121) rfl rfl, ⟨WL_of (q := 4) (j := 122) rfl rfl, ⟨WL_of (q := 4) (j := 123) rfl rfl, ⟨WL_of (q := 4) (j := 124) rfl rfl, ⟨WL_of (q := 4) (j := 128) rfl rfl, ⟨WL_of (q := 4) (j := 133) rfl rfl, ⟨WL_of (q := 4) (j := 134) rfl rfl, ⟨WL_of (q := 4) (j := 139) rfl rfl, trivial⟩⟩⟩⟩⟩⟩⟩⟩⟩⟩⟩⟩⟩⟩⟩⟩⟩⟩⟩⟩⟩⟩⟩⟩
theorem mlF_ok7 : ∀ e ∈ mlF_7, mlP e := allP_mem ⟨WL_of (q := 4) (j := 141) rfl rfl, ⟨WL_of (q := 4) (j := 145) rfl rfl, ⟨WL_of (q := 4) (j := 149) rfl rfl, ⟨WL_of (q := 4) (j := 157) rfl rfl, ⟨WL_of (q := 4) (j := 161) rfl rfl, ⟨WL_of (q := 4) (j := 162) rfl rfl, ⟨WL_of (q := 4) (j := 167) rfl rfl, ⟨WL_of (q := 4) (j := 168) rfl rfl, ⟨WL_of (q := 4) (j := 172) rfl rfl, ⟨WL_of (q := 4) (j := 176) rfl rfl, ⟨WL_of (q := 4) (j := 177) rfl rfl, ⟨WL_of (q := 4) (j := 181) rfl rfl, ⟨WL_of (q := 4) (j := 185) rfl rfl, ⟨WL_of (q := 4) (j := 186) rfl rfl, ⟨WL_of (q := 4) (j := 188) rfl rfl, ⟨WL_of (q := 4) (j := 189) rfl rfl, ⟨WL_of (q := 4) (j := 190) rfl rfl, ⟨WL_of (q := 4) (j := 191) rfl rfl, ⟨WL_of (q := 4) (j := 192) rfl rfl, ⟨WL_of (q := 4) (j := 196) rfl rfl, ⟨WL_of (q := 4) (j := 197) rfl rfl, ⟨WL_of (q := 4) (j := 198) rfl rfl, ⟨WL_of (q := 4) (j := 202) rfl rfl, ⟨WL_of (q := 4) (j := 203) rfl rfl, trivial⟩⟩⟩⟩⟩⟩⟩⟩⟩⟩⟩⟩⟩⟩⟩⟩⟩⟩⟩⟩⟩⟩⟩⟩
theorem mlF_ok8 : ∀ e ∈ mlF_8, mlP e := allP_mem ⟨WL_of (q := 4) (j := 204) rfl rfl, ⟨WL_of (q := 4) (j := 205) rfl rfl, ⟨WL_of (q := 4) (j := 206) rfl rfl, ⟨WL_of (q := 4) (j := 207) rfl rfl, ⟨WL_of (q := 4) (j := 209) rfl rfl, ⟨WL_of (q := 4) (j := 213) rfl rfl, ⟨WL_of (q := 4) (j := 217) rfl rfl, ⟨WL_of (q := 4) (j := 221) rfl rfl, ⟨WL_of (q := 4) (j := 222) rfl rfl, ⟨WL_of (q := 4) (j := 223) rfl rfl, ⟨WL_of (q := 4) (j := 227) rfl rfl, ⟨WL_of (q := 4) (j := 228) rfl rfl, ⟨WL_of (q := 4) (j := 232) rfl rfl, ⟨WL_of (q := 4) (j := 233) rfl rfl, ⟨WL_of (q := 4) (j := 237) rfl rfl, ⟨WL_of (q := 4) (j := 238) rfl rfl, ⟨WL_of (q := 5) (j := 2) rfl rfl, ⟨WL_of (q := 5) (j := 6) rfl rfl, ⟨WL_of (q := 5) (j := 10) rfl rfl, ⟨WL_of (q := 5) (j := 14) rfl rfl, ⟨WL_of (q := 5) (j := 15) rfl rfl, ⟨WL_of (q := 5) (j := 18) rfl rfl, ⟨WL_of (q := 5) (j := 167) rfl rfl, ⟨WL_of (q := 5) (j := 171) rfl rfl, trivial⟩⟩⟩⟩⟩⟩⟩⟩⟩⟩⟩⟩⟩⟩⟩⟩⟩⟩⟩⟩⟩⟩⟩⟩
theorem mlF_ok9 : ∀ e ∈ mlF_9, mlP e := allP_mem ⟨WL_of (q := 5) (j := 175) rfl rfl, ⟨WL_of (q := 5) (j := 178) rfl rfl, ⟨WL_of (q := 5) (j := 182) rfl rfl, ⟨WL_of (q := 5) (j := 186) rfl rfl, ⟨WL_of (q := 5) (j := 189) rfl rfl, ⟨WL_of (q := 5) (j := 195) rfl rfl, ⟨WL_of (q := 5) (j := 200) rfl rfl, ⟨WL_of (q := 5) (j := 204) rfl rfl, ⟨WL_of (q := 5) (j := 207) rfl rfl, ⟨WL_of (q := 5) (j := 211) rfl rfl, ⟨WL_of (q := 5) (j := 217) rfl rfl, ⟨WL_of (q := 5) (j := 221) rfl rfl, ⟨WL_of (q := 5) (j := 225) rfl rfl, ⟨WL_of (q := 5) (j := 228) rfl rfl, ⟨WL_of (q := 5) (j := 233) rfl rfl, ⟨WL_of (q := 6) (j := 5) rfl rfl, ⟨WL_of (q := 6) (j := 16) rfl rfl, ⟨WL_of (q := 6) (j := 20) rfl rfl, ⟨WL_of (q := 6) (j := 30) rfl rfl, ⟨WL_of (q := 6) (j := 34) rfl rfl, ⟨WL_of (q := 6) (j := 38) rfl rfl, ⟨WL_of (q := 6) (j := 42) rfl rfl, ⟨WL_of (q := 6) (j := 46) rfl rfl, ⟨WL_of (q := 6) (j := 50) rfl rfl, trivial⟩⟩⟩⟩⟩⟩⟩⟩⟩⟩⟩⟩⟩⟩⟩⟩⟩⟩⟩⟩⟩⟩⟩⟩
theorem mlF_ok10 : ∀ e ∈ mlF_10, mlP e := allP_mem ⟨WL_of (q := 6) (j := 54) rfl rfl, ⟨WL_of (q := 6) (j := 58) rfl rfl, ⟨WL_of (q := 6) (j := 59) rfl rfl, ⟨WL_of (q := 6) (j := 63) rfl rfl, ⟨WL_of (q := 6) (j := 67) rfl rfl, ⟨WL_of (q := 6) (j := 71) rfl rfl, ⟨WL_of (q := 6) (j := 74) rfl rfl, ⟨WL_of (q := 6) (j := 77) rfl rfl, ⟨WL_of (q := 6) (j := 81) rfl rfl, ⟨WL_of (q := 6) (j := 85) rfl rfl, ⟨WL_of (q := 6) (j := 89) rfl rfl, ⟨WL_of (q := 6) (j := 93) rfl rfl, ⟨WL_of (q := 6) (j := 97) rfl rfl, ⟨WL_of (q := 6) (j := 100) rfl rfl, ⟨WL_of (q := 6) (j := 103) rfl rfl, ⟨WL_of (q := 6) (j := 106) rfl rfl, ⟨WL_of (q := 6) (j := 110) rfl rfl, ⟨WL_of (q := 6) (j := 113) rfl rfl, ⟨WL_of (q := 6) (j := 121) rfl rfl, ⟨WL_of (q := 6) (j := 125) rfl rfl, ⟨WL_of (q := 6) (j := 129) rfl rfl, ⟨WL_of (q := 6) (j := 133) rfl rfl, ⟨WL_of (q := 6) (j := 137) rfl rfl, ⟨WL_of (q := 6) (j := 141) rfl rfl, trivial⟩⟩⟩⟩⟩⟩⟩⟩⟩⟩⟩⟩⟩⟩⟩⟩⟩⟩⟩⟩⟩⟩⟩⟩
theorem mlF_ok11 : ∀ e ∈ mlF_11, mlP e := allP_mem ⟨WL_of (q := 6) (j := 146) rfl rfl, ⟨WL_of (q := 6) (j := 150) rfl rfl, ⟨WL_of (q := 6) (j := 154) rfl rfl, ⟨WL_of (q := 6) (j := 158) rfl rfl, ⟨WL_of (q := 6) (j := 162) rfl rfl, ⟨WL_of (q := 6) (j := 168) rfl rfl, ⟨WL_of (q := 6) (j := 172) rfl rfl, ⟨WL_of (q := 6) (j := 176) rfl rfl, ⟨WL_of (q := 6) (j := 181) rfl rfl, ⟨WL_of (q := 6) (j := 187) rfl rfl, ⟨WL_of (q := 6) (j := 191) rfl rfl, ⟨WL_of (q := 6) (j := 195) rfl rfl, ⟨WL_of (q := 6) (j := 199) rfl rfl, ⟨WL_of (q := 6) (j := 203) rfl rfl, ⟨WL_of (q := 6) (j := 207) rfl rfl, ⟨WL_of (q := 6) (j := 211) rfl rfl, ⟨WL_of (q := 6) (j := 215) rfl rfl, ⟨WL_of (q := 6) (j := 219) rfl rfl, ⟨WL_of (q := 6) (j := 223) rfl rfl, ⟨WL_of (q := 6) (j := 227) rfl rfl, ⟨WL_of (q := 6) (j := 230) rfl rfl, ⟨WL_of (q := 6) (j := 234) rfl rfl, ⟨WL_of (q := 6) (j := 238) rfl rfl, ⟨WL_of (q := 7) (j := 2) rfl rfl, trivial⟩⟩⟩⟩⟩⟩⟩⟩⟩⟩⟩⟩⟩⟩⟩⟩⟩⟩⟩⟩⟩⟩⟩⟩
theorem mlF_ok12 : ∀ e ∈ mlF_12, mlP e := allP_mem ⟨WL_of (q := 7) (j := 6) rfl rfl, ⟨WL_of (q := 7) (j := 7) rfl rfl, ⟨WL_of (q := 7) (j := 11) rfl rfl, ⟨WL_of (q := 7) (j := 15) rfl rfl, trivial⟩⟩⟩⟩
theorem mlF_ok : ∀ e ∈ mlF, mlP e := (memP_app mlF_ok0 (memP_app mlF_ok1 (memP_app mlF_ok2 (memP_app mlF_ok3 (memP_app mlF_ok4 (memP_app mlF_ok5 (memP_app mlF_ok6 (memP_app mlF_ok7 (memP_app mlF_ok8 (memP_app mlF_ok9 (memP_app mlF_ok10 (memP_app mlF_ok11 mlF_ok12))))))))))))
def ml (o i : Nat) : Option Nat := lo mlF o i
/-- links to Object's constructor -/
def oiP (e : Nat × Nat × Nat) : Prop := Cond.methodLink (oN e.1) e.2.1 objectInit ∈ WL
def oiF_0 : List (Nat × Nat × Nat) := [(9, 1, 0), (3, 3, 0), (8, 3, 0), (0, 3, 0), (2, 9, 0), (4, 7, 0), (1, 3, 0), (6, 3, 0), (5, 3, 0), (7, 3, 0), (10, 1, 0)]
def oiF : List (Nat × Nat × Nat) := oiF_0
theorem oiF_ok0 : ∀ e ∈ oiF_0, oiP e := allP_mem ⟨WL_of (q := 1) (j := 26) rfl rfl, ⟨WL_of (q := 1) (j := 34) rfl rfl, ⟨WL_of (q := 1) (j := 66) rfl rfl, ⟨WL_of (q := 1) (j := 134) rfl rfl, ⟨WL_of (q := 1) (j := 140) rfl rfl, ⟨WL_of (q := 1) (j := 192) rfl rfl, ⟨WL_of (q := 1) (j := 218) rfl rfl, ⟨WL_of (q := 1) (j := 224) rfl rfl, ⟨WL_of (q := 2) (j := 15) rfl rfl, ⟨WL_of (q := 2) (j := 40) rfl rfl, ⟨WL_of (q := 5) (j := 21) rfl rfl, trivial⟩⟩⟩⟩⟩⟩⟩⟩⟩⟩⟩
theorem oiF_ok : ∀ e ∈ oiF, oiP e := oiF_ok0
def oin (o i : Nat) : Option Nat := lo oiF o i
theorem oiw : Cond.instanceMethod objectInit ∈ WL ∧ Cond.code objectInit ⟨#[0xb1]⟩ 1 none ∈ WL := ⟨WL_of (q := 1) (j := 27) rfl rfl, WL_of (q := 1) (j := 28) rfl rfl⟩
def flP (e : Nat × Nat × Nat × Nat) : Prop := ∃ r, vwCl[e.2.2.1]? = some r ∧ e.2.2.2 < r.2.2 ∧ Cond.fieldLink (oN e.1) e.2.1 (r.2.1 e.2.2.2).1 (r.2.1 e.2.2.2).2.1 (r.2.1 e.2.2.2).2.2.1 ∈ WL
def flF_0 : List (Nat × Nat × Nat × Nat) := [(3, 9, 3, 0), (3, 21, 3, 1), (3, 25, 3, 2), (3, 36, 3, 3), (3, 43, 3, 4), (3, 94, 3, 5), (3, 50, 3, 6), (3, 124, 3, 7), (8, 33, 8, 0), (11, 21, 8, 0), (1, 83, 8, 0), (7, 95, 8, 0), (2, 82, 8, 0), (9, 83, 8, 0), (8, 37, 8, 1), (5, 40, 8, 1), (7, 37, 8, 1), (4, 29, 8, 1), (2, 60, 8, 1), (9, 228, 8, 1), (8, 40, 8, 2), (7, 88, 8, 2), (3, 109, 8, 2), (4, 54, 8, 2)]
def flF_1 : List (Nat × Nat × Nat × Nat) := [(5, 119, 8, 2), (9, 132, 8, 2), (8, 43, 8, 3), (0, 83, 8, 3), (3, 118, 8, 3), (9, 150, 8, 3), (8, 46, 8, 4), (3, 105, 8, 4), (8, 50, 8, 5), (3, 115, 8, 5), (8, 53, 8, 6), (8, 11, 8, 7), (8, 17, 8, 8), (8, 21, 8, 9), (8, 24, 8, 10), (8, 27, 8, 11), (8, 30, 8, 12), (2, 15, 2, 0), (2, 19, 2, 1), (2, 22, 2, 2), (2, 25, 2, 3), (2, 28, 2, 4), (2, 31, 2, 5), (2, 34, 2, 6)]
def flF_2 : List (Nat × Nat × Nat × Nat) := [(2, 37, 2, 7), (2, 40, 2, 8), (2, 43, 2, 9), (2, 71, 2, 10), (2, 70, 2, 11), (4, 13, 4, 0), (4, 17, 4, 1), (4, 21, 4, 2), (4, 92, 4, 3), (4, 99, 4, 4), (4, 103, 4, 5), (6, 9, 6, 0), (6, 13, 6, 1), (1, 12, 1, 0), (0, 60, 1, 0), (1, 18, 1, 1), (1, 22, 1, 2), (1, 26, 1, 3), (1, 30, 1, 4), (5, 12, 5, 0), (0, 69, 5, 0), (5, 18, 5, 1), (5, 22, 5, 2), (5, 26, 5, 3)]
def flF_3 : List (Nat × Nat × Nat × Nat) := [(5, 30, 5, 4), (7, 9, 7, 0), (7, 15, 7, 1), (7, 23, 7, 2), (7, 27, 7, 3), (7, 19, 7, 4), (0, 27, 0, 0), (9, 186, 0, 0), (0, 9, 0, 1), (0, 18, 0, 2), (0, 52, 0, 3), (0, 33, 0, 4), (0, 42, 0, 5), (9, 9, 9, 0), (9, 57, 9, 1), (9, 18, 9, 2), (9, 25, 9, 3), (9, 29, 9, 4), (9, 37, 9, 5), (9, 68, 9, 6), (9, 76, 9, 7), (9, 41, 9, 8), (9, 45, 9, 9), (9, 49, 9, 10)]
def flF_4 : List (Nat × Nat × Nat × Nat) := [(9, 53, 9, 11), (10, 9, 10, 0), (10, 95, 10, 1), (10, 102, 10, 2), (10, 112, 10, 3), (10, 105, 10, 4), (10, 108, 10, 5), (10, 162, 10, 6), (10, 13, 10, 7), (10, 17, 10, 8), (10, 21, 10, 9), (10, 186, 10, 10), (10, 25, 10, 11), (10, 28, 10, 12), (10, 202, 10, 13), (10, 205, 10, 14), (10, 214, 10, 15), (10, 218, 10, 16), (10, 31, 10, 17), (10, 221, 10, 18), (10, 34, 10, 19), (10, 37, 10, 20), (10, 224, 10, 21), (10, 226, 10, 22)]
def flF_5 : List (Nat × Nat × Nat × Nat) := [(10, 228, 10, 23), (10, 231, 10, 24), (10, 40, 10, 25), (10, 44, 10, 26), (10, 47, 10, 27), (10, 50, 10, 28), (10, 53, 10, 29), (10, 189, 10, 30), (10, 57, 10, 31), (10, 60, 10, 32), (10, 264, 10, 33), (10, 63, 10, 34), (10, 67, 10, 35), (10, 70, 10, 36), (10, 73, 10, 37), (10, 77, 10, 38), (10, 293, 10, 39), (10, 287, 10, 40), (10, 80, 10, 41), (10, 83, 10, 42), (10, 86, 10, 43), (10, 89, 10, 44), (10, 92, 10, 45), (10, 367, 10, 46)]
def flF : List (Nat × Nat × Nat × Nat) := flF_0 ++ (flF_1 ++ (flF_2 ++ (flF_3 ++ (flF_4 ++ (flF_5)))))
theorem flF_ok0 : ∀ e ∈ flF_0, flP e := allP_mem ⟨⟨_, rfl, by decide, WL_of (q := 1) (j := 35) rfl rfl⟩, ⟨⟨_, rfl, by decide, WL_of (q := 1) (j := 36) rfl rfl⟩, ⟨⟨_, rfl, by decide, WL_of (q := 1) (j := 37) rfl rfl⟩, ⟨⟨_, rfl, by decide, WL_of (q := 1) (j := 38) rfl rfl⟩, ⟨⟨_, rfl, by decide, WL_of (q := 1) (j := 39) rfl rfl⟩, ⟨⟨_, rfl, by decide, WL_of (q := 1) (j := 40) rfl rfl⟩, ⟨⟨_, rfl, by decide, WL_of (q := 1) (j := 41) rfl rfl⟩, ⟨⟨_, rfl, by decide, WL_of (q := 1) (j := 42) rfl rfl⟩, ⟨⟨_, rfl, by decide, WL_of (q := 1) (j := 67) rfl rfl⟩, ⟨⟨_, rfl, by decide, WL_of (q := 1) (j := 68) rfl rfl⟩, ⟨⟨_, rfl, by decide, WL_of (q := 1) (j := 69) rfl rfl⟩, ⟨⟨_, rfl, by decide, WL_of (q := 1) (j := 70) rfl rfl⟩, ⟨⟨_, rfl, by decide, WL_of (q := 1) (j := 71) rfl rfl⟩, ⟨⟨_, rfl, by decide, WL_of (q := 1) (j := 72) rfl rfl⟩, ⟨⟨_, rfl, by decide, WL_of (q := 1) (j := 73) rfl rfl⟩, ⟨⟨_, rfl, by decide, WL_of (q := 1) (j := 74) rfl rfl⟩, ⟨⟨_, rfl, by decide, WL_of (q := 1) (j := 75) rfl rfl⟩, ⟨⟨_, rfl, by decide, WL_of (q := 1) (j := 76) rfl rfl⟩, ⟨⟨_, rfl, by decide, WL_of (q := 1) (j := 77) rfl rfl⟩, ⟨⟨_, rfl, by decide, WL_of (q := 1) (j := 78) rfl rfl⟩, ⟨⟨_, rfl, by decide, WL_of (q := 1) (j := 79) rfl rfl⟩, ⟨⟨_, rfl, by decide, WL_of (q := 1) (j := 80) rfl rfl⟩, ⟨⟨_, rfl, by decide, WL_of (q := 1) (j := 81) rfl rfl⟩, ⟨⟨_, rfl, by decide, WL_of (q := 1) (j := 82) rfl rfl⟩, trivial⟩⟩⟩⟩⟩⟩⟩⟩⟩⟩⟩⟩⟩⟩⟩⟩⟩⟩⟩⟩⟩⟩⟩⟩
theorem flF_ok1 : ∀ e ∈ flF_1, flP e := allP_mem ⟨⟨_, rfl, by decide, WL_of (q := 1) (j := 83) rfl rfl⟩, ⟨⟨_, rfl, by decide, WL_of (q := 1) (j := 84) rfl rfl⟩, ⟨⟨_, rfl, by decide, WL_of (q := 1) (j := 85) rfl rfl⟩, ⟨⟨_, rfl, by decide, WL_of (q := 1) (j := 86) rfl rfl⟩, ⟨⟨_, rfl, by decide, WL_of (q := 1) (j := 87) rfl rfl⟩, ⟨⟨_, rfl, by decide, WL_of (q := 1) (j := 88) rfl rfl⟩, ⟨⟨_, rfl, by decide, WL_of (q := 1) (j := 89) rfl rfl⟩, ⟨⟨_, rfl, by decide, WL_of (q := 1) (j := 90) rfl rfl⟩, ⟨⟨_, rfl, by decide, WL_of (q := 1) (j := 91) rfl rfl⟩, ⟨⟨_, rfl, by decide, WL_of (q := 1) (j := 92) rfl rfl⟩, ⟨⟨_, rfl, by decide, WL_of (q := 1) (j := 93) rfl rfl⟩, ⟨⟨_, rfl, by decide, WL_of (q := 1) (j := 94) rfl rfl⟩, ⟨⟨_, rfl, by decide, WL_of (q := 1) (j := 95) rfl rfl⟩, ⟨⟨_, rfl, by decide, WL_of (q := 1) (j := 96) rfl rfl⟩, ⟨⟨_, rfl, by decide, WL_of (q := 1) (j := 97) rfl rfl⟩, ⟨⟨_, rfl, by decide, WL_of (q := 1) (j := 98) rfl rfl⟩, ⟨⟨_, rfl, by decide, WL_of (q := 1) (j := 99) rfl rfl⟩, ⟨⟨_, rfl, by decide, WL_of (q := 1) (j := 150) rfl rfl⟩, ⟨⟨_, rfl, by decide, WL_of (q := 1) (j := 151) rfl rfl⟩, ⟨⟨_, rfl, by decide, WL_of (q := 1) (j := 152) rfl rfl⟩, ⟨⟨_, rfl, by decide, WL_of (q := 1) (j := 153) rfl rfl⟩, ⟨⟨_, rfl, by decide, WL_of (q := 1) (j := 154) rfl rfl⟩, ⟨⟨_, rfl, by decide, WL_of (q := 1) (j := 155) rfl rfl⟩, ⟨⟨_, rfl, by decide, WL_of (q := 1) (j := 156) rfl rfl⟩, trivial⟩⟩⟩⟩⟩⟩⟩⟩⟩⟩⟩⟩⟩⟩⟩⟩⟩⟩⟩⟩⟩⟩⟩⟩
theorem flF_ok2 : ∀ e ∈ flF_2, flP e := allP_mem ⟨⟨_, rfl, by decide, WL_of (q := 1) (j := 157) rfl rfl⟩, ⟨⟨_, rfl, by decide, WL_of (q := 1) (j := 158) rfl rfl⟩, ⟨⟨_, rfl, by decide, WL_of (q := 1) (j := 159) rfl rfl⟩, ⟨⟨_, rfl, by decide, WL_of (q := 1) (j := 160) rfl rfl⟩, ⟨⟨_, rfl, by decide, WL_of (q := 1) (j := 161) rfl rfl⟩, ⟨⟨_, rfl, by decide, WL_of (q := 1) (j := 193) rfl rfl⟩, ⟨⟨_, rfl, by decide, WL_of (q := 1) (j := 194) rfl rfl⟩, ⟨⟨_, rfl, by decide, WL_of (q := 1) (j := 195) rfl rfl⟩, ⟨⟨_, rfl, by decide, WL_of (q := 1) (j := 196) rfl rfl⟩, ⟨⟨_, rfl, by decide, WL_of (q := 1) (j := 197) rfl rfl⟩, ⟨⟨_, rfl, by decide, WL_of (q := 1) (j := 198) rfl rfl⟩, ⟨⟨_, rfl, by decide, WL_of (q := 1) (j := 225) rfl rfl⟩, ⟨⟨_, rfl, by decide, WL_of (q := 1) (j := 226) rfl rfl⟩, ⟨⟨_, rfl, by decide, WL_of (q := 1) (j := 232) rfl rfl⟩, ⟨⟨_, rfl, by decide, WL_of (q := 1) (j := 233) rfl rfl⟩, ⟨⟨_, rfl, by decide, WL_of (q := 1) (j := 234) rfl rfl⟩, ⟨⟨_, rfl, by decide, WL_of (q := 1) (j := 235) rfl rfl⟩, ⟨⟨_, rfl, by decide, WL_of (q := 1) (j := 236) rfl rfl⟩, ⟨⟨_, rfl, by decide, WL_of (q := 1) (j := 237) rfl rfl⟩, ⟨⟨_, rfl, by decide, WL_of (q := 2) (j := 18) rfl rfl⟩, ⟨⟨_, rfl, by decide, WL_of (q := 2) (j := 19) rfl rfl⟩, ⟨⟨_, rfl, by decide, WL_of (q := 2) (j := 20) rfl rfl⟩, ⟨⟨_, rfl, by decide, WL_of (q := 2) (j := 21) rfl rfl⟩, ⟨⟨_, rfl, by decide, WL_of (q := 2) (j := 22) rfl rfl⟩, trivial⟩⟩⟩⟩⟩⟩⟩⟩⟩⟩⟩⟩⟩⟩⟩⟩⟩⟩⟩⟩⟩⟩⟩⟩
theorem flF_ok3 : ∀ e ∈ flF_3, flP e := allP_mem ⟨⟨_, rfl, by decide, WL_of (q := 2) (j := 23) rfl rfl⟩, ⟨⟨_, rfl, by decide, WL_of (q := 2) (j := 41) rfl rfl⟩, ⟨⟨_, rfl, by decide, WL_of (q := 2) (j := 42) rfl rfl⟩, ⟨⟨_, rfl, by decide, WL_of (q := 2) (j := 43) rfl rfl⟩, ⟨⟨_, rfl, by decide, WL_of (q := 2) (j := 44) rfl rfl⟩, ⟨⟨_, rfl, by decide, WL_of (q := 2) (j := 45) rfl rfl⟩, ⟨⟨_, rfl, by decide, WL_of (q := 2) (j := 57) rfl rfl⟩, ⟨⟨_, rfl, by decide, WL_of (q := 2) (j := 58) rfl rfl⟩, ⟨⟨_, rfl, by decide, WL_of (q := 2) (j := 59) rfl rfl⟩, ⟨⟨_, rfl, by decide, WL_of (q := 2) (j := 60) rfl rfl⟩, ⟨⟨_, rfl, by decide, WL_of (q := 2) (j := 61) rfl rfl⟩, ⟨⟨_, rfl, by decide, WL_of (q := 2) (j := 62) rfl rfl⟩, ⟨⟨_, rfl, by decide, WL_of (q := 2) (j := 63) rfl rfl⟩, ⟨⟨_, rfl, by decide, WL_of (q := 2) (j := 77) rfl rfl⟩, ⟨⟨_, rfl, by decide, WL_of (q := 2) (j := 78) rfl rfl⟩, ⟨⟨_, rfl, by decide, WL_of (q := 2) (j := 79) rfl rfl⟩, ⟨⟨_, rfl, by decide, WL_of (q := 2) (j := 80) rfl rfl⟩, ⟨⟨_, rfl, by decide, WL_of (q := 2) (j := 81) rfl rfl⟩, ⟨⟨_, rfl, by decide, WL_of (q := 2) (j := 82) rfl rfl⟩, ⟨⟨_, rfl, by decide, WL_of (q := 2) (j := 83) rfl rfl⟩, ⟨⟨_, rfl, by decide, WL_of (q := 2) (j := 84) rfl rfl⟩, ⟨⟨_, rfl, by decide, WL_of (q := 2) (j := 85) rfl rfl⟩, ⟨⟨_, rfl, by decide, WL_of (q := 2) (j := 86) rfl rfl⟩, ⟨⟨_, rfl, by decide, WL_of (q := 2) (j := 87) rfl rfl⟩, trivial⟩⟩⟩⟩⟩⟩⟩⟩⟩⟩⟩⟩⟩⟩⟩⟩⟩⟩⟩⟩⟩⟩⟩⟩
theorem flF_ok4 : ∀ e ∈ flF_4, flP e := allP_mem ⟨⟨_, rfl, by decide, WL_of (q := 2) (j := 88) rfl rfl⟩, ⟨⟨_, rfl, by decide, WL_of (q := 5) (j := 25) rfl rfl⟩, ⟨⟨_, rfl, by decide, WL_of (q := 5) (j := 26) rfl rfl⟩, ⟨⟨_, rfl, by decide, WL_of (q := 5) (j := 27) rfl rfl⟩, ⟨⟨_, rfl, by decide, WL_of (q := 5) (j := 28) rfl rfl⟩, ⟨⟨_, rfl, by decide, WL_of (q := 5) (j := 29) rfl rfl⟩, ⟨⟨_, rfl, by decide, WL_of (q := 5) (j := 30) rfl rfl⟩, ⟨⟨_, rfl, by decide, WL_of (q := 5) (j := 31) rfl rfl⟩, ⟨⟨_, rfl, by decide, WL_of (q := 5) (j := 32) rfl rfl⟩, ⟨⟨_, rfl, by decide, WL_of (q := 5) (j := 33) rfl rfl⟩, ⟨⟨_, rfl, by decide, WL_of (q := 5) (j := 34) rfl rfl⟩, ⟨⟨_, rfl, by decide, WL_of (q := 5) (j := 35) rfl rfl⟩, ⟨⟨_, rfl, by decide, WL_of (q := 5) (j := 36) rfl rfl⟩, ⟨⟨_, rfl, by decide, WL_of (q := 5) (j := 37) rfl rfl⟩, ⟨⟨_, rfl, by decide, WL_of (q := 5) (j := 38) rfl rfl⟩, ⟨⟨_, rfl, by decide, WL_of (q := 5) (j := 39) rfl rfl⟩, ⟨⟨_, rfl, by decide, WL_of (q := 5) (j := 40) rfl rfl⟩, ⟨⟨_, rfl, by decide, WL_of (q := 5) (j := 41) rfl rfl⟩, ⟨⟨_, rfl, by decide, WL_of (q := 5) (j := 42) rfl rfl⟩, ⟨⟨_, rfl, by decide, WL_of (q := 5) (j := 43) rfl rfl⟩, ⟨⟨_, rfl, by decide, WL_of (q := 5) (j := 44) rfl rfl⟩, ⟨⟨_, rfl, by decide, WL_of (q := 5) (j := 45) rfl rfl⟩, ⟨⟨_, rfl, by decide, WL_of (q := 5) (j := 46) rfl rfl⟩, ⟨⟨_, rfl, by decide, WL_of (q := 5) (j := 47) rfl rfl⟩, trivial⟩⟩⟩⟩⟩⟩⟩⟩⟩⟩⟩⟩⟩⟩⟩⟩⟩⟩⟩⟩⟩⟩⟩⟩
theorem flF_ok5 : ∀ e ∈ flF_5, flP e := allP_mem ⟨⟨_, rfl, by decide, WL_of (q := 5) (j := 48) rfl rfl⟩, ⟨⟨_, rfl, by decide, WL_of (q := 5) (j := 49) rfl rfl⟩, ⟨⟨_, rfl, by decide, WL_of (q := 5) (j := 50) rfl rfl⟩, ⟨⟨_, rfl, by decide, WL_of (q := 5) (j := 51) rfl rfl⟩, ⟨⟨_, rfl, by decide, WL_of (q := 5) (j := 52) rfl rfl⟩, ⟨⟨_, rfl, by decide, WL_of (q := 5) (j := 53) rfl rfl⟩, ⟨⟨_, rfl, by decide, WL_of (q := 5) (j := 54) rfl rfl⟩, ⟨⟨_, rfl, by decide, WL_of (q := 5) (j := 55) rfl rfl⟩, ⟨⟨_, rfl, by decide, WL_of (q := 5) (j := 56) rfl rfl⟩, ⟨⟨_, rfl, by decide, WL_of (q := 5) (j := 57) rfl rfl⟩, ⟨⟨_, rfl, by decide, WL_of (q := 5) (j := 58) rfl rfl⟩, ⟨⟨_, rfl, by decide, WL_of (q := 5) (j := 59) rfl rfl⟩, ⟨⟨_, rfl, by decide, WL_of (q := 5) (j := 60) rfl rfl⟩, ⟨⟨_, rfl, by decide, WL_of (q := 5) (j := 61) rfl rfl⟩, ⟨⟨_, rfl, by decide, WL_of (q := 5) (j := 62) rfl rfl⟩, ⟨⟨_, rfl, by decide, WL_of (q := 5) (j := 63) rfl rfl⟩, ⟨⟨_, rfl, by decide, WL_of (q := 5) (j := 64) rfl rfl⟩, ⟨⟨_, rfl, by decide, WL_of (q := 5) (j := 65) rfl rfl⟩, ⟨⟨_, rfl, by decide, WL_of (q := 5) (j := 66) rfl rfl⟩, ⟨⟨_, rfl, by decide, WL_of (q := 5) (j := 67) rfl rfl⟩, ⟨⟨_, rfl, by decide, WL_of (q := 5) (j := 68) rfl rfl⟩, ⟨⟨_, rfl, by decide, WL_of (q := 5) (j := 69) rfl rfl⟩, ⟨⟨_, rfl, by decide, WL_of (q := 5) (j := 70) rfl rfl⟩, ⟨⟨_, rfl, by decide, WL_of (q := 5) (j := 71) rfl rfl⟩, trivial⟩⟩⟩⟩⟩⟩⟩⟩⟩⟩⟩⟩⟩⟩⟩⟩⟩⟩⟩⟩⟩⟩⟩⟩
theorem flF_ok : ∀ e ∈ flF, flP e := (memP_app flF_ok0 (memP_app flF_ok1 (memP_app flF_ok2 (memP_app flF_ok3 (memP_app flF_ok4 flF_ok5)))))
def fl (o i : Nat) : Option (Nat × Nat) := lo flF o i
def cIP (e : Nat × Nat × Int32) : Prop := Cond.constant (oN e.1) e.2.1 e.2.2 ∈ WL
def cIF_0 : List (Nat × Nat × Int32) := [(9, 149, (-2147483648)), (0, 74, (74256)), (14, 265, (1431655765)), (14, 266, (858993459)), (14, 267, (252645135)), (0, 82, (34272)), (4, 83, (108528)), (10, 56, (262144)), (10, 66, (160000)), (10, 76, (524288)), (10, 278, (262143)), (10, 279, (-2147483648)), (10, 283, (131072)), (10, 286, (524287))]
def cIF : List (Nat × Nat × Int32) := cIF_0
theorem cIF_ok0 : ∀ e ∈ cIF_0, cIP e := allP_mem ⟨WL_of (q := 3) (j := 144) rfl rfl, ⟨WL_of (q := 3) (j := 153) rfl rfl, ⟨WL_of (q := 3) (j := 220) rfl rfl, ⟨WL_of (q := 3) (j := 221) rfl rfl, ⟨WL_of (q := 3) (j := 222) rfl rfl, ⟨WL_of (q := 4) (j := 19) rfl rfl, ⟨WL_of (q := 4) (j := 153) rfl rfl, ⟨WL_of (q := 5) (j := 22) rfl rfl, ⟨WL_of (q := 5) (j := 23) rfl rfl, ⟨WL_of (q := 5) (j := 24) rfl rfl, ⟨WL_of (q := 6) (j := 119) rfl rfl, ⟨WL_of (q := 6) (j := 120) rfl rfl, ⟨WL_of (q := 6) (j := 145) rfl rfl, ⟨WL_of (q := 6) (j := 167) rfl rfl, trivial⟩⟩⟩⟩⟩⟩⟩⟩⟩⟩⟩⟩⟩⟩
theorem cIF_ok : ∀ e ∈ cIF, cIP e := cIF_ok0
def cI (o i : Nat) : Option Int32 := lo cIF o i
def cJP (e : Nat × Nat × Int64) : Prop := Cond.constantLong (oN e.1) e.2.1 e.2.2 ∈ WL
def cJF_0 : List (Nat × Nat × Int64) := [(3, 54, (1751476594)), (3, 56, (1818326117)), (3, 62, (6578553)), (3, 135, (499967946343)), (3, 137, (427071202675)), (3, 143, (1852796517)), (3, 67, (1752132708)), (3, 72, (1650549611)), (8, 88, (549755813888)), (6, 26, (-9223372036854775808)), (1, 44, (-9223372036854775808)), (5, 60, (-9223372036854775808)), (5, 85, (9223372036854775807)), (9, 243, (12)), (9, 245, (1000)), (4, 64, (-68719476736)), (4, 126, (68719476735)), (4, 128, (7)), (4, 139, (-9223372036854775808)), (4, 97, (9223372036854775807)), (7, 50, (9223372036854775807)), (10, 122, (999)), (10, 124, (10)), (10, 126, (48))]
def cJF_1 : List (Nat × Nat × Int64) := [(10, 274, (4)), (10, 276, (-7046029254386353131)), (10, 284, (31)), (10, 316, (-1)), (10, 328, (12)), (10, 330, (1000))]
def cJF : List (Nat × Nat × Int64) := cJF_0 ++ (cJF_1)
theorem cJF_ok0 : ∀ e ∈ cJF_0, cJP e := allP_mem ⟨WL_of (q := 2) (j := 170) rfl rfl, ⟨WL_of (q := 2) (j := 171) rfl rfl, ⟨WL_of (q := 2) (j := 184) rfl rfl, ⟨WL_of (q := 2) (j := 185) rfl rfl, ⟨WL_of (q := 2) (j := 186) rfl rfl, ⟨WL_of (q := 2) (j := 187) rfl rfl, ⟨WL_of (q := 2) (j := 188) rfl rfl, ⟨WL_of (q := 2) (j := 189) rfl rfl, ⟨WL_of (q := 3) (j := 105) rfl rfl, ⟨WL_of (q := 3) (j := 160) rfl rfl, ⟨WL_of (q := 3) (j := 185) rfl rfl, ⟨WL_of (q := 4) (j := 37) rfl rfl, ⟨WL_of (q := 4) (j := 66) rfl rfl, ⟨WL_of (q := 4) (j := 76) rfl rfl, ⟨WL_of (q := 4) (j := 77) rfl rfl, ⟨WL_of (q := 4) (j := 115) rfl rfl, ⟨WL_of (q := 4) (j := 127) rfl rfl, ⟨WL_of (q := 4) (j := 132) rfl rfl, ⟨WL_of (q := 4) (j := 138) rfl rfl, ⟨WL_of (q := 4) (j := 156) rfl rfl, ⟨WL_of (q := 4) (j := 187) rfl rfl, ⟨WL_of (q := 5) (j := 192) rfl rfl, ⟨WL_of (q := 5) (j := 193) rfl rfl, ⟨WL_of (q := 5) (j := 194) rfl rfl, trivial⟩⟩⟩⟩⟩⟩⟩⟩⟩⟩⟩⟩⟩⟩⟩⟩⟩⟩⟩⟩⟩⟩⟩⟩
theorem cJF_ok1 : ∀ e ∈ cJF_1, cJP e := allP_mem ⟨WL_of (q := 6) (j := 117) rfl rfl, ⟨WL_of (q := 6) (j := 118) rfl rfl, ⟨WL_of (q := 6) (j := 166) rfl rfl, ⟨WL_of (q := 6) (j := 180) rfl rfl, ⟨WL_of (q := 6) (j := 185) rfl rfl, ⟨WL_of (q := 6) (j := 186) rfl rfl, trivial⟩⟩⟩⟩⟩⟩
theorem cJF_ok : ∀ e ∈ cJF, cJP e := (memP_app cJF_ok0 cJF_ok1)
def cJ (o i : Nat) : Option Int64 := lo cJF o i
def clP (e : Nat × Nat × Nat) : Prop := ∃ r, vwCl[e.2.2]? = some r ∧ Cond.classLink (oN e.1) e.2.1 r.1 ∈ WL ∧ Cond.instantiable r.1 r.2.2 ∈ WL ∧ Cond.initialized r.1 ∈ WL
def clF_0 : List (Nat × Nat × Nat) := [(13, 7, 9), (9, 13, 3), (9, 22, 8), (9, 32, 0), (0, 15, 2), (0, 22, 4), (0, 31, 1), (1, 9, 6), (0, 40, 5), (5, 9, 6), (0, 47, 7), (13, 10, 10)]
def clF : List (Nat × Nat × Nat) := clF_0
theorem clF_ok0 : ∀ e ∈ clF_0, clP e := allP_mem ⟨⟨_, rfl, WL_of (q := 1) (j := 21) rfl rfl, WL_of (q := 1) (j := 22) rfl rfl, WL_of (q := 1) (j := 1) rfl rfl⟩, ⟨⟨_, rfl, WL_of (q := 1) (j := 29) rfl rfl, WL_of (q := 1) (j := 30) rfl rfl, WL_of (q := 1) (j := 2) rfl rfl⟩, ⟨⟨_, rfl, WL_of (q := 1) (j := 61) rfl rfl, WL_of (q := 1) (j := 62) rfl rfl, WL_of (q := 1) (j := 3) rfl rfl⟩, ⟨⟨_, rfl, WL_of (q := 1) (j := 129) rfl rfl, WL_of (q := 1) (j := 130) rfl rfl, WL_of (q := 1) (j := 4) rfl rfl⟩, ⟨⟨_, rfl, WL_of (q := 1) (j := 135) rfl rfl, WL_of (q := 1) (j := 136) rfl rfl, WL_of (q := 1) (j := 5) rfl rfl⟩, ⟨⟨_, rfl, WL_of (q := 1) (j := 187) rfl rfl, WL_of (q := 1) (j := 188) rfl rfl, WL_of (q := 1) (j := 7) rfl rfl⟩, ⟨⟨_, rfl, WL_of (q := 1) (j := 212) rfl rfl, WL_of (q := 1) (j := 214) rfl rfl, WL_of (q := 1) (j := 8) rfl rfl⟩, ⟨⟨_, rfl, WL_of (q := 1) (j := 219) rfl rfl, WL_of (q := 1) (j := 220) rfl rfl, WL_of (q := 1) (j := 9) rfl rfl⟩, ⟨⟨_, rfl, WL_of (q := 2) (j := 9) rfl rfl, WL_of (q := 2) (j := 11) rfl rfl, WL_of (q := 1) (j := 10) rfl rfl⟩, ⟨⟨_, rfl, WL_of (q := 2) (j := 16) rfl rfl, WL_of (q := 1) (j := 220) rfl rfl, WL_of (q := 1) (j := 9) rfl rfl⟩, ⟨⟨_, rfl, WL_of (q := 2) (j := 35) rfl rfl, WL_of (q := 2) (j := 36) rfl rfl, WL_of (q := 1) (j := 11) rfl rfl⟩, ⟨⟨_, rfl, WL_of (q := 5) (j := 16) rfl rfl, WL_of (q := 5) (j := 17) rfl rfl, WL_of (q := 1) (j := 12) rfl rfl⟩, trivial⟩⟩⟩⟩⟩⟩⟩⟩⟩⟩⟩⟩
theorem clF_ok : ∀ e ∈ clF, clP e := clF_ok0
def clk (o i : Nat) : Option Nat := lo clF o i
def caP (e : Nat × Nat × Nat) : Prop := (e.2.2 = 15 ∨ e.2.2 = 16) ∧ ∃ C, arty (e.2.2 - 11) = .object C ∧ Cond.classLink (oN e.1) e.2.1 C ∈ WL
def caF_0 : List (Nat × Nat × Nat) := [(0, 31, 15), (0, 40, 16)]
def caF : List (Nat × Nat × Nat) := caF_0
theorem caF_ok0 : ∀ e ∈ caF_0, caP e := allP_mem ⟨⟨by decide, _, rfl, WL_of (q := 1) (j := 212) rfl rfl⟩, ⟨⟨by decide, _, rfl, WL_of (q := 2) (j := 9) rfl rfl⟩, trivial⟩⟩
theorem caF_ok : ∀ e ∈ caF, caP e := caF_ok0
def cak (o i : Nat) : Option Nat := lo caF o i
theorem acw : Cond.arrayClass .byte ∈ WL ∧ Cond.arrayClass .int ∈ WL ∧ Cond.arrayClass .long ∈ WL ∧ Cond.arrayClass .boolean ∈ WL := ⟨WL_of (q := 1) (j := 60) rfl rfl, WL_of (q := 1) (j := 128) rfl rfl, WL_of (q := 1) (j := 127) rfl rfl, WL_of (q := 2) (j := 114) rfl rfl⟩
theorem inW_0 : ∀ w ∈ u_ws RX0 TX0 6, w ∈ WL := allP_mem (l := u_ws RX0 TX0 6) ⟨WL_of (q := 2) (j := 64) rfl rfl, ⟨WL_of (q := 2) (j := 66) rfl rfl, ⟨WL_of (q := 2) (j := 68) rfl rfl, ⟨WL_of (q := 2) (j := 70) rfl rfl, ⟨WL_of (q := 2) (j := 72) rfl rfl, ⟨WL_of (q := 2) (j := 74) rfl rfl, trivial⟩⟩⟩⟩⟩⟩
theorem inW_1 : ∀ w ∈ u_ws RX1 TX1 5, w ∈ WL := allP_mem (l := u_ws RX1 TX1 5) ⟨WL_of (q := 1) (j := 238) rfl rfl, ⟨WL_of (q := 2) (j := 0) rfl rfl, ⟨WL_of (q := 2) (j := 2) rfl rfl, ⟨WL_of (q := 2) (j := 4) rfl rfl, ⟨WL_of (q := 2) (j := 6) rfl rfl, trivial⟩⟩⟩⟩⟩
theorem inW_2 : ∀ w ∈ u_ws RX3 TX3 12, w ∈ WL := allP_mem (l := u_ws RX3 TX3 12) ⟨WL_of (q := 1) (j := 162) rfl rfl, ⟨WL_of (q := 1) (j := 164) rfl rfl, ⟨WL_of (q := 1) (j := 166) rfl rfl, ⟨WL_of (q := 1) (j := 168) rfl rfl, ⟨WL_of (q := 1) (j := 170) rfl rfl, ⟨WL_of (q := 1) (j := 172) rfl rfl, ⟨WL_of (q := 1) (j := 174) rfl rfl, ⟨WL_of (q := 1) (j := 176) rfl rfl, ⟨WL_of (q := 1) (j := 178) rfl rfl, ⟨WL_of (q := 1) (j := 180) rfl rfl, ⟨WL_of (q := 1) (j := 182) rfl rfl, ⟨WL_of (q := 1) (j := 184) rfl rfl, trivial⟩⟩⟩⟩⟩⟩⟩⟩⟩⟩⟩⟩
theorem inW_3 : ∀ w ∈ u_ws RX4 TX4 8, w ∈ WL := allP_mem (l := u_ws RX4 TX4 8) ⟨WL_of (q := 1) (j := 43) rfl rfl, ⟨WL_of (q := 1) (j := 45) rfl rfl, ⟨WL_of (q := 1) (j := 47) rfl rfl, ⟨WL_of (q := 1) (j := 49) rfl rfl, ⟨WL_of (q := 1) (j := 51) rfl rfl, ⟨WL_of (q := 1) (j := 53) rfl rfl, ⟨WL_of (q := 1) (j := 55) rfl rfl, ⟨WL_of (q := 1) (j := 57) rfl rfl, trivial⟩⟩⟩⟩⟩⟩⟩⟩
theorem inW_4 : ∀ w ∈ u_ws RX5 TX5 6, w ∈ WL := allP_mem (l := u_ws RX5 TX5 6) ⟨WL_of (q := 1) (j := 199) rfl rfl, ⟨WL_of (q := 1) (j := 201) rfl rfl, ⟨WL_of (q := 1) (j := 203) rfl rfl, ⟨WL_of (q := 1) (j := 205) rfl rfl, ⟨WL_of (q := 1) (j := 207) rfl rfl, ⟨WL_of (q := 1) (j := 209) rfl rfl, trivial⟩⟩⟩⟩⟩⟩
theorem inW_5 : ∀ w ∈ u_ws RX6 TX6 5, w ∈ WL := allP_mem (l := u_ws RX6 TX6 5) ⟨WL_of (q := 2) (j := 24) rfl rfl, ⟨WL_of (q := 2) (j := 26) rfl rfl, ⟨WL_of (q := 2) (j := 28) rfl rfl, ⟨WL_of (q := 2) (j := 30) rfl rfl, ⟨WL_of (q := 2) (j := 32) rfl rfl, trivial⟩⟩⟩⟩⟩
theorem inW_6 : ∀ w ∈ u_ws RX8 TX8 2, w ∈ WL := allP_mem (l := u_ws RX8 TX8 2) ⟨WL_of (q := 1) (j := 227) rfl rfl, ⟨WL_of (q := 1) (j := 229) rfl rfl, trivial⟩⟩
theorem inW_7 : ∀ w ∈ u_ws RX9 TX9 5, w ∈ WL := allP_mem (l := u_ws RX9 TX9 5) ⟨WL_of (q := 2) (j := 46) rfl rfl, ⟨WL_of (q := 2) (j := 48) rfl rfl, ⟨WL_of (q := 2) (j := 50) rfl rfl, ⟨WL_of (q := 2) (j := 52) rfl rfl, ⟨WL_of (q := 2) (j := 54) rfl rfl, trivial⟩⟩⟩⟩⟩
theorem inW_8 : ∀ w ∈ u_ws RX10 TX10 13, w ∈ WL := allP_mem (l := u_ws RX10 TX10 13) ⟨WL_of (q := 1) (j := 100) rfl rfl, ⟨WL_of (q := 1) (j := 102) rfl rfl, ⟨WL_of (q := 1) (j := 104) rfl rfl, ⟨WL_of (q := 1) (j := 106) rfl rfl, ⟨WL_of (q := 1) (j := 108) rfl rfl, ⟨WL_of (q := 1) (j := 110) rfl rfl, ⟨WL_of (q := 1) (j := 112) rfl rfl, ⟨WL_of (q := 1) (j := 114) rfl rfl, ⟨WL_of (q := 1) (j := 116) rfl rfl, ⟨WL_of (q := 1) (j := 118) rfl rfl, ⟨WL_of (q := 1) (j := 120) rfl rfl, ⟨WL_of (q := 1) (j := 122) rfl rfl, ⟨WL_of (q := 1) (j := 124) rfl rfl, trivial⟩⟩⟩⟩⟩⟩⟩⟩⟩⟩⟩⟩⟩
theorem inW_9 : ∀ w ∈ u_ws RX11 TX11 12, w ∈ WL := allP_mem (l := u_ws RX11 TX11 12) ⟨WL_of (q := 2) (j := 89) rfl rfl, ⟨WL_of (q := 2) (j := 91) rfl rfl, ⟨WL_of (q := 2) (j := 93) rfl rfl, ⟨WL_of (q := 2) (j := 95) rfl rfl, ⟨WL_of (q := 2) (j := 97) rfl rfl, ⟨WL_of (q := 2) (j := 99) rfl rfl, ⟨WL_of (q := 2) (j := 101) rfl rfl, ⟨WL_of (q := 2) (j := 103) rfl rfl, ⟨WL_of (q := 2) (j := 105) rfl rfl, ⟨WL_of (q := 2) (j := 107) rfl rfl, ⟨WL_of (q := 2) (j := 109) rfl rfl, ⟨WL_of (q := 2) (j := 111) rfl rfl, trivial⟩⟩⟩⟩⟩⟩⟩⟩⟩⟩⟩⟩
theorem inW_10 : ∀ w ∈ u_ws RX12 TX12 47, w ∈ WL := allP_mem (l := u_ws RX12 TX12 47) ⟨WL_of (q := 5) (j := 72) rfl rfl, ⟨WL_of (q := 5) (j := 74) rfl rfl, ⟨WL_of (q := 5) (j := 76) rfl rfl, ⟨WL_of (q := 5) (j := 78) rfl rfl, ⟨WL_of (q := 5) (j := 80) rfl rfl, ⟨WL_of (q := 5) (j := 82) rfl rfl, ⟨WL_of (q := 5) (j := 84) rfl rfl, ⟨WL_of (q := 5) (j := 86) rfl rfl, ⟨WL_of (q := 5) (j := 88) rfl rfl, ⟨WL_of (q := 5) (j := 90) rfl rfl, ⟨WL_of (q := 5) (j := 92) rfl rfl, ⟨WL_of (q := 5) (j := 94) rfl rfl, ⟨WL_of (q := 5) (j := 96) rfl rfl, ⟨WL_of (q := 5) (j := 98) rfl rfl, ⟨WL_of (q := 5) (j := 100) rfl rfl, ⟨WL_of (q := 5) (j := 102) rfl rfl, ⟨WL_of (q := 5) (j := 104) rfl rfl, ⟨WL_of (q := 5) (j := 106) rfl rfl, ⟨WL_of (q := 5) (j := 108) rfl rfl, ⟨WL_of (q := 5) (j := 110) rfl rfl, ⟨WL_of (q := 5) (j := 112) rfl rfl, ⟨WL_of (q := 5) (j := 114) rfl rfl, ⟨WL_of (q := 5) (j := 116) rfl rfl, ⟨WL_of (q := 5) (j := 118) rfl rfl, ⟨WL_of (q := 5) (j := 120) rfl rfl, ⟨WL_of (q := 5) (j := 122) rfl rfl, ⟨WL_of (q := 5) (j := 124) rfl rfl, ⟨WL_of (q := 5) (j := 126) rfl rfl, ⟨WL_of (q := 5) (j := 128) rfl rfl, ⟨WL_of (q := 5) (j := 130) rfl rfl, ⟨WL_of (q := 5) (j := 132) rfl rfl, ⟨WL_of (q := 5) (j := 134) rfl rfl, ⟨WL_of (q := 5) (j := 136) rfl rfl, ⟨WL_of (q := 5) (j := 138) rfl rfl, ⟨WL_of (q := 5) (j := 140) rfl rfl, ⟨WL_of (q := 5) (j := 142) rfl rfl, ⟨WL_of (q := 5) (j := 144) rfl rfl, ⟨WL_of (q := 5) (j := 146) rfl rfl, ⟨WL_of (q := 5) (j := 148) rfl rfl, ⟨WL_of (q := 5) (j := 150) rfl rfl, ⟨WL_of (q := 5) (j := 152) rfl rfl, ⟨WL_of (q := 5) (j := 154) rfl rfl, ⟨WL_of (q := 5) (j := 156) rfl rfl, ⟨WL_of (q := 5) (j := 158) rfl rfl, ⟨WL_of (q := 5) (j := 160) rfl rfl, ⟨WL_of (q := 5) (j := 162) rfl rfl, ⟨WL_of (q := 5) (j := 164) rfl rfl, trivial⟩⟩⟩⟩⟩⟩⟩⟩⟩⟩⟩⟩⟩⟩⟩⟩⟩⟩⟩⟩⟩⟩⟩⟩⟩⟩⟩⟩⟩⟩⟩⟩⟩⟩⟩⟩⟩⟩⟩⟩⟩⟩⟩⟩⟩⟩⟩
theorem inCl_WL : inCl WL := by
  intro c r h
  match c, h with
  | 0, h => cases h; exact inW_0
  | 1, h => cases h; exact inW_1
  | 2, h => cases h; exact inW_2
  | 3, h => cases h; exact inW_3
  | 4, h => cases h; exact inW_4
  | 5, h => cases h; exact inW_5
  | 6, h => cases h; exact inW_6
  | 7, h => cases h; exact inW_7
  | 8, h => cases h; exact inW_8
  | 9, h => cases h; exact inW_9
  | 10, h => cases h; exact inW_10
  | c + 11, h => simp [vwCl] at h
end
section
/-! CODE of the methods, by number: pc, instruction, length (printed of the program). -/
def code_0_0 : List (Nat × Instr × Nat) := [(0, .aload_n 0, 1), (1, .invokespecial 1, 3), (4, .aload_n 0, 1), (5, .sipush 400, 3), (8, .newarray .byte, 2), (10, .putfield 9, 3), (13, .aload_n 0, 1), (14, .new 13, 3), (17, .dup, 1), (18, .aload_n 0, 1), (19, .getfield 9, 3), (22, .invokespecial 15, 3), (25, .putfield 18, 3), (28, .aload_n 0, 1), (29, .new 22, 3), (32, .dup, 1), (33, .invokespecial 24, 3), (36, .putfield 25, 3), (39, .aload_n 0, 1), (40, .new 22, 3), (43, .dup, 1), (44, .invokespecial 24, 3), (47, .putfield 29, 3), (50, .aload_n 0, 1), (51, .new 32, 3), (54, .dup, 1), (55, .aload_n 0, 1), (56, .getfield 29, 3), (59, .invokespecial 34, 3), (62, .putfield 37, 3), (65, .aload_n 0, 1), (66, .iconst (-1), 1), (67, .putfield 41, 3), (70, .aload_n 0, 1), (71, .iconst 4, 1), (72, .newarray .boolean, 2), (74, .putfield 45, 3), (77, .aload_n 0, 1), (78, .iconst 4, 1), (79, .newarray .long, 2), (81, .putfield 49, 3), (84, .aload_n 0, 1), (85, .iconst 4, 1), (86, .newarray .int, 2), (88, .putfield 53, 3), (91, .return_, 1)]
theorem okc_0_0 : ∀ e ∈ code_0_0, decode (mB 0) e.1 = .ok (e.2.1, e.2.2) := by decide +kernel
def code_0 : List (Nat × Instr × Nat) := code_0_0
theorem okc_0 : ∀ e ∈ code_0, decode (mB 0) e.1 = .ok (e.2.1, e.2.2) := okc_0_0
def code_1_0 : List (Nat × Instr × Nat) := [(0, .aload_n 0, 1), (1, .invokespecial 3, 3), (4, .aload_n 0, 1), (5, .aload_n 1, 1), (6, .putfield 9, 3), (9, .return_, 1)]
theorem okc_1_0 : ∀ e ∈ code_1_0, decode (mB 1) e.1 = .ok (e.2.1, e.2.2) := by decide +kernel
def code_1 : List (Nat × Instr × Nat) := code_1_0
theorem okc_1 : ∀ e ∈ code_1, decode (mB 1) e.1 = .ok (e.2.1, e.2.2) := okc_1_0
def code_2_0 : List (Nat × Instr × Nat) := [(0, .aload_n 0, 1), (1, .invokespecial 3, 3), (4, .aload_n 0, 1), (5, .iconst 3, 1), (6, .newarray .long, 2), (8, .putfield 11, 3), (11, .aload_n 0, 1), (12, .bipush 9, 2), (14, .newarray .int, 2), (16, .putfield 17, 3), (19, .aload_n 0, 1), (20, .bipush 6, 2), (22, .newarray .int, 2), (24, .putfield 21, 3), (27, .aload_n 0, 1), (28, .bipush 18, 2), (30, .newarray .int, 2), (32, .putfield 24, 3), (35, .aload_n 0, 1), (36, .bipush 18, 2), (38, .newarray .int, 2), (40, .putfield 27, 3), (43, .aload_n 0, 1), (44, .bipush 18, 2), (46, .newarray .int, 2), (48, .putfield 30, 3), (51, .return_, 1)]
theorem okc_2_0 : ∀ e ∈ code_2_0, decode (mB 2) e.1 = .ok (e.2.1, e.2.2) := by decide +kernel
def code_2 : List (Nat × Instr × Nat) := code_2_0
theorem okc_2 : ∀ e ∈ code_2, decode (mB 2) e.1 = .ok (e.2.1, e.2.2) := okc_2_0
def code_3_0 : List (Nat × Instr × Nat) := [(0, .aload_n 0, 1), (1, .invokespecial 3, 3), (4, .aload_n 0, 1), (5, .aload_n 1, 1), (6, .putfield 9, 3), (9, .aload_n 0, 1), (10, .new 15, 3), (13, .dup, 1), (14, .invokespecial 17, 3), (17, .putfield 18, 3), (20, .aload_n 0, 1), (21, .new 22, 3), (24, .dup, 1), (25, .aload_n 1, 1), (26, .aload_n 0, 1), (27, .getfield 18, 3), (30, .invokespecial 24, 3), (33, .putfield 27, 3), (36, .aload_n 0, 1), (37, .bipush 9, 2), (39, .anewarray 31, 3), (42, .putfield 33, 3), (45, .iconst 0, 1), (46, .istore_n 2, 1), (47, .iload_n 2, 1), (48, .iconst 3, 1), (49, .if_icmp .ge 53, 3), (52, .aconst_null, 1), (53, .astore_n 3, 1), (54, .iconst 0, 1), (55, .istore 4, 2), (57, .iload 4, 2), (59, .iconst 2, 1), (60, .if_icmp .gt 36, 3), (63, .new 31, 3), (66, .dup, 1), (67, .aload_n 1, 1), (68, .aload_n 0, 1), (69, .getfield 18, 3), (72, .iload_n 2, 1), (73, .aload_n 3, 1), (74, .invokespecial 37, 3), (77, .astore_n 3, 1), (78, .aload_n 0, 1), (79, .getfield 33, 3), (82, .iload_n 2, 1), (83, .iconst 3, 1), (84, .imul, 1)]
theorem okc_3_0 : ∀ e ∈ code_3_0, decode (mB 3) e.1 = .ok (e.2.1, e.2.2) := by decide +kernel
def code_3_1 : List (Nat × Instr × Nat) := [(85, .iload 4, 2), (87, .iadd, 1), (88, .aload_n 3, 1), (89, .aastore, 1), (90, .iinc 4 1, 3), (93, .goto (-36), 3), (96, .iinc 2 1, 3), (99, .goto (-52), 3), (102, .aload_n 0, 1), (103, .bipush 12, 2), (105, .anewarray 40, 3), (108, .putfield 42, 3), (111, .iconst 0, 1), (112, .istore_n 2, 1), (113, .iload_n 2, 1), (114, .aload_n 0, 1), (115, .getfield 42, 3), (118, .arraylength, 1), (119, .if_icmp .ge 42, 3), (122, .aload_n 0, 1), (123, .getfield 33, 3), (126, .iload_n 2, 1), (127, .iconst 4, 1), (128, .idiv, 1), (129, .iconst 3, 1), (130, .imul, 1), (131, .aaload, 1), (132, .astore_n 3, 1), (133, .aload_n 0, 1), (134, .getfield 42, 3), (137, .iload_n 2, 1), (138, .new 40, 3), (141, .dup, 1), (142, .aload_n 1, 1), (143, .aload_n 0, 1), (144, .getfield 18, 3), (147, .iload_n 2, 1), (148, .iconst 4, 1), (149, .irem, 1), (150, .aload_n 3, 1), (151, .invokespecial 46, 3), (154, .aastore, 1), (155, .iinc 2 1, 3), (158, .goto (-45), 3), (161, .aload_n 0, 1), (162, .new 47, 3), (165, .dup, 1), (166, .aload_n 1, 1)]
theorem okc_3_1 : ∀ e ∈ code_3_1, decode (mB 3) e.1 = .ok (e.2.1, e.2.2) := by decide +kernel
def code_3_2 : List (Nat × Instr × Nat) := [(167, .aload_n 0, 1), (168, .getfield 42, 3), (171, .iconst 0, 1), (172, .aaload, 1), (173, .aload_n 0, 1), (174, .getfield 33, 3), (177, .iconst 0, 1), (178, .aaload, 1), (179, .invokespecial 49, 3), (182, .putfield 52, 3), (185, .return_, 1)]
theorem okc_3_2 : ∀ e ∈ code_3_2, decode (mB 3) e.1 = .ok (e.2.1, e.2.2) := by decide +kernel
def code_3 : List (Nat × Instr × Nat) := code_3_0 ++ (code_3_1 ++ (code_3_2))
theorem okc_3 : ∀ e ∈ code_3, decode (mB 3) e.1 = .ok (e.2.1, e.2.2) := (memP_app okc_3_0 (memP_app okc_3_1 okc_3_2))
def code_4_0 : List (Nat × Instr × Nat) := [(0, .aload_n 0, 1), (1, .invokespecial 9, 3), (4, .aload_n 0, 1), (5, .sipush 4096, 3), (8, .newarray .int, 2), (10, .putfield 15, 3), (13, .aload_n 0, 1), (14, .sipush 210, 3), (17, .newarray .int, 2), (19, .putfield 19, 3), (22, .aload_n 0, 1), (23, .bipush 7, 2), (25, .newarray .int, 2), (27, .putfield 22, 3), (30, .aload_n 0, 1), (31, .sipush 1470, 3), (34, .newarray .int, 2), (36, .putfield 25, 3), (39, .aload_n 0, 1), (40, .sipush 1470, 3), (43, .newarray .int, 2), (45, .putfield 28, 3), (48, .aload_n 0, 1), (49, .bipush 7, 2), (51, .newarray .int, 2), (53, .putfield 31, 3), (56, .aload_n 0, 1), (57, .bipush 7, 2), (59, .newarray .int, 2), (61, .putfield 34, 3), (64, .aload_n 0, 1), (65, .bipush 8, 2), (67, .newarray .int, 2), (69, .putfield 37, 3), (72, .aload_n 0, 1), (73, .bipush 8, 2), (75, .newarray .int, 2), (77, .putfield 40, 3), (80, .aload_n 0, 1), (81, .bipush 8, 2), (83, .newarray .int, 2), (85, .putfield 43, 3), (88, .aload_n 0, 1), (89, .getfield 15, 3), (92, .aload_n 0, 1), (93, .getfield 19, 3), (96, .aload_n 0, 1), (97, .getfield 22, 3)]
theorem okc_4_0 : ∀ e ∈ code_4_0, decode (mB 4) e.1 = .ok (e.2.1, e.2.2) := by decide +kernel
def code_4_1 : List (Nat × Instr × Nat) := [(100, .invokestatic 46, 3), (103, .bipush 7, 2), (105, .newarray .int, 2), (107, .astore_n 1, 1), (108, .aload_n 0, 1), (109, .getfield 19, 3), (112, .aload_n 0, 1), (113, .getfield 22, 3), (116, .aload_n 0, 1), (117, .getfield 25, 3), (120, .aload_n 1, 1), (121, .invokestatic 50, 3), (124, .aload_n 0, 1), (125, .getfield 19, 3), (128, .aload_n 1, 1), (129, .aload_n 0, 1), (130, .getfield 28, 3), (133, .aload_n 0, 1), (134, .getfield 31, 3), (137, .invokestatic 50, 3), (140, .return_, 1)]
theorem okc_4_1 : ∀ e ∈ code_4_1, decode (mB 4) e.1 = .ok (e.2.1, e.2.2) := by decide +kernel
def code_4 : List (Nat × Instr × Nat) := code_4_0 ++ (code_4_1)
theorem okc_4 : ∀ e ∈ code_4, decode (mB 4) e.1 = .ok (e.2.1, e.2.2) := (memP_app okc_4_0 okc_4_1)
def code_5_0 : List (Nat × Instr × Nat) := [(0, .aload_n 0, 1), (1, .iconst (-1), 1), (2, .invokestatic 54, 3), (5, .iconst 0, 1), (6, .istore_n 3, 1), (7, .iconst 0, 1), (8, .istore 4, 2), (10, .iload 4, 2), (12, .bipush 6, 2), (14, .if_icmp .gt 114, 3), (17, .iconst 0, 1), (18, .istore 5, 2), (20, .iload 5, 2), (22, .iload 4, 2), (24, .if_icmp .gt 93, 3), (27, .iconst 0, 1), (28, .istore 6, 2), (30, .iload 5, 2), (32, .iload 6, 2), (34, .iadd, 1), (35, .iload 4, 2), (37, .if_icmp .gt 74, 3), (40, .iconst 0, 1), (41, .istore 7, 2), (43, .iload 5, 2), (45, .iload 6, 2), (47, .iadd, 1), (48, .iload 7, 2), (50, .iadd, 1), (51, .iload 4, 2), (53, .if_icmp .gt 52, 3), (56, .iload 4, 2), (58, .iload 5, 2), (60, .isub, 1), (61, .iload 6, 2), (63, .isub, 1), (64, .iload 7, 2), (66, .isub, 1), (67, .istore 8, 2), (69, .aload_n 0, 1), (70, .iload 5, 2), (72, .iload 6, 2), (74, .iconst 3, 1), (75, .ishl, 1), (76, .ior, 1), (77, .iload 7, 2), (79, .bipush 6, 2), (81, .ishl, 1)]
theorem okc_5_0 : ∀ e ∈ code_5_0, decode (mB 5) e.1 = .ok (e.2.1, e.2.2) := by decide +kernel
def code_5_1 : List (Nat × Instr × Nat) := [(82, .ior, 1), (83, .iload 8, 2), (85, .bipush 9, 2), (87, .ishl, 1), (88, .ior, 1), (89, .iload_n 3, 1), (90, .iastore, 1), (91, .aload_n 1, 1), (92, .iload_n 3, 1), (93, .iload 4, 2), (95, .iastore, 1), (96, .iinc 3 1, 3), (99, .iinc 7 1, 3), (102, .goto (-59), 3), (105, .iinc 6 1, 3), (108, .goto (-78), 3), (111, .iinc 5 1, 3), (114, .goto (-94), 3), (117, .aload_n 2, 1), (118, .iload 4, 2), (120, .iload_n 3, 1), (121, .iastore, 1), (122, .iinc 4 1, 3), (125, .goto (-115), 3), (128, .return_, 1)]
theorem okc_5_1 : ∀ e ∈ code_5_1, decode (mB 5) e.1 = .ok (e.2.1, e.2.2) := by decide +kernel
def code_5 : List (Nat × Instr × Nat) := code_5_0 ++ (code_5_1)
theorem okc_5 : ∀ e ∈ code_5, decode (mB 5) e.1 = .ok (e.2.1, e.2.2) := (memP_app okc_5_0 okc_5_1)
def code_6_0 : List (Nat × Instr × Nat) := [(0, .iconst 0, 1), (1, .istore_n 2, 1), (2, .aload_n 0, 1), (3, .arraylength, 1), (4, .istore_n 3, 1), (5, .iload_n 2, 1), (6, .iload_n 3, 1), (7, .if_icmp .ge 13, 3), (10, .aload_n 0, 1), (11, .iload_n 2, 1), (12, .iload_n 1, 1), (13, .iastore, 1), (14, .iinc 2 1, 3), (17, .goto (-12), 3), (20, .return_, 1)]
theorem okc_6_0 : ∀ e ∈ code_6_0, decode (mB 6) e.1 = .ok (e.2.1, e.2.2) := by decide +kernel
def code_6 : List (Nat × Instr × Nat) := code_6_0
theorem okc_6 : ∀ e ∈ code_6, decode (mB 6) e.1 = .ok (e.2.1, e.2.2) := okc_6_0
def code_7_0 : List (Nat × Instr × Nat) := [(0, .iconst 0, 1), (1, .istore 4, 2), (3, .iload 4, 2), (5, .bipush 6, 2), (7, .if_icmp .gt 71, 3), (10, .iconst 0, 1), (11, .istore 5, 2), (13, .iconst 0, 1), (14, .istore 6, 2), (16, .iload 6, 2), (18, .sipush 210, 3), (21, .if_icmp .ge 45, 3), (24, .aload_n 0, 1), (25, .iload 6, 2), (27, .iaload, 1), (28, .iload 4, 2), (30, .if_icmp .gt 36, 3), (33, .aload_n 2, 1), (34, .iload 4, 2), (36, .sipush 210, 3), (39, .imul, 1), (40, .iload 6, 2), (42, .iadd, 1), (43, .iload 5, 2), (45, .iastore, 1), (46, .iload 5, 2), (48, .aload_n 1, 1), (49, .iload 4, 2), (51, .aload_n 0, 1), (52, .iload 6, 2), (54, .iaload, 1), (55, .isub, 1), (56, .iaload, 1), (57, .iadd, 1), (58, .istore 5, 2), (60, .iinc 6 1, 3), (63, .goto (-47), 3), (66, .aload_n 3, 1), (67, .iload 4, 2), (69, .iload 5, 2), (71, .iastore, 1), (72, .iinc 4 1, 3), (75, .goto (-72), 3), (78, .return_, 1)]
theorem okc_7_0 : ∀ e ∈ code_7_0, decode (mB 7) e.1 = .ok (e.2.1, e.2.2) := by decide +kernel
def code_7 : List (Nat × Instr × Nat) := code_7_0
theorem okc_7 : ∀ e ∈ code_7, decode (mB 7) e.1 = .ok (e.2.1, e.2.2) := okc_7_0
def code_8_0 : List (Nat × Instr × Nat) := [(0, .aload_n 0, 1), (1, .invokespecial 7, 3), (4, .aload_n 0, 1), (5, .aload_n 1, 1), (6, .putfield 13, 3), (9, .aload_n 0, 1), (10, .aload_n 2, 1), (11, .putfield 17, 3), (14, .aload_n 0, 1), (15, .iconst 0, 1), (16, .newarray .int, 2), (18, .putfield 21, 3), (21, .return_, 1)]
theorem okc_8_0 : ∀ e ∈ code_8_0, decode (mB 8) e.1 = .ok (e.2.1, e.2.2) := by decide +kernel
def code_8 : List (Nat × Instr × Nat) := code_8_0
theorem okc_8 : ∀ e ∈ code_8, decode (mB 8) e.1 = .ok (e.2.1, e.2.2) := okc_8_0
def code_9_0 : List (Nat × Instr × Nat) := [(0, .aload_n 0, 1), (1, .invokespecial 3, 3), (4, .aload_n 0, 1), (5, .new 9, 3), (8, .dup, 1), (9, .invokespecial 11, 3), (12, .putfield 12, 3), (15, .aload_n 0, 1), (16, .aload_n 1, 1), (17, .putfield 18, 3), (20, .aload_n 0, 1), (21, .aload_n 2, 1), (22, .putfield 22, 3), (25, .aload_n 0, 1), (26, .iload_n 3, 1), (27, .putfield 26, 3), (30, .aload_n 0, 1), (31, .aload 4, 2), (33, .putfield 30, 3), (36, .return_, 1)]
theorem okc_9_0 : ∀ e ∈ code_9_0, decode (mB 9) e.1 = .ok (e.2.1, e.2.2) := by decide +kernel
def code_9 : List (Nat × Instr × Nat) := code_9_0
theorem okc_9 : ∀ e ∈ code_9, decode (mB 9) e.1 = .ok (e.2.1, e.2.2) := okc_9_0
def code_10_0 : List (Nat × Instr × Nat) := [(0, .aload_n 0, 1), (1, .invokespecial 3, 3), (4, .aload_n 0, 1), (5, .iconst 0, 1), (6, .newarray .long, 2), (8, .putfield 9, 3), (11, .return_, 1)]
theorem okc_10_0 : ∀ e ∈ code_10_0, decode (mB 10) e.1 = .ok (e.2.1, e.2.2) := by decide +kernel
def code_10 : List (Nat × Instr × Nat) := code_10_0
theorem okc_10 : ∀ e ∈ code_10, decode (mB 10) e.1 = .ok (e.2.1, e.2.2) := okc_10_0
def code_11_0 : List (Nat × Instr × Nat) := [(0, .aload_n 0, 1), (1, .invokespecial 3, 3), (4, .aload_n 0, 1), (5, .new 9, 3), (8, .dup, 1), (9, .invokespecial 11, 3), (12, .putfield 12, 3), (15, .aload_n 0, 1), (16, .aload_n 1, 1), (17, .putfield 18, 3), (20, .aload_n 0, 1), (21, .aload_n 2, 1), (22, .putfield 22, 3), (25, .aload_n 0, 1), (26, .iload_n 3, 1), (27, .putfield 26, 3), (30, .aload_n 0, 1), (31, .aload 4, 2), (33, .putfield 30, 3), (36, .return_, 1)]
theorem okc_11_0 : ∀ e ∈ code_11_0, decode (mB 11) e.1 = .ok (e.2.1, e.2.2) := by decide +kernel
def code_11 : List (Nat × Instr × Nat) := code_11_0
theorem okc_11 : ∀ e ∈ code_11, decode (mB 11) e.1 = .ok (e.2.1, e.2.2) := okc_11_0
def code_12_0 : List (Nat × Instr × Nat) := [(0, .aload_n 0, 1), (1, .invokespecial 3, 3), (4, .aload_n 0, 1), (5, .aload_n 1, 1), (6, .putfield 9, 3), (9, .aload_n 0, 1), (10, .aload_n 2, 1), (11, .putfield 15, 3), (14, .aload_n 0, 1), (15, .aload_n 3, 1), (16, .putfield 19, 3), (19, .return_, 1)]
theorem okc_12_0 : ∀ e ∈ code_12_0, decode (mB 12) e.1 = .ok (e.2.1, e.2.2) := by decide +kernel
def code_12 : List (Nat × Instr × Nat) := code_12_0
theorem okc_12 : ∀ e ∈ code_12, decode (mB 12) e.1 = .ok (e.2.1, e.2.2) := okc_12_0
def code_13_0 : List (Nat × Instr × Nat) := [(0, .aload_n 0, 1), (1, .getfield 57, 3), (4, .bipush 20, 2), (6, .iadd, 1), (7, .sipush 400, 3), (10, .if_icmp .le 5, 3), (13, .iconst (-1), 1), (14, .ireturn, 1), (15, .aload_n 0, 1), (16, .iload_n 1, 1), (17, .invokevirtual 60, 3), (20, .aload_n 0, 1), (21, .iload_n 2, 1), (22, .invokevirtual 60, 3), (25, .aload_n 0, 1), (26, .iload_n 3, 1), (27, .invokevirtual 60, 3), (30, .aload_n 0, 1), (31, .iload 4, 2), (33, .invokevirtual 60, 3), (36, .aload_n 0, 1), (37, .iload 5, 2), (39, .invokevirtual 60, 3), (42, .aload_n 0, 1), (43, .getfield 57, 3), (46, .ireturn, 1)]
theorem okc_13_0 : ∀ e ∈ code_13_0, decode (mB 13) e.1 = .ok (e.2.1, e.2.2) := by decide +kernel
def code_13 : List (Nat × Instr × Nat) := code_13_0
theorem okc_13 : ∀ e ∈ code_13, decode (mB 13) e.1 = .ok (e.2.1, e.2.2) := okc_13_0
def code_14_0 : List (Nat × Instr × Nat) := [(0, .bipush 24, 2), (2, .istore_n 2, 1), (3, .iload_n 2, 1), (4, .ifCond .lt 42, 3), (7, .aload_n 0, 1), (8, .getfield 57, 3), (11, .sipush 400, 3), (14, .if_icmp .ge 26, 3), (17, .aload_n 0, 1), (18, .getfield 9, 3), (21, .aload_n 0, 1), (22, .getfield 57, 3), (25, .iload_n 1, 1), (26, .iload_n 2, 1), (27, .iushr, 1), (28, .i2b, 1), (29, .bastore, 1), (30, .aload_n 0, 1), (31, .dup, 1), (32, .getfield 57, 3), (35, .iconst 1, 1), (36, .iadd, 1), (37, .putfield 57, 3), (40, .iinc 2 (-8), 3), (43, .goto (-40), 3), (46, .return_, 1)]
theorem okc_14_0 : ∀ e ∈ code_14_0, decode (mB 14) e.1 = .ok (e.2.1, e.2.2) := by decide +kernel
def code_14 : List (Nat × Instr × Nat) := code_14_0
theorem okc_14 : ∀ e ∈ code_14, decode (mB 14) e.1 = .ok (e.2.1, e.2.2) := okc_14_0
def code_15_0 : List (Nat × Instr × Nat) := [(0, .iload_n 1, 1), (1, .ifCond .lt 11, 3), (4, .iload_n 1, 1), (5, .aload_n 0, 1), (6, .getfield 57, 3), (9, .if_icmp .le 5, 3), (12, .iconst 0, 1), (13, .ireturn, 1), (14, .aload_n 0, 1), (15, .iload_n 1, 1), (16, .putfield 57, 3), (19, .iconst 1, 1), (20, .ireturn, 1)]
theorem okc_15_0 : ∀ e ∈ code_15_0, decode (mB 15) e.1 = .ok (e.2.1, e.2.2) := by decide +kernel
def code_15 : List (Nat × Instr × Nat) := code_15_0
theorem okc_15 : ∀ e ∈ code_15, decode (mB 15) e.1 = .ok (e.2.1, e.2.2) := okc_15_0
def code_16_0 : List (Nat × Instr × Nat) := [(0, .aload_n 0, 1), (1, .getfield 18, 3), (4, .aload_n 0, 1), (5, .getfield 57, 3), (8, .aload_n 0, 1), (9, .getfield 25, 3), (12, .invokevirtual 64, 3), (15, .ireturn, 1)]
theorem okc_16_0 : ∀ e ∈ code_16_0, decode (mB 16) e.1 = .ok (e.2.1, e.2.2) := by decide +kernel
def code_16 : List (Nat × Instr × Nat) := code_16_0
theorem okc_16 : ∀ e ∈ code_16, decode (mB 16) e.1 = .ok (e.2.1, e.2.2) := okc_16_0
def code_17_0 : List (Nat × Instr × Nat) := [(0, .aload_n 0, 1), (1, .iload_n 1, 1), (2, .aload_n 0, 1), (3, .getfield 9, 3), (6, .arraylength, 1), (7, .invokestatic 15, 3), (10, .putfield 21, 3), (13, .aload_n 0, 1), (14, .iconst 0, 1), (15, .putfield 25, 3), (18, .aload_n 2, 1), (19, .invokevirtual 28, 3), (22, .aload_n 0, 1), (23, .invokevirtual 33, 3), (26, .iconst 0, 1), (27, .istore_n 3, 1), (28, .iload_n 3, 1), (29, .aload_n 0, 1), (30, .getfield 21, 3), (33, .if_icmp .gt 45, 3), (36, .aload_n 0, 1), (37, .getfield 36, 3), (40, .ifCond .ne 19, 3), (43, .aload_n 2, 1), (44, .invokevirtual 39, 3), (47, .ifCond .ne 10, 3), (50, .aload_n 0, 1), (51, .getfield 43, 3), (54, .goto 4, 3), (57, .iconst (-1), 1), (58, .ireturn, 1), (59, .aload_n 0, 1), (60, .aload_n 2, 1), (61, .invokevirtual 46, 3), (64, .ifCond .ne 8, 3), (67, .aload_n 0, 1), (68, .getfield 43, 3), (71, .ireturn, 1), (72, .iinc 3 1, 3), (75, .goto (-47), 3), (78, .aload_n 0, 1), (79, .getfield 43, 3), (82, .ireturn, 1)]
theorem okc_17_0 : ∀ e ∈ code_17_0, decode (mB 17) e.1 = .ok (e.2.1, e.2.2) := by decide +kernel
def code_17 : List (Nat × Instr × Nat) := code_17_0
theorem okc_17 : ∀ e ∈ code_17, decode (mB 17) e.1 = .ok (e.2.1, e.2.2) := okc_17_0
def code_18_0 : List (Nat × Instr × Nat) := [(0, .aload_n 0, 1), (1, .iconst 0, 1), (2, .putfield 33, 3), (5, .aload_n 0, 1), (6, .iconst 0, 1), (7, .putfield 37, 3), (10, .aload_n 0, 1), (11, .iconst 0, 1), (12, .putfield 40, 3), (15, .aload_n 0, 1), (16, .iconst 0, 1), (17, .putfield 43, 3), (20, .aload_n 0, 1), (21, .iconst 0, 1), (22, .putfield 46, 3), (25, .aload_n 0, 1), (26, .iconst 0, 1), (27, .putfield 50, 3), (30, .aload_n 0, 1), (31, .iconst 0, 1), (32, .putfield 53, 3), (35, .return_, 1)]
theorem okc_18_0 : ∀ e ∈ code_18_0, decode (mB 18) e.1 = .ok (e.2.1, e.2.2) := by decide +kernel
def code_18 : List (Nat × Instr × Nat) := code_18_0
theorem okc_18 : ∀ e ∈ code_18, decode (mB 18) e.1 = .ok (e.2.1, e.2.2) := okc_18_0
def code_19_0 : List (Nat × Instr × Nat) := [(0, .aload_n 0, 1), (1, .getfield 25, 3), (4, .aload_n 0, 1), (5, .getfield 21, 3), (8, .if_icmp .ge 44, 3), (11, .aload_n 0, 1), (12, .getfield 9, 3), (15, .aload_n 0, 1), (16, .getfield 25, 3), (19, .baload, 1), (20, .bipush 32, 2), (22, .if_icmp .eq 17, 3), (25, .aload_n 0, 1), (26, .getfield 9, 3), (29, .aload_n 0, 1), (30, .getfield 25, 3), (33, .baload, 1), (34, .bipush 10, 2), (36, .if_icmp .ne 16, 3), (39, .aload_n 0, 1), (40, .dup, 1), (41, .getfield 25, 3), (44, .iconst 1, 1), (45, .iadd, 1), (46, .putfield 25, 3), (49, .goto (-49), 3), (52, .aload_n 0, 1), (53, .aload_n 0, 1), (54, .getfield 25, 3), (57, .putfield 43, 3), (60, .aload_n 0, 1), (61, .getfield 25, 3), (64, .aload_n 0, 1), (65, .getfield 21, 3), (68, .if_icmp .lt 11, 3), (71, .aload_n 0, 1), (72, .iconst 0, 1), (73, .putfield 36, 3), (76, .goto 90, 3), (79, .aload_n 0, 1), (80, .aload_n 0, 1), (81, .getfield 25, 3), (84, .invokevirtual 149, 3), (87, .ifCond .eq 10, 3), (90, .aload_n 0, 1), (91, .invokevirtual 152, 3), (94, .goto 72, 3), (97, .aload_n 0, 1)]
theorem okc_19_0 : ∀ e ∈ code_19_0, decode (mB 19) e.1 = .ok (e.2.1, e.2.2) := by decide +kernel
def code_19_1 : List (Nat × Instr × Nat) := [(98, .aload_n 0, 1), (99, .getfield 25, 3), (102, .invokevirtual 155, 3), (105, .ifCond .eq 10, 3), (108, .aload_n 0, 1), (109, .invokevirtual 158, 3), (112, .goto 54, 3), (115, .aload_n 0, 1), (116, .aload_n 0, 1), (117, .getfield 9, 3), (120, .aload_n 0, 1), (121, .getfield 25, 3), (124, .baload, 1), (125, .bipush 44, 2), (127, .if_icmp .ne 7, 3), (130, .iconst 3, 1), (131, .goto 22, 3), (134, .aload_n 0, 1), (135, .getfield 9, 3), (138, .aload_n 0, 1), (139, .getfield 25, 3), (142, .baload, 1), (143, .bipush 59, 2), (145, .if_icmp .ne 7, 3), (148, .iconst 4, 1), (149, .goto 4, 3), (152, .iconst 5, 1), (153, .putfield 36, 3), (156, .aload_n 0, 1), (157, .dup, 1), (158, .getfield 25, 3), (161, .iconst 1, 1), (162, .iadd, 1), (163, .putfield 25, 3), (166, .return_, 1)]
theorem okc_19_1 : ∀ e ∈ code_19_1, decode (mB 19) e.1 = .ok (e.2.1, e.2.2) := by decide +kernel
def code_19 : List (Nat × Instr × Nat) := code_19_0 ++ (code_19_1)
theorem okc_19 : ∀ e ∈ code_19, decode (mB 19) e.1 = .ok (e.2.1, e.2.2) := (memP_app okc_19_0 okc_19_1)
def code_20_0 : List (Nat × Instr × Nat) := [(0, .iload_n 1, 1), (1, .ifCond .lt 37, 3), (4, .iload_n 1, 1), (5, .aload_n 0, 1), (6, .getfield 21, 3), (9, .if_icmp .ge 29, 3), (12, .aload_n 0, 1), (13, .getfield 9, 3), (16, .iload_n 1, 1), (17, .baload, 1), (18, .bipush 97, 2), (20, .if_icmp .lt 18, 3), (23, .aload_n 0, 1), (24, .getfield 9, 3), (27, .iload_n 1, 1), (28, .baload, 1), (29, .bipush 122, 2), (31, .if_icmp .gt 7, 3), (34, .iconst 1, 1), (35, .goto 4, 3), (38, .iconst 0, 1), (39, .ireturn, 1)]
theorem okc_20_0 : ∀ e ∈ code_20_0, decode (mB 20) e.1 = .ok (e.2.1, e.2.2) := by decide +kernel
def code_20 : List (Nat × Instr × Nat) := code_20_0
theorem okc_20 : ∀ e ∈ code_20, decode (mB 20) e.1 = .ok (e.2.1, e.2.2) := okc_20_0
def code_21_0 : List (Nat × Instr × Nat) := [(0, .aload_n 0, 1), (1, .iconst 1, 1), (2, .putfield 36, 3), (5, .aload_n 0, 1), (6, .lconst 0, 1), (7, .putfield 50, 3), (10, .aload_n 0, 1), (11, .getfield 25, 3), (14, .aload_n 0, 1), (15, .getfield 21, 3), (18, .if_icmp .ge 49, 3), (21, .aload_n 0, 1), (22, .aload_n 0, 1), (23, .getfield 25, 3), (26, .invokevirtual 149, 3), (29, .ifCond .eq 38, 3), (32, .aload_n 0, 1), (33, .aload_n 0, 1), (34, .getfield 50, 3), (37, .bipush 8, 2), (39, .lshl, 1), (40, .aload_n 0, 1), (41, .getfield 9, 3), (44, .aload_n 0, 1), (45, .getfield 25, 3), (48, .baload, 1), (49, .i2l, 1), (50, .lor, 1), (51, .putfield 50, 3), (54, .aload_n 0, 1), (55, .dup, 1), (56, .getfield 25, 3), (59, .iconst 1, 1), (60, .iadd, 1), (61, .putfield 25, 3), (64, .goto (-54), 3), (67, .aload_n 0, 1), (68, .getfield 25, 3), (71, .aload_n 0, 1), (72, .getfield 43, 3), (75, .isub, 1), (76, .bipush 8, 2), (78, .if_icmp .le 8, 3), (81, .aload_n 0, 1), (82, .lconst 0, 1), (83, .putfield 50, 3), (86, .return_, 1)]
theorem okc_21_0 : ∀ e ∈ code_21_0, decode (mB 21) e.1 = .ok (e.2.1, e.2.2) := by decide +kernel
def code_21 : List (Nat × Instr × Nat) := code_21_0
theorem okc_21 : ∀ e ∈ code_21, decode (mB 21) e.1 = .ok (e.2.1, e.2.2) := okc_21_0
def code_22_0 : List (Nat × Instr × Nat) := [(0, .iload_n 1, 1), (1, .ifCond .lt 37, 3), (4, .iload_n 1, 1), (5, .aload_n 0, 1), (6, .getfield 21, 3), (9, .if_icmp .ge 29, 3), (12, .aload_n 0, 1), (13, .getfield 9, 3), (16, .iload_n 1, 1), (17, .baload, 1), (18, .bipush 48, 2), (20, .if_icmp .lt 18, 3), (23, .aload_n 0, 1), (24, .getfield 9, 3), (27, .iload_n 1, 1), (28, .baload, 1), (29, .bipush 57, 2), (31, .if_icmp .gt 7, 3), (34, .iconst 1, 1), (35, .goto 4, 3), (38, .iconst 0, 1), (39, .ireturn, 1)]
theorem okc_22_0 : ∀ e ∈ code_22_0, decode (mB 22) e.1 = .ok (e.2.1, e.2.2) := by decide +kernel
def code_22 : List (Nat × Instr × Nat) := code_22_0
theorem okc_22 : ∀ e ∈ code_22, decode (mB 22) e.1 = .ok (e.2.1, e.2.2) := okc_22_0
def code_23_0 : List (Nat × Instr × Nat) := [(0, .aload_n 0, 1), (1, .iconst 2, 1), (2, .putfield 36, 3), (5, .aload_n 0, 1), (6, .iconst 0, 1), (7, .putfield 94, 3), (10, .aload_n 0, 1), (11, .getfield 25, 3), (14, .aload_n 0, 1), (15, .getfield 21, 3), (18, .if_icmp .ge 57, 3), (21, .aload_n 0, 1), (22, .aload_n 0, 1), (23, .getfield 25, 3), (26, .invokevirtual 155, 3), (29, .ifCond .eq 46, 3), (32, .aload_n 0, 1), (33, .aload_n 0, 1), (34, .getfield 94, 3), (37, .bipush 10, 2), (39, .imul, 1), (40, .aload_n 0, 1), (41, .getfield 9, 3), (44, .aload_n 0, 1), (45, .getfield 25, 3), (48, .baload, 1), (49, .iadd, 1), (50, .bipush 48, 2), (52, .isub, 1), (53, .sipush 1000, 3), (56, .invokestatic 15, 3), (59, .putfield 94, 3), (62, .aload_n 0, 1), (63, .dup, 1), (64, .getfield 25, 3), (67, .iconst 1, 1), (68, .iadd, 1), (69, .putfield 25, 3), (72, .goto (-62), 3), (75, .return_, 1)]
theorem okc_23_0 : ∀ e ∈ code_23_0, decode (mB 23) e.1 = .ok (e.2.1, e.2.2) := by decide +kernel
def code_23 : List (Nat × Instr × Nat) := code_23_0
theorem okc_23 : ∀ e ∈ code_23, decode (mB 23) e.1 = .ok (e.2.1, e.2.2) := okc_23_0
def code_24_0 : List (Nat × Instr × Nat) := [(0, .iconst 1, 1), (1, .aload_n 0, 1), (2, .getfield 33, 3), (5, .ishl, 1), (6, .iconst 1, 1), (7, .isub, 1), (8, .aload_n 0, 1), (9, .getfield 53, 3), (12, .iconst (-1), 1), (13, .ixor, 1), (14, .iand, 1), (15, .ireturn, 1)]
theorem okc_24_0 : ∀ e ∈ code_24_0, decode (mB 24) e.1 = .ok (e.2.1, e.2.2) := by decide +kernel
def code_24 : List (Nat × Instr × Nat) := code_24_0
theorem okc_24 : ∀ e ∈ code_24, decode (mB 24) e.1 = .ok (e.2.1, e.2.2) := okc_24_0
def code_25_0 : List (Nat × Instr × Nat) := [(0, .aload_n 0, 1), (1, .getfield 36, 3), (4, .iconst 1, 1), (5, .if_icmp .eq 5, 3), (8, .iconst 0, 1), (9, .ireturn, 1), (10, .aload_n 0, 1), (11, .getfield 50, 3), (14, .ldc2_w 54, 3), (17, .lcmp, 1), (18, .ifCond .eq 14, 3), (21, .aload_n 0, 1), (22, .getfield 50, 3), (25, .ldc2_w 56, 3), (28, .lcmp, 1), (29, .ifCond .ne 25, 3), (32, .aload_n 0, 1), (33, .aload_n 1, 1), (34, .aload_n 0, 1), (35, .getfield 50, 3), (38, .ldc2_w 56, 3), (41, .lcmp, 1), (42, .ifCond .ne 7, 3), (45, .iconst 1, 1), (46, .goto 4, 3), (49, .iconst 0, 1), (50, .invokevirtual 58, 3), (53, .ireturn, 1), (54, .aload_n 0, 1), (55, .getfield 50, 3), (58, .ldc2_w 62, 3), (61, .lcmp, 1), (62, .ifCond .ne 9, 3), (65, .aload_n 0, 1), (66, .aload_n 1, 1), (67, .invokevirtual 64, 3), (70, .ireturn, 1), (71, .aload_n 0, 1), (72, .getfield 50, 3), (75, .ldc2_w 67, 3), (78, .lcmp, 1), (79, .ifCond .ne 9, 3), (82, .aload_n 0, 1), (83, .aload_n 1, 1), (84, .invokevirtual 69, 3), (87, .ireturn, 1), (88, .aload_n 0, 1), (89, .getfield 50, 3)]
theorem okc_25_0 : ∀ e ∈ code_25_0, decode (mB 25) e.1 = .ok (e.2.1, e.2.2) := by decide +kernel
def code_25_1 : List (Nat × Instr × Nat) := [(92, .ldc2_w 72, 3), (95, .lcmp, 1), (96, .ifCond .ne 15, 3), (99, .aload_n 0, 1), (100, .aload_n 1, 1), (101, .invokevirtual 74, 3), (104, .ifCond .eq 7, 3), (107, .iconst 1, 1), (108, .goto 4, 3), (111, .iconst 0, 1), (112, .ireturn, 1)]
theorem okc_25_1 : ∀ e ∈ code_25_1, decode (mB 25) e.1 = .ok (e.2.1, e.2.2) := by decide +kernel
def code_25 : List (Nat × Instr × Nat) := code_25_0 ++ (code_25_1)
theorem okc_25 : ∀ e ∈ code_25, decode (mB 25) e.1 = .ok (e.2.1, e.2.2) := (memP_app okc_25_0 okc_25_1)
def code_26_0 : List (Nat × Instr × Nat) := [(0, .aload_n 1, 1), (1, .invokevirtual 77, 3), (4, .ifCond .ne 5, 3), (7, .iconst 0, 1), (8, .ireturn, 1), (9, .aload_n 0, 1), (10, .invokevirtual 33, 3), (13, .aload_n 0, 1), (14, .invokevirtual 81, 3), (17, .ifCond .eq 15, 3), (20, .aload_n 1, 1), (21, .aload_n 0, 1), (22, .getfield 50, 3), (25, .invokevirtual 84, 3), (28, .iconst (-1), 1), (29, .if_icmp .eq 5, 3), (32, .iconst 0, 1), (33, .ireturn, 1), (34, .aload_n 0, 1), (35, .getfield 50, 3), (38, .lstore_n 3, 1), (39, .aload_n 0, 1), (40, .invokevirtual 33, 3), (43, .iconst 0, 1), (44, .istore 5, 2), (46, .iload 5, 2), (48, .iconst 3, 1), (49, .if_icmp .ge 35, 3), (52, .aload_n 0, 1), (53, .iconst 0, 1), (54, .bipush 20, 2), (56, .invokevirtual 90, 3), (59, .ifCond .ne 5, 3), (62, .iconst 0, 1), (63, .ireturn, 1), (64, .aload_n 1, 1), (65, .iload 5, 2), (67, .aload_n 0, 1), (68, .getfield 94, 3), (71, .invokevirtual 97, 3), (74, .aload_n 0, 1), (75, .invokevirtual 33, 3), (78, .iinc 5 1, 3), (81, .goto (-35), 3), (84, .aload_n 0, 1), (85, .getfield 36, 3), (88, .iconst 4, 1), (89, .if_icmp .eq 5, 3)]
theorem okc_26_0 : ∀ e ∈ code_26_0, decode (mB 26) e.1 = .ok (e.2.1, e.2.2) := by decide +kernel
def code_26_1 : List (Nat × Instr × Nat) := [(92, .iconst 0, 1), (93, .ireturn, 1), (94, .aload_n 1, 1), (95, .lload_n 3, 1), (96, .iload_n 2, 1), (97, .invokevirtual 101, 3), (100, .aload_n 0, 1), (101, .invokevirtual 33, 3), (104, .iconst 1, 1), (105, .ireturn, 1)]
theorem okc_26_1 : ∀ e ∈ code_26_1, decode (mB 26) e.1 = .ok (e.2.1, e.2.2) := by decide +kernel
def code_26 : List (Nat × Instr × Nat) := code_26_0 ++ (code_26_1)
theorem okc_26 : ∀ e ∈ code_26, decode (mB 26) e.1 = .ok (e.2.1, e.2.2) := (memP_app okc_26_0 okc_26_1)
def code_27_0 : List (Nat × Instr × Nat) := [(0, .aload_n 0, 1), (1, .getfield 33, 3), (4, .iconst 3, 1), (5, .if_icmp .ge 7, 3), (8, .iconst 1, 1), (9, .goto 4, 3), (12, .iconst 0, 1), (13, .ireturn, 1)]
theorem okc_27_0 : ∀ e ∈ code_27_0, decode (mB 27) e.1 = .ok (e.2.1, e.2.2) := by decide +kernel
def code_27 : List (Nat × Instr × Nat) := code_27_0
theorem okc_27 : ∀ e ∈ code_27, decode (mB 27) e.1 = .ok (e.2.1, e.2.2) := okc_27_0
def code_28_0 : List (Nat × Instr × Nat) := [(0, .aload_n 0, 1), (1, .getfield 36, 3), (4, .iconst 1, 1), (5, .if_icmp .ne 104, 3), (8, .aload_n 0, 1), (9, .getfield 50, 3), (12, .lconst 0, 1), (13, .lcmp, 1), (14, .ifCond .eq 95, 3), (17, .aload_n 0, 1), (18, .getfield 50, 3), (21, .ldc2_w 54, 3), (24, .lcmp, 1), (25, .ifCond .eq 84, 3), (28, .aload_n 0, 1), (29, .getfield 50, 3), (32, .ldc2_w 56, 3), (35, .lcmp, 1), (36, .ifCond .eq 73, 3), (39, .aload_n 0, 1), (40, .getfield 50, 3), (43, .ldc2_w 62, 3), (46, .lcmp, 1), (47, .ifCond .eq 62, 3), (50, .aload_n 0, 1), (51, .getfield 50, 3), (54, .ldc2_w 135, 3), (57, .lcmp, 1), (58, .ifCond .eq 51, 3), (61, .aload_n 0, 1), (62, .getfield 50, 3), (65, .ldc2_w 137, 3), (68, .lcmp, 1), (69, .ifCond .eq 40, 3), (72, .aload_n 0, 1), (73, .getfield 50, 3), (76, .ldc2_w 143, 3), (79, .lcmp, 1), (80, .ifCond .eq 29, 3), (83, .aload_n 0, 1), (84, .getfield 50, 3), (87, .ldc2_w 67, 3), (90, .lcmp, 1), (91, .ifCond .eq 18, 3), (94, .aload_n 0, 1), (95, .getfield 50, 3), (98, .ldc2_w 72, 3), (101, .lcmp, 1)]
theorem okc_28_0 : ∀ e ∈ code_28_0, decode (mB 28) e.1 = .ok (e.2.1, e.2.2) := by decide +kernel
def code_28_1 : List (Nat × Instr × Nat) := [(102, .ifCond .eq 7, 3), (105, .iconst 1, 1), (106, .goto 4, 3), (109, .iconst 0, 1), (110, .ireturn, 1)]
theorem okc_28_1 : ∀ e ∈ code_28_1, decode (mB 28) e.1 = .ok (e.2.1, e.2.2) := by decide +kernel
def code_28 : List (Nat × Instr × Nat) := code_28_0 ++ (code_28_1)
theorem okc_28 : ∀ e ∈ code_28, decode (mB 28) e.1 = .ok (e.2.1, e.2.2) := (memP_app okc_28_0 okc_28_1)
def code_29_0 : List (Nat × Instr × Nat) := [(0, .iconst 0, 1), (1, .istore_n 3, 1), (2, .iload_n 3, 1), (3, .aload_n 0, 1), (4, .getfield 33, 3), (7, .if_icmp .ge 22, 3), (10, .aload_n 0, 1), (11, .getfield 11, 3), (14, .iload_n 3, 1), (15, .laload, 1), (16, .lload_n 1, 1), (17, .lcmp, 1), (18, .ifCond .ne 5, 3), (21, .iload_n 3, 1), (22, .ireturn, 1), (23, .iinc 3 1, 3), (26, .goto (-24), 3), (29, .iconst (-1), 1), (30, .ireturn, 1)]
theorem okc_29_0 : ∀ e ∈ code_29_0, decode (mB 29) e.1 = .ok (e.2.1, e.2.2) := by decide +kernel
def code_29 : List (Nat × Instr × Nat) := code_29_0
theorem okc_29 : ∀ e ∈ code_29, decode (mB 29) e.1 = .ok (e.2.1, e.2.2) := okc_29_0
def code_30_0 : List (Nat × Instr × Nat) := [(0, .aload_n 0, 1), (1, .getfield 36, 3), (4, .iconst 2, 1), (5, .if_icmp .ne 23, 3), (8, .aload_n 0, 1), (9, .getfield 94, 3), (12, .iload_n 1, 1), (13, .if_icmp .lt 15, 3), (16, .aload_n 0, 1), (17, .getfield 94, 3), (20, .iload_n 2, 1), (21, .if_icmp .gt 7, 3), (24, .iconst 1, 1), (25, .goto 4, 3), (28, .iconst 0, 1), (29, .ireturn, 1)]
theorem okc_30_0 : ∀ e ∈ code_30_0, decode (mB 30) e.1 = .ok (e.2.1, e.2.2) := by decide +kernel
def code_30 : List (Nat × Instr × Nat) := code_30_0
theorem okc_30 : ∀ e ∈ code_30, decode (mB 30) e.1 = .ok (e.2.1, e.2.2) := okc_30_0
def code_31_0 : List (Nat × Instr × Nat) := [(0, .aload_n 0, 1), (1, .invokevirtual 56, 3), (4, .ifCond .eq 26, 3), (7, .iload_n 1, 1), (8, .ifCond .lt 22, 3), (11, .iload_n 1, 1), (12, .iconst 3, 1), (13, .if_icmp .ge 17, 3), (16, .aload_n 0, 1), (17, .getfield 17, 3), (20, .aload_n 0, 1), (21, .getfield 33, 3), (24, .iconst 3, 1), (25, .imul, 1), (26, .iload_n 1, 1), (27, .iadd, 1), (28, .iload_n 2, 1), (29, .iastore, 1), (30, .return_, 1)]
theorem okc_31_0 : ∀ e ∈ code_31_0, decode (mB 31) e.1 = .ok (e.2.1, e.2.2) := by decide +kernel
def code_31 : List (Nat × Instr × Nat) := code_31_0
theorem okc_31 : ∀ e ∈ code_31, decode (mB 31) e.1 = .ok (e.2.1, e.2.2) := okc_31_0
def code_32_0 : List (Nat × Instr × Nat) := [(0, .aload_n 0, 1), (1, .invokevirtual 56, 3), (4, .ifCond .eq 42, 3), (7, .aload_n 0, 1), (8, .getfield 11, 3), (11, .aload_n 0, 1), (12, .getfield 33, 3), (15, .lload_n 1, 1), (16, .lastore, 1), (17, .iload_n 3, 1), (18, .ifCond .eq 18, 3), (21, .aload_n 0, 1), (22, .dup, 1), (23, .getfield 53, 3), (26, .iconst 1, 1), (27, .aload_n 0, 1), (28, .getfield 33, 3), (31, .ishl, 1), (32, .ior, 1), (33, .putfield 53, 3), (36, .aload_n 0, 1), (37, .dup, 1), (38, .getfield 33, 3), (41, .iconst 1, 1), (42, .iadd, 1), (43, .putfield 33, 3), (46, .return_, 1)]
theorem okc_32_0 : ∀ e ∈ code_32_0, decode (mB 32) e.1 = .ok (e.2.1, e.2.2) := by decide +kernel
def code_32 : List (Nat × Instr × Nat) := code_32_0
theorem okc_32 : ∀ e ∈ code_32, decode (mB 32) e.1 = .ok (e.2.1, e.2.2) := okc_32_0
def code_33_0 : List (Nat × Instr × Nat) := [(0, .aload_n 1, 1), (1, .invokevirtual 121, 3), (4, .ifCond .ne 5, 3), (7, .iconst 0, 1), (8, .ireturn, 1), (9, .aload_n 0, 1), (10, .invokevirtual 33, 3), (13, .aload_n 0, 1), (14, .iconst 0, 1), (15, .putfield 124, 3), (18, .iconst 0, 1), (19, .istore_n 2, 1), (20, .iload_n 2, 1), (21, .iconst 3, 1), (22, .if_icmp .ge 69, 3), (25, .aload_n 0, 1), (26, .aload_n 1, 1), (27, .iload_n 2, 1), (28, .invokevirtual 127, 3), (31, .ifCond .ne 5, 3), (34, .iconst 0, 1), (35, .ireturn, 1), (36, .aload_n 0, 1), (37, .getfield 36, 3), (40, .iconst 4, 1), (41, .if_icmp .ne 25, 3), (44, .aload_n 0, 1), (45, .getfield 124, 3), (48, .bipush 12, 2), (50, .if_icmp .ne 16, 3), (53, .aload_n 1, 1), (54, .iload_n 2, 1), (55, .iconst 1, 1), (56, .iadd, 1), (57, .invokevirtual 131, 3), (60, .aload_n 0, 1), (61, .invokevirtual 33, 3), (64, .iconst 1, 1), (65, .ireturn, 1), (66, .aload_n 0, 1), (67, .getfield 36, 3), (70, .iconst 3, 1), (71, .if_icmp .ne 8, 3), (74, .iload_n 2, 1), (75, .iconst 2, 1), (76, .if_icmp .ne 5, 3), (79, .iconst 0, 1), (80, .ireturn, 1)]
theorem okc_33_0 : ∀ e ∈ code_33_0, decode (mB 33) e.1 = .ok (e.2.1, e.2.2) := by decide +kernel
def code_33_1 : List (Nat × Instr × Nat) := [(81, .aload_n 0, 1), (82, .invokevirtual 33, 3), (85, .iinc 2 1, 3), (88, .goto (-68), 3), (91, .iconst 0, 1), (92, .ireturn, 1)]
theorem okc_33_1 : ∀ e ∈ code_33_1, decode (mB 33) e.1 = .ok (e.2.1, e.2.2) := by decide +kernel
def code_33 : List (Nat × Instr × Nat) := code_33_0 ++ (code_33_1)
theorem okc_33 : ∀ e ∈ code_33, decode (mB 33) e.1 = .ok (e.2.1, e.2.2) := (memP_app okc_33_0 okc_33_1)
def code_34_0 : List (Nat × Instr × Nat) := [(0, .aload_n 0, 1), (1, .getfield 37, 3), (4, .bipush 6, 2), (6, .if_icmp .ge 7, 3), (9, .iconst 1, 1), (10, .goto 4, 3), (13, .iconst 0, 1), (14, .ireturn, 1)]
theorem okc_34_0 : ∀ e ∈ code_34_0, decode (mB 34) e.1 = .ok (e.2.1, e.2.2) := by decide +kernel
def code_34 : List (Nat × Instr × Nat) := code_34_0
theorem okc_34 : ∀ e ∈ code_34, decode (mB 34) e.1 = .ok (e.2.1, e.2.2) := okc_34_0
def code_35_0 : List (Nat × Instr × Nat) := [(0, .aload_n 0, 1), (1, .iconst 1, 1), (2, .bipush 12, 2), (4, .aload_n 0, 1), (5, .getfield 124, 3), (8, .isub, 1), (9, .invokevirtual 90, 3), (12, .ifCond .ne 5, 3), (15, .iconst 0, 1), (16, .ireturn, 1), (17, .aload_n 0, 1), (18, .getfield 94, 3), (21, .istore_n 3, 1), (22, .aload_n 0, 1), (23, .dup, 1), (24, .getfield 124, 3), (27, .iload_n 3, 1), (28, .iadd, 1), (29, .putfield 124, 3), (32, .aload_n 0, 1), (33, .invokevirtual 33, 3), (36, .aload_n 0, 1), (37, .getfield 36, 3), (40, .iconst 1, 1), (41, .if_icmp .eq 5, 3), (44, .iconst 0, 1), (45, .ireturn, 1), (46, .iconst (-1), 1), (47, .istore 4, 2), (49, .iconst 2, 1), (50, .istore 5, 2), (52, .aload_n 0, 1), (53, .getfield 50, 3), (56, .ldc2_w 135, 3), (59, .lcmp, 1), (60, .ifCond .ne 30, 3), (63, .iconst 0, 1), (64, .istore 5, 2), (66, .aload_n 0, 1), (67, .invokevirtual 33, 3), (70, .aload_n 0, 1), (71, .iconst 0, 1), (72, .iconst 2, 1), (73, .invokevirtual 90, 3), (76, .ifCond .ne 5, 3), (79, .iconst 0, 1), (80, .ireturn, 1), (81, .aload_n 0, 1)]
theorem okc_35_0 : ∀ e ∈ code_35_0, decode (mB 35) e.1 = .ok (e.2.1, e.2.2) := by decide +kernel
def code_35_1 : List (Nat × Instr × Nat) := [(82, .getfield 94, 3), (85, .istore 4, 2), (87, .goto 66, 3), (90, .aload_n 0, 1), (91, .getfield 50, 3), (94, .ldc2_w 137, 3), (97, .lcmp, 1), (98, .ifCond .ne 42, 3), (101, .iconst 1, 1), (102, .istore 5, 2), (104, .aload_n 0, 1), (105, .invokevirtual 33, 3), (108, .aload_n 0, 1), (109, .invokevirtual 81, 3), (112, .ifCond .eq 14, 3), (115, .aload_n 1, 1), (116, .aload_n 0, 1), (117, .getfield 50, 3), (120, .invokevirtual 84, 3), (123, .goto 4, 3), (126, .iconst (-1), 1), (127, .istore 4, 2), (129, .aload_n 1, 1), (130, .iload 4, 2), (132, .invokevirtual 139, 3), (135, .ifCond .ne 18, 3), (138, .iconst 0, 1), (139, .ireturn, 1), (140, .aload_n 0, 1), (141, .getfield 50, 3), (144, .ldc2_w 143, 3), (147, .lcmp, 1), (148, .ifCond .eq 5, 3), (151, .iconst 0, 1), (152, .ireturn, 1), (153, .aload_n 1, 1), (154, .iload_n 2, 1), (155, .iload_n 3, 1), (156, .iload 5, 2), (158, .iload 4, 2), (160, .invokevirtual 145, 3), (163, .aload_n 0, 1), (164, .invokevirtual 33, 3), (167, .iconst 1, 1), (168, .ireturn, 1)]
theorem okc_35_1 : ∀ e ∈ code_35_1, decode (mB 35) e.1 = .ok (e.2.1, e.2.2) := by decide +kernel
def code_35 : List (Nat × Instr × Nat) := code_35_0 ++ (code_35_1)
theorem okc_35 : ∀ e ∈ code_35, decode (mB 35) e.1 = .ok (e.2.1, e.2.2) := (memP_app okc_35_0 okc_35_1)
def code_36_0 : List (Nat × Instr × Nat) := [(0, .iload_n 1, 1), (1, .ifCond .lt 27, 3), (4, .iload_n 1, 1), (5, .aload_n 0, 1), (6, .getfield 33, 3), (9, .if_icmp .ge 19, 3), (12, .aload_n 0, 1), (13, .getfield 53, 3), (16, .iload_n 1, 1), (17, .ishr, 1), (18, .iconst 1, 1), (19, .iand, 1), (20, .iconst 1, 1), (21, .if_icmp .ne 7, 3), (24, .iconst 1, 1), (25, .goto 4, 3), (28, .iconst 0, 1), (29, .ireturn, 1)]
theorem okc_36_0 : ∀ e ∈ code_36_0, decode (mB 36) e.1 = .ok (e.2.1, e.2.2) := by decide +kernel
def code_36 : List (Nat × Instr × Nat) := code_36_0
theorem okc_36 : ∀ e ∈ code_36, decode (mB 36) e.1 = .ok (e.2.1, e.2.2) := okc_36_0
def code_37_0 : List (Nat × Instr × Nat) := [(0, .aload_n 0, 1), (1, .invokevirtual 60, 3), (4, .ifCond .eq 47, 3), (7, .iload_n 1, 1), (8, .ifCond .lt 43, 3), (11, .iload_n 1, 1), (12, .iconst 3, 1), (13, .if_icmp .ge 38, 3), (16, .aload_n 0, 1), (17, .getfield 37, 3), (20, .iconst 3, 1), (21, .imul, 1), (22, .iload_n 1, 1), (23, .iadd, 1), (24, .istore 5, 2), (26, .aload_n 0, 1), (27, .getfield 24, 3), (30, .iload 5, 2), (32, .iload_n 2, 1), (33, .iastore, 1), (34, .aload_n 0, 1), (35, .getfield 27, 3), (38, .iload 5, 2), (40, .iload_n 3, 1), (41, .iastore, 1), (42, .aload_n 0, 1), (43, .getfield 30, 3), (46, .iload 5, 2), (48, .iload 4, 2), (50, .iastore, 1), (51, .return_, 1)]
theorem okc_37_0 : ∀ e ∈ code_37_0, decode (mB 37) e.1 = .ok (e.2.1, e.2.2) := by decide +kernel
def code_37 : List (Nat × Instr × Nat) := code_37_0
theorem okc_37 : ∀ e ∈ code_37, decode (mB 37) e.1 = .ok (e.2.1, e.2.2) := okc_37_0
def code_38_0 : List (Nat × Instr × Nat) := [(0, .aload_n 0, 1), (1, .invokevirtual 60, 3), (4, .ifCond .eq 23, 3), (7, .aload_n 0, 1), (8, .getfield 21, 3), (11, .aload_n 0, 1), (12, .getfield 37, 3), (15, .iload_n 1, 1), (16, .iastore, 1), (17, .aload_n 0, 1), (18, .dup, 1), (19, .getfield 37, 3), (22, .iconst 1, 1), (23, .iadd, 1), (24, .putfield 37, 3), (27, .return_, 1)]
theorem okc_38_0 : ∀ e ∈ code_38_0, decode (mB 38) e.1 = .ok (e.2.1, e.2.2) := by decide +kernel
def code_38 : List (Nat × Instr × Nat) := code_38_0
theorem okc_38 : ∀ e ∈ code_38, decode (mB 38) e.1 = .ok (e.2.1, e.2.2) := okc_38_0
def code_39_0 : List (Nat × Instr × Nat) := [(0, .aload_n 1, 1), (1, .getfield 105, 3), (4, .ifCond .eq 5, 3), (7, .iconst 0, 1), (8, .ireturn, 1), (9, .aload_n 0, 1), (10, .invokevirtual 33, 3), (13, .aload_n 0, 1), (14, .iconst 0, 1), (15, .iconst 2, 1), (16, .invokevirtual 90, 3), (19, .ifCond .ne 5, 3), (22, .iconst 0, 1), (23, .ireturn, 1), (24, .aload_n 1, 1), (25, .aload_n 0, 1), (26, .getfield 94, 3), (29, .putfield 109, 3), (32, .aload_n 1, 1), (33, .iconst 1, 1), (34, .putfield 105, 3), (37, .aload_n 0, 1), (38, .invokevirtual 112, 3), (41, .ireturn, 1)]
theorem okc_39_0 : ∀ e ∈ code_39_0, decode (mB 39) e.1 = .ok (e.2.1, e.2.2) := by decide +kernel
def code_39 : List (Nat × Instr × Nat) := code_39_0
theorem okc_39 : ∀ e ∈ code_39, decode (mB 39) e.1 = .ok (e.2.1, e.2.2) := okc_39_0
def code_40_0 : List (Nat × Instr × Nat) := [(0, .aload_n 0, 1), (1, .invokevirtual 33, 3), (4, .aload_n 0, 1), (5, .getfield 36, 3), (8, .iconst 4, 1), (9, .if_icmp .eq 5, 3), (12, .iconst 0, 1), (13, .ireturn, 1), (14, .aload_n 0, 1), (15, .invokevirtual 33, 3), (18, .iconst 1, 1), (19, .ireturn, 1)]
theorem okc_40_0 : ∀ e ∈ code_40_0, decode (mB 40) e.1 = .ok (e.2.1, e.2.2) := by decide +kernel
def code_40 : List (Nat × Instr × Nat) := code_40_0
theorem okc_40 : ∀ e ∈ code_40, decode (mB 40) e.1 = .ok (e.2.1, e.2.2) := okc_40_0
def code_41_0 : List (Nat × Instr × Nat) := [(0, .aload_n 1, 1), (1, .getfield 115, 3), (4, .ifCond .eq 5, 3), (7, .iconst 0, 1), (8, .ireturn, 1), (9, .aload_n 0, 1), (10, .invokevirtual 33, 3), (13, .aload_n 0, 1), (14, .iconst 0, 1), (15, .iconst 1, 1), (16, .invokevirtual 90, 3), (19, .ifCond .ne 5, 3), (22, .iconst 0, 1), (23, .ireturn, 1), (24, .aload_n 1, 1), (25, .aload_n 0, 1), (26, .getfield 94, 3), (29, .putfield 118, 3), (32, .aload_n 1, 1), (33, .iconst 1, 1), (34, .putfield 115, 3), (37, .aload_n 0, 1), (38, .invokevirtual 112, 3), (41, .ireturn, 1)]
theorem okc_41_0 : ∀ e ∈ code_41_0, decode (mB 41) e.1 = .ok (e.2.1, e.2.2) := by decide +kernel
def code_41 : List (Nat × Instr × Nat) := code_41_0
theorem okc_41 : ∀ e ∈ code_41, decode (mB 41) e.1 = .ok (e.2.1, e.2.2) := okc_41_0
def code_42_0 : List (Nat × Instr × Nat) := [(0, .aload_n 0, 1), (1, .getfield 18, 3), (4, .aload_n 0, 1), (5, .getfield 57, 3), (8, .aload_n 0, 1), (9, .getfield 25, 3), (12, .invokevirtual 64, 3), (15, .iconst (-1), 1), (16, .if_icmp .eq 5, 3), (19, .iconst (-1), 1), (20, .ireturn, 1), (21, .aload_n 0, 1), (22, .getfield 18, 3), (25, .aload_n 0, 1), (26, .getfield 57, 3), (29, .aload_n 0, 1), (30, .getfield 29, 3), (33, .invokevirtual 64, 3), (36, .pop, 1), (37, .aload_n 0, 1), (38, .iconst 0, 1), (39, .putfield 57, 3), (42, .aload_n 0, 1), (43, .iconst 1, 1), (44, .putfield 68, 3), (47, .aload_n 0, 1), (48, .aload_n 0, 1), (49, .getfield 29, 3), (52, .invokevirtual 72, 3), (55, .putfield 76, 3), (58, .aload_n 0, 1), (59, .iconst (-1), 1), (60, .putfield 41, 3), (63, .iconst 0, 1), (64, .istore_n 1, 1), (65, .iload_n 1, 1), (66, .iconst 4, 1), (67, .if_icmp .ge 16, 3), (70, .aload_n 0, 1), (71, .getfield 45, 3), (74, .iload_n 1, 1), (75, .iconst 0, 1), (76, .bastore, 1), (77, .iinc 1 1, 3), (80, .goto (-15), 3), (83, .aload_n 0, 1), (84, .getfield 37, 3), (87, .invokevirtual 80, 3)]
theorem okc_42_0 : ∀ e ∈ code_42_0, decode (mB 42) e.1 = .ok (e.2.1, e.2.2) := by decide +kernel
def code_42_1 : List (Nat × Instr × Nat) := [(90, .aload_n 0, 1), (91, .getfield 29, 3), (94, .getfield 83, 3), (97, .ireturn, 1)]
theorem okc_42_1 : ∀ e ∈ code_42_1, decode (mB 42) e.1 = .ok (e.2.1, e.2.2) := by decide +kernel
def code_42 : List (Nat × Instr × Nat) := code_42_0 ++ (code_42_1)
theorem okc_42 : ∀ e ∈ code_42, decode (mB 42) e.1 = .ok (e.2.1, e.2.2) := (memP_app okc_42_0 okc_42_1)
def code_43_0 : List (Nat × Instr × Nat) := [(0, .aload_n 0, 1), (1, .invokevirtual 84, 3), (4, .i2l, 1), (5, .bipush 36, 2), (7, .lshl, 1), (8, .lreturn, 1)]
theorem okc_43_0 : ∀ e ∈ code_43_0, decode (mB 43) e.1 = .ok (e.2.1, e.2.2) := by decide +kernel
def code_43 : List (Nat × Instr × Nat) := code_43_0
theorem okc_43 : ∀ e ∈ code_43, decode (mB 43) e.1 = .ok (e.2.1, e.2.2) := okc_43_0
def code_44_0 : List (Nat × Instr × Nat) := [(0, .aload_n 0, 1), (1, .getfield 18, 3), (4, .aload_n 0, 1), (5, .getfield 9, 3), (8, .invokevirtual 56, 3), (11, .iconst 0, 1), (12, .istore_n 1, 1), (13, .iload_n 1, 1), (14, .aload_n 0, 1), (15, .getfield 33, 3), (18, .arraylength, 1), (19, .if_icmp .ge 21, 3), (22, .aload_n 0, 1), (23, .getfield 33, 3), (26, .iload_n 1, 1), (27, .aaload, 1), (28, .getfield 60, 3), (31, .invokevirtual 64, 3), (34, .iinc 1 1, 3), (37, .goto (-24), 3), (40, .iconst 0, 1), (41, .istore_n 1, 1), (42, .iload_n 1, 1), (43, .aload_n 0, 1), (44, .getfield 42, 3), (47, .arraylength, 1), (48, .if_icmp .ge 21, 3), (51, .aload_n 0, 1), (52, .getfield 42, 3), (55, .iload_n 1, 1), (56, .aaload, 1), (57, .getfield 69, 3), (60, .invokevirtual 64, 3), (63, .iinc 1 1, 3), (66, .goto (-24), 3), (69, .return_, 1)]
theorem okc_44_0 : ∀ e ∈ code_44_0, decode (mB 44) e.1 = .ok (e.2.1, e.2.2) := by decide +kernel
def code_44 : List (Nat × Instr × Nat) := code_44_0
theorem okc_44 : ∀ e ∈ code_44, decode (mB 44) e.1 = .ok (e.2.1, e.2.2) := okc_44_0
def code_45_0 : List (Nat × Instr × Nat) := [(0, .aload_n 0, 1), (1, .aload_n 1, 1), (2, .getfield 60, 3), (5, .bipush 6, 2), (7, .invokestatic 64, 3), (10, .putfield 70, 3), (13, .aload_n 0, 1), (14, .iconst 1, 1), (15, .putfield 71, 3), (18, .iconst 0, 1), (19, .istore_n 2, 1), (20, .iload_n 2, 1), (21, .bipush 8, 2), (23, .if_icmp .ge 74, 3), (26, .aload_n 0, 1), (27, .getfield 40, 3), (30, .iload_n 2, 1), (31, .aload_n 1, 1), (32, .iload_n 2, 1), (33, .invokestatic 74, 3), (36, .iastore, 1), (37, .iload_n 2, 1), (38, .aload_n 1, 1), (39, .invokevirtual 78, 3), (42, .iand, 1), (43, .aload_n 1, 1), (44, .invokevirtual 78, 3), (47, .if_icmp .ne 44, 3), (50, .iload_n 2, 1), (51, .iconst 1, 1), (52, .aload_n 1, 1), (53, .getfield 82, 3), (56, .ishl, 1), (57, .if_icmp .ge 34, 3), (60, .aload_n 0, 1), (61, .getfield 43, 3), (64, .aload_n 0, 1), (65, .getfield 40, 3), (68, .iload_n 2, 1), (69, .iaload, 1), (70, .iload_n 2, 1), (71, .iastore, 1), (72, .aload_n 0, 1), (73, .aload_n 0, 1), (74, .getfield 71, 3), (77, .aload_n 0, 1), (78, .getfield 40, 3), (81, .iload_n 2, 1)]
theorem okc_45_0 : ∀ e ∈ code_45_0, decode (mB 45) e.1 = .ok (e.2.1, e.2.2) := by decide +kernel
def code_45_1 : List (Nat × Instr × Nat) := [(82, .iaload, 1), (83, .iconst 1, 1), (84, .iadd, 1), (85, .invokestatic 85, 3), (88, .putfield 71, 3), (91, .iinc 2 1, 3), (94, .goto (-74), 3), (97, .iconst 0, 1), (98, .istore_n 2, 1), (99, .iconst 0, 1), (100, .istore_n 3, 1), (101, .iconst 0, 1), (102, .istore 4, 2), (104, .iload 4, 2), (106, .aload_n 0, 1), (107, .getfield 70, 3), (110, .if_icmp .gt 61, 3), (113, .aload_n 0, 1), (114, .getfield 34, 3), (117, .iload 4, 2), (119, .iload_n 2, 1), (120, .iastore, 1), (121, .aload_n 0, 1), (122, .getfield 37, 3), (125, .iload 4, 2), (127, .iload_n 3, 1), (128, .iastore, 1), (129, .iload_n 3, 1), (130, .aload_n 0, 1), (131, .getfield 31, 3), (134, .iload_n 2, 1), (135, .iaload, 1), (136, .iadd, 1), (137, .istore_n 3, 1), (138, .iload 4, 2), (140, .aload_n 0, 1), (141, .getfield 70, 3), (144, .if_icmp .ge 21, 3), (147, .aload_n 1, 1), (148, .iload 4, 2), (150, .invokevirtual 88, 3), (153, .ifCond .eq 12, 3), (156, .iload_n 2, 1), (157, .bipush 6, 2), (159, .if_icmp .ge 6, 3), (162, .iinc 2 1, 3), (165, .iinc 4 1, 3), (168, .goto (-64), 3)]
theorem okc_45_1 : ∀ e ∈ code_45_1, decode (mB 45) e.1 = .ok (e.2.1, e.2.2) := by decide +kernel
def code_45_2 : List (Nat × Instr × Nat) := [(171, .aload_n 0, 1), (172, .getfield 37, 3), (175, .aload_n 0, 1), (176, .getfield 70, 3), (179, .iconst 1, 1), (180, .iadd, 1), (181, .iload_n 3, 1), (182, .iastore, 1), (183, .return_, 1)]
theorem okc_45_2 : ∀ e ∈ code_45_2, decode (mB 45) e.1 = .ok (e.2.1, e.2.2) := by decide +kernel
def code_45 : List (Nat × Instr × Nat) := code_45_0 ++ (code_45_1 ++ (code_45_2))
theorem okc_45 : ∀ e ∈ code_45, decode (mB 45) e.1 = .ok (e.2.1, e.2.2) := (memP_app okc_45_0 (memP_app okc_45_1 okc_45_2))
end
section
/-! CODE of the methods, by number: pc, instruction, length (printed of the program). -/
def code_46_0 : List (Nat × Instr × Nat) := [(0, .iconst 0, 1), (1, .istore_n 2, 1), (2, .iconst 1, 1), (3, .istore_n 3, 1), (4, .iconst 0, 1), (5, .istore 4, 2), (7, .iload 4, 2), (9, .aload_n 0, 1), (10, .getfield 82, 3), (13, .if_icmp .ge 40, 3), (16, .aload_n 0, 1), (17, .iload 4, 2), (19, .invokevirtual 92, 3), (22, .ifCond .eq 25, 3), (25, .iload_n 2, 1), (26, .iload_n 1, 1), (27, .iload 4, 2), (29, .ishr, 1), (30, .iconst 1, 1), (31, .iand, 1), (32, .iconst 1, 1), (33, .if_icmp .ne 7, 3), (36, .iload_n 3, 1), (37, .goto 4, 3), (40, .iconst 0, 1), (41, .ior, 1), (42, .istore_n 2, 1), (43, .iload_n 3, 1), (44, .iconst 1, 1), (45, .ishl, 1), (46, .istore_n 3, 1), (47, .iinc 4 1, 3), (50, .goto (-43), 3), (53, .iload_n 2, 1), (54, .ireturn, 1)]
theorem okc_46_0 : ∀ e ∈ code_46_0, decode (mB 46) e.1 = .ok (e.2.1, e.2.2) := by decide +kernel
def code_46 : List (Nat × Instr × Nat) := code_46_0
theorem okc_46 : ∀ e ∈ code_46, decode (mB 46) e.1 = .ok (e.2.1, e.2.2) := okc_46_0
def code_47_0 : List (Nat × Instr × Nat) := [(0, .iconst 0, 1), (1, .istore_n 2, 1), (2, .iload_n 2, 1), (3, .aload_n 0, 1), (4, .iload_n 1, 1), (5, .invokevirtual 74, 3), (8, .if_icmp .ge 20, 3), (11, .aload_n 0, 1), (12, .iload_n 1, 1), (13, .iload_n 2, 1), (14, .invokevirtual 67, 3), (17, .ifCond .ne 5, 3), (20, .iconst 1, 1), (21, .ireturn, 1), (22, .iinc 2 1, 3), (25, .goto (-23), 3), (28, .iconst 0, 1), (29, .ireturn, 1)]
theorem okc_47_0 : ∀ e ∈ code_47_0, decode (mB 47) e.1 = .ok (e.2.1, e.2.2) := by decide +kernel
def code_47 : List (Nat × Instr × Nat) := code_47_0
theorem okc_47 : ∀ e ∈ code_47, decode (mB 47) e.1 = .ok (e.2.1, e.2.2) := okc_47_0
def code_48_0 : List (Nat × Instr × Nat) := [(0, .iload_n 1, 1), (1, .ifCond .lt 20, 3), (4, .iload_n 1, 1), (5, .aload_n 0, 1), (6, .getfield 37, 3), (9, .if_icmp .ge 12, 3), (12, .aload_n 0, 1), (13, .getfield 21, 3), (16, .iload_n 1, 1), (17, .iaload, 1), (18, .goto 4, 3), (21, .iconst 0, 1), (22, .ireturn, 1)]
theorem okc_48_0 : ∀ e ∈ code_48_0, decode (mB 48) e.1 = .ok (e.2.1, e.2.2) := by decide +kernel
def code_48 : List (Nat × Instr × Nat) := code_48_0
theorem okc_48 : ∀ e ∈ code_48, decode (mB 48) e.1 = .ok (e.2.1, e.2.2) := okc_48_0
def code_49_0 : List (Nat × Instr × Nat) := [(0, .aload_n 0, 1), (1, .iload_n 1, 1), (2, .iload_n 2, 1), (3, .invokevirtual 63, 3), (6, .ifCond .eq 16, 3), (9, .aload_n 0, 1), (10, .getfield 27, 3), (13, .iload_n 1, 1), (14, .iconst 3, 1), (15, .imul, 1), (16, .iload_n 2, 1), (17, .iadd, 1), (18, .iaload, 1), (19, .goto 4, 3), (22, .iconst 2, 1), (23, .ireturn, 1)]
theorem okc_49_0 : ∀ e ∈ code_49_0, decode (mB 49) e.1 = .ok (e.2.1, e.2.2) := by decide +kernel
def code_49 : List (Nat × Instr × Nat) := code_49_0
theorem okc_49 : ∀ e ∈ code_49, decode (mB 49) e.1 = .ok (e.2.1, e.2.2) := okc_49_0
def code_50_0 : List (Nat × Instr × Nat) := [(0, .iload_n 1, 1), (1, .ifCond .lt 29, 3), (4, .iload_n 1, 1), (5, .aload_n 0, 1), (6, .getfield 37, 3), (9, .if_icmp .ge 21, 3), (12, .iload_n 2, 1), (13, .ifCond .lt 17, 3), (16, .iload_n 2, 1), (17, .aload_n 0, 1), (18, .getfield 21, 3), (21, .iload_n 1, 1), (22, .iaload, 1), (23, .if_icmp .ge 7, 3), (26, .iconst 1, 1), (27, .goto 4, 3), (30, .iconst 0, 1), (31, .ireturn, 1)]
theorem okc_50_0 : ∀ e ∈ code_50_0, decode (mB 50) e.1 = .ok (e.2.1, e.2.2) := by decide +kernel
def code_50 : List (Nat × Instr × Nat) := code_50_0
theorem okc_50 : ∀ e ∈ code_50, decode (mB 50) e.1 = .ok (e.2.1, e.2.2) := okc_50_0
def code_51_0 : List (Nat × Instr × Nat) := [(0, .aload_n 0, 1), (1, .iconst 0, 1), (2, .putfield 13, 3), (5, .return_, 1)]
theorem okc_51_0 : ∀ e ∈ code_51_0, decode (mB 51) e.1 = .ok (e.2.1, e.2.2) := by decide +kernel
def code_51 : List (Nat × Instr × Nat) := code_51_0
theorem okc_51 : ∀ e ∈ code_51, decode (mB 51) e.1 = .ok (e.2.1, e.2.2) := okc_51_0
def code_52_0 : List (Nat × Instr × Nat) := [(0, .aload_n 0, 1), (1, .getfield 68, 3), (4, .ifCond .eq 14, 3), (7, .aload_n 0, 1), (8, .getfield 29, 3), (11, .iload_n 1, 1), (12, .invokevirtual 86, 3), (15, .ifCond .ne 5, 3), (18, .iconst (-1), 1), (19, .ireturn, 1), (20, .iload_n 2, 1), (21, .ifCond .ne 20, 3), (24, .aload_n 0, 1), (25, .getfield 76, 3), (28, .iload_n 1, 1), (29, .invokestatic 90, 3), (32, .ifCond .eq 7, 3), (35, .iconst 1, 1), (36, .goto 4, 3), (39, .iconst 0, 1), (40, .ireturn, 1), (41, .iload_n 2, 1), (42, .iconst 1, 1), (43, .if_icmp .lt 20, 3), (46, .iload_n 2, 1), (47, .iconst 3, 1), (48, .if_icmp .gt 15, 3), (51, .aload_n 0, 1), (52, .getfield 29, 3), (55, .iload_n 1, 1), (56, .iload_n 2, 1), (57, .iconst 1, 1), (58, .isub, 1), (59, .invokevirtual 96, 3), (62, .ireturn, 1), (63, .iload_n 2, 1), (64, .iconst 4, 1), (65, .if_icmp .lt 21, 3), (68, .iload_n 2, 1), (69, .bipush 6, 2), (71, .if_icmp .gt 15, 3), (74, .aload_n 0, 1), (75, .getfield 76, 3), (78, .iload_n 2, 1), (79, .iconst 4, 1), (80, .isub, 1), (81, .iload_n 1, 1), (82, .invokestatic 100, 3)]
theorem okc_52_0 : ∀ e ∈ code_52_0, decode (mB 52) e.1 = .ok (e.2.1, e.2.2) := by decide +kernel
def code_52_1 : List (Nat × Instr × Nat) := [(85, .ireturn, 1), (86, .iload_n 2, 1), (87, .bipush 7, 2), (89, .if_icmp .ne 19, 3), (92, .aload_n 0, 1), (93, .getfield 29, 3), (96, .iload_n 1, 1), (97, .aload_n 0, 1), (98, .getfield 76, 3), (101, .iload_n 1, 1), (102, .invokevirtual 104, 3), (105, .goto 4, 3), (108, .iconst (-1), 1), (109, .ireturn, 1)]
theorem okc_52_1 : ∀ e ∈ code_52_1, decode (mB 52) e.1 = .ok (e.2.1, e.2.2) := by decide +kernel
def code_52 : List (Nat × Instr × Nat) := code_52_0 ++ (code_52_1)
theorem okc_52 : ∀ e ∈ code_52, decode (mB 52) e.1 = .ok (e.2.1, e.2.2) := (memP_app okc_52_0 okc_52_1)
def code_53_0 : List (Nat × Instr × Nat) := [(0, .iload_n 1, 1), (1, .ifCond .lt 15, 3), (4, .iload_n 1, 1), (5, .aload_n 0, 1), (6, .getfield 33, 3), (9, .if_icmp .ge 7, 3), (12, .iconst 1, 1), (13, .goto 4, 3), (16, .iconst 0, 1), (17, .ireturn, 1)]
theorem okc_53_0 : ∀ e ∈ code_53_0, decode (mB 53) e.1 = .ok (e.2.1, e.2.2) := by decide +kernel
def code_53 : List (Nat × Instr × Nat) := code_53_0
theorem okc_53 : ∀ e ∈ code_53, decode (mB 53) e.1 = .ok (e.2.1, e.2.2) := okc_53_0
def code_54_0 : List (Nat × Instr × Nat) := [(0, .lload_n 0, 1), (1, .invokestatic 23, 3), (4, .iload_n 2, 1), (5, .ishr, 1), (6, .iconst 1, 1), (7, .iand, 1), (8, .iconst 1, 1), (9, .if_icmp .ne 7, 3), (12, .iconst 1, 1), (13, .goto 4, 3), (16, .iconst 0, 1), (17, .ireturn, 1)]
theorem okc_54_0 : ∀ e ∈ code_54_0, decode (mB 54) e.1 = .ok (e.2.1, e.2.2) := by decide +kernel
def code_54 : List (Nat × Instr × Nat) := code_54_0
theorem okc_54 : ∀ e ∈ code_54, decode (mB 54) e.1 = .ok (e.2.1, e.2.2) := okc_54_0
def code_55_0 : List (Nat × Instr × Nat) := [(0, .lload_n 0, 1), (1, .bipush 36, 2), (3, .lushr, 1), (4, .l2i, 1), (5, .bipush 7, 2), (7, .iand, 1), (8, .ireturn, 1)]
theorem okc_55_0 : ∀ e ∈ code_55_0, decode (mB 55) e.1 = .ok (e.2.1, e.2.2) := by decide +kernel
def code_55 : List (Nat × Instr × Nat) := code_55_0
theorem okc_55 : ∀ e ∈ code_55, decode (mB 55) e.1 = .ok (e.2.1, e.2.2) := okc_55_0
def code_56_0 : List (Nat × Instr × Nat) := [(0, .iload_n 1, 1), (1, .ifCond .lt 20, 3), (4, .iload_n 1, 1), (5, .aload_n 0, 1), (6, .getfield 33, 3), (9, .if_icmp .ge 12, 3), (12, .iload_n 2, 1), (13, .ifCond .lt 8, 3), (16, .iload_n 2, 1), (17, .iconst 3, 1), (18, .if_icmp .lt 5, 3), (21, .iconst 0, 1), (22, .ireturn, 1), (23, .aload_n 0, 1), (24, .getfield 17, 3), (27, .iload_n 1, 1), (28, .iconst 3, 1), (29, .imul, 1), (30, .iload_n 2, 1), (31, .iadd, 1), (32, .iaload, 1), (33, .ireturn, 1)]
theorem okc_56_0 : ∀ e ∈ code_56_0, decode (mB 56) e.1 = .ok (e.2.1, e.2.2) := by decide +kernel
def code_56 : List (Nat × Instr × Nat) := code_56_0
theorem okc_56 : ∀ e ∈ code_56, decode (mB 56) e.1 = .ok (e.2.1, e.2.2) := okc_56_0
def code_57_0 : List (Nat × Instr × Nat) := [(0, .lload_n 0, 1), (1, .bipush 12, 2), (3, .iload_n 2, 1), (4, .imul, 1), (5, .iconst 3, 1), (6, .iload_n 3, 1), (7, .imul, 1), (8, .iadd, 1), (9, .lushr, 1), (10, .l2i, 1), (11, .bipush 7, 2), (13, .iand, 1), (14, .ireturn, 1)]
theorem okc_57_0 : ∀ e ∈ code_57_0, decode (mB 57) e.1 = .ok (e.2.1, e.2.2) := by decide +kernel
def code_57 : List (Nat × Instr × Nat) := code_57_0
theorem okc_57 : ∀ e ∈ code_57, decode (mB 57) e.1 = .ok (e.2.1, e.2.2) := okc_57_0
def code_58_0 : List (Nat × Instr × Nat) := [(0, .iload_n 1, 1), (1, .ifCond .lt 11, 3), (4, .iload_n 1, 1), (5, .aload_n 0, 1), (6, .getfield 33, 3), (9, .if_icmp .lt 5, 3), (12, .iconst 0, 1), (13, .ireturn, 1), (14, .iload_n 1, 1), (15, .iconst 3, 1), (16, .imul, 1), (17, .istore 5, 2), (19, .lload_n 2, 1), (20, .iconst 3, 1), (21, .iload 4, 2), (23, .imul, 1), (24, .lushr, 1), (25, .lstore 6, 2), (27, .iconst 0, 1), (28, .istore 8, 2), (30, .iconst 0, 1), (31, .istore 9, 2), (33, .iload 9, 2), (35, .iconst 3, 1), (36, .if_icmp .ge 38, 3), (39, .iload 8, 2), (41, .aload_n 0, 1), (42, .getfield 17, 3), (45, .iload 5, 2), (47, .iload 9, 2), (49, .iadd, 1), (50, .iaload, 1), (51, .lload 6, 2), (53, .l2i, 1), (54, .bipush 7, 2), (56, .iand, 1), (57, .imul, 1), (58, .iadd, 1), (59, .istore 8, 2), (61, .lload 6, 2), (63, .bipush 12, 2), (65, .lushr, 1), (66, .lstore 6, 2), (68, .iinc 9 1, 3), (71, .goto (-38), 3), (74, .iload 8, 2), (76, .ireturn, 1)]
theorem okc_58_0 : ∀ e ∈ code_58_0, decode (mB 58) e.1 = .ok (e.2.1, e.2.2) := by decide +kernel
def code_58 : List (Nat × Instr × Nat) := code_58_0
theorem okc_58 : ∀ e ∈ code_58, decode (mB 58) e.1 = .ok (e.2.1, e.2.2) := okc_58_0
def code_59_0 : List (Nat × Instr × Nat) := [(0, .aload_n 0, 1), (1, .getfield 68, 3), (4, .ifCond .eq 15, 3), (7, .aload_n 0, 1), (8, .getfield 29, 3), (11, .iload_n 1, 1), (12, .iload_n 2, 1), (13, .invokevirtual 108, 3), (16, .ifCond .ne 5, 3), (19, .iconst (-1), 1), (20, .ireturn, 1), (21, .iload_n 3, 1), (22, .tableswitch 56 0 2 #[26, 36, 46], 26), (48, .aload_n 0, 1), (49, .getfield 29, 3), (52, .iload_n 1, 1), (53, .iload_n 2, 1), (54, .invokevirtual 112, 3), (57, .ireturn, 1), (58, .aload_n 0, 1), (59, .getfield 29, 3), (62, .iload_n 1, 1), (63, .iload_n 2, 1), (64, .invokevirtual 115, 3), (67, .ireturn, 1), (68, .aload_n 0, 1), (69, .getfield 29, 3), (72, .iload_n 1, 1), (73, .iload_n 2, 1), (74, .invokevirtual 118, 3), (77, .ireturn, 1), (78, .iconst (-1), 1), (79, .ireturn, 1)]
theorem okc_59_0 : ∀ e ∈ code_59_0, decode (mB 59) e.1 = .ok (e.2.1, e.2.2) := by decide +kernel
def code_59 : List (Nat × Instr × Nat) := code_59_0
theorem okc_59 : ∀ e ∈ code_59, decode (mB 59) e.1 = .ok (e.2.1, e.2.2) := okc_59_0
def code_60_0 : List (Nat × Instr × Nat) := [(0, .aload_n 0, 1), (1, .iload_n 1, 1), (2, .iload_n 2, 1), (3, .invokevirtual 63, 3), (6, .ifCond .eq 16, 3), (9, .aload_n 0, 1), (10, .getfield 24, 3), (13, .iload_n 1, 1), (14, .iconst 3, 1), (15, .imul, 1), (16, .iload_n 2, 1), (17, .iadd, 1), (18, .iaload, 1), (19, .goto 4, 3), (22, .iconst 0, 1), (23, .ireturn, 1)]
theorem okc_60_0 : ∀ e ∈ code_60_0, decode (mB 60) e.1 = .ok (e.2.1, e.2.2) := by decide +kernel
def code_60 : List (Nat × Instr × Nat) := code_60_0
theorem okc_60 : ∀ e ∈ code_60, decode (mB 60) e.1 = .ok (e.2.1, e.2.2) := okc_60_0
def code_61_0 : List (Nat × Instr × Nat) := [(0, .aload_n 0, 1), (1, .iload_n 1, 1), (2, .iload_n 2, 1), (3, .invokevirtual 63, 3), (6, .ifCond .eq 16, 3), (9, .aload_n 0, 1), (10, .getfield 30, 3), (13, .iload_n 1, 1), (14, .iconst 3, 1), (15, .imul, 1), (16, .iload_n 2, 1), (17, .iadd, 1), (18, .iaload, 1), (19, .goto 4, 3), (22, .iconst (-1), 1), (23, .ireturn, 1)]
theorem okc_61_0 : ∀ e ∈ code_61_0, decode (mB 61) e.1 = .ok (e.2.1, e.2.2) := by decide +kernel
def code_61 : List (Nat × Instr × Nat) := code_61_0
theorem okc_61 : ∀ e ∈ code_61, decode (mB 61) e.1 = .ok (e.2.1, e.2.2) := okc_61_0
def code_62_0 : List (Nat × Instr × Nat) := [(0, .aload_n 0, 1), (1, .getfield 76, 3), (4, .invokestatic 121, 3), (7, .istore_n 2, 1), (8, .aload_n 0, 1), (9, .getfield 68, 3), (12, .ifCond .eq 23, 3), (15, .aload_n 0, 1), (16, .getfield 41, 3), (19, .iconst (-1), 1), (20, .if_icmp .ne 15, 3), (23, .aload_n 0, 1), (24, .getfield 29, 3), (27, .iload_n 2, 1), (28, .iload_n 1, 1), (29, .invokevirtual 108, 3), (32, .ifCond .ne 5, 3), (35, .iconst (-1), 1), (36, .ireturn, 1), (37, .aload_n 0, 1), (38, .aload_n 0, 1), (39, .getfield 29, 3), (42, .iload_n 2, 1), (43, .iload_n 1, 1), (44, .invokevirtual 125, 3), (47, .putfield 41, 3), (50, .aload_n 0, 1), (51, .aload_n 0, 1), (52, .getfield 29, 3), (55, .aload_n 0, 1), (56, .getfield 76, 3), (59, .iload_n 2, 1), (60, .iload_n 1, 1), (61, .invokevirtual 128, 3), (64, .putfield 76, 3), (67, .aload_n 0, 1), (68, .getfield 76, 3), (71, .invokestatic 121, 3), (74, .ireturn, 1)]
theorem okc_62_0 : ∀ e ∈ code_62_0, decode (mB 62) e.1 = .ok (e.2.1, e.2.2) := by decide +kernel
def code_62 : List (Nat × Instr × Nat) := code_62_0
theorem okc_62 : ∀ e ∈ code_62, decode (mB 62) e.1 = .ok (e.2.1, e.2.2) := okc_62_0
def code_63_0 : List (Nat × Instr × Nat) := [(0, .lload_n 0, 1), (1, .bipush 39, 2), (3, .lushr, 1), (4, .l2i, 1), (5, .bipush 7, 2), (7, .iand, 1), (8, .ireturn, 1)]
theorem okc_63_0 : ∀ e ∈ code_63_0, decode (mB 63) e.1 = .ok (e.2.1, e.2.2) := by decide +kernel
def code_63 : List (Nat × Instr × Nat) := code_63_0
theorem okc_63 : ∀ e ∈ code_63, decode (mB 63) e.1 = .ok (e.2.1, e.2.2) := okc_63_0
def code_64_0 : List (Nat × Instr × Nat) := [(0, .aload_n 0, 1), (1, .iload_n 1, 1), (2, .iload_n 2, 1), (3, .invokevirtual 67, 3), (6, .ifCond .ne 12, 3), (9, .aload_n 0, 1), (10, .iload_n 1, 1), (11, .iload_n 2, 1), (12, .invokevirtual 71, 3), (15, .goto 4, 3), (18, .iconst (-1), 1), (19, .ireturn, 1)]
theorem okc_64_0 : ∀ e ∈ code_64_0, decode (mB 64) e.1 = .ok (e.2.1, e.2.2) := by decide +kernel
def code_64 : List (Nat × Instr × Nat) := code_64_0
theorem okc_64 : ∀ e ∈ code_64, decode (mB 64) e.1 = .ok (e.2.1, e.2.2) := okc_64_0
def code_65_0 : List (Nat × Instr × Nat) := [(0, .lload_n 1, 1), (1, .ldc2_w 88, 3), (4, .ladd, 1), (5, .lstore 5, 2), (7, .aload_n 0, 1), (8, .iload_n 3, 1), (9, .iload 4, 2), (11, .invokevirtual 67, 3), (14, .iconst 1, 1), (15, .if_icmp .ne 21, 3), (18, .lload 5, 2), (20, .lconst 1, 1), (21, .bipush 36, 2), (23, .aload_n 0, 1), (24, .iload_n 3, 1), (25, .iload 4, 2), (27, .invokevirtual 71, 3), (30, .iadd, 1), (31, .lshl, 1), (32, .lor, 1), (33, .goto 5, 3), (36, .lload 5, 2), (38, .lreturn, 1)]
theorem okc_65_0 : ∀ e ∈ code_65_0, decode (mB 65) e.1 = .ok (e.2.1, e.2.2) := by decide +kernel
def code_65 : List (Nat × Instr × Nat) := code_65_0
theorem okc_65 : ∀ e ∈ code_65, decode (mB 65) e.1 = .ok (e.2.1, e.2.2) := okc_65_0
def code_66_0 : List (Nat × Instr × Nat) := [(0, .aload_n 0, 1), (1, .getfield 41, 3), (4, .iconst (-1), 1), (5, .if_icmp .eq 25, 3), (8, .aload_n 0, 1), (9, .getfield 29, 3), (12, .aload_n 0, 1), (13, .getfield 76, 3), (16, .iload_n 1, 1), (17, .aload_n 0, 1), (18, .getfield 29, 3), (21, .getfield 132, 3), (24, .invokevirtual 135, 3), (27, .ifCond .ne 5, 3), (30, .iconst 0, 1), (31, .ireturn, 1), (32, .aload_n 0, 1), (33, .aload_n 0, 1), (34, .getfield 76, 3), (37, .aload_n 0, 1), (38, .getfield 41, 3), (41, .iload_n 1, 1), (42, .invokestatic 139, 3), (45, .putfield 76, 3), (48, .aload_n 0, 1), (49, .iconst (-1), 1), (50, .putfield 41, 3), (53, .iconst 1, 1), (54, .ireturn, 1)]
theorem okc_66_0 : ∀ e ∈ code_66_0, decode (mB 66) e.1 = .ok (e.2.1, e.2.2) := by decide +kernel
def code_66 : List (Nat × Instr × Nat) := code_66_0
theorem okc_66 : ∀ e ∈ code_66, decode (mB 66) e.1 = .ok (e.2.1, e.2.2) := okc_66_0
def code_67_0 : List (Nat × Instr × Nat) := [(0, .iload_n 3, 1), (1, .iconst 3, 1), (2, .if_icmp .ne 18, 3), (5, .lload_n 1, 1), (6, .invokestatic 90, 3), (9, .iload 4, 2), (11, .if_icmp .ge 7, 3), (14, .iconst 1, 1), (15, .goto 4, 3), (18, .iconst 0, 1), (19, .ireturn, 1), (20, .aload_n 0, 1), (21, .iload_n 3, 1), (22, .invokevirtual 94, 3), (25, .ifCond .eq 15, 3), (28, .lload_n 1, 1), (29, .iload_n 3, 1), (30, .invokestatic 98, 3), (33, .ifCond .eq 7, 3), (36, .iconst 1, 1), (37, .goto 4, 3), (40, .iconst 0, 1), (41, .ireturn, 1)]
theorem okc_67_0 : ∀ e ∈ code_67_0, decode (mB 67) e.1 = .ok (e.2.1, e.2.2) := by decide +kernel
def code_67 : List (Nat × Instr × Nat) := code_67_0
theorem okc_67 : ∀ e ∈ code_67, decode (mB 67) e.1 = .ok (e.2.1, e.2.2) := okc_67_0
def code_68_0 : List (Nat × Instr × Nat) := [(0, .lload_n 0, 1), (1, .iconst 3, 1), (2, .invokestatic 19, 3), (5, .ireturn, 1)]
theorem okc_68_0 : ∀ e ∈ code_68_0, decode (mB 68) e.1 = .ok (e.2.1, e.2.2) := by decide +kernel
def code_68 : List (Nat × Instr × Nat) := code_68_0
theorem okc_68 : ∀ e ∈ code_68, decode (mB 68) e.1 = .ok (e.2.1, e.2.2) := okc_68_0
def code_69_0 : List (Nat × Instr × Nat) := [(0, .lload_n 0, 1), (1, .iconst 0, 1), (2, .iload_n 2, 1), (3, .invokestatic 15, 3), (6, .lload_n 0, 1), (7, .iconst 1, 1), (8, .iload_n 2, 1), (9, .invokestatic 15, 3), (12, .iadd, 1), (13, .lload_n 0, 1), (14, .iconst 2, 1), (15, .iload_n 2, 1), (16, .invokestatic 15, 3), (19, .iadd, 1), (20, .ireturn, 1)]
theorem okc_69_0 : ∀ e ∈ code_69_0, decode (mB 69) e.1 = .ok (e.2.1, e.2.2) := by decide +kernel
def code_69 : List (Nat × Instr × Nat) := code_69_0
theorem okc_69 : ∀ e ∈ code_69, decode (mB 69) e.1 = .ok (e.2.1, e.2.2) := okc_69_0
def code_70_0 : List (Nat × Instr × Nat) := [(0, .lload_n 0, 1), (1, .iload_n 2, 1), (2, .iload_n 3, 1), (3, .invokestatic 11, 3), (6, .ladd, 1), (7, .lreturn, 1)]
theorem okc_70_0 : ∀ e ∈ code_70_0, decode (mB 70) e.1 = .ok (e.2.1, e.2.2) := by decide +kernel
def code_70 : List (Nat × Instr × Nat) := code_70_0
theorem okc_70 : ∀ e ∈ code_70, decode (mB 70) e.1 = .ok (e.2.1, e.2.2) := okc_70_0
def code_71_0 : List (Nat × Instr × Nat) := [(0, .lconst 1, 1), (1, .bipush 12, 2), (3, .iload_n 0, 1), (4, .imul, 1), (5, .iconst 3, 1), (6, .iload_n 1, 1), (7, .imul, 1), (8, .iadd, 1), (9, .lshl, 1), (10, .lreturn, 1)]
theorem okc_71_0 : ∀ e ∈ code_71_0, decode (mB 71) e.1 = .ok (e.2.1, e.2.2) := by decide +kernel
def code_71 : List (Nat × Instr × Nat) := code_71_0
theorem okc_71 : ∀ e ∈ code_71, decode (mB 71) e.1 = .ok (e.2.1, e.2.2) := okc_71_0
def code_72_0 : List (Nat × Instr × Nat) := [(0, .aload_n 0, 1), (1, .iload_n 1, 1), (2, .invokevirtual 142, 3), (5, .ifCond .eq 10, 3), (8, .aload_n 0, 1), (9, .invokevirtual 145, 3), (12, .ifCond .le 6, 3), (15, .ldc 149, 2), (17, .ireturn, 1), (18, .aload_n 0, 1), (19, .getfield 37, 3), (22, .iload_n 1, 1), (23, .aload_n 0, 1), (24, .getfield 29, 3), (27, .getfield 150, 3), (30, .invokevirtual 153, 3), (33, .aload_n 0, 1), (34, .getfield 76, 3), (37, .invokevirtual 157, 3), (40, .l2i, 1), (41, .ireturn, 1)]
theorem okc_72_0 : ∀ e ∈ code_72_0, decode (mB 72) e.1 = .ok (e.2.1, e.2.2) := by decide +kernel
def code_72 : List (Nat × Instr × Nat) := code_72_0
theorem okc_72 : ∀ e ∈ code_72, decode (mB 72) e.1 = .ok (e.2.1, e.2.2) := okc_72_0
def code_73_0 : List (Nat × Instr × Nat) := [(0, .aload_n 0, 1), (1, .getfield 68, 3), (4, .ifCond .eq 22, 3), (7, .iload_n 1, 1), (8, .invokestatic 163, 3), (11, .ifCond .eq 15, 3), (14, .aload_n 0, 1), (15, .getfield 41, 3), (18, .iconst (-1), 1), (19, .if_icmp .ne 7, 3), (22, .iconst 1, 1), (23, .goto 4, 3), (26, .iconst 0, 1), (27, .ireturn, 1)]
theorem okc_73_0 : ∀ e ∈ code_73_0, decode (mB 73) e.1 = .ok (e.2.1, e.2.2) := by decide +kernel
def code_73 : List (Nat × Instr × Nat) := code_73_0
theorem okc_73 : ∀ e ∈ code_73, decode (mB 73) e.1 = .ok (e.2.1, e.2.2) := okc_73_0
def code_74_0 : List (Nat × Instr × Nat) := [(0, .iload_n 0, 1), (1, .ifCond .lt 12, 3), (4, .iload_n 0, 1), (5, .iconst 3, 1), (6, .if_icmp .ge 7, 3), (9, .iconst 1, 1), (10, .goto 4, 3), (13, .iconst 0, 1), (14, .ireturn, 1)]
theorem okc_74_0 : ∀ e ∈ code_74_0, decode (mB 74) e.1 = .ok (e.2.1, e.2.2) := by decide +kernel
def code_74 : List (Nat × Instr × Nat) := code_74_0
theorem okc_74 : ∀ e ∈ code_74, decode (mB 74) e.1 = .ok (e.2.1, e.2.2) := okc_74_0
def code_75_0 : List (Nat × Instr × Nat) := [(0, .aload_n 0, 1), (1, .getfield 29, 3), (4, .getfield 228, 3), (7, .aload_n 0, 1), (8, .getfield 76, 3), (11, .invokestatic 121, 3), (14, .isub, 1), (15, .ireturn, 1)]
theorem okc_75_0 : ∀ e ∈ code_75_0, decode (mB 75) e.1 = .ok (e.2.1, e.2.2) := by decide +kernel
def code_75 : List (Nat × Instr × Nat) := code_75_0
theorem okc_75 : ∀ e ∈ code_75, decode (mB 75) e.1 = .ok (e.2.1, e.2.2) := okc_75_0
def code_76_0 : List (Nat × Instr × Nat) := [(0, .iload_n 1, 1), (1, .iconst 3, 1), (2, .imul, 1), (3, .istore_n 3, 1), (4, .iconst 0, 1), (5, .istore 4, 2), (7, .iload 4, 2), (9, .iload_n 2, 1), (10, .if_icmp .gt 33, 3), (13, .aload_n 0, 1), (14, .getfield 33, 3), (17, .iload_n 3, 1), (18, .iload 4, 2), (20, .iadd, 1), (21, .aaload, 1), (22, .getfield 60, 3), (25, .aload_n 0, 1), (26, .getfield 18, 3), (29, .invokevirtual 70, 3), (32, .ldc 74, 2), (34, .invokevirtual 75, 3), (37, .iinc 4 1, 3), (40, .goto (-33), 3), (43, .aload_n 0, 1), (44, .getfield 33, 3), (47, .iload_n 3, 1), (48, .iload_n 2, 1), (49, .iadd, 1), (50, .aaload, 1), (51, .areturn, 1)]
theorem okc_76_0 : ∀ e ∈ code_76_0, decode (mB 76) e.1 = .ok (e.2.1, e.2.2) := by decide +kernel
def code_76 : List (Nat × Instr × Nat) := code_76_0
theorem okc_76 : ∀ e ∈ code_76, decode (mB 76) e.1 = .ok (e.2.1, e.2.2) := okc_76_0
def code_77_0 : List (Nat × Instr × Nat) := [(0, .aload_n 0, 1), (1, .getfield 37, 3), (4, .aload_n 0, 1), (5, .getfield 70, 3), (8, .iconst 1, 1), (9, .iadd, 1), (10, .iaload, 1), (11, .aload_n 0, 1), (12, .getfield 37, 3), (15, .aload_n 0, 1), (16, .getfield 70, 3), (19, .iaload, 1), (20, .isub, 1), (21, .aload_n 0, 1), (22, .getfield 71, 3), (25, .imul, 1), (26, .ireturn, 1)]
theorem okc_77_0 : ∀ e ∈ code_77_0, decode (mB 77) e.1 = .ok (e.2.1, e.2.2) := by decide +kernel
def code_77 : List (Nat × Instr × Nat) := code_77_0
theorem okc_77 : ∀ e ∈ code_77, decode (mB 77) e.1 = .ok (e.2.1, e.2.2) := okc_77_0
def code_78_0 : List (Nat × Instr × Nat) := [(0, .aload_n 0, 1), (1, .getfield 13, 3), (4, .ifCond .eq 4, 3), (7, .return_, 1), (8, .iload_n 1, 1), (9, .aload_n 0, 1), (10, .getfield 9, 3), (13, .arraylength, 1), (14, .if_icmp .le 24, 3), (17, .aload_n 0, 1), (18, .iload_n 1, 1), (19, .iconst 2, 1), (20, .aload_n 0, 1), (21, .getfield 9, 3), (24, .arraylength, 1), (25, .imul, 1), (26, .iload_n 2, 1), (27, .invokestatic 17, 3), (30, .invokestatic 23, 3), (33, .newarray .long, 2), (35, .putfield 9, 3), (38, .aload_n 0, 1), (39, .getfield 9, 3), (42, .ldc2_w 26, 3), (45, .invokestatic 28, 3), (48, .aload_n 0, 1), (49, .iconst 1, 1), (50, .putfield 13, 3), (53, .return_, 1)]
theorem okc_78_0 : ∀ e ∈ code_78_0, decode (mB 78) e.1 = .ok (e.2.1, e.2.2) := by decide +kernel
def code_78 : List (Nat × Instr × Nat) := code_78_0
theorem okc_78 : ∀ e ∈ code_78, decode (mB 78) e.1 = .ok (e.2.1, e.2.2) := okc_78_0
def code_79_0 : List (Nat × Instr × Nat) := [(0, .iconst 0, 1), (1, .istore_n 3, 1), (2, .aload_n 0, 1), (3, .arraylength, 1), (4, .istore 4, 2), (6, .iload_n 3, 1), (7, .iload 4, 2), (9, .if_icmp .ge 13, 3), (12, .aload_n 0, 1), (13, .iload_n 3, 1), (14, .lload_n 1, 1), (15, .lastore, 1), (16, .iinc 3 1, 3), (19, .goto (-13), 3), (22, .return_, 1)]
theorem okc_79_0 : ∀ e ∈ code_79_0, decode (mB 79) e.1 = .ok (e.2.1, e.2.2) := by decide +kernel
def code_79 : List (Nat × Instr × Nat) := code_79_0
theorem okc_79 : ∀ e ∈ code_79, decode (mB 79) e.1 = .ok (e.2.1, e.2.2) := okc_79_0
def code_80_0 : List (Nat × Instr × Nat) := [(0, .aload_n 0, 1), (1, .getfield 22, 3), (4, .lload_n 1, 1), (5, .invokevirtual 34, 3), (8, .istore_n 3, 1), (9, .aload_n 0, 1), (10, .getfield 12, 3), (13, .iload_n 3, 1), (14, .invokevirtual 40, 3), (17, .lstore 4, 2), (19, .lload 4, 2), (21, .ldc2_w 44, 3), (24, .lcmp, 1), (25, .ifCond .ne 20, 3), (28, .aload_n 0, 1), (29, .lload_n 1, 1), (30, .invokevirtual 46, 3), (33, .lstore 4, 2), (35, .aload_n 0, 1), (36, .getfield 12, 3), (39, .iload_n 3, 1), (40, .lload 4, 2), (42, .invokevirtual 50, 3), (45, .lload 4, 2), (47, .lreturn, 1)]
theorem okc_80_0 : ∀ e ∈ code_80_0, decode (mB 80) e.1 = .ok (e.2.1, e.2.2) := by decide +kernel
def code_80 : List (Nat × Instr × Nat) := code_80_0
theorem okc_80 : ∀ e ∈ code_80, decode (mB 80) e.1 = .ok (e.2.1, e.2.2) := okc_80_0
def code_81_0 : List (Nat × Instr × Nat) := [(0, .aload_n 0, 1), (1, .lload_n 1, 1), (2, .aload_n 0, 1), (3, .getfield 34, 3), (6, .aload_n 0, 1), (7, .getfield 70, 3), (10, .iaload, 1), (11, .invokevirtual 102, 3), (14, .istore_n 3, 1), (15, .iload_n 3, 1), (16, .iconst (-1), 1), (17, .if_icmp .ne 7, 3), (20, .iconst (-1), 1), (21, .goto 15, 3), (24, .iload_n 3, 1), (25, .aload_n 0, 1), (26, .getfield 71, 3), (29, .imul, 1), (30, .aload_n 0, 1), (31, .lload_n 1, 1), (32, .invokevirtual 106, 3), (35, .iadd, 1), (36, .ireturn, 1)]
theorem okc_81_0 : ∀ e ∈ code_81_0, decode (mB 81) e.1 = .ok (e.2.1, e.2.2) := by decide +kernel
def code_81 : List (Nat × Instr × Nat) := code_81_0
theorem okc_81 : ∀ e ∈ code_81, decode (mB 81) e.1 = .ok (e.2.1, e.2.2) := okc_81_0
def code_82_0 : List (Nat × Instr × Nat) := [(0, .aload_n 0, 1), (1, .getfield 15, 3), (4, .lload_n 1, 1), (5, .l2i, 1), (6, .sipush 4095, 3), (9, .iand, 1), (10, .iaload, 1), (11, .istore 4, 2), (13, .aload_n 0, 1), (14, .getfield 15, 3), (17, .lload_n 1, 1), (18, .bipush 12, 2), (20, .lushr, 1), (21, .l2i, 1), (22, .sipush 4095, 3), (25, .iand, 1), (26, .iaload, 1), (27, .istore 5, 2), (29, .aload_n 0, 1), (30, .getfield 15, 3), (33, .lload_n 1, 1), (34, .bipush 24, 2), (36, .lushr, 1), (37, .l2i, 1), (38, .sipush 4095, 3), (41, .iand, 1), (42, .iaload, 1), (43, .istore 6, 2), (45, .iload 4, 2), (47, .ifCond .lt 40, 3), (50, .iload 5, 2), (52, .ifCond .lt 35, 3), (55, .iload 6, 2), (57, .ifCond .lt 30, 3), (60, .aload_n 0, 1), (61, .getfield 19, 3), (64, .iload 4, 2), (66, .iaload, 1), (67, .aload_n 0, 1), (68, .getfield 19, 3), (71, .iload 5, 2), (73, .iaload, 1), (74, .iadd, 1), (75, .aload_n 0, 1), (76, .getfield 19, 3), (79, .iload 6, 2), (81, .iaload, 1), (82, .iadd, 1)]
theorem okc_82_0 : ∀ e ∈ code_82_0, decode (mB 82) e.1 = .ok (e.2.1, e.2.2) := by decide +kernel
def code_82_1 : List (Nat × Instr × Nat) := [(83, .iload_n 3, 1), (84, .if_icmp .le 5, 3), (87, .iconst (-1), 1), (88, .ireturn, 1), (89, .aload_n 0, 1), (90, .getfield 28, 3), (93, .iload_n 3, 1), (94, .sipush 210, 3), (97, .imul, 1), (98, .iload 4, 2), (100, .iadd, 1), (101, .iaload, 1), (102, .aload_n 0, 1), (103, .getfield 25, 3), (106, .iload_n 3, 1), (107, .aload_n 0, 1), (108, .getfield 19, 3), (111, .iload 4, 2), (113, .iaload, 1), (114, .isub, 1), (115, .sipush 210, 3), (118, .imul, 1), (119, .iload 5, 2), (121, .iadd, 1), (122, .iaload, 1), (123, .iadd, 1), (124, .iload 6, 2), (126, .iadd, 1), (127, .ireturn, 1)]
theorem okc_82_1 : ∀ e ∈ code_82_1, decode (mB 82) e.1 = .ok (e.2.1, e.2.2) := by decide +kernel
def code_82 : List (Nat × Instr × Nat) := code_82_0 ++ (code_82_1)
theorem okc_82 : ∀ e ∈ code_82, decode (mB 82) e.1 = .ok (e.2.1, e.2.2) := (memP_app okc_82_0 okc_82_1)
def code_83_0 : List (Nat × Instr × Nat) := [(0, .aload_n 0, 1), (1, .getfield 40, 3), (4, .lload_n 1, 1), (5, .invokestatic 95, 3), (8, .iaload, 1), (9, .ireturn, 1)]
theorem okc_83_0 : ∀ e ∈ code_83_0, decode (mB 83) e.1 = .ok (e.2.1, e.2.2) := by decide +kernel
def code_83 : List (Nat × Instr × Nat) := code_83_0
theorem okc_83 : ∀ e ∈ code_83, decode (mB 83) e.1 = .ok (e.2.1, e.2.2) := okc_83_0
def code_84_0 : List (Nat × Instr × Nat) := [(0, .iload_n 1, 1), (1, .ifCond .lt 21, 3), (4, .iload_n 1, 1), (5, .aload_n 0, 1), (6, .getfield 9, 3), (9, .arraylength, 1), (10, .if_icmp .ge 12, 3), (13, .aload_n 0, 1), (14, .getfield 9, 3), (17, .iload_n 1, 1), (18, .laload, 1), (19, .goto 6, 3), (22, .ldc2_w 26, 3), (25, .lreturn, 1)]
theorem okc_84_0 : ∀ e ∈ code_84_0, decode (mB 84) e.1 = .ok (e.2.1, e.2.2) := by decide +kernel
def code_84 : List (Nat × Instr × Nat) := code_84_0
theorem okc_84 : ∀ e ∈ code_84, decode (mB 84) e.1 = .ok (e.2.1, e.2.2) := okc_84_0
def code_85_0 : List (Nat × Instr × Nat) := [(0, .lload_n 1, 1), (1, .invokestatic 54, 3), (4, .istore_n 3, 1), (5, .iload_n 3, 1), (6, .iconst (-1), 1), (7, .if_icmp .eq 10, 3), (10, .aload_n 0, 1), (11, .lload_n 1, 1), (12, .iload_n 3, 1), (13, .invokevirtual 59, 3), (16, .lreturn, 1), (17, .aload_n 0, 1), (18, .getfield 30, 3), (21, .ifnull 13, 3), (24, .aload_n 0, 1), (25, .lload_n 1, 1), (26, .aload_n 0, 1), (27, .getfield 30, 3), (30, .invokevirtual 63, 3), (33, .lreturn, 1), (34, .aload_n 0, 1), (35, .getfield 26, 3), (38, .ifCond .ne 13, 3), (41, .aload_n 0, 1), (42, .getfield 18, 3), (45, .lload_n 1, 1), (46, .invokestatic 67, 3), (49, .i2l, 1), (50, .lreturn, 1), (51, .aload_n 0, 1), (52, .getfield 26, 3), (55, .iconst 1, 1), (56, .if_icmp .ne 16, 3), (59, .aload_n 0, 1), (60, .getfield 18, 3), (63, .lload_n 1, 1), (64, .invokestatic 73, 3), (67, .ineg, 1), (68, .i2l, 1), (69, .goto 12, 3), (72, .aload_n 0, 1), (73, .getfield 18, 3), (76, .lload_n 1, 1), (77, .invokestatic 76, 3), (80, .i2l, 1), (81, .lreturn, 1)]
theorem okc_85_0 : ∀ e ∈ code_85_0, decode (mB 85) e.1 = .ok (e.2.1, e.2.2) := by decide +kernel
def code_85 : List (Nat × Instr × Nat) := code_85_0
theorem okc_85 : ∀ e ∈ code_85, decode (mB 85) e.1 = .ok (e.2.1, e.2.2) := okc_85_0
def code_86_0 : List (Nat × Instr × Nat) := [(0, .iconst 0, 1), (1, .istore_n 2, 1), (2, .iload_n 2, 1), (3, .iconst 3, 1), (4, .if_icmp .ge 20, 3), (7, .lload_n 0, 1), (8, .iload_n 2, 1), (9, .iconst 3, 1), (10, .invokestatic 15, 3), (13, .ifCond .le 5, 3), (16, .iload_n 2, 1), (17, .ireturn, 1), (18, .iinc 2 1, 3), (21, .goto (-19), 3), (24, .iconst (-1), 1), (25, .ireturn, 1)]
theorem okc_86_0 : ∀ e ∈ code_86_0, decode (mB 86) e.1 = .ok (e.2.1, e.2.2) := by decide +kernel
def code_86 : List (Nat × Instr × Nat) := code_86_0
theorem okc_86 : ∀ e ∈ code_86, decode (mB 86) e.1 = .ok (e.2.1, e.2.2) := okc_86_0
def code_87_0 : List (Nat × Instr × Nat) := [(0, .lload_n 1, 1), (1, .iload_n 3, 1), (2, .iconst 3, 1), (3, .invokestatic 79, 3), (6, .lsub, 1), (7, .lstore 4, 2), (9, .ldc2_w 44, 3), (12, .lstore 6, 2), (14, .iconst 0, 1), (15, .istore 8, 2), (17, .iload 8, 2), (19, .aload_n 0, 1), (20, .getfield 18, 3), (23, .getfield 83, 3), (26, .if_icmp .ge 37, 3), (29, .lload_n 1, 1), (30, .iload 8, 2), (32, .invokestatic 88, 3), (35, .ifCond .eq 22, 3), (38, .lload 6, 2), (40, .aload_n 0, 1), (41, .lload 4, 2), (43, .iload_n 3, 1), (44, .iload 8, 2), (46, .invokestatic 92, 3), (49, .invokevirtual 96, 3), (52, .invokestatic 99, 3), (55, .lstore 6, 2), (57, .iinc 8 1, 3), (60, .goto (-43), 3), (63, .lload 6, 2), (65, .lreturn, 1)]
theorem okc_87_0 : ∀ e ∈ code_87_0, decode (mB 87) e.1 = .ok (e.2.1, e.2.2) := by decide +kernel
def code_87 : List (Nat × Instr × Nat) := code_87_0
theorem okc_87 : ∀ e ∈ code_87, decode (mB 87) e.1 = .ok (e.2.1, e.2.2) := okc_87_0
def code_88_0 : List (Nat × Instr × Nat) := [(0, .aload_n 3, 1), (1, .lload_n 1, 1), (2, .invokevirtual 96, 3), (5, .lstore 4, 2), (7, .iconst 0, 1), (8, .istore 6, 2), (10, .iload 6, 2), (12, .iconst 3, 1), (13, .if_icmp .ge 58, 3), (16, .iconst 0, 1), (17, .istore 7, 2), (19, .iload 7, 2), (21, .aload_n 0, 1), (22, .getfield 18, 3), (25, .getfield 83, 3), (28, .if_icmp .ge 37, 3), (31, .lload_n 1, 1), (32, .iload 6, 2), (34, .iload 7, 2), (36, .invokestatic 105, 3), (39, .ifCond .le 20, 3), (42, .lload 4, 2), (44, .aload_n 0, 1), (45, .lload_n 1, 1), (46, .iload 6, 2), (48, .iload 7, 2), (50, .aload_n 3, 1), (51, .invokevirtual 109, 3), (54, .invokestatic 99, 3), (57, .lstore 4, 2), (59, .iinc 7 1, 3), (62, .goto (-43), 3), (65, .iinc 6 1, 3), (68, .goto (-58), 3), (71, .lload 4, 2), (73, .lreturn, 1)]
theorem okc_88_0 : ∀ e ∈ code_88_0, decode (mB 88) e.1 = .ok (e.2.1, e.2.2) := by decide +kernel
def code_88 : List (Nat × Instr × Nat) := code_88_0
theorem okc_88 : ∀ e ∈ code_88, decode (mB 88) e.1 = .ok (e.2.1, e.2.2) := okc_88_0
def code_89_0 : List (Nat × Instr × Nat) := [(0, .lload_n 1, 1), (1, .iload_n 3, 1), (2, .iload 4, 2), (4, .invokestatic 79, 3), (7, .lsub, 1), (8, .lstore 6, 2), (10, .ldc2_w 44, 3), (13, .lstore 8, 2), (15, .iconst 0, 1), (16, .istore 10, 2), (18, .iload 10, 2), (20, .aload_n 0, 1), (21, .getfield 18, 3), (24, .getfield 83, 3), (27, .if_icmp .ge 45, 3), (30, .iload 10, 2), (32, .iload 4, 2), (34, .if_icmp .eq 32, 3), (37, .lload_n 1, 1), (38, .iload 10, 2), (40, .invokestatic 88, 3), (43, .ifCond .eq 23, 3), (46, .lload 8, 2), (48, .aload 5, 2), (50, .lload 6, 2), (52, .iload_n 3, 1), (53, .iload 10, 2), (55, .invokestatic 92, 3), (58, .invokevirtual 96, 3), (61, .invokestatic 99, 3), (64, .lstore 8, 2), (66, .iinc 10 1, 3), (69, .goto (-51), 3), (72, .lload 8, 2), (74, .lreturn, 1)]
theorem okc_89_0 : ∀ e ∈ code_89_0, decode (mB 89) e.1 = .ok (e.2.1, e.2.2) := by decide +kernel
def code_89 : List (Nat × Instr × Nat) := code_89_0
theorem okc_89 : ∀ e ∈ code_89, decode (mB 89) e.1 = .ok (e.2.1, e.2.2) := okc_89_0
def code_90_0 : List (Nat × Instr × Nat) := [(0, .lload_n 1, 1), (1, .invokestatic 9, 3), (4, .invokestatic 15, 3), (7, .istore_n 3, 1), (8, .iconst (-1), 1), (9, .istore 4, 2), (11, .iconst 0, 1), (12, .istore 5, 2), (14, .iload 5, 2), (16, .aload_n 0, 1), (17, .getfield 21, 3), (20, .if_icmp .ge 108, 3), (23, .lload_n 1, 1), (24, .iload 5, 2), (26, .invokestatic 27, 3), (29, .ifCond .eq 93, 3), (32, .iconst 0, 1), (33, .istore 6, 2), (35, .iconst 0, 1), (36, .istore 7, 2), (38, .iload 7, 2), (40, .aload_n 0, 1), (41, .getfield 21, 3), (44, .if_icmp .ge 23, 3), (47, .iload 6, 2), (49, .aload_n 0, 1), (50, .iload 5, 2), (52, .lload_n 1, 1), (53, .iload 7, 2), (55, .invokevirtual 31, 3), (58, .iadd, 1), (59, .istore 6, 2), (61, .iinc 7 1, 3), (64, .goto (-26), 3), (67, .aload_n 0, 1), (68, .iload 5, 2), (70, .lload_n 1, 1), (71, .iload 5, 2), (73, .invokevirtual 31, 3), (76, .istore 7, 2), (78, .iload 6, 2), (80, .ifCond .ne 9, 3), (83, .sipush 1000, 3), (86, .goto 14, 3), (89, .iload 7, 2), (91, .iload_n 3, 1), (92, .imul, 1), (93, .sipush 1000, 3)]
theorem okc_90_0 : ∀ e ∈ code_90_0, decode (mB 90) e.1 = .ok (e.2.1, e.2.2) := by decide +kernel
def code_90_1 : List (Nat × Instr × Nat) := [(96, .imul, 1), (97, .iload 6, 2), (99, .idiv, 1), (100, .istore 8, 2), (102, .iload 4, 2), (104, .iconst (-1), 1), (105, .if_icmp .ne 8, 3), (108, .iload 8, 2), (110, .goto 10, 3), (113, .iload 4, 2), (115, .iload 8, 2), (117, .invokestatic 37, 3), (120, .istore 4, 2), (122, .iinc 5 1, 3), (125, .goto (-111), 3), (128, .iload 4, 2), (130, .ireturn, 1)]
theorem okc_90_1 : ∀ e ∈ code_90_1, decode (mB 90) e.1 = .ok (e.2.1, e.2.2) := by decide +kernel
def code_90 : List (Nat × Instr × Nat) := code_90_0 ++ (code_90_1)
theorem okc_90 : ∀ e ∈ code_90, decode (mB 90) e.1 = .ok (e.2.1, e.2.2) := (memP_app okc_90_0 okc_90_1)
def code_91_0 : List (Nat × Instr × Nat) := [(0, .iload_n 0, 1), (1, .iload_n 0, 1), (2, .iconst 1, 1), (3, .iushr, 1), (4, .ldc_w 265, 3), (7, .iand, 1), (8, .isub, 1), (9, .istore_n 0, 1), (10, .iload_n 0, 1), (11, .ldc_w 266, 3), (14, .iand, 1), (15, .iload_n 0, 1), (16, .iconst 2, 1), (17, .iushr, 1), (18, .ldc_w 266, 3), (21, .iand, 1), (22, .iadd, 1), (23, .istore_n 0, 1), (24, .iload_n 0, 1), (25, .iload_n 0, 1), (26, .iconst 4, 1), (27, .iushr, 1), (28, .iadd, 1), (29, .ldc_w 267, 3), (32, .iand, 1), (33, .istore_n 0, 1), (34, .iload_n 0, 1), (35, .iload_n 0, 1), (36, .bipush 8, 2), (38, .iushr, 1), (39, .iadd, 1), (40, .istore_n 0, 1), (41, .iload_n 0, 1), (42, .iload_n 0, 1), (43, .bipush 16, 2), (45, .iushr, 1), (46, .iadd, 1), (47, .istore_n 0, 1), (48, .iload_n 0, 1), (49, .bipush 63, 2), (51, .iand, 1), (52, .ireturn, 1)]
theorem okc_91_0 : ∀ e ∈ code_91_0, decode (mB 91) e.1 = .ok (e.2.1, e.2.2) := by decide +kernel
def code_91 : List (Nat × Instr × Nat) := code_91_0
theorem okc_91 : ∀ e ∈ code_91, decode (mB 91) e.1 = .ok (e.2.1, e.2.2) := okc_91_0
def code_92_0 : List (Nat × Instr × Nat) := [(0, .iconst 0, 1), (1, .istore_n 3, 1), (2, .iconst 0, 1), (3, .istore 4, 2), (5, .iload 4, 2), (7, .aload_n 0, 1), (8, .getfield 21, 3), (11, .if_icmp .ge 66, 3), (14, .iconst 0, 1), (15, .istore 5, 2), (17, .iload 5, 2), (19, .aload_n 0, 1), (20, .getfield 21, 3), (23, .if_icmp .ge 48, 3), (26, .iload 4, 2), (28, .iload 5, 2), (30, .if_icmp .eq 35, 3), (33, .lload_n 1, 1), (34, .iload 4, 2), (36, .invokestatic 27, 3), (39, .ifCond .eq 26, 3), (42, .lload_n 1, 1), (43, .iload 5, 2), (45, .invokestatic 27, 3), (48, .ifCond .eq 17, 3), (51, .iload_n 3, 1), (52, .aload_n 0, 1), (53, .lload_n 1, 1), (54, .iload 4, 2), (56, .iload 5, 2), (58, .invokestatic 43, 3), (61, .invokestatic 47, 3), (64, .istore_n 3, 1), (65, .iinc 5 1, 3), (68, .goto (-51), 3), (71, .iinc 4 1, 3), (74, .goto (-69), 3), (77, .iload_n 3, 1), (78, .ireturn, 1)]
theorem okc_92_0 : ∀ e ∈ code_92_0, decode (mB 92) e.1 = .ok (e.2.1, e.2.2) := by decide +kernel
def code_92 : List (Nat × Instr × Nat) := code_92_0
theorem okc_92 : ∀ e ∈ code_92, decode (mB 92) e.1 = .ok (e.2.1, e.2.2) := okc_92_0
def code_93_0 : List (Nat × Instr × Nat) := [(0, .aload_n 0, 1), (1, .iload_n 3, 1), (2, .lload_n 1, 1), (3, .iload 4, 2), (5, .invokevirtual 31, 3), (8, .aload_n 0, 1), (9, .iload_n 3, 1), (10, .lload_n 1, 1), (11, .iload_n 3, 1), (12, .invokevirtual 31, 3), (15, .isub, 1), (16, .istore 5, 2), (18, .lload_n 1, 1), (19, .lstore 6, 2), (21, .iconst 0, 1), (22, .istore 8, 2), (24, .iload 5, 2), (26, .ifCond .le 106, 3), (29, .iload 8, 2), (31, .bipush 6, 2), (33, .if_icmp .ge 99, 3), (36, .iconst (-1), 1), (37, .istore 9, 2), (39, .iconst 0, 1), (40, .istore 10, 2), (42, .iload 10, 2), (44, .iconst 3, 1), (45, .if_icmp .ge 48, 3), (48, .lload 6, 2), (50, .iload 10, 2), (52, .iload 4, 2), (54, .invokestatic 50, 3), (57, .ifCond .le 30, 3), (60, .iload 9, 2), (62, .iconst (-1), 1), (63, .if_icmp .eq 20, 3), (66, .aload_n 0, 1), (67, .iload_n 3, 1), (68, .iload 10, 2), (70, .invokevirtual 54, 3), (73, .aload_n 0, 1), (74, .iload_n 3, 1), (75, .iload 9, 2), (77, .invokevirtual 54, 3), (80, .if_icmp .le 7, 3), (83, .iload 10, 2), (85, .istore 9, 2), (87, .iinc 10 1, 3)]
theorem okc_93_0 : ∀ e ∈ code_93_0, decode (mB 93) e.1 = .ok (e.2.1, e.2.2) := by decide +kernel
def code_93_1 : List (Nat × Instr × Nat) := [(90, .goto (-48), 3), (93, .iload 9, 2), (95, .iconst (-1), 1), (96, .if_icmp .ne 6, 3), (99, .iload 8, 2), (101, .ireturn, 1), (102, .lload 6, 2), (104, .iload 9, 2), (106, .iload 4, 2), (108, .invokestatic 57, 3), (111, .lsub, 1), (112, .lstore 6, 2), (114, .iload 5, 2), (116, .aload_n 0, 1), (117, .iload_n 3, 1), (118, .iload 9, 2), (120, .invokevirtual 54, 3), (123, .isub, 1), (124, .istore 5, 2), (126, .iinc 8 1, 3), (129, .goto (-105), 3), (132, .iload 8, 2), (134, .ireturn, 1)]
theorem okc_93_1 : ∀ e ∈ code_93_1, decode (mB 93) e.1 = .ok (e.2.1, e.2.2) := by decide +kernel
def code_93 : List (Nat × Instr × Nat) := code_93_0 ++ (code_93_1)
theorem okc_93 : ∀ e ∈ code_93, decode (mB 93) e.1 = .ok (e.2.1, e.2.2) := (memP_app okc_93_0 okc_93_1)
def code_94_0 : List (Nat × Instr × Nat) := [(0, .iconst 0, 1), (1, .istore_n 3, 1), (2, .iconst 0, 1), (3, .istore 4, 2), (5, .iload 4, 2), (7, .aload_n 0, 1), (8, .getfield 21, 3), (11, .if_icmp .ge 30, 3), (14, .lload_n 1, 1), (15, .iload 4, 2), (17, .invokestatic 27, 3), (20, .ifCond .eq 15, 3), (23, .iload_n 3, 1), (24, .aload_n 0, 1), (25, .iload 4, 2), (27, .lload_n 1, 1), (28, .iload 4, 2), (30, .invokevirtual 31, 3), (33, .iadd, 1), (34, .istore_n 3, 1), (35, .iinc 4 1, 3), (38, .goto (-33), 3), (41, .iload_n 3, 1), (42, .ireturn, 1)]
theorem okc_94_0 : ∀ e ∈ code_94_0, decode (mB 94) e.1 = .ok (e.2.1, e.2.2) := by decide +kernel
def code_94 : List (Nat × Instr × Nat) := code_94_0
theorem okc_94 : ∀ e ∈ code_94, decode (mB 94) e.1 = .ok (e.2.1, e.2.2) := okc_94_0
def code_95_0 : List (Nat × Instr × Nat) := [(0, .iload_n 1, 1), (1, .ifCond .lt 19, 3), (4, .iload_n 1, 1), (5, .aload_n 0, 1), (6, .getfield 9, 3), (9, .arraylength, 1), (10, .if_icmp .ge 10, 3), (13, .aload_n 0, 1), (14, .getfield 9, 3), (17, .iload_n 1, 1), (18, .lload_n 2, 1), (19, .lastore, 1), (20, .return_, 1)]
theorem okc_95_0 : ∀ e ∈ code_95_0, decode (mB 95) e.1 = .ok (e.2.1, e.2.2) := by decide +kernel
def code_95 : List (Nat × Instr × Nat) := code_95_0
theorem okc_95 : ∀ e ∈ code_95, decode (mB 95) e.1 = .ok (e.2.1, e.2.2) := okc_95_0
def code_96_0 : List (Nat × Instr × Nat) := [(0, .aload_n 0, 1), (1, .getfield 68, 3), (4, .ifCond .eq 10, 3), (7, .iload_n 1, 1), (8, .invokestatic 163, 3), (11, .ifCond .ne 6, 3), (14, .ldc 149, 2), (16, .ireturn, 1), (17, .aload_n 0, 1), (18, .iload_n 1, 1), (19, .iload_n 2, 1), (20, .ifCond .eq 7, 3), (23, .iconst 1, 1), (24, .goto 4, 3), (27, .iconst 0, 1), (28, .invokevirtual 168, 3), (31, .lstore_n 3, 1), (32, .iload_n 2, 1), (33, .ifCond .eq 11, 3), (36, .aload_n 0, 1), (37, .lload_n 3, 1), (38, .invokevirtual 172, 3), (41, .goto 5, 3), (44, .lload_n 3, 1), (45, .l2i, 1), (46, .ireturn, 1)]
theorem okc_96_0 : ∀ e ∈ code_96_0, decode (mB 96) e.1 = .ok (e.2.1, e.2.2) := by decide +kernel
def code_96 : List (Nat × Instr × Nat) := code_96_0
theorem okc_96 : ∀ e ∈ code_96, decode (mB 96) e.1 = .ok (e.2.1, e.2.2) := okc_96_0
def code_97_0 : List (Nat × Instr × Nat) := [(0, .aload_n 0, 1), (1, .getfield 37, 3), (4, .iload_n 1, 1), (5, .iload_n 2, 1), (6, .invokevirtual 175, 3), (9, .astore_n 3, 1), (10, .aload_n 0, 1), (11, .getfield 41, 3), (14, .iconst (-1), 1), (15, .if_icmp .ne 14, 3), (18, .aload_n 3, 1), (19, .aload_n 0, 1), (20, .getfield 76, 3), (23, .invokevirtual 237, 3), (26, .goto 15, 3), (29, .aload_n 3, 1), (30, .aload_n 0, 1), (31, .getfield 76, 3), (34, .aload_n 0, 1), (35, .getfield 41, 3), (38, .invokevirtual 239, 3), (41, .lreturn, 1)]
theorem okc_97_0 : ∀ e ∈ code_97_0, decode (mB 97) e.1 = .ok (e.2.1, e.2.2) := by decide +kernel
def code_97 : List (Nat × Instr × Nat) := code_97_0
theorem okc_97 : ∀ e ∈ code_97, decode (mB 97) e.1 = .ok (e.2.1, e.2.2) := okc_97_0
def code_98_0 : List (Nat × Instr × Nat) := [(0, .aload_n 0, 1), (1, .getfield 42, 3), (4, .iload_n 1, 1), (5, .iconst 4, 1), (6, .imul, 1), (7, .iload_n 2, 1), (8, .iadd, 1), (9, .aaload, 1), (10, .astore_n 3, 1), (11, .aload_n 3, 1), (12, .getfield 69, 3), (15, .aload_n 0, 1), (16, .getfield 18, 3), (19, .invokevirtual 79, 3), (22, .ldc 82, 2), (24, .invokevirtual 75, 3), (27, .aload_n 3, 1), (28, .aload_n 0, 1), (29, .iload_n 1, 1), (30, .aload_n 0, 1), (31, .getfield 9, 3), (34, .getfield 83, 3), (37, .iload_n 2, 1), (38, .iconst 3, 1), (39, .if_icmp .ne 7, 3), (42, .iconst 1, 1), (43, .goto 4, 3), (46, .iconst 0, 1), (47, .iadd, 1), (48, .invokevirtual 89, 3), (51, .invokevirtual 92, 3), (54, .aload_n 3, 1), (55, .areturn, 1)]
theorem okc_98_0 : ∀ e ∈ code_98_0, decode (mB 98) e.1 = .ok (e.2.1, e.2.2) := by decide +kernel
def code_98 : List (Nat × Instr × Nat) := code_98_0
theorem okc_98 : ∀ e ∈ code_98, decode (mB 98) e.1 = .ok (e.2.1, e.2.2) := okc_98_0
def code_99_0 : List (Nat × Instr × Nat) := [(0, .aload_n 0, 1), (1, .getfield 37, 3), (4, .aload_n 0, 1), (5, .getfield 70, 3), (8, .iaload, 1), (9, .aload_n 0, 1), (10, .getfield 71, 3), (13, .imul, 1), (14, .ireturn, 1)]
theorem okc_99_0 : ∀ e ∈ code_99_0, decode (mB 99) e.1 = .ok (e.2.1, e.2.2) := by decide +kernel
def code_99 : List (Nat × Instr × Nat) := code_99_0
theorem okc_99 : ∀ e ∈ code_99, decode (mB 99) e.1 = .ok (e.2.1, e.2.2) := okc_99_0
def code_100_0 : List (Nat × Instr × Nat) := [(0, .aload_n 0, 1), (1, .aload_n 1, 1), (2, .putfield 30, 3), (5, .return_, 1)]
theorem okc_100_0 : ∀ e ∈ code_100_0, decode (mB 100) e.1 = .ok (e.2.1, e.2.2) := by decide +kernel
def code_100 : List (Nat × Instr × Nat) := code_100_0
theorem okc_100 : ∀ e ∈ code_100, decode (mB 100) e.1 = .ok (e.2.1, e.2.2) := okc_100_0
def code_101_0 : List (Nat × Instr × Nat) := [(0, .lload_n 1, 1), (1, .invokestatic 34, 3), (4, .istore_n 3, 1), (5, .iload_n 3, 1), (6, .aload_n 0, 1), (7, .getfield 18, 3), (10, .getfield 40, 3), (13, .if_icmp .lt 12, 3), (16, .aload_n 0, 1), (17, .getfield 30, 3), (20, .lload_n 1, 1), (21, .invokevirtual 45, 3), (24, .lreturn, 1), (25, .aload_n 0, 1), (26, .getfield 22, 3), (29, .lload_n 1, 1), (30, .invokevirtual 51, 3), (33, .istore 4, 2), (35, .aload_n 0, 1), (36, .getfield 12, 3), (39, .iload 4, 2), (41, .invokevirtual 56, 3), (44, .lstore 5, 2), (46, .lload 5, 2), (48, .ldc2_w 60, 3), (51, .lcmp, 1), (52, .ifCond .ne 39, 3), (55, .aload_n 0, 1), (56, .getfield 26, 3), (59, .iconst 1, 1), (60, .if_icmp .ne 12, 3), (63, .aload_n 0, 1), (64, .lload_n 1, 1), (65, .iload_n 3, 1), (66, .invokevirtual 62, 3), (69, .goto 9, 3), (72, .aload_n 0, 1), (73, .lload_n 1, 1), (74, .iload_n 3, 1), (75, .invokevirtual 66, 3), (78, .lstore 5, 2), (80, .aload_n 0, 1), (81, .getfield 12, 3), (84, .iload 4, 2), (86, .lload 5, 2), (88, .invokevirtual 69, 3), (91, .lload 5, 2), (93, .lreturn, 1)]
theorem okc_101_0 : ∀ e ∈ code_101_0, decode (mB 101) e.1 = .ok (e.2.1, e.2.2) := by decide +kernel
def code_101 : List (Nat × Instr × Nat) := code_101_0
theorem okc_101 : ∀ e ∈ code_101, decode (mB 101) e.1 = .ok (e.2.1, e.2.2) := okc_101_0
def code_102_0 : List (Nat × Instr × Nat) := [(0, .lload_n 1, 1), (1, .invokestatic 99, 3), (4, .istore_n 3, 1), (5, .iload_n 3, 1), (6, .aload_n 0, 1), (7, .getfield 70, 3), (10, .if_icmp .le 5, 3), (13, .iconst (-1), 1), (14, .ireturn, 1), (15, .aload_n 0, 1), (16, .lload_n 1, 1), (17, .aload_n 0, 1), (18, .getfield 34, 3), (21, .iload_n 3, 1), (22, .iaload, 1), (23, .invokevirtual 102, 3), (26, .istore 4, 2), (28, .iload 4, 2), (30, .iconst (-1), 1), (31, .if_icmp .ne 7, 3), (34, .iconst (-1), 1), (35, .goto 23, 3), (38, .aload_n 0, 1), (39, .getfield 37, 3), (42, .iload_n 3, 1), (43, .iaload, 1), (44, .iload 4, 2), (46, .iadd, 1), (47, .aload_n 0, 1), (48, .getfield 71, 3), (51, .imul, 1), (52, .aload_n 0, 1), (53, .lload_n 1, 1), (54, .invokevirtual 106, 3), (57, .iadd, 1), (58, .ireturn, 1)]
theorem okc_102_0 : ∀ e ∈ code_102_0, decode (mB 102) e.1 = .ok (e.2.1, e.2.2) := by decide +kernel
def code_102 : List (Nat × Instr × Nat) := code_102_0
theorem okc_102 : ∀ e ∈ code_102, decode (mB 102) e.1 = .ok (e.2.1, e.2.2) := okc_102_0
def code_103_0 : List (Nat × Instr × Nat) := [(0, .lconst 0, 1), (1, .lstore 4, 2), (3, .iconst 0, 1), (4, .istore 6, 2), (6, .iload 6, 2), (8, .aload_n 0, 1), (9, .getfield 18, 3), (12, .iload_n 3, 1), (13, .invokevirtual 73, 3), (16, .if_icmp .ge 34, 3), (19, .lload 4, 2), (21, .aload_n 0, 1), (22, .getfield 18, 3), (25, .iload_n 3, 1), (26, .iload 6, 2), (28, .invokevirtual 77, 3), (31, .i2l, 1), (32, .aload_n 0, 1), (33, .lload_n 1, 1), (34, .iload_n 3, 1), (35, .iload 6, 2), (37, .invokevirtual 81, 3), (40, .lmul, 1), (41, .ladd, 1), (42, .lstore 4, 2), (44, .iinc 6 1, 3), (47, .goto (-41), 3), (50, .lload 4, 2), (52, .lreturn, 1)]
theorem okc_103_0 : ∀ e ∈ code_103_0, decode (mB 103) e.1 = .ok (e.2.1, e.2.2) := by decide +kernel
def code_103 : List (Nat × Instr × Nat) := code_103_0
theorem okc_103 : ∀ e ∈ code_103, decode (mB 103) e.1 = .ok (e.2.1, e.2.2) := okc_103_0
def code_104_0 : List (Nat × Instr × Nat) := [(0, .aload_n 0, 1), (1, .getfield 18, 3), (4, .iload_n 3, 1), (5, .iload 4, 2), (7, .invokevirtual 93, 3), (10, .istore 5, 2), (12, .aload_n 0, 1), (13, .getfield 18, 3), (16, .lload_n 1, 1), (17, .iload_n 3, 1), (18, .iload 4, 2), (20, .invokevirtual 96, 3), (23, .lstore 6, 2), (25, .iload 5, 2), (27, .iconst (-1), 1), (28, .if_icmp .ne 12, 3), (31, .aload_n 0, 1), (32, .lload 6, 2), (34, .invokevirtual 99, 3), (37, .goto 11, 3), (40, .aload_n 0, 1), (41, .lload 6, 2), (43, .iload 5, 2), (45, .invokevirtual 102, 3), (48, .lreturn, 1)]
theorem okc_104_0 : ∀ e ∈ code_104_0, decode (mB 104) e.1 = .ok (e.2.1, e.2.2) := by decide +kernel
def code_104 : List (Nat × Instr × Nat) := code_104_0
theorem okc_104 : ∀ e ∈ code_104, decode (mB 104) e.1 = .ok (e.2.1, e.2.2) := okc_104_0
def code_105_0 : List (Nat × Instr × Nat) := [(0, .ldc2_w 60, 3), (3, .lstore 4, 2), (5, .iconst 0, 1), (6, .istore 6, 2), (8, .iload 6, 2), (10, .iconst 3, 1), (11, .if_icmp .gt 44, 3), (14, .aload_n 0, 1), (15, .getfield 18, 3), (18, .lload_n 1, 1), (19, .iload 6, 2), (21, .aload_n 0, 1), (22, .invokevirtual 105, 3), (25, .invokevirtual 109, 3), (28, .ifCond .eq 21, 3), (31, .lload 4, 2), (33, .aload_n 0, 1), (34, .lload_n 1, 1), (35, .iload_n 3, 1), (36, .iload 6, 2), (38, .invokestatic 113, 3), (41, .invokevirtual 99, 3), (44, .invokestatic 116, 3), (47, .lstore 4, 2), (49, .iinc 6 1, 3), (52, .goto (-44), 3), (55, .lload 4, 2), (57, .lreturn, 1)]
theorem okc_105_0 : ∀ e ∈ code_105_0, decode (mB 105) e.1 = .ok (e.2.1, e.2.2) := by decide +kernel
def code_105 : List (Nat × Instr × Nat) := code_105_0
theorem okc_105 : ∀ e ∈ code_105, decode (mB 105) e.1 = .ok (e.2.1, e.2.2) := okc_105_0
def code_106_0 : List (Nat × Instr × Nat) := [(0, .aload_n 0, 1), (1, .getfield 26, 3), (4, .iconst 2, 1), (5, .if_icmp .ne 15, 3), (8, .aload_n 0, 1), (9, .getfield 18, 3), (12, .getfield 119, 3), (15, .iconst 1, 1), (16, .iadd, 1), (17, .goto 10, 3), (20, .aload_n 0, 1), (21, .getfield 18, 3), (24, .getfield 119, 3), (27, .ireturn, 1)]
theorem okc_106_0 : ∀ e ∈ code_106_0, decode (mB 106) e.1 = .ok (e.2.1, e.2.2) := by decide +kernel
def code_106 : List (Nat × Instr × Nat) := code_106_0
theorem okc_106 : ∀ e ∈ code_106, decode (mB 106) e.1 = .ok (e.2.1, e.2.2) := okc_106_0
def code_107_0 : List (Nat × Instr × Nat) := [(0, .ldc2_w 85, 3), (3, .lstore 4, 2), (5, .iconst 0, 1), (6, .istore 6, 2), (8, .iload 6, 2), (10, .aload_n 0, 1), (11, .getfield 18, 3), (14, .iload_n 3, 1), (15, .invokevirtual 73, 3), (18, .if_icmp .ge 24, 3), (21, .lload 4, 2), (23, .aload_n 0, 1), (24, .lload_n 1, 1), (25, .iload_n 3, 1), (26, .iload 6, 2), (28, .invokevirtual 81, 3), (31, .invokestatic 87, 3), (34, .lstore 4, 2), (36, .iinc 6 1, 3), (39, .goto (-31), 3), (42, .lload 4, 2), (44, .lreturn, 1)]
theorem okc_107_0 : ∀ e ∈ code_107_0, decode (mB 107) e.1 = .ok (e.2.1, e.2.2) := by decide +kernel
def code_107 : List (Nat × Instr × Nat) := code_107_0
theorem okc_107 : ∀ e ∈ code_107, decode (mB 107) e.1 = .ok (e.2.1, e.2.2) := okc_107_0
end
section
/-! CODE of the methods, by number: pc, instruction, length (printed of the program). -/
def code_108_0 : List (Nat × Instr × Nat) := [(0, .lconst 1, 1), (1, .lstore_n 3, 1), (2, .aload_n 0, 1), (3, .getfield 76, 3), (6, .invokestatic 121, 3), (9, .istore 5, 2), (11, .iload 5, 2), (13, .aload_n 0, 1), (14, .getfield 29, 3), (17, .getfield 228, 3), (20, .if_icmp .ge 15, 3), (23, .lload_n 3, 1), (24, .ldc2_w 243, 3), (27, .lmul, 1), (28, .lstore_n 3, 1), (29, .iinc 5 1, 3), (32, .goto (-21), 3), (35, .lload_n 1, 1), (36, .ldc2_w 245, 3), (39, .lmul, 1), (40, .lload_n 3, 1), (41, .ldiv, 1), (42, .l2i, 1), (43, .ireturn, 1)]
theorem okc_108_0 : ∀ e ∈ code_108_0, decode (mB 108) e.1 = .ok (e.2.1, e.2.2) := by decide +kernel
def code_108 : List (Nat × Instr × Nat) := code_108_0
theorem okc_108 : ∀ e ∈ code_108, decode (mB 108) e.1 = .ok (e.2.1, e.2.2) := okc_108_0
def code_109_0 : List (Nat × Instr × Nat) := [(0, .aload_n 0, 1), (1, .getfield 41, 3), (4, .iconst (-1), 1), (5, .if_icmp .eq 10, 3), (8, .iload_n 1, 1), (9, .invokestatic 163, 3), (12, .ifCond .ne 5, 3), (15, .iconst (-1), 1), (16, .ireturn, 1), (17, .aload_n 0, 1), (18, .getfield 37, 3), (21, .iload_n 1, 1), (22, .iload_n 2, 1), (23, .ifCond .eq 7, 3), (26, .iconst 1, 1), (27, .goto 4, 3), (30, .iconst 0, 1), (31, .invokevirtual 175, 3), (34, .aload_n 0, 1), (35, .getfield 76, 3), (38, .aload_n 0, 1), (39, .getfield 41, 3), (42, .invokevirtual 179, 3), (45, .ireturn, 1)]
theorem okc_109_0 : ∀ e ∈ code_109_0, decode (mB 109) e.1 = .ok (e.2.1, e.2.2) := by decide +kernel
def code_109 : List (Nat × Instr × Nat) := code_109_0
theorem okc_109 : ∀ e ∈ code_109, decode (mB 109) e.1 = .ok (e.2.1, e.2.2) := okc_109_0
def code_110_0 : List (Nat × Instr × Nat) := [(0, .aload_n 0, 1), (1, .lload_n 1, 1), (2, .iload_n 3, 1), (3, .invokevirtual 102, 3), (6, .lstore 4, 2), (8, .iconst 0, 1), (9, .istore 6, 2), (11, .iload 6, 2), (13, .iconst 3, 1), (14, .if_icmp .ge 46, 3), (17, .aload_n 0, 1), (18, .getfield 18, 3), (21, .lload_n 1, 1), (22, .iload 6, 2), (24, .aload_n 0, 1), (25, .invokevirtual 105, 3), (28, .invokevirtual 109, 3), (31, .ifCond .eq 23, 3), (34, .aload_n 0, 1), (35, .lload_n 1, 1), (36, .iload_n 3, 1), (37, .iload 6, 2), (39, .invokestatic 113, 3), (42, .invokevirtual 99, 3), (45, .lload 4, 2), (47, .lcmp, 1), (48, .ifCond .ne 6, 3), (51, .iload 6, 2), (53, .ireturn, 1), (54, .iinc 6 1, 3), (57, .goto (-46), 3), (60, .iconst 3, 1), (61, .ireturn, 1)]
theorem okc_110_0 : ∀ e ∈ code_110_0, decode (mB 110) e.1 = .ok (e.2.1, e.2.2) := by decide +kernel
def code_110 : List (Nat × Instr × Nat) := code_110_0
theorem okc_110 : ∀ e ∈ code_110, decode (mB 110) e.1 = .ok (e.2.1, e.2.2) := okc_110_0
def code_111_0 : List (Nat × Instr × Nat) := [(0, .aload_n 0, 1), (1, .iload_n 1, 1), (2, .invokevirtual 142, 3), (5, .ifCond .eq 15, 3), (8, .iload_n 2, 1), (9, .ifCond .lt 11, 3), (12, .iload_n 2, 1), (13, .aload_n 0, 1), (14, .invokevirtual 145, 3), (17, .if_icmp .lt 5, 3), (20, .iconst (-1), 1), (21, .ireturn, 1), (22, .aload_n 0, 1), (23, .getfield 37, 3), (26, .iload_n 1, 1), (27, .iconst 0, 1), (28, .invokevirtual 175, 3), (31, .astore_n 3, 1), (32, .aload_n 0, 1), (33, .getfield 76, 3), (36, .lstore 4, 2), (38, .iconst (-1), 1), (39, .istore 6, 2), (41, .iconst 0, 1), (42, .istore 7, 2), (44, .iload 7, 2), (46, .iload_n 2, 1), (47, .if_icmp .gt 102, 3), (50, .lload 4, 2), (52, .invokestatic 121, 3), (55, .istore 8, 2), (57, .aload_n 3, 1), (58, .lload 4, 2), (60, .iload 8, 2), (62, .invokevirtual 183, 3), (65, .istore 9, 2), (67, .aload_n 0, 1), (68, .getfield 29, 3), (71, .iload 8, 2), (73, .iload 9, 2), (75, .invokevirtual 125, 3), (78, .istore 10, 2), (80, .aload_n 0, 1), (81, .getfield 29, 3), (84, .lload 4, 2), (86, .iload 8, 2), (88, .iload 9, 2), (90, .invokevirtual 128, 3)]
theorem okc_111_0 : ∀ e ∈ code_111_0, decode (mB 111) e.1 = .ok (e.2.1, e.2.2) := by decide +kernel
def code_111_1 : List (Nat × Instr × Nat) := [(93, .lstore 4, 2), (95, .iload 10, 2), (97, .iconst (-1), 1), (98, .if_icmp .ne 8, 3), (101, .bipush 9, 2), (103, .goto 11, 3), (106, .aload_n 3, 1), (107, .lload 4, 2), (109, .iload 10, 2), (111, .invokevirtual 179, 3), (114, .istore 11, 2), (116, .iload 10, 2), (118, .iconst (-1), 1), (119, .if_icmp .eq 14, 3), (122, .lload 4, 2), (124, .iload 10, 2), (126, .iload 11, 2), (128, .invokestatic 139, 3), (131, .lstore 4, 2), (133, .iload 9, 2), (135, .bipush 10, 2), (137, .imul, 1), (138, .iload 11, 2), (140, .iadd, 1), (141, .istore 6, 2), (143, .iinc 7 1, 3), (146, .goto (-102), 3), (149, .iload 6, 2), (151, .ireturn, 1)]
theorem okc_111_1 : ∀ e ∈ code_111_1, decode (mB 111) e.1 = .ok (e.2.1, e.2.2) := by decide +kernel
def code_111 : List (Nat × Instr × Nat) := code_111_0 ++ (code_111_1)
theorem okc_111 : ∀ e ∈ code_111, decode (mB 111) e.1 = .ok (e.2.1, e.2.2) := (memP_app okc_111_0 okc_111_1)
def code_112_0 : List (Nat × Instr × Nat) := [(0, .aload_n 0, 1), (1, .lload_n 1, 1), (2, .iload_n 3, 1), (3, .invokevirtual 66, 3), (6, .lstore 4, 2), (8, .iconst 0, 1), (9, .istore 6, 2), (11, .iload 6, 2), (13, .aload_n 0, 1), (14, .getfield 18, 3), (17, .iload_n 3, 1), (18, .invokevirtual 73, 3), (21, .iconst 1, 1), (22, .isub, 1), (23, .if_icmp .ge 23, 3), (26, .aload_n 0, 1), (27, .lload_n 1, 1), (28, .iload_n 3, 1), (29, .iload 6, 2), (31, .invokevirtual 81, 3), (34, .lload 4, 2), (36, .lcmp, 1), (37, .ifCond .eq 9, 3), (40, .iinc 6 1, 3), (43, .goto (-32), 3), (46, .iload 6, 2), (48, .ireturn, 1)]
theorem okc_112_0 : ∀ e ∈ code_112_0, decode (mB 112) e.1 = .ok (e.2.1, e.2.2) := by decide +kernel
def code_112 : List (Nat × Instr × Nat) := code_112_0
theorem okc_112 : ∀ e ∈ code_112, decode (mB 112) e.1 = .ok (e.2.1, e.2.2) := okc_112_0
def code_113_0 : List (Nat × Instr × Nat) := [(0, .aload_n 0, 1), (1, .iload_n 1, 1), (2, .invokevirtual 142, 3), (5, .ifCond .eq 21, 3), (8, .aload_n 0, 1), (9, .getfield 37, 3), (12, .getfield 186, 3), (15, .iload_n 2, 1), (16, .aload_n 0, 1), (17, .getfield 76, 3), (20, .invokevirtual 190, 3), (23, .ifCond .ne 6, 3), (26, .ldc 149, 2), (28, .ireturn, 1), (29, .aload_n 0, 1), (30, .getfield 37, 3), (33, .getfield 186, 3), (36, .aload_n 0, 1), (37, .getfield 76, 3), (40, .iload_n 2, 1), (41, .aload_n 0, 1), (42, .getfield 37, 3), (45, .iload_n 1, 1), (46, .aload_n 0, 1), (47, .getfield 29, 3), (50, .getfield 150, 3), (53, .invokevirtual 153, 3), (56, .invokevirtual 196, 3), (59, .l2i, 1), (60, .ireturn, 1)]
theorem okc_113_0 : ∀ e ∈ code_113_0, decode (mB 113) e.1 = .ok (e.2.1, e.2.2) := by decide +kernel
def code_113 : List (Nat × Instr × Nat) := code_113_0
theorem okc_113 : ∀ e ∈ code_113, decode (mB 113) e.1 = .ok (e.2.1, e.2.2) := okc_113_0
def code_114_0 : List (Nat × Instr × Nat) := [(0, .lload_n 2, 1), (1, .invokestatic 25, 3), (4, .istore 4, 2), (6, .iload 4, 2), (8, .istore 5, 2), (10, .iload 5, 2), (12, .aload_n 0, 1), (13, .getfield 13, 3), (16, .getfield 29, 3), (19, .if_icmp .ge 32, 3), (22, .aload_n 0, 1), (23, .getfield 13, 3), (26, .iload 5, 2), (28, .iload_n 1, 1), (29, .iload 5, 2), (31, .iload 4, 2), (33, .isub, 1), (34, .invokestatic 35, 3), (37, .invokevirtual 39, 3), (40, .ifCond .ne 5, 3), (43, .iconst 0, 1), (44, .ireturn, 1), (45, .iinc 5 1, 3), (48, .goto (-38), 3), (51, .aload_n 0, 1), (52, .iload_n 1, 1), (53, .lload_n 2, 1), (54, .invokevirtual 43, 3), (57, .ireturn, 1)]
theorem okc_114_0 : ∀ e ∈ code_114_0, decode (mB 114) e.1 = .ok (e.2.1, e.2.2) := by decide +kernel
def code_114 : List (Nat × Instr × Nat) := code_114_0
theorem okc_114 : ∀ e ∈ code_114, decode (mB 114) e.1 = .ok (e.2.1, e.2.2) := okc_114_0
def code_115_0 : List (Nat × Instr × Nat) := [(0, .iload_n 0, 1), (1, .iconst 2, 1), (2, .iload_n 1, 1), (3, .imul, 1), (4, .iushr, 1), (5, .iconst 3, 1), (6, .iand, 1), (7, .ireturn, 1)]
theorem okc_115_0 : ∀ e ∈ code_115_0, decode (mB 115) e.1 = .ok (e.2.1, e.2.2) := by decide +kernel
def code_115 : List (Nat × Instr × Nat) := code_115_0
theorem okc_115 : ∀ e ∈ code_115, decode (mB 115) e.1 = .ok (e.2.1, e.2.2) := okc_115_0
def code_116_0 : List (Nat × Instr × Nat) := [(0, .iload_n 1, 1), (1, .ifCond .lt 26, 3), (4, .iload_n 1, 1), (5, .iconst 2, 1), (6, .aload_n 0, 1), (7, .getfield 13, 3), (10, .getfield 29, 3), (13, .lload_n 2, 1), (14, .invokestatic 25, 3), (17, .isub, 1), (18, .imul, 1), (19, .iushr, 1), (20, .ifCond .ne 7, 3), (23, .iconst 1, 1), (24, .goto 4, 3), (27, .iconst 0, 1), (28, .ireturn, 1)]
theorem okc_116_0 : ∀ e ∈ code_116_0, decode (mB 116) e.1 = .ok (e.2.1, e.2.2) := by decide +kernel
def code_116 : List (Nat × Instr × Nat) := code_116_0
theorem okc_116 : ∀ e ∈ code_116, decode (mB 116) e.1 = .ok (e.2.1, e.2.2) := okc_116_0
def code_117_0 : List (Nat × Instr × Nat) := [(0, .lload_n 1, 1), (1, .invokestatic 25, 3), (4, .istore 5, 2), (6, .lload_n 1, 1), (7, .ldc2_w 64, 3), (10, .land, 1), (11, .lstore 6, 2), (13, .iload 5, 2), (15, .istore 8, 2), (17, .iload 8, 2), (19, .aload_n 0, 1), (20, .getfield 13, 3), (23, .getfield 29, 3), (26, .if_icmp .ge 28, 3), (29, .aload_n 0, 1), (30, .lload 6, 2), (32, .iload 8, 2), (34, .iload_n 3, 1), (35, .iload 8, 2), (37, .iload 5, 2), (39, .isub, 1), (40, .invokestatic 35, 3), (43, .invokevirtual 66, 3), (46, .lstore 6, 2), (48, .iinc 8 1, 3), (51, .goto (-34), 3), (54, .aload_n 0, 1), (55, .lload_n 1, 1), (56, .lload 6, 2), (58, .invokestatic 69, 3), (61, .lload 6, 2), (63, .iconst 0, 1), (64, .iconst 0, 1), (65, .aload 4, 2), (67, .invokevirtual 73, 3), (70, .lreturn, 1)]
theorem okc_117_0 : ∀ e ∈ code_117_0, decode (mB 117) e.1 = .ok (e.2.1, e.2.2) := by decide +kernel
def code_117 : List (Nat × Instr × Nat) := code_117_0
theorem okc_117 : ∀ e ∈ code_117, decode (mB 117) e.1 = .ok (e.2.1, e.2.2) := okc_117_0
def code_118_0 : List (Nat × Instr × Nat) := [(0, .aload_n 0, 1), (1, .getfield 13, 3), (4, .iload_n 3, 1), (5, .iload 4, 2), (7, .invokevirtual 47, 3), (10, .istore 5, 2), (12, .aload_n 0, 1), (13, .getfield 13, 3), (16, .lload_n 1, 1), (17, .iload_n 3, 1), (18, .iload 4, 2), (20, .invokevirtual 50, 3), (23, .lstore 6, 2), (25, .iload 5, 2), (27, .iconst (-1), 1), (28, .if_icmp .ne 8, 3), (31, .lload 6, 2), (33, .goto 18, 3), (36, .lload 6, 2), (38, .iload 5, 2), (40, .aload_n 0, 1), (41, .getfield 17, 3), (44, .lload_n 1, 1), (45, .invokevirtual 123, 3), (48, .invokestatic 61, 3), (51, .lreturn, 1)]
theorem okc_118_0 : ∀ e ∈ code_118_0, decode (mB 118) e.1 = .ok (e.2.1, e.2.2) := by decide +kernel
def code_118 : List (Nat × Instr × Nat) := code_118_0
theorem okc_118 : ∀ e ∈ code_118, decode (mB 118) e.1 = .ok (e.2.1, e.2.2) := okc_118_0
def code_119_0 : List (Nat × Instr × Nat) := [(0, .lload_n 0, 1), (1, .ldc2_w 126, 3), (4, .land, 1), (5, .lload_n 2, 1), (6, .ldc2_w 64, 3), (9, .land, 1), (10, .lor, 1), (11, .lreturn, 1)]
theorem okc_119_0 : ∀ e ∈ code_119_0, decode (mB 119) e.1 = .ok (e.2.1, e.2.2) := by decide +kernel
def code_119 : List (Nat × Instr × Nat) := code_119_0
theorem okc_119 : ∀ e ∈ code_119, decode (mB 119) e.1 = .ok (e.2.1, e.2.2) := okc_119_0
def code_120_0 : List (Nat × Instr × Nat) := [(0, .iload 5, 2), (2, .istore 8, 2), (4, .iload 8, 2), (6, .bipush 12, 2), (8, .if_icmp .ge 24, 3), (11, .lload_n 3, 1), (12, .iconst 3, 1), (13, .iload 8, 2), (15, .imul, 1), (16, .lushr, 1), (17, .ldc2_w 128, 3), (20, .land, 1), (21, .lconst 0, 1), (22, .lcmp, 1), (23, .ifCond .ne 9, 3), (26, .iinc 8 1, 3), (29, .goto (-25), 3), (32, .iload 8, 2), (34, .bipush 12, 2), (36, .if_icmp .lt 10, 3), (39, .aload 7, 2), (41, .lload_n 1, 1), (42, .invokevirtual 130, 3), (45, .lreturn, 1), (46, .iload 8, 2), (48, .iconst 4, 1), (49, .idiv, 1), (50, .istore 9, 2), (52, .aload_n 0, 1), (53, .getfield 17, 3), (56, .iload 8, 2), (58, .iconst 4, 1), (59, .irem, 1), (60, .invokevirtual 136, 3), (63, .istore 10, 2), (65, .lload_n 3, 1), (66, .lconst 1, 1), (67, .iconst 3, 1), (68, .iload 8, 2), (70, .imul, 1), (71, .lshl, 1), (72, .lsub, 1), (73, .lstore 11, 2), (75, .ldc2_w 139, 3), (78, .lstore 13, 2), (80, .iload 8, 2), (82, .iload 5, 2), (84, .if_icmp .ne 8, 3)]
theorem okc_120_0 : ∀ e ∈ code_120_0, decode (mB 120) e.1 = .ok (e.2.1, e.2.2) := by decide +kernel
def code_120_1 : List (Nat × Instr × Nat) := [(87, .iload 6, 2), (89, .goto 4, 3), (92, .iconst 0, 1), (93, .istore 15, 2), (95, .iload 15, 2), (97, .iconst 3, 1), (98, .if_icmp .gt 70, 3), (101, .iload 15, 2), (103, .iconst 3, 1), (104, .if_icmp .ne 20, 3), (107, .lload_n 1, 1), (108, .invokestatic 141, 3), (111, .aload_n 0, 1), (112, .getfield 13, 3), (115, .getfield 54, 3), (118, .if_icmp .ge 44, 3), (121, .goto 14, 3), (124, .iload 10, 2), (126, .iload 15, 2), (128, .ishr, 1), (129, .iconst 1, 1), (130, .iand, 1), (131, .iconst 1, 1), (132, .if_icmp .ne 30, 3), (135, .lload 13, 2), (137, .aload_n 0, 1), (138, .lload_n 1, 1), (139, .iload 9, 2), (141, .iload 15, 2), (143, .invokestatic 61, 3), (146, .lload 11, 2), (148, .iload 8, 2), (150, .iload 15, 2), (152, .aload 7, 2), (154, .invokevirtual 73, 3), (157, .invokestatic 144, 3), (160, .lstore 13, 2), (162, .iinc 15 1, 3), (165, .goto (-70), 3), (168, .lload 13, 2), (170, .lreturn, 1)]
theorem okc_120_1 : ∀ e ∈ code_120_1, decode (mB 120) e.1 = .ok (e.2.1, e.2.2) := by decide +kernel
def code_120 : List (Nat × Instr × Nat) := code_120_0 ++ (code_120_1)
theorem okc_120 : ∀ e ∈ code_120, decode (mB 120) e.1 = .ok (e.2.1, e.2.2) := (memP_app okc_120_0 okc_120_1)
def code_121_0 : List (Nat × Instr × Nat) := [(0, .iload_n 1, 1), (1, .ifCond .lt 18, 3), (4, .iload_n 1, 1), (5, .bipush 8, 2), (7, .if_icmp .ge 12, 3), (10, .aload_n 0, 1), (11, .getfield 43, 3), (14, .iload_n 1, 1), (15, .iaload, 1), (16, .goto 4, 3), (19, .iconst 0, 1), (20, .ireturn, 1)]
theorem okc_121_0 : ∀ e ∈ code_121_0, decode (mB 121) e.1 = .ok (e.2.1, e.2.2) := by decide +kernel
def code_121 : List (Nat × Instr × Nat) := code_121_0
theorem okc_121 : ∀ e ∈ code_121, decode (mB 121) e.1 = .ok (e.2.1, e.2.2) := okc_121_0
def code_122_0 : List (Nat × Instr × Nat) := [(0, .aload_n 0, 1), (1, .iload_n 1, 1), (2, .invokevirtual 142, 3), (5, .ifCond .ne 6, 3), (8, .ldc 149, 2), (10, .ireturn, 1), (11, .aload_n 0, 1), (12, .iload_n 1, 1), (13, .iconst 0, 1), (14, .invokevirtual 168, 3), (17, .lstore_n 2, 1), (18, .aload_n 0, 1), (19, .getfield 37, 3), (22, .getfield 186, 3), (25, .aload_n 0, 1), (26, .getfield 76, 3), (29, .aload_n 0, 1), (30, .getfield 37, 3), (33, .iload_n 1, 1), (34, .aload_n 0, 1), (35, .getfield 29, 3), (38, .getfield 150, 3), (41, .invokevirtual 153, 3), (44, .lload_n 2, 1), (45, .invokevirtual 200, 3), (48, .lload_n 2, 1), (49, .lsub, 1), (50, .l2i, 1), (51, .ireturn, 1)]
theorem okc_122_0 : ∀ e ∈ code_122_0, decode (mB 122) e.1 = .ok (e.2.1, e.2.2) := by decide +kernel
def code_122 : List (Nat × Instr × Nat) := code_122_0
theorem okc_122 : ∀ e ∈ code_122, decode (mB 122) e.1 = .ok (e.2.1, e.2.2) := okc_122_0
def code_123_0 : List (Nat × Instr × Nat) := [(0, .aload_n 0, 1), (1, .getfield 17, 3), (4, .invokevirtual 77, 3), (7, .istore 6, 2), (9, .iload 6, 2), (11, .aload_n 0, 1), (12, .getfield 21, 3), (15, .arraylength, 1), (16, .if_icmp .le 26, 3), (19, .aload_n 0, 1), (20, .iload 6, 2), (22, .iconst 2, 1), (23, .aload_n 0, 1), (24, .getfield 21, 3), (27, .arraylength, 1), (28, .imul, 1), (29, .ldc 83, 2), (31, .invokestatic 84, 3), (34, .invokestatic 89, 3), (37, .newarray .int, 2), (39, .putfield 21, 3), (42, .aload_n 0, 1), (43, .dup, 1), (44, .getfield 92, 3), (47, .iconst 1, 1), (48, .iadd, 1), (49, .putfield 92, 3), (52, .aload_n 0, 1), (53, .ldc2_w 97, 3), (56, .putfield 99, 3), (59, .aload_n 0, 1), (60, .lload 4, 2), (62, .putfield 103, 3), (65, .aload_n 0, 1), (66, .lload_n 1, 1), (67, .lload_n 1, 1), (68, .ldc2_w 64, 3), (71, .land, 1), (72, .aload_n 3, 1), (73, .invokevirtual 106, 3), (76, .aload_n 0, 1), (77, .getfield 99, 3), (80, .lreturn, 1)]
theorem okc_123_0 : ∀ e ∈ code_123_0, decode (mB 123) e.1 = .ok (e.2.1, e.2.2) := by decide +kernel
def code_123 : List (Nat × Instr × Nat) := code_123_0
theorem okc_123 : ∀ e ∈ code_123, decode (mB 123) e.1 = .ok (e.2.1, e.2.2) := okc_123_0
def code_124_0 : List (Nat × Instr × Nat) := [(0, .aload_n 0, 1), (1, .getfield 37, 3), (4, .aload_n 0, 1), (5, .getfield 70, 3), (8, .iconst 1, 1), (9, .iadd, 1), (10, .iaload, 1), (11, .aload_n 0, 1), (12, .getfield 71, 3), (15, .imul, 1), (16, .ireturn, 1)]
theorem okc_124_0 : ∀ e ∈ code_124_0, decode (mB 124) e.1 = .ok (e.2.1, e.2.2) := by decide +kernel
def code_124 : List (Nat × Instr × Nat) := code_124_0
theorem okc_124 : ∀ e ∈ code_124, decode (mB 124) e.1 = .ok (e.2.1, e.2.2) := okc_124_0
def code_125_0 : List (Nat × Instr × Nat) := [(0, .aload_n 0, 1), (1, .getfield 99, 3), (4, .aload_n 0, 1), (5, .getfield 103, 3), (8, .lcmp, 1), (9, .ifCond .le 18, 3), (12, .aload_n 0, 1), (13, .aload_n 0, 1), (14, .getfield 17, 3), (17, .lload_n 3, 1), (18, .invokevirtual 110, 3), (21, .invokevirtual 113, 3), (24, .ifCond .eq 4, 3), (27, .return_, 1), (28, .lload_n 3, 1), (29, .invokestatic 25, 3), (32, .istore 6, 2), (34, .iload 6, 2), (36, .aload_n 0, 1), (37, .getfield 13, 3), (40, .getfield 29, 3), (43, .if_icmp .lt 29, 3), (46, .aload_n 0, 1), (47, .aload_n 0, 1), (48, .getfield 99, 3), (51, .aload_n 0, 1), (52, .lload_n 1, 1), (53, .lload_n 3, 1), (54, .invokestatic 69, 3), (57, .lload_n 3, 1), (58, .iconst 0, 1), (59, .iconst 0, 1), (60, .aload 5, 2), (62, .invokevirtual 73, 3), (65, .invokestatic 117, 3), (68, .putfield 99, 3), (71, .return_, 1), (72, .iconst 0, 1), (73, .istore 7, 2), (75, .iload 7, 2), (77, .aload_n 0, 1), (78, .getfield 13, 3), (81, .iload 6, 2), (83, .invokevirtual 119, 3), (86, .if_icmp .ge 25, 3), (89, .aload_n 0, 1), (90, .lload_n 1, 1), (91, .aload_n 0, 1)]
theorem okc_125_0 : ∀ e ∈ code_125_0, decode (mB 125) e.1 = .ok (e.2.1, e.2.2) := by decide +kernel
def code_125_1 : List (Nat × Instr × Nat) := [(92, .lload_n 3, 1), (93, .iload 6, 2), (95, .iload 7, 2), (97, .invokevirtual 66, 3), (100, .aload 5, 2), (102, .invokevirtual 106, 3), (105, .iinc 7 1, 3), (108, .goto (-33), 3), (111, .return_, 1)]
theorem okc_125_1 : ∀ e ∈ code_125_1, decode (mB 125) e.1 = .ok (e.2.1, e.2.2) := by decide +kernel
def code_125 : List (Nat × Instr × Nat) := code_125_0 ++ (code_125_1)
theorem okc_125 : ∀ e ∈ code_125, decode (mB 125) e.1 = .ok (e.2.1, e.2.2) := (memP_app okc_125_0 okc_125_1)
def code_126_0 : List (Nat × Instr × Nat) := [(0, .iload_n 1, 1), (1, .ifCond .lt 12, 3), (4, .iload_n 1, 1), (5, .aload_n 0, 1), (6, .getfield 21, 3), (9, .arraylength, 1), (10, .if_icmp .lt 5, 3), (13, .iconst 0, 1), (14, .ireturn, 1), (15, .aload_n 0, 1), (16, .getfield 21, 3), (19, .iload_n 1, 1), (20, .iaload, 1), (21, .aload_n 0, 1), (22, .getfield 92, 3), (25, .if_icmp .ne 7, 3), (28, .iconst 1, 1), (29, .goto 4, 3), (32, .iconst 0, 1), (33, .istore_n 2, 1), (34, .aload_n 0, 1), (35, .getfield 21, 3), (38, .iload_n 1, 1), (39, .aload_n 0, 1), (40, .getfield 92, 3), (43, .iastore, 1), (44, .iload_n 2, 1), (45, .ireturn, 1)]
theorem okc_126_0 : ∀ e ∈ code_126_0, decode (mB 126) e.1 = .ok (e.2.1, e.2.2) := by decide +kernel
def code_126 : List (Nat × Instr × Nat) := code_126_0
theorem okc_126 : ∀ e ∈ code_126, decode (mB 126) e.1 = .ok (e.2.1, e.2.2) := okc_126_0
def code_127_0 : List (Nat × Instr × Nat) := [(0, .aload_n 0, 1), (1, .iload_n 2, 1), (2, .invokevirtual 142, 3), (5, .ifCond .eq 12, 3), (8, .iload_n 1, 1), (9, .ifCond .lt 8, 3), (12, .iload_n 1, 1), (13, .iconst 4, 1), (14, .if_icmp .le 6, 3), (17, .ldc 149, 2), (19, .ireturn, 1), (20, .aload_n 0, 1), (21, .getfield 37, 3), (24, .iload_n 1, 1), (25, .iload_n 2, 1), (26, .iload_n 3, 1), (27, .invokevirtual 206, 3), (30, .aload_n 0, 1), (31, .getfield 76, 3), (34, .invokevirtual 210, 3), (37, .lstore 4, 2), (39, .iload_n 3, 1), (40, .ifCond .eq 12, 3), (43, .aload_n 0, 1), (44, .lload 4, 2), (46, .invokevirtual 172, 3), (49, .goto 6, 3), (52, .lload 4, 2), (54, .l2i, 1), (55, .ireturn, 1)]
theorem okc_127_0 : ∀ e ∈ code_127_0, decode (mB 127) e.1 = .ok (e.2.1, e.2.2) := by decide +kernel
def code_127 : List (Nat × Instr × Nat) := code_127_0
theorem okc_127 : ∀ e ∈ code_127, decode (mB 127) e.1 = .ok (e.2.1, e.2.2) := okc_127_0
def code_128_0 : List (Nat × Instr × Nat) := [(0, .iload_n 1, 1), (1, .iconst 4, 1), (2, .if_icmp .ne 10, 3), (5, .aload_n 0, 1), (6, .iconst 0, 1), (7, .iconst 0, 1), (8, .invokevirtual 98, 3), (11, .pop, 1), (12, .aload_n 0, 1), (13, .getfield 52, 3), (16, .iload_n 1, 1), (17, .iload_n 3, 1), (18, .aload_n 0, 1), (19, .iload_n 2, 1), (20, .aload_n 0, 1), (21, .getfield 9, 3), (24, .getfield 83, 3), (27, .invokevirtual 89, 3), (30, .invokevirtual 102, 3), (33, .aload_n 0, 1), (34, .getfield 52, 3), (37, .areturn, 1)]
theorem okc_128_0 : ∀ e ∈ code_128_0, decode (mB 128) e.1 = .ok (e.2.1, e.2.2) := by decide +kernel
def code_128 : List (Nat × Instr × Nat) := code_128_0
theorem okc_128 : ∀ e ∈ code_128, decode (mB 128) e.1 = .ok (e.2.1, e.2.2) := okc_128_0
def code_129_0 : List (Nat × Instr × Nat) := [(0, .aload_n 0, 1), (1, .iload_n 1, 1), (2, .putfield 23, 3), (5, .aload_n 0, 1), (6, .iload_n 2, 1), (7, .putfield 27, 3), (10, .aload_n 0, 1), (11, .aload_n 3, 1), (12, .putfield 19, 3), (15, .return_, 1)]
theorem okc_129_0 : ∀ e ∈ code_129_0, decode (mB 129) e.1 = .ok (e.2.1, e.2.2) := by decide +kernel
def code_129 : List (Nat × Instr × Nat) := code_129_0
theorem okc_129 : ∀ e ∈ code_129, decode (mB 129) e.1 = .ok (e.2.1, e.2.2) := okc_129_0
def code_130_0 : List (Nat × Instr × Nat) := [(0, .lload_n 1, 1), (1, .invokestatic 31, 3), (4, .istore_n 3, 1), (5, .iload_n 3, 1), (6, .aload_n 0, 1), (7, .getfield 9, 3), (10, .getfield 37, 3), (13, .if_icmp .lt 12, 3), (16, .aload_n 0, 1), (17, .getfield 19, 3), (20, .lload_n 1, 1), (21, .invokevirtual 42, 3), (24, .lreturn, 1), (25, .lconst 0, 1), (26, .lstore 4, 2), (28, .ldc2_w 50, 3), (31, .lstore 6, 2), (33, .iconst 0, 1), (34, .istore 8, 2), (36, .iload 8, 2), (38, .aload_n 0, 1), (39, .getfield 9, 3), (42, .iload_n 3, 1), (43, .invokevirtual 52, 3), (46, .if_icmp .ge 119, 3), (49, .aload_n 0, 1), (50, .getfield 9, 3), (53, .iload_n 3, 1), (54, .iload 8, 2), (56, .invokevirtual 56, 3), (59, .istore 9, 2), (61, .aload_n 0, 1), (62, .getfield 9, 3), (65, .lload_n 1, 1), (66, .iload_n 3, 1), (67, .iload 8, 2), (69, .invokevirtual 60, 3), (72, .lstore 10, 2), (74, .iload 9, 2), (76, .iconst (-1), 1), (77, .if_icmp .eq 46, 3), (80, .aload_n 0, 1), (81, .getfield 23, 3), (84, .iconst 4, 1), (85, .if_icmp .ne 17, 3), (88, .aload_n 0, 1), (89, .getfield 15, 3), (92, .lload 10, 2)]
theorem okc_130_0 : ∀ e ∈ code_130_0, decode (mB 130) e.1 = .ok (e.2.1, e.2.2) := by decide +kernel
def code_130_1 : List (Nat × Instr × Nat) := [(94, .iload 9, 2), (96, .invokevirtual 64, 3), (99, .goto 11, 3), (102, .aload_n 0, 1), (103, .lload 10, 2), (105, .iload 9, 2), (107, .invokevirtual 70, 3), (110, .istore 12, 2), (112, .lload 10, 2), (114, .iload 9, 2), (116, .iload 12, 2), (118, .invokestatic 73, 3), (121, .lstore 10, 2), (123, .aload_n 0, 1), (124, .lload 10, 2), (126, .invokevirtual 76, 3), (129, .lstore 12, 2), (131, .lload 4, 2), (133, .aload_n 0, 1), (134, .getfield 9, 3), (137, .iload_n 3, 1), (138, .iload 8, 2), (140, .invokevirtual 79, 3), (143, .i2l, 1), (144, .lload 12, 2), (146, .lmul, 1), (147, .ladd, 1), (148, .lstore 4, 2), (150, .lload 6, 2), (152, .lload 12, 2), (154, .invokestatic 82, 3), (157, .lstore 6, 2), (159, .iinc 8 1, 3), (162, .goto (-126), 3), (165, .aload_n 0, 1), (166, .getfield 27, 3), (169, .ifCond .eq 8, 3), (172, .lload 4, 2), (174, .goto 5, 3), (177, .lload 6, 2), (179, .lreturn, 1)]
theorem okc_130_1 : ∀ e ∈ code_130_1, decode (mB 130) e.1 = .ok (e.2.1, e.2.2) := by decide +kernel
def code_130 : List (Nat × Instr × Nat) := code_130_0 ++ (code_130_1)
theorem okc_130 : ∀ e ∈ code_130, decode (mB 130) e.1 = .ok (e.2.1, e.2.2) := (memP_app okc_130_0 okc_130_1)
def code_131_0 : List (Nat × Instr × Nat) := [(0, .aload_n 0, 1), (1, .getfield 23, 3), (4, .iconst 3, 1), (5, .if_icmp .ne 24, 3), (8, .aload_n 0, 1), (9, .getfield 9, 3), (12, .lload_n 1, 1), (13, .iconst 3, 1), (14, .aload_n 0, 1), (15, .getfield 9, 3), (18, .getfield 88, 3), (21, .invokevirtual 91, 3), (24, .ifCond .eq 5, 3), (27, .iconst 3, 1), (28, .ireturn, 1), (29, .iconst (-1), 1), (30, .istore 4, 2), (32, .iconst 0, 1), (33, .istore 5, 2), (35, .iload 5, 2), (37, .aload_n 0, 1), (38, .getfield 9, 3), (41, .getfield 95, 3), (44, .if_icmp .ge 47, 3), (47, .lload_n 1, 1), (48, .iload 5, 2), (50, .invokestatic 98, 3), (53, .ifCond .eq 32, 3), (56, .iload 4, 2), (58, .iconst (-1), 1), (59, .if_icmp .eq 22, 3), (62, .aload_n 0, 1), (63, .lload_n 1, 1), (64, .iload_n 3, 1), (65, .iload 5, 2), (67, .invokevirtual 102, 3), (70, .aload_n 0, 1), (71, .lload_n 1, 1), (72, .iload_n 3, 1), (73, .iload 4, 2), (75, .invokevirtual 102, 3), (78, .if_icmp .le 7, 3), (81, .iload 5, 2), (83, .istore 4, 2), (85, .iinc 5 1, 3), (88, .goto (-53), 3), (91, .iload 4, 2), (93, .ireturn, 1)]
theorem okc_131_0 : ∀ e ∈ code_131_0, decode (mB 131) e.1 = .ok (e.2.1, e.2.2) := by decide +kernel
def code_131 : List (Nat × Instr × Nat) := code_131_0
theorem okc_131 : ∀ e ∈ code_131, decode (mB 131) e.1 = .ok (e.2.1, e.2.2) := okc_131_0
def code_132_0 : List (Nat × Instr × Nat) := [(0, .aload_n 0, 1), (1, .getfield 23, 3), (4, .lookupswitch 50 #[(1, 28), (2, 36)], 28), (32, .lload_n 1, 1), (33, .iload 4, 2), (35, .invokestatic 106, 3), (38, .ineg, 1), (39, .ireturn, 1), (40, .aload_n 0, 1), (41, .getfield 9, 3), (44, .iload 4, 2), (46, .lload_n 1, 1), (47, .iload 4, 2), (49, .invokevirtual 109, 3), (52, .ineg, 1), (53, .ireturn, 1), (54, .aload_n 0, 1), (55, .getfield 9, 3), (58, .iload 4, 2), (60, .iload_n 3, 1), (61, .invokevirtual 113, 3), (64, .ireturn, 1)]
theorem okc_132_0 : ∀ e ∈ code_132_0, decode (mB 132) e.1 = .ok (e.2.1, e.2.2) := by decide +kernel
def code_132 : List (Nat × Instr × Nat) := code_132_0
theorem okc_132 : ∀ e ∈ code_132, decode (mB 132) e.1 = .ok (e.2.1, e.2.2) := okc_132_0
def code_133_0 : List (Nat × Instr × Nat) := [(0, .aload_n 0, 1), (1, .getfield 68, 3), (4, .ifCond .eq 19, 3), (7, .iload_n 1, 1), (8, .invokestatic 163, 3), (11, .ifCond .eq 12, 3), (14, .iload_n 2, 1), (15, .ifCond .lt 8, 3), (18, .iload_n 2, 1), (19, .iconst 1, 1), (20, .if_icmp .le 5, 3), (23, .iconst (-1), 1), (24, .ireturn, 1), (25, .iload_n 2, 1), (26, .ifCond .ne 7, 3), (29, .iconst 2, 1), (30, .goto 4, 3), (33, .iconst 3, 1), (34, .istore_n 3, 1), (35, .aload_n 0, 1), (36, .iload_n 1, 1), (37, .iload_n 3, 1), (38, .invokevirtual 168, 3), (41, .aload_n 0, 1), (42, .iload_n 1, 1), (43, .iconst 0, 1), (44, .invokevirtual 168, 3), (47, .lsub, 1), (48, .l2i, 1), (49, .ireturn, 1)]
theorem okc_133_0 : ∀ e ∈ code_133_0, decode (mB 133) e.1 = .ok (e.2.1, e.2.2) := by decide +kernel
def code_133 : List (Nat × Instr × Nat) := code_133_0
theorem okc_133 : ∀ e ∈ code_133, decode (mB 133) e.1 = .ok (e.2.1, e.2.2) := okc_133_0
def code_134_0 : List (Nat × Instr × Nat) := [(0, .aload_n 0, 1), (1, .getfield 68, 3), (4, .ifCond .eq 23, 3), (7, .aload_n 0, 1), (8, .getfield 29, 3), (11, .iload_n 1, 1), (12, .invokevirtual 86, 3), (15, .ifCond .eq 12, 3), (18, .iload_n 2, 1), (19, .ifCond .lt 8, 3), (22, .iload_n 2, 1), (23, .iconst 3, 1), (24, .if_icmp .lt 5, 3), (27, .iconst (-1), 1), (28, .ireturn, 1), (29, .aload_n 0, 1), (30, .getfield 29, 3), (33, .aload_n 0, 1), (34, .getfield 76, 3), (37, .invokestatic 121, 3), (40, .iload_n 2, 1), (41, .invokevirtual 213, 3), (44, .aload_n 0, 1), (45, .getfield 29, 3), (48, .iload_n 1, 1), (49, .iload_n 2, 1), (50, .invokevirtual 96, 3), (53, .imul, 1), (54, .ireturn, 1)]
theorem okc_134_0 : ∀ e ∈ code_134_0, decode (mB 134) e.1 = .ok (e.2.1, e.2.2) := by decide +kernel
def code_134 : List (Nat × Instr × Nat) := code_134_0
theorem okc_134 : ∀ e ∈ code_134, decode (mB 134) e.1 = .ok (e.2.1, e.2.2) := okc_134_0
def code_135_0 : List (Nat × Instr × Nat) := [(0, .iconst 0, 1), (1, .istore_n 3, 1), (2, .iload_n 1, 1), (3, .istore 4, 2), (5, .iload 4, 2), (7, .aload_n 0, 1), (8, .getfield 37, 3), (11, .if_icmp .ge 52, 3), (14, .iconst 0, 1), (15, .istore 5, 2), (17, .iload 5, 2), (19, .aload_n 0, 1), (20, .iload 4, 2), (22, .invokevirtual 74, 3), (25, .if_icmp .ge 32, 3), (28, .aload_n 0, 1), (29, .iload 4, 2), (31, .iload 5, 2), (33, .invokevirtual 78, 3), (36, .iload_n 2, 1), (37, .if_icmp .ne 14, 3), (40, .iload_n 3, 1), (41, .aload_n 0, 1), (42, .iload 4, 2), (44, .iload 5, 2), (46, .invokevirtual 81, 3), (49, .iadd, 1), (50, .istore_n 3, 1), (51, .iinc 5 1, 3), (54, .goto (-37), 3), (57, .iinc 4 1, 3), (60, .goto (-55), 3), (63, .iload_n 3, 1), (64, .ireturn, 1)]
theorem okc_135_0 : ∀ e ∈ code_135_0, decode (mB 135) e.1 = .ok (e.2.1, e.2.2) := by decide +kernel
def code_135 : List (Nat × Instr × Nat) := code_135_0
theorem okc_135 : ∀ e ∈ code_135, decode (mB 135) e.1 = .ok (e.2.1, e.2.2) := okc_135_0
def code_136_0 : List (Nat × Instr × Nat) := [(0, .aload_n 0, 1), (1, .getfield 68, 3), (4, .ifCond .eq 47, 3), (7, .aload_n 0, 1), (8, .getfield 41, 3), (11, .iconst (-1), 1), (12, .if_icmp .ne 39, 3), (15, .aload_n 0, 1), (16, .getfield 37, 3), (19, .getfield 186, 3), (22, .iload_n 1, 1), (23, .aload_n 0, 1), (24, .getfield 76, 3), (27, .invokevirtual 190, 3), (30, .ifCond .eq 21, 3), (33, .aload_n 0, 1), (34, .getfield 37, 3), (37, .getfield 186, 3), (40, .iload_n 2, 1), (41, .aload_n 0, 1), (42, .getfield 76, 3), (45, .invokevirtual 216, 3), (48, .ifCond .ne 6, 3), (51, .bipush 9, 2), (53, .ireturn, 1), (54, .aload_n 0, 1), (55, .getfield 37, 3), (58, .getfield 186, 3), (61, .aload_n 0, 1), (62, .getfield 76, 3), (65, .iload_n 1, 1), (66, .iload_n 2, 1), (67, .invokevirtual 219, 3), (70, .ireturn, 1)]
theorem okc_136_0 : ∀ e ∈ code_136_0, decode (mB 136) e.1 = .ok (e.2.1, e.2.2) := by decide +kernel
def code_136 : List (Nat × Instr × Nat) := code_136_0
theorem okc_136 : ∀ e ∈ code_136, decode (mB 136) e.1 = .ok (e.2.1, e.2.2) := okc_136_0
def code_137_0 : List (Nat × Instr × Nat) := [(0, .lload_n 1, 1), (1, .lstore 5, 2), (3, .lload_n 1, 1), (4, .invokestatic 25, 3), (7, .istore 7, 2), (9, .iload 7, 2), (11, .istore 8, 2), (13, .iload 8, 2), (15, .aload_n 0, 1), (16, .getfield 13, 3), (19, .getfield 29, 3), (22, .if_icmp .ge 123, 3), (25, .iload_n 3, 1), (26, .iload 8, 2), (28, .iload 7, 2), (30, .isub, 1), (31, .invokestatic 35, 3), (34, .istore 9, 2), (36, .iload 4, 2), (38, .iload 8, 2), (40, .iload 7, 2), (42, .isub, 1), (43, .invokestatic 35, 3), (46, .istore 10, 2), (48, .aload_n 0, 1), (49, .getfield 13, 3), (52, .iload 8, 2), (54, .iload 9, 2), (56, .invokevirtual 47, 3), (59, .istore 11, 2), (61, .aload_n 0, 1), (62, .getfield 13, 3), (65, .lload 5, 2), (67, .iload 8, 2), (69, .iload 9, 2), (71, .invokevirtual 50, 3), (74, .lstore 5, 2), (76, .iload 11, 2), (78, .iconst (-1), 1), (79, .if_icmp .ne 11, 3), (82, .iload 10, 2), (84, .ifCond .eq 33, 3), (87, .goto 24, 3), (90, .aload_n 0, 1), (91, .getfield 13, 3), (94, .lload 5, 2), (96, .iload 10, 2), (98, .aload_n 0, 1)]
theorem okc_137_0 : ∀ e ∈ code_137_0, decode (mB 137) e.1 = .ok (e.2.1, e.2.2) := by decide +kernel
def code_137_1 : List (Nat × Instr × Nat) := [(99, .getfield 13, 3), (102, .getfield 54, 3), (105, .invokevirtual 57, 3), (108, .ifCond .ne 9, 3), (111, .iload 8, 2), (113, .iload 7, 2), (115, .isub, 1), (116, .ireturn, 1), (117, .iload 11, 2), (119, .iconst (-1), 1), (120, .if_icmp .ne 8, 3), (123, .lload 5, 2), (125, .goto 12, 3), (128, .lload 5, 2), (130, .iload 11, 2), (132, .iload 10, 2), (134, .invokestatic 61, 3), (137, .lstore 5, 2), (139, .iinc 8 1, 3), (142, .goto (-129), 3), (145, .iconst (-1), 1), (146, .ireturn, 1)]
theorem okc_137_1 : ∀ e ∈ code_137_1, decode (mB 137) e.1 = .ok (e.2.1, e.2.2) := by decide +kernel
def code_137 : List (Nat × Instr × Nat) := code_137_0 ++ (code_137_1)
theorem okc_137 : ∀ e ∈ code_137, decode (mB 137) e.1 = .ok (e.2.1, e.2.2) := (memP_app okc_137_0 okc_137_1)
def code_138_0 : List (Nat × Instr × Nat) := [(0, .iload_n 1, 1), (1, .invokestatic 163, 3), (4, .ifCond .eq 13, 3), (7, .aload_n 0, 1), (8, .iload_n 2, 1), (9, .iload_n 3, 1), (10, .invokevirtual 222, 3), (13, .iconst (-1), 1), (14, .if_icmp .eq 6, 3), (17, .ldc 149, 2), (19, .ireturn, 1), (20, .aload_n 0, 1), (21, .getfield 37, 3), (24, .iload_n 1, 1), (25, .aload_n 0, 1), (26, .getfield 29, 3), (29, .getfield 150, 3), (32, .invokevirtual 153, 3), (35, .aload_n 0, 1), (36, .getfield 37, 3), (39, .getfield 186, 3), (42, .aload_n 0, 1), (43, .getfield 76, 3), (46, .iload_n 2, 1), (47, .iload_n 3, 1), (48, .invokevirtual 225, 3), (51, .invokevirtual 157, 3), (54, .l2i, 1), (55, .ireturn, 1)]
theorem okc_138_0 : ∀ e ∈ code_138_0, decode (mB 138) e.1 = .ok (e.2.1, e.2.2) := by decide +kernel
def code_138 : List (Nat × Instr × Nat) := code_138_0
theorem okc_138 : ∀ e ∈ code_138, decode (mB 138) e.1 = .ok (e.2.1, e.2.2) := okc_138_0
def code_139_0 : List (Nat × Instr × Nat) := [(0, .lload_n 1, 1), (1, .lstore 5, 2), (3, .lload_n 1, 1), (4, .invokestatic 25, 3), (7, .istore 7, 2), (9, .iload 7, 2), (11, .istore 8, 2), (13, .iload 8, 2), (15, .aload_n 0, 1), (16, .getfield 13, 3), (19, .getfield 29, 3), (22, .if_icmp .ge 78, 3), (25, .iload_n 3, 1), (26, .iload 8, 2), (28, .iload 7, 2), (30, .isub, 1), (31, .invokestatic 35, 3), (34, .istore 9, 2), (36, .aload_n 0, 1), (37, .getfield 13, 3), (40, .iload 8, 2), (42, .iload 9, 2), (44, .invokevirtual 47, 3), (47, .istore 10, 2), (49, .aload_n 0, 1), (50, .getfield 13, 3), (53, .lload 5, 2), (55, .iload 8, 2), (57, .iload 9, 2), (59, .invokevirtual 50, 3), (62, .lstore 5, 2), (64, .iload 10, 2), (66, .iconst (-1), 1), (67, .if_icmp .ne 8, 3), (70, .lload 5, 2), (72, .goto 20, 3), (75, .lload 5, 2), (77, .iload 10, 2), (79, .iload 4, 2), (81, .iload 8, 2), (83, .iload 7, 2), (85, .isub, 1), (86, .invokestatic 35, 3), (89, .invokestatic 61, 3), (92, .lstore 5, 2), (94, .iinc 8 1, 3), (97, .goto (-84), 3), (100, .lload 5, 2)]
theorem okc_139_0 : ∀ e ∈ code_139_0, decode (mB 139) e.1 = .ok (e.2.1, e.2.2) := by decide +kernel
def code_139_1 : List (Nat × Instr × Nat) := [(102, .lreturn, 1)]
theorem okc_139_1 : ∀ e ∈ code_139_1, decode (mB 139) e.1 = .ok (e.2.1, e.2.2) := by decide +kernel
def code_139 : List (Nat × Instr × Nat) := code_139_0 ++ (code_139_1)
theorem okc_139 : ∀ e ∈ code_139, decode (mB 139) e.1 = .ok (e.2.1, e.2.2) := (memP_app okc_139_0 okc_139_1)
def code_140_0 : List (Nat × Instr × Nat) := [(0, .aload_n 0, 1), (1, .getfield 68, 3), (4, .ifCond .eq 12, 3), (7, .iload_n 1, 1), (8, .ifCond .lt 8, 3), (11, .iload_n 1, 1), (12, .iconst 4, 1), (13, .if_icmp .lt 5, 3), (16, .iconst 0, 1), (17, .ireturn, 1), (18, .aload_n 0, 1), (19, .getfield 45, 3), (22, .iload_n 1, 1), (23, .iconst 1, 1), (24, .bastore, 1), (25, .aload_n 0, 1), (26, .getfield 49, 3), (29, .iload_n 1, 1), (30, .aload_n 0, 1), (31, .getfield 76, 3), (34, .lastore, 1), (35, .aload_n 0, 1), (36, .getfield 53, 3), (39, .iload_n 1, 1), (40, .aload_n 0, 1), (41, .getfield 41, 3), (44, .iastore, 1), (45, .iconst 1, 1), (46, .ireturn, 1)]
theorem okc_140_0 : ∀ e ∈ code_140_0, decode (mB 140) e.1 = .ok (e.2.1, e.2.2) := by decide +kernel
def code_140 : List (Nat × Instr × Nat) := code_140_0
theorem okc_140 : ∀ e ∈ code_140, decode (mB 140) e.1 = .ok (e.2.1, e.2.2) := okc_140_0
def code_141_0 : List (Nat × Instr × Nat) := [(0, .iload_n 1, 1), (1, .ifCond .lt 17, 3), (4, .iload_n 1, 1), (5, .iconst 4, 1), (6, .if_icmp .ge 12, 3), (9, .aload_n 0, 1), (10, .getfield 45, 3), (13, .iload_n 1, 1), (14, .baload, 1), (15, .ifCond .ne 5, 3), (18, .iconst 0, 1), (19, .ireturn, 1), (20, .aload_n 0, 1), (21, .aload_n 0, 1), (22, .getfield 49, 3), (25, .iload_n 1, 1), (26, .laload, 1), (27, .putfield 76, 3), (30, .aload_n 0, 1), (31, .aload_n 0, 1), (32, .getfield 53, 3), (35, .iload_n 1, 1), (36, .iaload, 1), (37, .putfield 41, 3), (40, .iconst 1, 1), (41, .ireturn, 1)]
theorem okc_141_0 : ∀ e ∈ code_141_0, decode (mB 141) e.1 = .ok (e.2.1, e.2.2) := by decide +kernel
def code_141 : List (Nat × Instr × Nat) := code_141_0
theorem okc_141 : ∀ e ∈ code_141, decode (mB 141) e.1 = .ok (e.2.1, e.2.2) := okc_141_0
def code_142_0 : List (Nat × Instr × Nat) := [(0, .iload_n 1, 1), (1, .tableswitch 117 0 8 #[51, 59, 67, 75, 83, 91, 96, 104, 112], 51), (52, .aload_n 0, 1), (53, .getfield 29, 3), (56, .getfield 83, 3), (59, .ireturn, 1), (60, .aload_n 0, 1), (61, .getfield 29, 3), (64, .getfield 228, 3), (67, .ireturn, 1), (68, .aload_n 0, 1), (69, .getfield 76, 3), (72, .invokestatic 121, 3), (75, .ireturn, 1), (76, .aload_n 0, 1), (77, .getfield 76, 3), (80, .invokestatic 231, 3), (83, .ireturn, 1), (84, .aload_n 0, 1), (85, .getfield 76, 3), (88, .invokestatic 234, 3), (91, .ireturn, 1), (92, .aload_n 0, 1), (93, .getfield 41, 3), (96, .ireturn, 1), (97, .aload_n 0, 1), (98, .getfield 29, 3), (101, .getfield 132, 3), (104, .ireturn, 1), (105, .aload_n 0, 1), (106, .getfield 29, 3), (109, .getfield 150, 3), (112, .ireturn, 1), (113, .aload_n 0, 1), (114, .getfield 57, 3), (117, .ireturn, 1), (118, .iconst (-1), 1), (119, .ireturn, 1)]
theorem okc_142_0 : ∀ e ∈ code_142_0, decode (mB 142) e.1 = .ok (e.2.1, e.2.2) := by decide +kernel
def code_142 : List (Nat × Instr × Nat) := code_142_0
theorem okc_142 : ∀ e ∈ code_142, decode (mB 142) e.1 = .ok (e.2.1, e.2.2) := okc_142_0
def code_143_0 : List (Nat × Instr × Nat) := [(0, .aload_n 0, 1), (1, .invokespecial 1, 3), (4, .aload_n 0, 1), (5, .sipush 400, 3), (8, .newarray .byte, 2), (10, .putfield 9, 3), (13, .aload_n 0, 1), (14, .iconst 3, 1), (15, .newarray .long, 2), (17, .putfield 13, 3), (20, .aload_n 0, 1), (21, .iconst 3, 1), (22, .newarray .boolean, 2), (24, .putfield 17, 3), (27, .aload_n 0, 1), (28, .bipush 9, 2), (30, .newarray .int, 2), (32, .putfield 21, 3), (35, .aload_n 0, 1), (36, .bipush 6, 2), (38, .newarray .int, 2), (40, .putfield 25, 3), (43, .aload_n 0, 1), (44, .bipush 54, 2), (46, .newarray .int, 2), (48, .putfield 28, 3), (51, .aload_n 0, 1), (52, .bipush 9, 2), (54, .newarray .int, 2), (56, .putfield 31, 3), (59, .aload_n 0, 1), (60, .bipush 6, 2), (62, .newarray .int, 2), (64, .putfield 34, 3), (67, .aload_n 0, 1), (68, .bipush 54, 2), (70, .newarray .int, 2), (72, .putfield 37, 3), (75, .aload_n 0, 1), (76, .iconst (-1), 1), (77, .putfield 40, 3), (80, .aload_n 0, 1), (81, .iconst 4, 1), (82, .newarray .long, 2), (84, .putfield 44, 3), (87, .aload_n 0, 1), (88, .iconst 4, 1), (89, .newarray .int, 2)]
theorem okc_143_0 : ∀ e ∈ code_143_0, decode (mB 143) e.1 = .ok (e.2.1, e.2.2) := by decide +kernel
def code_143_1 : List (Nat × Instr × Nat) := [(91, .putfield 47, 3), (94, .aload_n 0, 1), (95, .iconst 4, 1), (96, .newarray .int, 2), (98, .putfield 50, 3), (101, .aload_n 0, 1), (102, .iconst 4, 1), (103, .newarray .boolean, 2), (105, .putfield 53, 3), (108, .aload_n 0, 1), (109, .ldc 56, 2), (111, .newarray .long, 2), (113, .putfield 57, 3), (116, .aload_n 0, 1), (117, .ldc 56, 2), (119, .newarray .int, 2), (121, .putfield 60, 3), (124, .aload_n 0, 1), (125, .bipush 8, 2), (127, .newarray .int, 2), (129, .putfield 63, 3), (132, .aload_n 0, 1), (133, .ldc 66, 2), (135, .newarray .long, 2), (137, .putfield 67, 3), (140, .aload_n 0, 1), (141, .ldc 66, 2), (143, .newarray .long, 2), (145, .putfield 70, 3), (148, .aload_n 0, 1), (149, .bipush 9, 2), (151, .newarray .int, 2), (153, .putfield 73, 3), (156, .aload_n 0, 1), (157, .ldc 76, 2), (159, .newarray .int, 2), (161, .putfield 77, 3), (164, .aload_n 0, 1), (165, .bipush 6, 2), (167, .newarray .int, 2), (169, .putfield 80, 3), (172, .aload_n 0, 1), (173, .sipush 729, 3), (176, .newarray .long, 2), (178, .putfield 83, 3), (181, .aload_n 0, 1), (182, .sipush 729, 3), (185, .newarray .long, 2)]
theorem okc_143_1 : ∀ e ∈ code_143_1, decode (mB 143) e.1 = .ok (e.2.1, e.2.2) := by decide +kernel
def code_143_2 : List (Nat × Instr × Nat) := [(187, .putfield 86, 3), (190, .aload_n 0, 1), (191, .sipush 729, 3), (194, .newarray .long, 2), (196, .putfield 89, 3), (199, .aload_n 0, 1), (200, .sipush 729, 3), (203, .newarray .long, 2), (205, .putfield 92, 3), (208, .return_, 1)]
theorem okc_143_2 : ∀ e ∈ code_143_2, decode (mB 143) e.1 = .ok (e.2.1, e.2.2) := by decide +kernel
def code_143 : List (Nat × Instr × Nat) := code_143_0 ++ (code_143_1 ++ (code_143_2))
theorem okc_143 : ∀ e ∈ code_143, decode (mB 143) e.1 = .ok (e.2.1, e.2.2) := (memP_app okc_143_0 (memP_app okc_143_1 okc_143_2))
def code_144_0 : List (Nat × Instr × Nat) := [(0, .aload_n 0, 1), (1, .getfield 95, 3), (4, .bipush 20, 2), (6, .iadd, 1), (7, .sipush 400, 3), (10, .if_icmp .le 5, 3), (13, .iconst (-1), 1), (14, .ireturn, 1), (15, .iconst 0, 1), (16, .istore 6, 2), (18, .iload 6, 2), (20, .bipush 20, 2), (22, .if_icmp .ge 90, 3), (25, .iload 6, 2), (27, .iconst 4, 1), (28, .if_icmp .ge 7, 3), (31, .iload_n 1, 1), (32, .goto 39, 3), (35, .iload 6, 2), (37, .bipush 8, 2), (39, .if_icmp .ge 7, 3), (42, .iload_n 2, 1), (43, .goto 28, 3), (46, .iload 6, 2), (48, .bipush 12, 2), (50, .if_icmp .ge 7, 3), (53, .iload_n 3, 1), (54, .goto 17, 3), (57, .iload 6, 2), (59, .bipush 16, 2), (61, .if_icmp .ge 8, 3), (64, .iload 4, 2), (66, .goto 5, 3), (69, .iload 5, 2), (71, .istore 7, 2), (73, .aload_n 0, 1), (74, .getfield 9, 3), (77, .aload_n 0, 1), (78, .getfield 95, 3), (81, .iload 7, 2), (83, .bipush 24, 2), (85, .bipush 8, 2), (87, .iload 6, 2), (89, .iconst 4, 1), (90, .irem, 1), (91, .imul, 1), (92, .isub, 1), (93, .ishr, 1)]
theorem okc_144_0 : ∀ e ∈ code_144_0, decode (mB 144) e.1 = .ok (e.2.1, e.2.2) := by decide +kernel
def code_144_1 : List (Nat × Instr × Nat) := [(94, .i2b, 1), (95, .bastore, 1), (96, .aload_n 0, 1), (97, .dup, 1), (98, .getfield 95, 3), (101, .iconst 1, 1), (102, .iadd, 1), (103, .putfield 95, 3), (106, .iinc 6 1, 3), (109, .goto (-91), 3), (112, .aload_n 0, 1), (113, .getfield 95, 3), (116, .ireturn, 1)]
theorem okc_144_1 : ∀ e ∈ code_144_1, decode (mB 144) e.1 = .ok (e.2.1, e.2.2) := by decide +kernel
def code_144 : List (Nat × Instr × Nat) := code_144_0 ++ (code_144_1)
theorem okc_144 : ∀ e ∈ code_144, decode (mB 144) e.1 = .ok (e.2.1, e.2.2) := (memP_app okc_144_0 okc_144_1)
def code_145_0 : List (Nat × Instr × Nat) := [(0, .iload_n 1, 1), (1, .iconst 0, 1), (2, .aload_n 0, 1), (3, .getfield 95, 3), (6, .invokestatic 98, 3), (9, .ifCond .ne 5, 3), (12, .iconst 0, 1), (13, .ireturn, 1), (14, .aload_n 0, 1), (15, .iload_n 1, 1), (16, .putfield 95, 3), (19, .iconst 1, 1), (20, .ireturn, 1)]
theorem okc_145_0 : ∀ e ∈ code_145_0, decode (mB 145) e.1 = .ok (e.2.1, e.2.2) := by decide +kernel
def code_145 : List (Nat × Instr × Nat) := code_145_0
theorem okc_145 : ∀ e ∈ code_145, decode (mB 145) e.1 = .ok (e.2.1, e.2.2) := okc_145_0
def code_146_0 : List (Nat × Instr × Nat) := [(0, .iload_n 0, 1), (1, .iload_n 1, 1), (2, .if_icmp .lt 12, 3), (5, .iload_n 0, 1), (6, .iload_n 2, 1), (7, .if_icmp .gt 7, 3), (10, .iconst 1, 1), (11, .goto 4, 3), (14, .iconst 0, 1), (15, .ireturn, 1)]
theorem okc_146_0 : ∀ e ∈ code_146_0, decode (mB 146) e.1 = .ok (e.2.1, e.2.2) := by decide +kernel
def code_146 : List (Nat × Instr × Nat) := code_146_0
theorem okc_146 : ∀ e ∈ code_146, decode (mB 146) e.1 = .ok (e.2.1, e.2.2) := okc_146_0
def code_147_0 : List (Nat × Instr × Nat) := [(0, .aload_n 0, 1), (1, .iconst 0, 1), (2, .putfield 162, 3), (5, .aload_n 0, 1), (6, .iconst 0, 1), (7, .putfield 186, 3), (10, .aload_n 0, 1), (11, .iconst (-1), 1), (12, .putfield 202, 3), (15, .aload_n 0, 1), (16, .iconst (-1), 1), (17, .putfield 205, 3), (20, .aload_n 0, 1), (21, .iconst 0, 1), (22, .putfield 102, 3), (25, .aload_n 0, 1), (26, .invokevirtual 168, 3), (29, .aload_n 0, 1), (30, .getfield 112, 3), (33, .ifCond .eq 15, 3), (36, .aload_n 0, 1), (37, .invokevirtual 208, 3), (40, .ifCond .ne (-11), 3), (43, .aload_n 0, 1), (44, .getfield 105, 3), (47, .ireturn, 1), (48, .iconst 0, 1), (49, .istore_n 1, 1), (50, .iload_n 1, 1), (51, .aload_n 0, 1), (52, .getfield 162, 3), (55, .if_icmp .ge 20, 3), (58, .aload_n 0, 1), (59, .getfield 17, 3), (62, .iload_n 1, 1), (63, .baload, 1), (64, .ifCond .ne 5, 3), (67, .iconst (-1), 1), (68, .ireturn, 1), (69, .iinc 1 1, 3), (72, .goto (-22), 3), (75, .aload_n 0, 1), (76, .getfield 105, 3), (79, .ireturn, 1)]
theorem okc_147_0 : ∀ e ∈ code_147_0, decode (mB 147) e.1 = .ok (e.2.1, e.2.2) := by decide +kernel
def code_147 : List (Nat × Instr × Nat) := code_147_0
theorem okc_147 : ∀ e ∈ code_147, decode (mB 147) e.1 = .ok (e.2.1, e.2.2) := okc_147_0
def code_148_0 : List (Nat × Instr × Nat) := [(0, .aload_n 0, 1), (1, .getfield 102, 3), (4, .aload_n 0, 1), (5, .getfield 95, 3), (8, .if_icmp .ge 44, 3), (11, .aload_n 0, 1), (12, .getfield 9, 3), (15, .aload_n 0, 1), (16, .getfield 102, 3), (19, .baload, 1), (20, .bipush 32, 2), (22, .if_icmp .eq 17, 3), (25, .aload_n 0, 1), (26, .getfield 9, 3), (29, .aload_n 0, 1), (30, .getfield 102, 3), (33, .baload, 1), (34, .bipush 10, 2), (36, .if_icmp .ne 16, 3), (39, .aload_n 0, 1), (40, .dup, 1), (41, .getfield 102, 3), (44, .iconst 1, 1), (45, .iadd, 1), (46, .putfield 102, 3), (49, .goto (-49), 3), (52, .aload_n 0, 1), (53, .aload_n 0, 1), (54, .getfield 102, 3), (57, .putfield 105, 3), (60, .aload_n 0, 1), (61, .lconst 0, 1), (62, .putfield 108, 3), (65, .aload_n 0, 1), (66, .iconst 0, 1), (67, .putfield 112, 3), (70, .aload_n 0, 1), (71, .getfield 102, 3), (74, .aload_n 0, 1), (75, .getfield 95, 3), (78, .if_icmp .ne 4, 3), (81, .return_, 1), (82, .aload_n 0, 1), (83, .getfield 9, 3), (86, .aload_n 0, 1), (87, .getfield 102, 3), (90, .baload, 1), (91, .istore_n 1, 1)]
theorem okc_148_0 : ∀ e ∈ code_148_0, decode (mB 148) e.1 = .ok (e.2.1, e.2.2) := by decide +kernel
def code_148_1 : List (Nat × Instr × Nat) := [(92, .iload_n 1, 1), (93, .invokestatic 115, 3), (96, .ifCond .eq 105, 3), (99, .aload_n 0, 1), (100, .getfield 102, 3), (103, .aload_n 0, 1), (104, .getfield 95, 3), (107, .if_icmp .ge 67, 3), (110, .aload_n 0, 1), (111, .getfield 9, 3), (114, .aload_n 0, 1), (115, .getfield 102, 3), (118, .baload, 1), (119, .invokestatic 115, 3), (122, .ifCond .eq 52, 3), (125, .aload_n 0, 1), (126, .getfield 102, 3), (129, .aload_n 0, 1), (130, .getfield 105, 3), (133, .isub, 1), (134, .bipush 8, 2), (136, .if_icmp .ge 25, 3), (139, .aload_n 0, 1), (140, .aload_n 0, 1), (141, .getfield 108, 3), (144, .bipush 8, 2), (146, .lshl, 1), (147, .aload_n 0, 1), (148, .getfield 9, 3), (151, .aload_n 0, 1), (152, .getfield 102, 3), (155, .baload, 1), (156, .i2l, 1), (157, .lor, 1), (158, .putfield 108, 3), (161, .aload_n 0, 1), (162, .dup, 1), (163, .getfield 102, 3), (166, .iconst 1, 1), (167, .iadd, 1), (168, .putfield 102, 3), (171, .goto (-72), 3), (174, .aload_n 0, 1), (175, .getfield 102, 3), (178, .aload_n 0, 1), (179, .getfield 105, 3), (182, .isub, 1), (183, .bipush 8, 2)]
theorem okc_148_1 : ∀ e ∈ code_148_1, decode (mB 148) e.1 = .ok (e.2.1, e.2.2) := by decide +kernel
def code_148_2 : List (Nat × Instr × Nat) := [(185, .if_icmp .le 8, 3), (188, .aload_n 0, 1), (189, .lconst 0, 1), (190, .putfield 108, 3), (193, .aload_n 0, 1), (194, .iconst 1, 1), (195, .putfield 112, 3), (198, .goto 139, 3), (201, .iload_n 1, 1), (202, .invokestatic 119, 3), (205, .ifCond .eq 95, 3), (208, .aload_n 0, 1), (209, .getfield 102, 3), (212, .aload_n 0, 1), (213, .getfield 95, 3), (216, .if_icmp .ge 76, 3), (219, .aload_n 0, 1), (220, .getfield 9, 3), (223, .aload_n 0, 1), (224, .getfield 102, 3), (227, .baload, 1), (228, .invokestatic 119, 3), (231, .ifCond .eq 61, 3), (234, .aload_n 0, 1), (235, .aload_n 0, 1), (236, .getfield 108, 3), (239, .ldc2_w 122, 3), (242, .lcmp, 1), (243, .ifCond .le 10, 3), (246, .aload_n 0, 1), (247, .getfield 108, 3), (250, .goto 26, 3), (253, .ldc2_w 124, 3), (256, .aload_n 0, 1), (257, .getfield 108, 3), (260, .lmul, 1), (261, .aload_n 0, 1), (262, .getfield 9, 3), (265, .aload_n 0, 1), (266, .getfield 102, 3), (269, .baload, 1), (270, .i2l, 1), (271, .ladd, 1), (272, .ldc2_w 126, 3), (275, .lsub, 1), (276, .putfield 108, 3), (279, .aload_n 0, 1), (280, .dup, 1)]
theorem okc_148_2 : ∀ e ∈ code_148_2, decode (mB 148) e.1 = .ok (e.2.1, e.2.2) := by decide +kernel
def code_148_3 : List (Nat × Instr × Nat) := [(281, .getfield 102, 3), (284, .iconst 1, 1), (285, .iadd, 1), (286, .putfield 102, 3), (289, .goto (-81), 3), (292, .aload_n 0, 1), (293, .iconst 2, 1), (294, .putfield 112, 3), (297, .goto 40, 3), (300, .aload_n 0, 1), (301, .iload_n 1, 1), (302, .bipush 44, 2), (304, .if_icmp .eq 9, 3), (307, .iload_n 1, 1), (308, .bipush 59, 2), (310, .if_icmp .ne 7, 3), (313, .iconst 3, 1), (314, .goto 4, 3), (317, .iconst 4, 1), (318, .putfield 112, 3), (321, .aload_n 0, 1), (322, .iload_n 1, 1), (323, .i2l, 1), (324, .putfield 108, 3), (327, .aload_n 0, 1), (328, .dup, 1), (329, .getfield 102, 3), (332, .iconst 1, 1), (333, .iadd, 1), (334, .putfield 102, 3), (337, .return_, 1)]
theorem okc_148_3 : ∀ e ∈ code_148_3, decode (mB 148) e.1 = .ok (e.2.1, e.2.2) := by decide +kernel
def code_148 : List (Nat × Instr × Nat) := code_148_0 ++ (code_148_1 ++ (code_148_2 ++ (code_148_3)))
theorem okc_148 : ∀ e ∈ code_148, decode (mB 148) e.1 = .ok (e.2.1, e.2.2) := (memP_app okc_148_0 (memP_app okc_148_1 (memP_app okc_148_2 okc_148_3)))
end
section
/-! CODE of the methods, by number: pc, instruction, length (printed of the program). -/
def code_149_0 : List (Nat × Instr × Nat) := [(0, .iload_n 0, 1), (1, .bipush 97, 2), (3, .if_icmp .lt 13, 3), (6, .iload_n 0, 1), (7, .bipush 122, 2), (9, .if_icmp .gt 7, 3), (12, .iconst 1, 1), (13, .goto 4, 3), (16, .iconst 0, 1), (17, .ireturn, 1)]
theorem okc_149_0 : ∀ e ∈ code_149_0, decode (mB 149) e.1 = .ok (e.2.1, e.2.2) := by decide +kernel
def code_149 : List (Nat × Instr × Nat) := code_149_0
theorem okc_149 : ∀ e ∈ code_149, decode (mB 149) e.1 = .ok (e.2.1, e.2.2) := okc_149_0
def code_150_0 : List (Nat × Instr × Nat) := [(0, .iload_n 0, 1), (1, .bipush 48, 2), (3, .if_icmp .lt 13, 3), (6, .iload_n 0, 1), (7, .bipush 57, 2), (9, .if_icmp .gt 7, 3), (12, .iconst 1, 1), (13, .goto 4, 3), (16, .iconst 0, 1), (17, .ireturn, 1)]
theorem okc_150_0 : ∀ e ∈ code_150_0, decode (mB 150) e.1 = .ok (e.2.1, e.2.2) := by decide +kernel
def code_150 : List (Nat × Instr × Nat) := code_150_0
theorem okc_150 : ∀ e ∈ code_150, decode (mB 150) e.1 = .ok (e.2.1, e.2.2) := okc_150_0
def code_151_0 : List (Nat × Instr × Nat) := [(0, .aload_n 0, 1), (1, .ldc 142, 2), (3, .invokevirtual 144, 3), (6, .ifCond .ne 12, 3), (9, .aload_n 0, 1), (10, .ldc 148, 2), (12, .invokevirtual 144, 3), (15, .ifCond .eq 14, 3), (18, .aload_n 0, 1), (19, .aload_n 0, 1), (20, .ldc 148, 2), (22, .invokevirtual 144, 3), (25, .invokevirtual 195, 3), (28, .ireturn, 1), (29, .aload_n 0, 1), (30, .ldc 150, 2), (32, .invokevirtual 144, 3), (35, .ifCond .eq 8, 3), (38, .aload_n 0, 1), (39, .invokevirtual 199, 3), (42, .ireturn, 1), (43, .aload_n 0, 1), (44, .ldc 158, 2), (46, .invokevirtual 144, 3), (49, .istore_n 1, 1), (50, .iload_n 1, 1), (51, .ifCond .ne 12, 3), (54, .aload_n 0, 1), (55, .ldc 160, 2), (57, .invokevirtual 144, 3), (60, .ifCond .eq 22, 3), (63, .iload_n 1, 1), (64, .ifCond .eq 10, 3), (67, .aload_n 0, 1), (68, .getfield 202, 3), (71, .goto 7, 3), (74, .aload_n 0, 1), (75, .getfield 205, 3), (78, .iconst (-1), 1), (79, .if_icmp .eq 5, 3), (82, .iconst 0, 1), (83, .ireturn, 1), (84, .aload_n 0, 1), (85, .invokevirtual 168, 3), (88, .aload_n 0, 1), (89, .iconst 0, 1), (90, .iload_n 1, 1), (91, .ifCond .eq 7, 3)]
theorem okc_151_0 : ∀ e ∈ code_151_0, decode (mB 151) e.1 = .ok (e.2.1, e.2.2) := by decide +kernel
def code_151_1 : List (Nat × Instr × Nat) := [(94, .iconst 2, 1), (95, .goto 4, 3), (98, .iconst 1, 1), (99, .invokevirtual 179, 3), (102, .ifCond .ne 5, 3), (105, .iconst 0, 1), (106, .ireturn, 1), (107, .iload_n 1, 1), (108, .ifCond .eq 15, 3), (111, .aload_n 0, 1), (112, .aload_n 0, 1), (113, .getfield 108, 3), (116, .l2i, 1), (117, .putfield 202, 3), (120, .goto 12, 3), (123, .aload_n 0, 1), (124, .aload_n 0, 1), (125, .getfield 108, 3), (128, .l2i, 1), (129, .putfield 205, 3), (132, .aload_n 0, 1), (133, .invokevirtual 168, 3), (136, .aload_n 0, 1), (137, .invokevirtual 183, 3), (140, .ireturn, 1)]
theorem okc_151_1 : ∀ e ∈ code_151_1, decode (mB 151) e.1 = .ok (e.2.1, e.2.2) := by decide +kernel
def code_151 : List (Nat × Instr × Nat) := code_151_0 ++ (code_151_1)
theorem okc_151 : ∀ e ∈ code_151, decode (mB 151) e.1 = .ok (e.2.1, e.2.2) := (memP_app okc_151_0 okc_151_1)
def code_152_0 : List (Nat × Instr × Nat) := [(0, .aload_n 0, 1), (1, .getfield 112, 3), (4, .iconst 1, 1), (5, .if_icmp .ne 19, 3), (8, .aload_n 0, 1), (9, .getfield 108, 3), (12, .aload_n 1, 1), (13, .invokestatic 138, 3), (16, .lcmp, 1), (17, .ifCond .ne 7, 3), (20, .iconst 1, 1), (21, .goto 4, 3), (24, .iconst 0, 1), (25, .ireturn, 1)]
theorem okc_152_0 : ∀ e ∈ code_152_0, decode (mB 152) e.1 = .ok (e.2.1, e.2.2) := by decide +kernel
def code_152 : List (Nat × Instr × Nat) := code_152_0
theorem okc_152 : ∀ e ∈ code_152, decode (mB 152) e.1 = .ok (e.2.1, e.2.2) := okc_152_0
def code_153_0 : List (Nat × Instr × Nat) := [(0, .lconst 0, 1), (1, .lstore_n 1, 1), (2, .iconst 0, 1), (3, .istore_n 3, 1), (4, .iload_n 3, 1), (5, .aload_n 0, 1), (6, .invokevirtual 128, 3), (9, .if_icmp .ge 21, 3), (12, .lload_n 1, 1), (13, .bipush 8, 2), (15, .lshl, 1), (16, .aload_n 0, 1), (17, .iload_n 3, 1), (18, .invokevirtual 134, 3), (21, .i2l, 1), (22, .lor, 1), (23, .lstore_n 1, 1), (24, .iinc 3 1, 3), (27, .goto (-23), 3), (30, .lload_n 1, 1), (31, .lreturn, 1)]
theorem okc_153_0 : ∀ e ∈ code_153_0, decode (mB 153) e.1 = .ok (e.2.1, e.2.2) := by decide +kernel
def code_153 : List (Nat × Instr × Nat) := code_153_0
theorem okc_153 : ∀ e ∈ code_153, decode (mB 153) e.1 = .ok (e.2.1, e.2.2) := okc_153_0
def code_154_0 : List (Nat × Instr × Nat) := [(0, .aload_n 0, 1), (1, .getfield 9, 3), (4, .arraylength, 1), (5, .aload_n 0, 1), (6, .invokevirtual 335, 3), (9, .ishr, 1), (10, .ireturn, 1)]
theorem okc_154_0 : ∀ e ∈ code_154_0, decode (mB 154) e.1 = .ok (e.2.1, e.2.2) := by decide +kernel
def code_154 : List (Nat × Instr × Nat) := code_154_0
theorem okc_154 : ∀ e ∈ code_154, decode (mB 154) e.1 = .ok (e.2.1, e.2.2) := okc_154_0
def code_155_0 : List (Nat × Instr × Nat) := [(0, .getstatic 38, 3), (3, .ifCond .eq 10, 3), (6, .aload_n 0, 1), (7, .getfield 15, 3), (10, .goto 4, 3), (13, .iconst 1, 1), (14, .ireturn, 1)]
theorem okc_155_0 : ∀ e ∈ code_155_0, decode (mB 155) e.1 = .ok (e.2.1, e.2.2) := by decide +kernel
def code_155 : List (Nat × Instr × Nat) := code_155_0
theorem okc_155 : ∀ e ∈ code_155, decode (mB 155) e.1 = .ok (e.2.1, e.2.2) := okc_155_0
def code_156_0 : List (Nat × Instr × Nat) := [(0, .aload_n 0, 1), (1, .invokevirtual 492, 3), (4, .ifCond .eq 12, 3), (7, .aload_n 0, 1), (8, .getfield 9, 3), (11, .iload_n 1, 1), (12, .invokestatic 495, 3), (15, .ireturn, 1), (16, .aload_n 0, 1), (17, .getfield 9, 3), (20, .iload_n 1, 1), (21, .invokestatic 498, 3), (24, .ireturn, 1)]
theorem okc_156_0 : ∀ e ∈ code_156_0, decode (mB 156) e.1 = .ok (e.2.1, e.2.2) := by decide +kernel
def code_156 : List (Nat × Instr × Nat) := code_156_0
theorem okc_156 : ∀ e ∈ code_156, decode (mB 156) e.1 = .ok (e.2.1, e.2.2) := okc_156_0
def code_157_0 : List (Nat × Instr × Nat) := [(0, .getstatic 38, 3), (3, .ifCond .eq 14, 3), (6, .aload_n 0, 1), (7, .getfield 15, 3), (10, .ifCond .ne 7, 3), (13, .iconst 1, 1), (14, .goto 4, 3), (17, .iconst 0, 1), (18, .ireturn, 1)]
theorem okc_157_0 : ∀ e ∈ code_157_0, decode (mB 157) e.1 = .ok (e.2.1, e.2.2) := by decide +kernel
def code_157 : List (Nat × Instr × Nat) := code_157_0
theorem okc_157 : ∀ e ∈ code_157, decode (mB 157) e.1 = .ok (e.2.1, e.2.2) := okc_157_0
def code_158_0 : List (Nat × Instr × Nat) := [(0, .iload_n 1, 1), (1, .aload_n 0, 1), (2, .arraylength, 1), (3, .invokestatic 9, 3), (6, .aload_n 0, 1), (7, .iload_n 1, 1), (8, .baload, 1), (9, .sipush 255, 3), (12, .iand, 1), (13, .i2c, 1), (14, .ireturn, 1)]
theorem okc_158_0 : ∀ e ∈ code_158_0, decode (mB 158) e.1 = .ok (e.2.1, e.2.2) := by decide +kernel
def code_158 : List (Nat × Instr × Nat) := code_158_0
theorem okc_158 : ∀ e ∈ code_158, decode (mB 158) e.1 = .ok (e.2.1, e.2.2) := okc_158_0
def code_159_0 : List (Nat × Instr × Nat) := [(0, .iload_n 0, 1), (1, .iload_n 1, 1), (2, .getstatic 1053, 3), (5, .invokestatic 1059, 3), (8, .pop, 1), (9, .return_, 1)]
theorem okc_159_0 : ∀ e ∈ code_159_0, decode (mB 159) e.1 = .ok (e.2.1, e.2.2) := by decide +kernel
def code_159 : List (Nat × Instr × Nat) := code_159_0
theorem okc_159 : ∀ e ∈ code_159, decode (mB 159) e.1 = .ok (e.2.1, e.2.2) := okc_159_0
def code_160_0 : List (Nat × Instr × Nat) := [(0, .iload_n 0, 1), (1, .ifCond .lt 8, 3), (4, .iload_n 0, 1), (5, .iload_n 1, 1), (6, .if_icmp .lt 10, 3), (9, .aload_n 2, 1), (10, .iload_n 0, 1), (11, .iload_n 1, 1), (12, .invokestatic 95, 3), (15, .athrow, 1), (16, .iload_n 0, 1), (17, .ireturn, 1)]
theorem okc_160_0 : ∀ e ∈ code_160_0, decode (mB 160) e.1 = .ok (e.2.1, e.2.2) := by decide +kernel
def code_160 : List (Nat × Instr × Nat) := code_160_0
theorem okc_160 : ∀ e ∈ code_160, decode (mB 160) e.1 = .ok (e.2.1, e.2.2) := okc_160_0
def code_161_0 : List (Nat × Instr × Nat) := [(0, .aload_n 0, 1), (1, .getfield 162, 3), (4, .iconst 3, 1), (5, .if_icmp .ne 5, 3), (8, .iconst 0, 1), (9, .ireturn, 1), (10, .aload_n 0, 1), (11, .invokevirtual 168, 3), (14, .aload_n 0, 1), (15, .invokevirtual 171, 3), (18, .ifCond .eq 15, 3), (21, .aload_n 0, 1), (22, .aload_n 0, 1), (23, .getfield 108, 3), (26, .invokevirtual 175, 3), (29, .iconst (-1), 1), (30, .if_icmp .eq 5, 3), (33, .iconst 0, 1), (34, .ireturn, 1), (35, .aload_n 0, 1), (36, .getfield 13, 3), (39, .aload_n 0, 1), (40, .getfield 162, 3), (43, .aload_n 0, 1), (44, .getfield 108, 3), (47, .lastore, 1), (48, .aload_n 0, 1), (49, .getfield 17, 3), (52, .aload_n 0, 1), (53, .getfield 162, 3), (56, .iload_n 1, 1), (57, .bastore, 1), (58, .aload_n 0, 1), (59, .invokevirtual 168, 3), (62, .iconst 0, 1), (63, .istore_n 2, 1), (64, .iload_n 2, 1), (65, .iconst 3, 1), (66, .if_icmp .ge 43, 3), (69, .aload_n 0, 1), (70, .iconst 0, 1), (71, .bipush 20, 2), (73, .invokevirtual 179, 3), (76, .ifCond .ne 5, 3), (79, .iconst 0, 1), (80, .ireturn, 1), (81, .aload_n 0, 1), (82, .getfield 21, 3)]
theorem okc_161_0 : ∀ e ∈ code_161_0, decode (mB 161) e.1 = .ok (e.2.1, e.2.2) := by decide +kernel
def code_161_1 : List (Nat × Instr × Nat) := [(85, .iconst 3, 1), (86, .aload_n 0, 1), (87, .getfield 162, 3), (90, .imul, 1), (91, .iload_n 2, 1), (92, .iadd, 1), (93, .aload_n 0, 1), (94, .getfield 108, 3), (97, .l2i, 1), (98, .iastore, 1), (99, .aload_n 0, 1), (100, .invokevirtual 168, 3), (103, .iinc 2 1, 3), (106, .goto (-42), 3), (109, .aload_n 0, 1), (110, .dup, 1), (111, .getfield 162, 3), (114, .iconst 1, 1), (115, .iadd, 1), (116, .putfield 162, 3), (119, .aload_n 0, 1), (120, .invokevirtual 183, 3), (123, .ireturn, 1)]
theorem okc_161_1 : ∀ e ∈ code_161_1, decode (mB 161) e.1 = .ok (e.2.1, e.2.2) := by decide +kernel
def code_161 : List (Nat × Instr × Nat) := code_161_0 ++ (code_161_1)
theorem okc_161 : ∀ e ∈ code_161, decode (mB 161) e.1 = .ok (e.2.1, e.2.2) := (memP_app okc_161_0 okc_161_1)
def code_162_0 : List (Nat × Instr × Nat) := [(0, .aload_n 0, 1), (1, .getfield 112, 3), (4, .iconst 1, 1), (5, .if_icmp .ne 88, 3), (8, .aload_n 0, 1), (9, .getfield 108, 3), (12, .lconst 0, 1), (13, .lcmp, 1), (14, .ifCond .eq 79, 3), (17, .aload_n 0, 1), (18, .ldc 142, 2), (20, .invokevirtual 144, 3), (23, .ifCond .ne 70, 3), (26, .aload_n 0, 1), (27, .ldc 148, 2), (29, .invokevirtual 144, 3), (32, .ifCond .ne 61, 3), (35, .aload_n 0, 1), (36, .ldc 150, 2), (38, .invokevirtual 144, 3), (41, .ifCond .ne 52, 3), (44, .aload_n 0, 1), (45, .ldc 152, 2), (47, .invokevirtual 144, 3), (50, .ifCond .ne 43, 3), (53, .aload_n 0, 1), (54, .ldc 154, 2), (56, .invokevirtual 144, 3), (59, .ifCond .ne 34, 3), (62, .aload_n 0, 1), (63, .ldc 156, 2), (65, .invokevirtual 144, 3), (68, .ifCond .ne 25, 3), (71, .aload_n 0, 1), (72, .ldc 158, 2), (74, .invokevirtual 144, 3), (77, .ifCond .ne 16, 3), (80, .aload_n 0, 1), (81, .ldc 160, 2), (83, .invokevirtual 144, 3), (86, .ifCond .ne 7, 3), (89, .iconst 1, 1), (90, .goto 4, 3), (93, .iconst 0, 1), (94, .ireturn, 1)]
theorem okc_162_0 : ∀ e ∈ code_162_0, decode (mB 162) e.1 = .ok (e.2.1, e.2.2) := by decide +kernel
def code_162 : List (Nat × Instr × Nat) := code_162_0
theorem okc_162 : ∀ e ∈ code_162, decode (mB 162) e.1 = .ok (e.2.1, e.2.2) := okc_162_0
def code_163_0 : List (Nat × Instr × Nat) := [(0, .iconst 0, 1), (1, .istore_n 3, 1), (2, .iload_n 3, 1), (3, .aload_n 0, 1), (4, .getfield 162, 3), (7, .if_icmp .ge 22, 3), (10, .aload_n 0, 1), (11, .getfield 13, 3), (14, .iload_n 3, 1), (15, .laload, 1), (16, .lload_n 1, 1), (17, .lcmp, 1), (18, .ifCond .ne 5, 3), (21, .iload_n 3, 1), (22, .ireturn, 1), (23, .iinc 3 1, 3), (26, .goto (-24), 3), (29, .iconst (-1), 1), (30, .ireturn, 1)]
theorem okc_163_0 : ∀ e ∈ code_163_0, decode (mB 163) e.1 = .ok (e.2.1, e.2.2) := by decide +kernel
def code_163 : List (Nat × Instr × Nat) := code_163_0
theorem okc_163 : ∀ e ∈ code_163, decode (mB 163) e.1 = .ok (e.2.1, e.2.2) := okc_163_0
def code_164_0 : List (Nat × Instr × Nat) := [(0, .aload_n 0, 1), (1, .getfield 112, 3), (4, .iconst 2, 1), (5, .if_icmp .ne 27, 3), (8, .aload_n 0, 1), (9, .getfield 108, 3), (12, .iload_n 1, 1), (13, .i2l, 1), (14, .lcmp, 1), (15, .ifCond .lt 17, 3), (18, .aload_n 0, 1), (19, .getfield 108, 3), (22, .iload_n 2, 1), (23, .i2l, 1), (24, .lcmp, 1), (25, .ifCond .gt 7, 3), (28, .iconst 1, 1), (29, .goto 4, 3), (32, .iconst 0, 1), (33, .ireturn, 1)]
theorem okc_164_0 : ∀ e ∈ code_164_0, decode (mB 164) e.1 = .ok (e.2.1, e.2.2) := by decide +kernel
def code_164 : List (Nat × Instr × Nat) := code_164_0
theorem okc_164 : ∀ e ∈ code_164, decode (mB 164) e.1 = .ok (e.2.1, e.2.2) := okc_164_0
def code_165_0 : List (Nat × Instr × Nat) := [(0, .aload_n 0, 1), (1, .bipush 59, 2), (3, .invokevirtual 165, 3), (6, .ifCond .ne 5, 3), (9, .iconst 0, 1), (10, .ireturn, 1), (11, .aload_n 0, 1), (12, .invokevirtual 168, 3), (15, .iconst 1, 1), (16, .ireturn, 1)]
theorem okc_165_0 : ∀ e ∈ code_165_0, decode (mB 165) e.1 = .ok (e.2.1, e.2.2) := by decide +kernel
def code_165 : List (Nat × Instr × Nat) := code_165_0
theorem okc_165 : ∀ e ∈ code_165, decode (mB 165) e.1 = .ok (e.2.1, e.2.2) := okc_165_0
def code_166_0 : List (Nat × Instr × Nat) := [(0, .aload_n 0, 1), (1, .getfield 112, 3), (4, .iconst 3, 1), (5, .if_icmp .ne 17, 3), (8, .aload_n 0, 1), (9, .getfield 108, 3), (12, .iload_n 1, 1), (13, .i2l, 1), (14, .lcmp, 1), (15, .ifCond .ne 7, 3), (18, .iconst 1, 1), (19, .goto 4, 3), (22, .iconst 0, 1), (23, .ireturn, 1)]
theorem okc_166_0 : ∀ e ∈ code_166_0, decode (mB 166) e.1 = .ok (e.2.1, e.2.2) := by decide +kernel
def code_166 : List (Nat × Instr × Nat) := code_166_0
theorem okc_166 : ∀ e ∈ code_166, decode (mB 166) e.1 = .ok (e.2.1, e.2.2) := okc_166_0
def code_167_0 : List (Nat × Instr × Nat) := [(0, .aload_n 0, 1), (1, .getfield 186, 3), (4, .bipush 6, 2), (6, .if_icmp .ne 5, 3), (9, .iconst 0, 1), (10, .ireturn, 1), (11, .aload_n 0, 1), (12, .invokevirtual 168, 3), (15, .aload_n 0, 1), (16, .iconst 0, 1), (17, .putfield 189, 3), (20, .aload_n 0, 1), (21, .getfield 25, 3), (24, .aload_n 0, 1), (25, .getfield 186, 3), (28, .iconst 0, 1), (29, .iastore, 1), (30, .aload_n 0, 1), (31, .invokevirtual 192, 3), (34, .ifCond .ne 5, 3), (37, .iconst 0, 1), (38, .ireturn, 1), (39, .aload_n 0, 1), (40, .bipush 44, 2), (42, .invokevirtual 165, 3), (45, .ifCond .eq 29, 3), (48, .aload_n 0, 1), (49, .getfield 25, 3), (52, .aload_n 0, 1), (53, .getfield 186, 3), (56, .iaload, 1), (57, .iconst 3, 1), (58, .if_icmp .ge 16, 3), (61, .aload_n 0, 1), (62, .invokevirtual 168, 3), (65, .aload_n 0, 1), (66, .invokevirtual 192, 3), (69, .ifCond .ne (-30), 3), (72, .iconst 0, 1), (73, .ireturn, 1), (74, .aload_n 0, 1), (75, .getfield 189, 3), (78, .bipush 12, 2), (80, .if_icmp .lt 10, 3), (83, .aload_n 0, 1), (84, .invokevirtual 183, 3), (87, .ifCond .ne 5, 3), (90, .iconst 0, 1)]
theorem okc_167_0 : ∀ e ∈ code_167_0, decode (mB 167) e.1 = .ok (e.2.1, e.2.2) := by decide +kernel
def code_167_1 : List (Nat × Instr × Nat) := [(91, .ireturn, 1), (92, .aload_n 0, 1), (93, .dup, 1), (94, .getfield 186, 3), (97, .iconst 1, 1), (98, .iadd, 1), (99, .putfield 186, 3), (102, .iconst 1, 1), (103, .ireturn, 1)]
theorem okc_167_1 : ∀ e ∈ code_167_1, decode (mB 167) e.1 = .ok (e.2.1, e.2.2) := by decide +kernel
def code_167 : List (Nat × Instr × Nat) := code_167_0 ++ (code_167_1)
theorem okc_167 : ∀ e ∈ code_167, decode (mB 167) e.1 = .ok (e.2.1, e.2.2) := (memP_app okc_167_0 okc_167_1)
def code_168_0 : List (Nat × Instr × Nat) := [(0, .iconst 3, 1), (1, .iconst 3, 1), (2, .aload_n 0, 1), (3, .getfield 186, 3), (6, .imul, 1), (7, .aload_n 0, 1), (8, .getfield 25, 3), (11, .aload_n 0, 1), (12, .getfield 186, 3), (15, .iaload, 1), (16, .iadd, 1), (17, .imul, 1), (18, .istore_n 1, 1), (19, .aload_n 0, 1), (20, .iconst 1, 1), (21, .bipush 12, 2), (23, .aload_n 0, 1), (24, .getfield 189, 3), (27, .isub, 1), (28, .invokevirtual 179, 3), (31, .ifCond .ne 5, 3), (34, .iconst 0, 1), (35, .ireturn, 1), (36, .aload_n 0, 1), (37, .getfield 28, 3), (40, .iload_n 1, 1), (41, .aload_n 0, 1), (42, .getfield 108, 3), (45, .l2i, 1), (46, .iastore, 1), (47, .aload_n 0, 1), (48, .dup, 1), (49, .getfield 189, 3), (52, .aload_n 0, 1), (53, .getfield 108, 3), (56, .l2i, 1), (57, .iadd, 1), (58, .putfield 189, 3), (61, .aload_n 0, 1), (62, .invokevirtual 168, 3), (65, .aload_n 0, 1), (66, .getfield 28, 3), (69, .iload_n 1, 1), (70, .iconst 2, 1), (71, .iadd, 1), (72, .iconst (-1), 1), (73, .iastore, 1), (74, .aload_n 0, 1)]
theorem okc_168_0 : ∀ e ∈ code_168_0, decode (mB 168) e.1 = .ok (e.2.1, e.2.2) := by decide +kernel
def code_168_1 : List (Nat × Instr × Nat) := [(75, .ldc 156, 2), (77, .invokevirtual 144, 3), (80, .ifCond .eq 15, 3), (83, .aload_n 0, 1), (84, .getfield 28, 3), (87, .iload_n 1, 1), (88, .iconst 1, 1), (89, .iadd, 1), (90, .iconst 2, 1), (91, .iastore, 1), (92, .goto 121, 3), (95, .aload_n 0, 1), (96, .ldc 152, 2), (98, .invokevirtual 144, 3), (101, .ifCond .eq 43, 3), (104, .aload_n 0, 1), (105, .invokevirtual 168, 3), (108, .aload_n 0, 1), (109, .iconst 0, 1), (110, .iconst 2, 1), (111, .invokevirtual 179, 3), (114, .ifCond .ne 5, 3), (117, .iconst 0, 1), (118, .ireturn, 1), (119, .aload_n 0, 1), (120, .getfield 28, 3), (123, .iload_n 1, 1), (124, .iconst 1, 1), (125, .iadd, 1), (126, .iconst 0, 1), (127, .iastore, 1), (128, .aload_n 0, 1), (129, .getfield 28, 3), (132, .iload_n 1, 1), (133, .iconst 2, 1), (134, .iadd, 1), (135, .aload_n 0, 1), (136, .getfield 108, 3), (139, .l2i, 1), (140, .iastore, 1), (141, .goto 72, 3), (144, .aload_n 0, 1), (145, .ldc 154, 2), (147, .invokevirtual 144, 3), (150, .ifCond .ne 5, 3), (153, .iconst 0, 1), (154, .ireturn, 1), (155, .aload_n 0, 1)]
theorem okc_168_1 : ∀ e ∈ code_168_1, decode (mB 168) e.1 = .ok (e.2.1, e.2.2) := by decide +kernel
def code_168_2 : List (Nat × Instr × Nat) := [(156, .invokevirtual 168, 3), (159, .aload_n 0, 1), (160, .invokevirtual 171, 3), (163, .ifCond .eq 14, 3), (166, .aload_n 0, 1), (167, .aload_n 0, 1), (168, .getfield 108, 3), (171, .invokevirtual 175, 3), (174, .goto 4, 3), (177, .iconst (-1), 1), (178, .istore_n 2, 1), (179, .iload_n 2, 1), (180, .iconst (-1), 1), (181, .if_icmp .eq 12, 3), (184, .aload_n 0, 1), (185, .getfield 17, 3), (188, .iload_n 2, 1), (189, .baload, 1), (190, .ifCond .ne 5, 3), (193, .iconst 0, 1), (194, .ireturn, 1), (195, .aload_n 0, 1), (196, .getfield 28, 3), (199, .iload_n 1, 1), (200, .iconst 1, 1), (201, .iadd, 1), (202, .iconst 1, 1), (203, .iastore, 1), (204, .aload_n 0, 1), (205, .getfield 28, 3), (208, .iload_n 1, 1), (209, .iconst 2, 1), (210, .iadd, 1), (211, .iload_n 2, 1), (212, .iastore, 1), (213, .aload_n 0, 1), (214, .getfield 25, 3), (217, .aload_n 0, 1), (218, .getfield 186, 3), (221, .dup2, 1), (222, .iaload, 1), (223, .iconst 1, 1), (224, .iadd, 1), (225, .iastore, 1), (226, .aload_n 0, 1), (227, .invokevirtual 168, 3), (230, .iconst 1, 1), (231, .ireturn, 1)]
theorem okc_168_2 : ∀ e ∈ code_168_2, decode (mB 168) e.1 = .ok (e.2.1, e.2.2) := by decide +kernel
def code_168 : List (Nat × Instr × Nat) := code_168_0 ++ (code_168_1 ++ (code_168_2))
theorem okc_168 : ∀ e ∈ code_168, decode (mB 168) e.1 = .ok (e.2.1, e.2.2) := (memP_app okc_168_0 (memP_app okc_168_1 okc_168_2))
def code_169_0 : List (Nat × Instr × Nat) := [(0, .aload_n 0, 1), (1, .invokevirtual 211, 3), (4, .iconst (-1), 1), (5, .if_icmp .eq 5, 3), (8, .iconst (-1), 1), (9, .ireturn, 1), (10, .aload_n 0, 1), (11, .iconst 1, 1), (12, .putfield 214, 3), (15, .aload_n 0, 1), (16, .aload_n 0, 1), (17, .getfield 162, 3), (20, .putfield 218, 3), (23, .aload_n 0, 1), (24, .aload_n 0, 1), (25, .getfield 186, 3), (28, .putfield 221, 3), (31, .aload_n 0, 1), (32, .aload_n 0, 1), (33, .getfield 202, 3), (36, .iconst (-1), 1), (37, .if_icmp .ne 7, 3), (40, .iconst 0, 1), (41, .goto 7, 3), (44, .aload_n 0, 1), (45, .getfield 202, 3), (48, .putfield 224, 3), (51, .aload_n 0, 1), (52, .aload_n 0, 1), (53, .getfield 205, 3), (56, .iconst (-1), 1), (57, .if_icmp .ne 7, 3), (60, .iconst 0, 1), (61, .goto 7, 3), (64, .aload_n 0, 1), (65, .getfield 205, 3), (68, .putfield 226, 3), (71, .aload_n 0, 1), (72, .lconst 0, 1), (73, .putfield 228, 3), (76, .iconst 0, 1), (77, .istore_n 1, 1), (78, .iload_n 1, 1), (79, .aload_n 0, 1), (80, .getfield 218, 3), (83, .if_icmp .ge 33, 3), (86, .aload_n 0, 1), (87, .getfield 17, 3)]
theorem okc_169_0 : ∀ e ∈ code_169_0, decode (mB 169) e.1 = .ok (e.2.1, e.2.2) := by decide +kernel
def code_169_1 : List (Nat × Instr × Nat) := [(90, .iload_n 1, 1), (91, .baload, 1), (92, .ifCond .ne 18, 3), (95, .aload_n 0, 1), (96, .dup, 1), (97, .getfield 228, 3), (100, .lconst 1, 1), (101, .bipush 36, 2), (103, .iload_n 1, 1), (104, .iadd, 1), (105, .lshl, 1), (106, .lor, 1), (107, .putfield 228, 3), (110, .iinc 1 1, 3), (113, .goto (-35), 3), (116, .iconst 0, 1), (117, .istore_n 1, 1), (118, .iload_n 1, 1), (119, .bipush 9, 2), (121, .if_icmp .ge 21, 3), (124, .aload_n 0, 1), (125, .getfield 31, 3), (128, .iload_n 1, 1), (129, .aload_n 0, 1), (130, .getfield 21, 3), (133, .iload_n 1, 1), (134, .iaload, 1), (135, .iastore, 1), (136, .iinc 1 1, 3), (139, .goto (-21), 3), (142, .iconst 0, 1), (143, .istore_n 1, 1), (144, .iload_n 1, 1), (145, .bipush 6, 2), (147, .if_icmp .ge 21, 3), (150, .aload_n 0, 1), (151, .getfield 34, 3), (154, .iload_n 1, 1), (155, .aload_n 0, 1), (156, .getfield 25, 3), (159, .iload_n 1, 1), (160, .iaload, 1), (161, .iastore, 1), (162, .iinc 1 1, 3), (165, .goto (-21), 3), (168, .iconst 0, 1), (169, .istore_n 1, 1), (170, .iload_n 1, 1)]
theorem okc_169_1 : ∀ e ∈ code_169_1, decode (mB 169) e.1 = .ok (e.2.1, e.2.2) := by decide +kernel
def code_169_2 : List (Nat × Instr × Nat) := [(171, .aload_n 0, 1), (172, .getfield 37, 3), (175, .arraylength, 1), (176, .if_icmp .ge 21, 3), (179, .aload_n 0, 1), (180, .getfield 37, 3), (183, .iload_n 1, 1), (184, .aload_n 0, 1), (185, .getfield 28, 3), (188, .iload_n 1, 1), (189, .iaload, 1), (190, .iastore, 1), (191, .iinc 1 1, 3), (194, .goto (-24), 3), (197, .iconst 0, 1), (198, .istore_n 1, 1), (199, .iload_n 1, 1), (200, .iconst 4, 1), (201, .if_icmp .ge 16, 3), (204, .aload_n 0, 1), (205, .getfield 53, 3), (208, .iload_n 1, 1), (209, .iconst 0, 1), (210, .bastore, 1), (211, .iinc 1 1, 3), (214, .goto (-15), 3), (217, .aload_n 0, 1), (218, .iconst 0, 1), (219, .putfield 231, 3), (222, .aload_n 0, 1), (223, .iconst (-1), 1), (224, .putfield 40, 3), (227, .aload_n 0, 1), (228, .iconst 0, 1), (229, .putfield 95, 3), (232, .aload_n 0, 1), (233, .invokevirtual 234, 3), (236, .aload_n 0, 1), (237, .getfield 218, 3), (240, .ireturn, 1)]
theorem okc_169_2 : ∀ e ∈ code_169_2, decode (mB 169) e.1 = .ok (e.2.1, e.2.2) := by decide +kernel
def code_169 : List (Nat × Instr × Nat) := code_169_0 ++ (code_169_1 ++ (code_169_2))
theorem okc_169 : ∀ e ∈ code_169, decode (mB 169) e.1 = .ok (e.2.1, e.2.2) := (memP_app okc_169_0 (memP_app okc_169_1 okc_169_2))
def code_170_0 : List (Nat × Instr × Nat) := [(0, .aload_n 0, 1), (1, .iconst 0, 1), (2, .putfield 264, 3), (5, .iconst 0, 1), (6, .istore_n 1, 1), (7, .iload_n 1, 1), (8, .ldc 56, 2), (10, .if_icmp .ge 16, 3), (13, .aload_n 0, 1), (14, .getfield 57, 3), (17, .iload_n 1, 1), (18, .lconst 0, 1), (19, .lastore, 1), (20, .iinc 1 1, 3), (23, .goto (-16), 3), (26, .return_, 1)]
theorem okc_170_0 : ∀ e ∈ code_170_0, decode (mB 170) e.1 = .ok (e.2.1, e.2.2) := by decide +kernel
def code_170 : List (Nat × Instr × Nat) := code_170_0
theorem okc_170 : ∀ e ∈ code_170, decode (mB 170) e.1 = .ok (e.2.1, e.2.2) := okc_170_0
def code_171_0 : List (Nat × Instr × Nat) := [(0, .aload_n 0, 1), (1, .iload_n 1, 1), (2, .invokevirtual 332, 3), (5, .ifCond .ne 5, 3), (8, .iconst (-1), 1), (9, .ireturn, 1), (10, .iload_n 2, 1), (11, .ifCond .ne 20, 3), (14, .aload_n 0, 1), (15, .getfield 228, 3), (18, .iload_n 1, 1), (19, .invokestatic 244, 3), (22, .ifCond .eq 7, 3), (25, .iconst 1, 1), (26, .goto 4, 3), (29, .iconst 0, 1), (30, .ireturn, 1), (31, .iload_n 2, 1), (32, .iconst 1, 1), (33, .iconst 3, 1), (34, .invokestatic 98, 3), (37, .ifCond .eq 16, 3), (40, .aload_n 0, 1), (41, .getfield 31, 3), (44, .iconst 3, 1), (45, .iload_n 1, 1), (46, .imul, 1), (47, .iload_n 2, 1), (48, .iadd, 1), (49, .iconst 1, 1), (50, .isub, 1), (51, .iaload, 1), (52, .ireturn, 1), (53, .iload_n 2, 1), (54, .iconst 4, 1), (55, .bipush 6, 2), (57, .invokestatic 98, 3), (60, .ifCond .eq 17, 3), (63, .aload_n 0, 1), (64, .getfield 228, 3), (67, .iload_n 1, 1), (68, .iload_n 2, 1), (69, .iconst 4, 1), (70, .isub, 1), (71, .invokestatic 237, 3), (74, .goto 23, 3), (77, .iload_n 2, 1), (78, .bipush 7, 2)]
theorem okc_171_0 : ∀ e ∈ code_171_0, decode (mB 171) e.1 = .ok (e.2.1, e.2.2) := by decide +kernel
def code_171_1 : List (Nat × Instr × Nat) := [(80, .if_icmp .ne 16, 3), (83, .aload_n 0, 1), (84, .aload_n 0, 1), (85, .getfield 228, 3), (88, .iload_n 1, 1), (89, .iload_n 1, 1), (90, .invokevirtual 251, 3), (93, .goto 4, 3), (96, .iconst (-1), 1), (97, .ireturn, 1)]
theorem okc_171_1 : ∀ e ∈ code_171_1, decode (mB 171) e.1 = .ok (e.2.1, e.2.2) := by decide +kernel
def code_171 : List (Nat × Instr × Nat) := code_171_0 ++ (code_171_1)
theorem okc_171 : ∀ e ∈ code_171, decode (mB 171) e.1 = .ok (e.2.1, e.2.2) := (memP_app okc_171_0 okc_171_1)
def code_172_0 : List (Nat × Instr × Nat) := [(0, .iload_n 1, 1), (1, .iconst 0, 1), (2, .aload_n 0, 1), (3, .getfield 218, 3), (6, .iconst 1, 1), (7, .isub, 1), (8, .invokestatic 98, 3), (11, .ireturn, 1)]
theorem okc_172_0 : ∀ e ∈ code_172_0, decode (mB 172) e.1 = .ok (e.2.1, e.2.2) := by decide +kernel
def code_172 : List (Nat × Instr × Nat) := code_172_0
theorem okc_172 : ∀ e ∈ code_172, decode (mB 172) e.1 = .ok (e.2.1, e.2.2) := okc_172_0
def code_173_0 : List (Nat × Instr × Nat) := [(0, .lload_n 0, 1), (1, .bipush 36, 2), (3, .iload_n 2, 1), (4, .iadd, 1), (5, .lshr, 1), (6, .lconst 1, 1), (7, .land, 1), (8, .lconst 1, 1), (9, .lcmp, 1), (10, .ifCond .ne 7, 3), (13, .iconst 1, 1), (14, .goto 4, 3), (17, .iconst 0, 1), (18, .ireturn, 1)]
theorem okc_173_0 : ∀ e ∈ code_173_0, decode (mB 173) e.1 = .ok (e.2.1, e.2.2) := by decide +kernel
def code_173 : List (Nat × Instr × Nat) := code_173_0
theorem okc_173 : ∀ e ∈ code_173, decode (mB 173) e.1 = .ok (e.2.1, e.2.2) := okc_173_0
def code_174_0 : List (Nat × Instr × Nat) := [(0, .lload_n 0, 1), (1, .iconst 3, 1), (2, .iconst 3, 1), (3, .iload_n 2, 1), (4, .imul, 1), (5, .iload_n 3, 1), (6, .iadd, 1), (7, .imul, 1), (8, .lshr, 1), (9, .l2i, 1), (10, .bipush 7, 2), (12, .iand, 1), (13, .ireturn, 1)]
theorem okc_174_0 : ∀ e ∈ code_174_0, decode (mB 174) e.1 = .ok (e.2.1, e.2.2) := by decide +kernel
def code_174 : List (Nat × Instr × Nat) := code_174_0
theorem okc_174 : ∀ e ∈ code_174, decode (mB 174) e.1 = .ok (e.2.1, e.2.2) := okc_174_0
def code_175_0 : List (Nat × Instr × Nat) := [(0, .iconst 0, 1), (1, .istore 5, 2), (3, .iconst 0, 1), (4, .istore 6, 2), (6, .iload 6, 2), (8, .iconst 3, 1), (9, .if_icmp .ge 34, 3), (12, .iload 5, 2), (14, .aload_n 0, 1), (15, .getfield 31, 3), (18, .iconst 3, 1), (19, .iload_n 3, 1), (20, .imul, 1), (21, .iload 6, 2), (23, .iadd, 1), (24, .iaload, 1), (25, .lload_n 1, 1), (26, .iload 4, 2), (28, .iload 6, 2), (30, .invokestatic 237, 3), (33, .imul, 1), (34, .iadd, 1), (35, .istore 5, 2), (37, .iinc 6 1, 3), (40, .goto (-34), 3), (43, .iload 5, 2), (45, .ireturn, 1)]
theorem okc_175_0 : ∀ e ∈ code_175_0, decode (mB 175) e.1 = .ok (e.2.1, e.2.2) := by decide +kernel
def code_175 : List (Nat × Instr × Nat) := code_175_0
theorem okc_175 : ∀ e ∈ code_175, decode (mB 175) e.1 = .ok (e.2.1, e.2.2) := okc_175_0
def code_176_0 : List (Nat × Instr × Nat) := [(0, .aload_n 0, 1), (1, .getfield 214, 3), (4, .ifCond .eq 52, 3), (7, .iload_n 1, 1), (8, .iconst 0, 1), (9, .aload_n 0, 1), (10, .getfield 221, 3), (13, .iconst 1, 1), (14, .isub, 1), (15, .invokestatic 98, 3), (18, .ifCond .eq 38, 3), (21, .iload_n 2, 1), (22, .iconst 0, 1), (23, .aload_n 0, 1), (24, .getfield 34, 3), (27, .iload_n 1, 1), (28, .iaload, 1), (29, .iconst 1, 1), (30, .isub, 1), (31, .invokestatic 98, 3), (34, .ifCond .eq 22, 3), (37, .iload_n 3, 1), (38, .iconst 0, 1), (39, .iconst 2, 1), (40, .invokestatic 98, 3), (43, .ifCond .eq 13, 3), (46, .aload_n 0, 1), (47, .iload_n 1, 1), (48, .iload_n 2, 1), (49, .iload_n 3, 1), (50, .invokevirtual 304, 3), (53, .goto 4, 3), (56, .iconst (-1), 1), (57, .ireturn, 1)]
theorem okc_176_0 : ∀ e ∈ code_176_0, decode (mB 176) e.1 = .ok (e.2.1, e.2.2) := by decide +kernel
def code_176 : List (Nat × Instr × Nat) := code_176_0
theorem okc_176 : ∀ e ∈ code_176, decode (mB 176) e.1 = .ok (e.2.1, e.2.2) := okc_176_0
def code_177_0 : List (Nat × Instr × Nat) := [(0, .aload_n 0, 1), (1, .getfield 37, 3), (4, .iconst 3, 1), (5, .iconst 3, 1), (6, .iload_n 1, 1), (7, .imul, 1), (8, .iload_n 2, 1), (9, .iadd, 1), (10, .imul, 1), (11, .iload_n 3, 1), (12, .iadd, 1), (13, .iaload, 1), (14, .ireturn, 1)]
theorem okc_177_0 : ∀ e ∈ code_177_0, decode (mB 177) e.1 = .ok (e.2.1, e.2.2) := by decide +kernel
def code_177 : List (Nat × Instr × Nat) := code_177_0
theorem okc_177 : ∀ e ∈ code_177, decode (mB 177) e.1 = .ok (e.2.1, e.2.2) := okc_177_0
def code_178_0 : List (Nat × Instr × Nat) := [(0, .aload_n 0, 1), (1, .getfield 214, 3), (4, .ifCond .eq 41, 3), (7, .aload_n 0, 1), (8, .getfield 40, 3), (11, .iconst (-1), 1), (12, .if_icmp .ne 33, 3), (15, .aload_n 0, 1), (16, .getfield 231, 3), (19, .aload_n 0, 1), (20, .getfield 221, 3), (23, .if_icmp .eq 22, 3), (26, .iload_n 1, 1), (27, .iconst 0, 1), (28, .aload_n 0, 1), (29, .getfield 34, 3), (32, .aload_n 0, 1), (33, .getfield 231, 3), (36, .iaload, 1), (37, .iconst 1, 1), (38, .isub, 1), (39, .invokestatic 98, 3), (42, .ifCond .ne 5, 3), (45, .iconst (-1), 1), (46, .ireturn, 1), (47, .aload_n 0, 1), (48, .aload_n 0, 1), (49, .getfield 231, 3), (52, .iload_n 1, 1), (53, .iconst 1, 1), (54, .invokevirtual 304, 3), (57, .istore_n 2, 1), (58, .iload_n 2, 1), (59, .ifCond .ne 17, 3), (62, .aload_n 0, 1), (63, .aload_n 0, 1), (64, .aload_n 0, 1), (65, .getfield 231, 3), (68, .iload_n 1, 1), (69, .iconst 2, 1), (70, .invokevirtual 304, 3), (73, .putfield 40, 3), (76, .iload_n 2, 1), (77, .iconst 1, 1), (78, .if_icmp .ne 27, 3), (81, .aload_n 0, 1), (82, .dup, 1), (83, .getfield 228, 3)]
theorem okc_178_0 : ∀ e ∈ code_178_0, decode (mB 178) e.1 = .ok (e.2.1, e.2.2) := by decide +kernel
def code_178_1 : List (Nat × Instr × Nat) := [(86, .lconst 1, 1), (87, .bipush 36, 2), (89, .aload_n 0, 1), (90, .aload_n 0, 1), (91, .getfield 231, 3), (94, .iload_n 1, 1), (95, .iconst 2, 1), (96, .invokevirtual 304, 3), (99, .iadd, 1), (100, .lshl, 1), (101, .lor, 1), (102, .putfield 228, 3), (105, .aload_n 0, 1), (106, .dup, 1), (107, .getfield 231, 3), (110, .iconst 1, 1), (111, .iadd, 1), (112, .putfield 231, 3), (115, .aload_n 0, 1), (116, .getfield 231, 3), (119, .ireturn, 1)]
theorem okc_178_1 : ∀ e ∈ code_178_1, decode (mB 178) e.1 = .ok (e.2.1, e.2.2) := by decide +kernel
def code_178 : List (Nat × Instr × Nat) := code_178_0 ++ (code_178_1)
theorem okc_178 : ∀ e ∈ code_178, decode (mB 178) e.1 = .ok (e.2.1, e.2.2) := (memP_app okc_178_0 okc_178_1)
def code_179_0 : List (Nat × Instr × Nat) := [(0, .aload_n 0, 1), (1, .getfield 40, 3), (4, .iconst (-1), 1), (5, .if_icmp .eq 18, 3), (8, .aload_n 0, 1), (9, .getfield 228, 3), (12, .iload_n 1, 1), (13, .aload_n 0, 1), (14, .getfield 224, 3), (17, .invokestatic 300, 3), (20, .ifCond .ne 5, 3), (23, .iconst 0, 1), (24, .ireturn, 1), (25, .aload_n 0, 1), (26, .dup, 1), (27, .getfield 228, 3), (30, .iload_n 1, 1), (31, .aload_n 0, 1), (32, .getfield 40, 3), (35, .invokestatic 254, 3), (38, .ladd, 1), (39, .putfield 228, 3), (42, .aload_n 0, 1), (43, .iconst (-1), 1), (44, .putfield 40, 3), (47, .iconst 1, 1), (48, .ireturn, 1)]
theorem okc_179_0 : ∀ e ∈ code_179_0, decode (mB 179) e.1 = .ok (e.2.1, e.2.2) := by decide +kernel
def code_179 : List (Nat × Instr × Nat) := code_179_0
theorem okc_179 : ∀ e ∈ code_179, decode (mB 179) e.1 = .ok (e.2.1, e.2.2) := okc_179_0
def code_180_0 : List (Nat × Instr × Nat) := [(0, .iload_n 2, 1), (1, .iconst 3, 1), (2, .if_icmp .ne 19, 3), (5, .lload_n 0, 1), (6, .invokestatic 241, 3), (9, .iload_n 3, 1), (10, .if_icmp .ge 7, 3), (13, .iconst 1, 1), (14, .goto 29, 3), (17, .iconst 0, 1), (18, .goto 25, 3), (21, .iload_n 2, 1), (22, .iconst 0, 1), (23, .iconst 2, 1), (24, .invokestatic 98, 3), (27, .ifCond .eq 15, 3), (30, .lload_n 0, 1), (31, .iload_n 2, 1), (32, .invokestatic 244, 3), (35, .ifCond .eq 7, 3), (38, .iconst 1, 1), (39, .goto 4, 3), (42, .iconst 0, 1), (43, .ireturn, 1)]
theorem okc_180_0 : ∀ e ∈ code_180_0, decode (mB 180) e.1 = .ok (e.2.1, e.2.2) := by decide +kernel
def code_180 : List (Nat × Instr × Nat) := code_180_0
theorem okc_180 : ∀ e ∈ code_180, decode (mB 180) e.1 = .ok (e.2.1, e.2.2) := okc_180_0
def code_181_0 : List (Nat × Instr × Nat) := [(0, .lload_n 0, 1), (1, .iconst 3, 1), (2, .iconst 0, 1), (3, .invokestatic 237, 3), (6, .lload_n 0, 1), (7, .iconst 3, 1), (8, .iconst 1, 1), (9, .invokestatic 237, 3), (12, .iadd, 1), (13, .lload_n 0, 1), (14, .iconst 3, 1), (15, .iconst 2, 1), (16, .invokestatic 237, 3), (19, .iadd, 1), (20, .ireturn, 1)]
theorem okc_181_0 : ∀ e ∈ code_181_0, decode (mB 181) e.1 = .ok (e.2.1, e.2.2) := by decide +kernel
def code_181 : List (Nat × Instr × Nat) := code_181_0
theorem okc_181 : ∀ e ∈ code_181, decode (mB 181) e.1 = .ok (e.2.1, e.2.2) := okc_181_0
def code_182_0 : List (Nat × Instr × Nat) := [(0, .lconst 1, 1), (1, .iconst 3, 1), (2, .iconst 3, 1), (3, .iload_n 0, 1), (4, .imul, 1), (5, .iload_n 1, 1), (6, .iadd, 1), (7, .imul, 1), (8, .lshl, 1), (9, .lreturn, 1)]
theorem okc_182_0 : ∀ e ∈ code_182_0, decode (mB 182) e.1 = .ok (e.2.1, e.2.2) := by decide +kernel
def code_182 : List (Nat × Instr × Nat) := code_182_0
theorem okc_182 : ∀ e ∈ code_182, decode (mB 182) e.1 = .ok (e.2.1, e.2.2) := okc_182_0
def code_183_0 : List (Nat × Instr × Nat) := [(0, .aload_n 0, 1), (1, .getfield 214, 3), (4, .ifCond .eq 45, 3), (7, .iload_n 1, 1), (8, .invokestatic 335, 3), (11, .ifCond .eq 38, 3), (14, .aload_n 0, 1), (15, .getfield 40, 3), (18, .iconst (-1), 1), (19, .if_icmp .ne 30, 3), (22, .aload_n 0, 1), (23, .getfield 231, 3), (26, .aload_n 0, 1), (27, .getfield 221, 3), (30, .if_icmp .ne 19, 3), (33, .aload_n 0, 1), (34, .aload_n 0, 1), (35, .getfield 228, 3), (38, .iload_n 1, 1), (39, .aload_n 0, 1), (40, .getfield 226, 3), (43, .invokevirtual 322, 3), (46, .goto 6, 3), (49, .ldc_w 279, 3), (52, .ireturn, 1)]
theorem okc_183_0 : ∀ e ∈ code_183_0, decode (mB 183) e.1 = .ok (e.2.1, e.2.2) := by decide +kernel
def code_183 : List (Nat × Instr × Nat) := code_183_0
theorem okc_183 : ∀ e ∈ code_183, decode (mB 183) e.1 = .ok (e.2.1, e.2.2) := okc_183_0
def code_184_0 : List (Nat × Instr × Nat) := [(0, .iload_n 0, 1), (1, .iconst 0, 1), (2, .iconst 2, 1), (3, .invokestatic 98, 3), (6, .ireturn, 1)]
theorem okc_184_0 : ∀ e ∈ code_184_0, decode (mB 184) e.1 = .ok (e.2.1, e.2.2) := by decide +kernel
def code_184 : List (Nat × Instr × Nat) := code_184_0
theorem okc_184 : ∀ e ∈ code_184, decode (mB 184) e.1 = .ok (e.2.1, e.2.2) := okc_184_0
def code_185_0 : List (Nat × Instr × Nat) := [(0, .lload_n 1, 1), (1, .iconst 4, 1), (2, .lshl, 1), (3, .ldc2_w 274, 3), (6, .iload 4, 2), (8, .i2l, 1), (9, .lmul, 1), (10, .iload_n 3, 1), (11, .i2l, 1), (12, .ladd, 1), (13, .lor, 1), (14, .lconst 1, 1), (15, .ladd, 1), (16, .lstore 5, 2), (18, .lload 5, 2), (20, .ldc2_w 276, 3), (23, .lmul, 1), (24, .bipush 46, 2), (26, .lushr, 1), (27, .l2i, 1), (28, .istore 7, 2), (30, .aload_n 0, 1), (31, .getfield 57, 3), (34, .iload 7, 2), (36, .laload, 1), (37, .lconst 0, 1), (38, .lcmp, 1), (39, .ifCond .eq 29, 3), (42, .aload_n 0, 1), (43, .getfield 57, 3), (46, .iload 7, 2), (48, .laload, 1), (49, .lload 5, 2), (51, .lcmp, 1), (52, .ifCond .eq 16, 3), (55, .iload 7, 2), (57, .iconst 1, 1), (58, .iadd, 1), (59, .ldc_w 278, 3), (62, .iand, 1), (63, .istore 7, 2), (65, .goto (-35), 3), (68, .aload_n 0, 1), (69, .getfield 57, 3), (72, .iload 7, 2), (74, .laload, 1), (75, .lload 5, 2), (77, .lcmp, 1)]
theorem okc_185_0 : ∀ e ∈ code_185_0, decode (mB 185) e.1 = .ok (e.2.1, e.2.2) := by decide +kernel
def code_185_1 : List (Nat × Instr × Nat) := [(78, .ifCond .ne 11, 3), (81, .aload_n 0, 1), (82, .getfield 60, 3), (85, .iload 7, 2), (87, .iaload, 1), (88, .ireturn, 1), (89, .iconst 0, 1), (90, .istore 8, 2), (92, .lload_n 1, 1), (93, .lstore 9, 2), (95, .iconst 0, 1), (96, .istore 11, 2), (98, .iload 11, 2), (100, .iconst 3, 1), (101, .if_icmp .ge 52, 3), (104, .lload_n 1, 1), (105, .iconst 3, 1), (106, .iload 11, 2), (108, .invokestatic 237, 3), (111, .istore 12, 2), (113, .iload 12, 2), (115, .ifCond .le 32, 3), (118, .aload_n 0, 1), (119, .getfield 63, 3), (122, .iload 8, 2), (124, .iload 11, 2), (126, .iastore, 1), (127, .iinc 8 1, 3), (130, .lload 9, 2), (132, .iconst 3, 1), (133, .iload 11, 2), (135, .invokestatic 254, 3), (138, .lsub, 1), (139, .lstore 9, 2), (141, .iinc 12 (-1), 3), (144, .goto (-31), 3), (147, .iinc 11 1, 3), (150, .goto (-52), 3), (153, .iload 8, 2), (155, .ifCond .ne 7, 3), (158, .iconst 1, 1), (159, .goto 26, 3), (162, .iload 8, 2), (164, .iconst 1, 1), (165, .if_icmp .ne 7, 3), (168, .iconst 3, 1), (169, .goto 16, 3), (172, .iload 8, 2)]
theorem okc_185_1 : ∀ e ∈ code_185_1, decode (mB 185) e.1 = .ok (e.2.1, e.2.2) := by decide +kernel
def code_185_2 : List (Nat × Instr × Nat) := [(174, .iconst 2, 1), (175, .if_icmp .ne 8, 3), (178, .bipush 9, 2), (180, .goto 5, 3), (183, .bipush 27, 2), (185, .istore 11, 2), (187, .ldc_w 279, 3), (190, .istore 12, 2), (192, .iconst 0, 1), (193, .istore 13, 2), (195, .iload 13, 2), (197, .iload 11, 2), (199, .if_icmp .ge 119, 3), (202, .lload 9, 2), (204, .lstore 14, 2), (206, .iconst 1, 1), (207, .istore 16, 2), (209, .iload 13, 2), (211, .istore 17, 2), (213, .iconst 0, 1), (214, .istore 18, 2), (216, .iload 18, 2), (218, .iload 8, 2), (220, .if_icmp .ge 57, 3), (223, .iload 16, 2), (225, .ifCond .eq 18, 3), (228, .lload_n 1, 1), (229, .iload 17, 2), (231, .iconst 3, 1), (232, .irem, 1), (233, .invokestatic 244, 3), (236, .ifCond .eq 7, 3), (239, .iconst 1, 1), (240, .goto 4, 3), (243, .iconst 0, 1), (244, .istore 16, 2), (246, .lload 14, 2), (248, .iload 17, 2), (250, .iconst 3, 1), (251, .irem, 1), (252, .aload_n 0, 1), (253, .getfield 63, 3), (256, .iload 18, 2), (258, .iaload, 1), (259, .invokestatic 254, 3), (262, .ladd, 1), (263, .lstore 14, 2), (265, .iload 17, 2)]
theorem okc_185_2 : ∀ e ∈ code_185_2, decode (mB 185) e.1 = .ok (e.2.1, e.2.2) := by decide +kernel
def code_185_3 : List (Nat × Instr × Nat) := [(267, .iconst 3, 1), (268, .idiv, 1), (269, .istore 17, 2), (271, .iinc 18 1, 3), (274, .goto (-58), 3), (277, .iload 16, 2), (279, .ifCond .ne 6, 3), (282, .goto 30, 3), (285, .aload_n 0, 1), (286, .lload 14, 2), (288, .iload_n 3, 1), (289, .iload 4, 2), (291, .invokevirtual 280, 3), (294, .istore 18, 2), (296, .iload 18, 2), (298, .iload 12, 2), (300, .if_icmp .le 8, 3), (303, .iload 18, 2), (305, .goto 5, 3), (308, .iload 12, 2), (310, .istore 12, 2), (312, .iinc 13 1, 3), (315, .goto (-120), 3), (318, .aload_n 0, 1), (319, .getfield 264, 3), (322, .ldc_w 283, 3), (325, .if_icmp .ge 31, 3), (328, .aload_n 0, 1), (329, .getfield 57, 3), (332, .iload 7, 2), (334, .lload 5, 2), (336, .lastore, 1), (337, .aload_n 0, 1), (338, .getfield 60, 3), (341, .iload 7, 2), (343, .iload 12, 2), (345, .iastore, 1), (346, .aload_n 0, 1), (347, .dup, 1), (348, .getfield 264, 3), (351, .iconst 1, 1), (352, .iadd, 1), (353, .putfield 264, 3), (356, .iload 12, 2), (358, .ireturn, 1)]
theorem okc_185_3 : ∀ e ∈ code_185_3, decode (mB 185) e.1 = .ok (e.2.1, e.2.2) := by decide +kernel
def code_185 : List (Nat × Instr × Nat) := code_185_0 ++ (code_185_1 ++ (code_185_2 ++ (code_185_3)))
theorem okc_185 : ∀ e ∈ code_185, decode (mB 185) e.1 = .ok (e.2.1, e.2.2) := (memP_app okc_185_0 (memP_app okc_185_1 (memP_app okc_185_2 okc_185_3)))
def code_186_0 : List (Nat × Instr × Nat) := [(0, .aload_n 0, 1), (1, .lload_n 1, 1), (2, .iload_n 3, 1), (3, .invokevirtual 267, 3), (6, .istore 5, 2), (8, .iload 4, 2), (10, .ifCond .ne 6, 3), (13, .iload 5, 2), (15, .ireturn, 1), (16, .iconst 0, 1), (17, .istore 6, 2), (19, .iload 6, 2), (21, .iconst 3, 1), (22, .if_icmp .ge 141, 3), (25, .iconst 0, 1), (26, .istore 7, 2), (28, .iload 7, 2), (30, .iconst 3, 1), (31, .if_icmp .ge 126, 3), (34, .lload_n 1, 1), (35, .iload 6, 2), (37, .invokestatic 244, 3), (40, .ifCond .eq 111, 3), (43, .lload_n 1, 1), (44, .iload 6, 2), (46, .iload 7, 2), (48, .invokestatic 237, 3), (51, .ifCond .ne 6, 3), (54, .goto 97, 3), (57, .iconst 0, 1), (58, .istore 8, 2), (60, .iload 8, 2), (62, .iconst 3, 1), (63, .if_icmp .ge 88, 3), (66, .iload 8, 2), (68, .iload 6, 2), (70, .if_icmp .eq 75, 3), (73, .lload_n 1, 1), (74, .iload 8, 2), (76, .invokestatic 244, 3), (79, .ifCond .ne 6, 3), (82, .goto 63, 3), (85, .lload_n 1, 1), (86, .iload 6, 2), (88, .iload 7, 2), (90, .invokestatic 254, 3), (93, .lsub, 1), (94, .iload 8, 2)]
theorem okc_186_0 : ∀ e ∈ code_186_0, decode (mB 186) e.1 = .ok (e.2.1, e.2.2) := by decide +kernel
def code_186_1 : List (Nat × Instr × Nat) := [(96, .iload 7, 2), (98, .invokestatic 254, 3), (101, .ladd, 1), (102, .lstore 9, 2), (104, .iload 4, 2), (106, .iconst 1, 1), (107, .if_icmp .ne 13, 3), (110, .aload_n 0, 1), (111, .lload 9, 2), (113, .iload_n 3, 1), (114, .invokevirtual 267, 3), (117, .goto 10, 3), (120, .aload_n 0, 1), (121, .lload 9, 2), (123, .iload_n 3, 1), (124, .invokevirtual 271, 3), (127, .istore 11, 2), (129, .iload 11, 2), (131, .iload 5, 2), (133, .if_icmp .le 8, 3), (136, .iload 11, 2), (138, .goto 5, 3), (141, .iload 5, 2), (143, .istore 5, 2), (145, .iinc 8 1, 3), (148, .goto (-88), 3), (151, .iinc 7 1, 3), (154, .goto (-126), 3), (157, .iinc 6 1, 3), (160, .goto (-141), 3), (163, .iload 5, 2), (165, .ireturn, 1)]
theorem okc_186_1 : ∀ e ∈ code_186_1, decode (mB 186) e.1 = .ok (e.2.1, e.2.2) := by decide +kernel
def code_186 : List (Nat × Instr × Nat) := code_186_0 ++ (code_186_1)
theorem okc_186 : ∀ e ∈ code_186, decode (mB 186) e.1 = .ok (e.2.1, e.2.2) := (memP_app okc_186_0 okc_186_1)
def code_187_0 : List (Nat × Instr × Nat) := [(0, .iload_n 3, 1), (1, .ifCond .ne 9, 3), (4, .aload_n 0, 1), (5, .lload_n 1, 1), (6, .invokevirtual 258, 3), (9, .ireturn, 1), (10, .iconst 0, 1), (11, .istore 4, 2), (13, .iconst 0, 1), (14, .istore 5, 2), (16, .iload 5, 2), (18, .iconst 3, 1), (19, .if_icmp .ge 107, 3), (22, .lload_n 1, 1), (23, .iload 5, 2), (25, .invokestatic 244, 3), (28, .ifCond .ne 6, 3), (31, .goto 89, 3), (34, .iload_n 3, 1), (35, .iconst 2, 1), (36, .if_icmp .ne 17, 3), (39, .iload 4, 2), (41, .aload_n 0, 1), (42, .lload_n 1, 1), (43, .iload 5, 2), (45, .iload 5, 2), (47, .invokevirtual 251, 3), (50, .iadd, 1), (51, .istore 4, 2), (53, .iconst 0, 1), (54, .istore 6, 2), (56, .iload 6, 2), (58, .iconst 3, 1), (59, .if_icmp .ge 61, 3), (62, .iload_n 3, 1), (63, .iconst 1, 1), (64, .if_icmp .ne 56, 3), (67, .iload 6, 2), (69, .iload 5, 2), (71, .if_icmp .eq 24, 3), (74, .lload_n 1, 1), (75, .iload 6, 2), (77, .invokestatic 244, 3), (80, .ifCond .eq 15, 3), (83, .aload_n 0, 1), (84, .lload_n 1, 1), (85, .iload 5, 2), (87, .iload 6, 2)]
theorem okc_187_0 : ∀ e ∈ code_187_0, decode (mB 187) e.1 = .ok (e.2.1, e.2.2) := by decide +kernel
def code_187_1 : List (Nat × Instr × Nat) := [(89, .invokevirtual 261, 3), (92, .goto 4, 3), (95, .iconst 0, 1), (96, .istore 7, 2), (98, .iload 7, 2), (100, .iload 4, 2), (102, .if_icmp .le 8, 3), (105, .iload 7, 2), (107, .goto 5, 3), (110, .iload 4, 2), (112, .istore 4, 2), (114, .iinc 6 1, 3), (117, .goto (-61), 3), (120, .iinc 5 1, 3), (123, .goto (-107), 3), (126, .iload_n 3, 1), (127, .iconst 1, 1), (128, .if_icmp .ne 9, 3), (131, .iload 4, 2), (133, .ineg, 1), (134, .goto 5, 3), (137, .iload 4, 2), (139, .ireturn, 1)]
theorem okc_187_1 : ∀ e ∈ code_187_1, decode (mB 187) e.1 = .ok (e.2.1, e.2.2) := by decide +kernel
def code_187 : List (Nat × Instr × Nat) := code_187_0 ++ (code_187_1)
theorem okc_187 : ∀ e ∈ code_187, decode (mB 187) e.1 = .ok (e.2.1, e.2.2) := (memP_app okc_187_0 okc_187_1)
def code_188_0 : List (Nat × Instr × Nat) := [(0, .sipush 3000, 3), (3, .istore_n 3, 1), (4, .aload_n 0, 1), (5, .lload_n 1, 1), (6, .invokevirtual 248, 3), (9, .istore 4, 2), (11, .iconst 0, 1), (12, .istore 5, 2), (14, .iload 5, 2), (16, .iconst 3, 1), (17, .if_icmp .ge 98, 3), (20, .lload_n 1, 1), (21, .iload 5, 2), (23, .invokestatic 244, 3), (26, .ifCond .ne 6, 3), (29, .goto 80, 3), (32, .iconst 0, 1), (33, .istore 6, 2), (35, .iconst 0, 1), (36, .istore 7, 2), (38, .iload 7, 2), (40, .iconst 3, 1), (41, .if_icmp .ge 23, 3), (44, .iload 6, 2), (46, .aload_n 0, 1), (47, .lload_n 1, 1), (48, .iload 5, 2), (50, .iload 7, 2), (52, .invokevirtual 251, 3), (55, .iadd, 1), (56, .istore 6, 2), (58, .iinc 7 1, 3), (61, .goto (-23), 3), (64, .iload 6, 2), (66, .ifCond .ne 9, 3), (69, .sipush 1000, 3), (72, .goto 22, 3), (75, .aload_n 0, 1), (76, .lload_n 1, 1), (77, .iload 5, 2), (79, .iload 5, 2), (81, .invokevirtual 251, 3), (84, .iload 4, 2), (86, .imul, 1), (87, .sipush 1000, 3), (90, .imul, 1), (91, .iload 6, 2), (93, .idiv, 1)]
theorem okc_188_0 : ∀ e ∈ code_188_0, decode (mB 188) e.1 = .ok (e.2.1, e.2.2) := by decide +kernel
def code_188_1 : List (Nat × Instr × Nat) := [(94, .istore 7, 2), (96, .iload 7, 2), (98, .iload_n 3, 1), (99, .if_icmp .ge 8, 3), (102, .iload 7, 2), (104, .goto 4, 3), (107, .iload_n 3, 1), (108, .istore_n 3, 1), (109, .iinc 5 1, 3), (112, .goto (-98), 3), (115, .iload_n 3, 1), (116, .ireturn, 1)]
theorem okc_188_1 : ∀ e ∈ code_188_1, decode (mB 188) e.1 = .ok (e.2.1, e.2.2) := by decide +kernel
def code_188 : List (Nat × Instr × Nat) := code_188_0 ++ (code_188_1)
theorem okc_188 : ∀ e ∈ code_188, decode (mB 188) e.1 = .ok (e.2.1, e.2.2) := (memP_app okc_188_0 okc_188_1)
def code_189_0 : List (Nat × Instr × Nat) := [(0, .iconst 0, 1), (1, .istore_n 3, 1), (2, .iconst 0, 1), (3, .istore 4, 2), (5, .iload 4, 2), (7, .iconst 3, 1), (8, .if_icmp .ge 26, 3), (11, .iload_n 3, 1), (12, .lload_n 1, 1), (13, .iload 4, 2), (15, .invokestatic 244, 3), (18, .ifCond .eq 7, 3), (21, .iconst 1, 1), (22, .goto 4, 3), (25, .iconst 0, 1), (26, .iadd, 1), (27, .istore_n 3, 1), (28, .iinc 4 1, 3), (31, .goto (-26), 3), (34, .iload_n 3, 1), (35, .ireturn, 1)]
theorem okc_189_0 : ∀ e ∈ code_189_0, decode (mB 189) e.1 = .ok (e.2.1, e.2.2) := by decide +kernel
def code_189 : List (Nat × Instr × Nat) := code_189_0
theorem okc_189 : ∀ e ∈ code_189, decode (mB 189) e.1 = .ok (e.2.1, e.2.2) := okc_189_0
def code_190_0 : List (Nat × Instr × Nat) := [(0, .aload_n 0, 1), (1, .lload_n 1, 1), (2, .iload_n 3, 1), (3, .iload_n 3, 1), (4, .invokevirtual 251, 3), (7, .istore 5, 2), (9, .aload_n 0, 1), (10, .lload_n 1, 1), (11, .iload_n 3, 1), (12, .iload 4, 2), (14, .invokevirtual 251, 3), (17, .istore 6, 2), (19, .lload_n 1, 1), (20, .lstore 7, 2), (22, .iconst 0, 1), (23, .istore 9, 2), (25, .iload 6, 2), (27, .iload 5, 2), (29, .if_icmp .le 102, 3), (32, .iconst (-1), 1), (33, .istore 10, 2), (35, .iconst 0, 1), (36, .istore 11, 2), (38, .iload 11, 2), (40, .iconst 3, 1), (41, .if_icmp .ge 56, 3), (44, .lload 7, 2), (46, .iload 4, 2), (48, .iload 11, 2), (50, .invokestatic 237, 3), (53, .ifCond .le 38, 3), (56, .iload 10, 2), (58, .iconst (-1), 1), (59, .if_icmp .eq 28, 3), (62, .aload_n 0, 1), (63, .getfield 31, 3), (66, .iconst 3, 1), (67, .iload_n 3, 1), (68, .imul, 1), (69, .iload 11, 2), (71, .iadd, 1), (72, .iaload, 1), (73, .aload_n 0, 1), (74, .getfield 31, 3), (77, .iconst 3, 1), (78, .iload_n 3, 1), (79, .imul, 1), (80, .iload 10, 2)]
theorem okc_190_0 : ∀ e ∈ code_190_0, decode (mB 190) e.1 = .ok (e.2.1, e.2.2) := by decide +kernel
def code_190_1 : List (Nat × Instr × Nat) := [(82, .iadd, 1), (83, .iaload, 1), (84, .if_icmp .le 7, 3), (87, .iload 11, 2), (89, .istore 10, 2), (91, .iinc 11 1, 3), (94, .goto (-56), 3), (97, .lload 7, 2), (99, .iload 4, 2), (101, .iload 10, 2), (103, .invokestatic 254, 3), (106, .lsub, 1), (107, .lstore 7, 2), (109, .iload 6, 2), (111, .aload_n 0, 1), (112, .getfield 31, 3), (115, .iconst 3, 1), (116, .iload_n 3, 1), (117, .imul, 1), (118, .iload 10, 2), (120, .iadd, 1), (121, .iaload, 1), (122, .isub, 1), (123, .istore 6, 2), (125, .iinc 9 1, 3), (128, .goto (-103), 3), (131, .iload 9, 2), (133, .ireturn, 1)]
theorem okc_190_1 : ∀ e ∈ code_190_1, decode (mB 190) e.1 = .ok (e.2.1, e.2.2) := by decide +kernel
def code_190 : List (Nat × Instr × Nat) := code_190_0 ++ (code_190_1)
theorem okc_190 : ∀ e ∈ code_190, decode (mB 190) e.1 = .ok (e.2.1, e.2.2) := (memP_app okc_190_0 okc_190_1)
end
section
/-! CODE of the methods, by number: pc, instruction, length (printed of the program). -/
def code_191_0 : List (Nat × Instr × Nat) := [(0, .aload_n 0, 1), (1, .lload_n 1, 1), (2, .iload_n 3, 1), (3, .invokevirtual 267, 3), (6, .istore 4, 2), (8, .iconst 0, 1), (9, .istore 5, 2), (11, .iload 5, 2), (13, .iconst 3, 1), (14, .if_icmp .ge 121, 3), (17, .iconst 0, 1), (18, .istore 6, 2), (20, .iload 6, 2), (22, .iconst 3, 1), (23, .if_icmp .ge 106, 3), (26, .lload_n 1, 1), (27, .iload 5, 2), (29, .invokestatic 244, 3), (32, .ifCond .eq 91, 3), (35, .lload_n 1, 1), (36, .iload 5, 2), (38, .iload 6, 2), (40, .invokestatic 237, 3), (43, .ifCond .ne 6, 3), (46, .goto 77, 3), (49, .iconst 0, 1), (50, .istore 7, 2), (52, .iload 7, 2), (54, .iconst 3, 1), (55, .if_icmp .ge 68, 3), (58, .iload 7, 2), (60, .iload 5, 2), (62, .if_icmp .eq 55, 3), (65, .lload_n 1, 1), (66, .iload 7, 2), (68, .invokestatic 244, 3), (71, .ifCond .ne 6, 3), (74, .goto 43, 3), (77, .aload_n 0, 1), (78, .lload_n 1, 1), (79, .iload 5, 2), (81, .iload 6, 2), (83, .invokestatic 254, 3), (86, .lsub, 1), (87, .iload 7, 2), (89, .iload 6, 2), (91, .invokestatic 254, 3), (94, .ladd, 1)]
theorem okc_191_0 : ∀ e ∈ code_191_0, decode (mB 191) e.1 = .ok (e.2.1, e.2.2) := by decide +kernel
def code_191_1 : List (Nat × Instr × Nat) := [(95, .iload_n 3, 1), (96, .invokevirtual 267, 3), (99, .istore 8, 2), (101, .iload 8, 2), (103, .iload 4, 2), (105, .if_icmp .le 8, 3), (108, .iload 8, 2), (110, .goto 5, 3), (113, .iload 4, 2), (115, .istore 4, 2), (117, .iinc 7 1, 3), (120, .goto (-68), 3), (123, .iinc 6 1, 3), (126, .goto (-106), 3), (129, .iinc 5 1, 3), (132, .goto (-121), 3), (135, .iload 4, 2), (137, .ireturn, 1)]
theorem okc_191_1 : ∀ e ∈ code_191_1, decode (mB 191) e.1 = .ok (e.2.1, e.2.2) := by decide +kernel
def code_191 : List (Nat × Instr × Nat) := code_191_0 ++ (code_191_1)
theorem okc_191 : ∀ e ∈ code_191, decode (mB 191) e.1 = .ok (e.2.1, e.2.2) := (memP_app okc_191_0 okc_191_1)
def code_192_0 : List (Nat × Instr × Nat) := [(0, .aload_n 0, 1), (1, .getfield 214, 3), (4, .ifCond .eq 32, 3), (7, .iload_n 1, 1), (8, .invokestatic 335, 3), (11, .ifCond .eq 25, 3), (14, .aload_n 0, 1), (15, .aload_n 0, 1), (16, .iload_n 1, 1), (17, .iload_n 2, 1), (18, .aload_n 0, 1), (19, .getfield 224, 3), (22, .aload_n 0, 1), (23, .getfield 226, 3), (26, .invokevirtual 338, 3), (29, .iload_n 2, 1), (30, .invokevirtual 342, 3), (33, .goto 6, 3), (36, .ldc_w 279, 3), (39, .ireturn, 1)]
theorem okc_192_0 : ∀ e ∈ code_192_0, decode (mB 192) e.1 = .ok (e.2.1, e.2.2) := by decide +kernel
def code_192 : List (Nat × Instr × Nat) := code_192_0
theorem okc_192 : ∀ e ∈ code_192, decode (mB 192) e.1 = .ok (e.2.1, e.2.2) := okc_192_0
def code_193_0 : List (Nat × Instr × Nat) := [(0, .aload_n 0, 1), (1, .iload_n 3, 1), (2, .invokevirtual 318, 3), (5, .aload_n 0, 1), (6, .getfield 73, 3), (9, .aload_n 0, 1), (10, .getfield 293, 3), (13, .iaload, 1), (14, .istore 5, 2), (16, .iload 5, 2), (18, .aload_n 0, 1), (19, .getfield 73, 3), (22, .aload_n 0, 1), (23, .getfield 293, 3), (26, .iconst 1, 1), (27, .iadd, 1), (28, .iaload, 1), (29, .if_icmp .ge 31, 3), (32, .aload_n 0, 1), (33, .getfield 70, 3), (36, .iload 5, 2), (38, .aload_n 0, 1), (39, .aload_n 0, 1), (40, .getfield 67, 3), (43, .iload 5, 2), (45, .laload, 1), (46, .iload_n 1, 1), (47, .iload 4, 2), (49, .invokevirtual 322, 3), (52, .i2l, 1), (53, .lastore, 1), (54, .iinc 5 1, 3), (57, .goto (-41), 3), (60, .aload_n 0, 1), (61, .getfield 293, 3), (64, .iconst 1, 1), (65, .isub, 1), (66, .istore 5, 2), (68, .iload 5, 2), (70, .ifCond .lt 146, 3), (73, .aload_n 0, 1), (74, .getfield 73, 3), (77, .iload 5, 2), (79, .iaload, 1), (80, .istore 6, 2), (82, .iload 6, 2), (84, .aload_n 0, 1), (85, .getfield 73, 3)]
theorem okc_193_0 : ∀ e ∈ code_193_0, decode (mB 193) e.1 = .ok (e.2.1, e.2.2) := by decide +kernel
def code_193_1 : List (Nat × Instr × Nat) := [(88, .iload 5, 2), (90, .iconst 1, 1), (91, .iadd, 1), (92, .iaload, 1), (93, .if_icmp .ge 117, 3), (96, .lconst 0, 1), (97, .lstore 7, 2), (99, .iconst 0, 1), (100, .istore 9, 2), (102, .iload 9, 2), (104, .aload_n 0, 1), (105, .getfield 34, 3), (108, .aload_n 0, 1), (109, .getfield 231, 3), (112, .iload 5, 2), (114, .iadd, 1), (115, .iaload, 1), (116, .if_icmp .ge 79, 3), (119, .aload_n 0, 1), (120, .aload_n 0, 1), (121, .getfield 67, 3), (124, .iload 6, 2), (126, .laload, 1), (127, .iload 5, 2), (129, .iload 9, 2), (131, .iload_n 3, 1), (132, .invokevirtual 325, 3), (135, .lstore 10, 2), (137, .iload_n 2, 1), (138, .ifCond .eq 29, 3), (141, .lload 7, 2), (143, .lload 10, 2), (145, .aload_n 0, 1), (146, .aload_n 0, 1), (147, .getfield 231, 3), (150, .iload 5, 2), (152, .iadd, 1), (153, .iload 9, 2), (155, .iconst 0, 1), (156, .invokevirtual 304, 3), (159, .i2l, 1), (160, .lmul, 1), (161, .ladd, 1), (162, .lstore 7, 2), (164, .goto 25, 3), (167, .iload 9, 2), (169, .ifCond .eq 11, 3), (172, .lload 10, 2)]
theorem okc_193_1 : ∀ e ∈ code_193_1, decode (mB 193) e.1 = .ok (e.2.1, e.2.2) := by decide +kernel
def code_193_2 : List (Nat × Instr × Nat) := [(174, .lload 7, 2), (176, .lcmp, 1), (177, .ifCond .ge 8, 3), (180, .lload 10, 2), (182, .goto 5, 3), (185, .lload 7, 2), (187, .lstore 7, 2), (189, .iinc 9 1, 3), (192, .goto (-90), 3), (195, .aload_n 0, 1), (196, .getfield 70, 3), (199, .iload 6, 2), (201, .lload 7, 2), (203, .lastore, 1), (204, .iinc 6 1, 3), (207, .goto (-125), 3), (210, .iinc 5 (-1), 3), (213, .goto (-145), 3), (216, .aload_n 0, 1), (217, .getfield 70, 3), (220, .iconst 0, 1), (221, .laload, 1), (222, .lstore 5, 2), (224, .iconst 1, 1), (225, .istore 7, 2), (227, .iload 7, 2), (229, .aload_n 0, 1), (230, .getfield 73, 3), (233, .iconst 1, 1), (234, .iaload, 1), (235, .if_icmp .ge 36, 3), (238, .aload_n 0, 1), (239, .getfield 70, 3), (242, .iload 7, 2), (244, .laload, 1), (245, .lload 5, 2), (247, .lcmp, 1), (248, .ifCond .le 13, 3), (251, .aload_n 0, 1), (252, .getfield 70, 3), (255, .iload 7, 2), (257, .laload, 1), (258, .goto 5, 3), (261, .lload 5, 2), (263, .lstore 5, 2), (265, .iinc 7 1, 3), (268, .goto (-41), 3), (271, .lload 5, 2)]
theorem okc_193_2 : ∀ e ∈ code_193_2, decode (mB 193) e.1 = .ok (e.2.1, e.2.2) := by decide +kernel
def code_193_3 : List (Nat × Instr × Nat) := [(273, .lreturn, 1)]
theorem okc_193_3 : ∀ e ∈ code_193_3, decode (mB 193) e.1 = .ok (e.2.1, e.2.2) := by decide +kernel
def code_193 : List (Nat × Instr × Nat) := code_193_0 ++ (code_193_1 ++ (code_193_2 ++ (code_193_3)))
theorem okc_193 : ∀ e ∈ code_193, decode (mB 193) e.1 = .ok (e.2.1, e.2.2) := (memP_app okc_193_0 (memP_app okc_193_1 (memP_app okc_193_2 okc_193_3)))
def code_194_0 : List (Nat × Instr × Nat) := [(0, .iconst 0, 1), (1, .istore_n 2, 1), (2, .iload_n 2, 1), (3, .ldc 76, 2), (5, .if_icmp .ge 16, 3), (8, .aload_n 0, 1), (9, .getfield 77, 3), (12, .iload_n 2, 1), (13, .iconst 0, 1), (14, .iastore, 1), (15, .iinc 2 1, 3), (18, .goto (-16), 3), (21, .aload_n 0, 1), (22, .iconst 0, 1), (23, .putfield 287, 3), (26, .aload_n 0, 1), (27, .aload_n 0, 1), (28, .getfield 221, 3), (31, .aload_n 0, 1), (32, .getfield 231, 3), (35, .isub, 1), (36, .putfield 293, 3), (39, .aload_n 0, 1), (40, .getfield 73, 3), (43, .iconst 0, 1), (44, .iconst 0, 1), (45, .iastore, 1), (46, .aload_n 0, 1), (47, .getfield 40, 3), (50, .iconst (-1), 1), (51, .if_icmp .ne 12, 3), (54, .aload_n 0, 1), (55, .aload_n 0, 1), (56, .getfield 228, 3), (59, .iconst 0, 1), (60, .invokevirtual 296, 3), (63, .iconst 0, 1), (64, .istore_n 2, 1), (65, .iload_n 2, 1), (66, .iconst 3, 1), (67, .if_icmp .gt 47, 3), (70, .aload_n 0, 1), (71, .getfield 40, 3), (74, .iconst (-1), 1), (75, .if_icmp .eq 39, 3), (78, .aload_n 0, 1), (79, .getfield 228, 3), (82, .iload_n 2, 1)]
theorem okc_194_0 : ∀ e ∈ code_194_0, decode (mB 194) e.1 = .ok (e.2.1, e.2.2) := by decide +kernel
def code_194_1 : List (Nat × Instr × Nat) := [(83, .iload_n 1, 1), (84, .invokestatic 300, 3), (87, .ifCond .eq 21, 3), (90, .aload_n 0, 1), (91, .aload_n 0, 1), (92, .getfield 228, 3), (95, .iload_n 2, 1), (96, .aload_n 0, 1), (97, .getfield 40, 3), (100, .invokestatic 254, 3), (103, .ladd, 1), (104, .iconst 0, 1), (105, .invokevirtual 296, 3), (108, .iinc 2 1, 3), (111, .goto (-46), 3), (114, .aload_n 0, 1), (115, .getfield 73, 3), (118, .iconst 1, 1), (119, .aload_n 0, 1), (120, .getfield 287, 3), (123, .iastore, 1), (124, .iconst 0, 1), (125, .istore_n 2, 1), (126, .iload_n 2, 1), (127, .aload_n 0, 1), (128, .getfield 293, 3), (131, .if_icmp .ge 198, 3), (134, .aload_n 0, 1), (135, .getfield 73, 3), (138, .iload_n 2, 1), (139, .iconst 1, 1), (140, .iadd, 1), (141, .iaload, 1), (142, .istore_n 3, 1), (143, .aload_n 0, 1), (144, .getfield 73, 3), (147, .iload_n 2, 1), (148, .iaload, 1), (149, .istore 4, 2), (151, .iload 4, 2), (153, .iload_n 3, 1), (154, .if_icmp .ge 157, 3), (157, .iconst 0, 1), (158, .istore 5, 2), (160, .iload 5, 2), (162, .aload_n 0, 1), (163, .getfield 34, 3), (166, .aload_n 0, 1)]
theorem okc_194_1 : ∀ e ∈ code_194_1, decode (mB 194) e.1 = .ok (e.2.1, e.2.2) := by decide +kernel
def code_194_2 : List (Nat × Instr × Nat) := [(167, .getfield 231, 3), (170, .iload_n 2, 1), (171, .iadd, 1), (172, .iaload, 1), (173, .if_icmp .ge 132, 3), (176, .aload_n 0, 1), (177, .getfield 67, 3), (180, .iload 4, 2), (182, .laload, 1), (183, .lstore 6, 2), (185, .aload_n 0, 1), (186, .aload_n 0, 1), (187, .getfield 231, 3), (190, .iload_n 2, 1), (191, .iadd, 1), (192, .iload 5, 2), (194, .iconst 1, 1), (195, .invokevirtual 304, 3), (198, .istore 8, 2), (200, .iload 8, 2), (202, .ifCond .eq 40, 3), (205, .aload_n 0, 1), (206, .iload 8, 2), (208, .iconst 1, 1), (209, .if_icmp .ne 27, 3), (212, .lload 6, 2), (214, .lconst 1, 1), (215, .bipush 36, 2), (217, .aload_n 0, 1), (218, .aload_n 0, 1), (219, .getfield 231, 3), (222, .iload_n 2, 1), (223, .iadd, 1), (224, .iload 5, 2), (226, .iconst 2, 1), (227, .invokevirtual 304, 3), (230, .iadd, 1), (231, .lshl, 1), (232, .lor, 1), (233, .goto 5, 3), (236, .lload 6, 2), (238, .iload_n 3, 1), (239, .invokevirtual 296, 3), (242, .iconst 0, 1), (243, .istore 9, 2), (245, .iload 9, 2), (247, .iconst 3, 1), (248, .if_icmp .gt 51, 3)]
theorem okc_194_2 : ∀ e ∈ code_194_2, decode (mB 194) e.1 = .ok (e.2.1, e.2.2) := by decide +kernel
def code_194_3 : List (Nat × Instr × Nat) := [(251, .iload 8, 2), (253, .ifCond .ne 46, 3), (256, .lload 6, 2), (258, .iload 9, 2), (260, .iload_n 1, 1), (261, .invokestatic 300, 3), (264, .ifCond .eq 29, 3), (267, .aload_n 0, 1), (268, .lload 6, 2), (270, .iload 9, 2), (272, .aload_n 0, 1), (273, .aload_n 0, 1), (274, .getfield 231, 3), (277, .iload_n 2, 1), (278, .iadd, 1), (279, .iload 5, 2), (281, .iconst 2, 1), (282, .invokevirtual 304, 3), (285, .invokestatic 254, 3), (288, .ladd, 1), (289, .iload_n 3, 1), (290, .invokevirtual 296, 3), (293, .iinc 9 1, 3), (296, .goto (-51), 3), (299, .iinc 5 1, 3), (302, .goto (-142), 3), (305, .iinc 4 1, 3), (308, .goto (-157), 3), (311, .aload_n 0, 1), (312, .getfield 73, 3), (315, .iload_n 2, 1), (316, .iconst 2, 1), (317, .iadd, 1), (318, .aload_n 0, 1), (319, .getfield 287, 3), (322, .iastore, 1), (323, .iinc 2 1, 3), (326, .goto (-200), 3), (329, .return_, 1)]
theorem okc_194_3 : ∀ e ∈ code_194_3, decode (mB 194) e.1 = .ok (e.2.1, e.2.2) := by decide +kernel
def code_194 : List (Nat × Instr × Nat) := code_194_0 ++ (code_194_1 ++ (code_194_2 ++ (code_194_3)))
theorem okc_194 : ∀ e ∈ code_194, decode (mB 194) e.1 = .ok (e.2.1, e.2.2) := (memP_app okc_194_0 (memP_app okc_194_1 (memP_app okc_194_2 okc_194_3)))
def code_195_0 : List (Nat × Instr × Nat) := [(0, .aload_n 0, 1), (1, .lload_n 1, 1), (2, .iload_n 3, 1), (3, .aload_n 0, 1), (4, .getfield 287, 3), (7, .invokevirtual 290, 3), (10, .istore 4, 2), (12, .aload_n 0, 1), (13, .getfield 77, 3), (16, .iload 4, 2), (18, .iaload, 1), (19, .ifCond .eq 4, 3), (22, .return_, 1), (23, .aload_n 0, 1), (24, .getfield 67, 3), (27, .aload_n 0, 1), (28, .getfield 287, 3), (31, .lload_n 1, 1), (32, .lastore, 1), (33, .aload_n 0, 1), (34, .dup, 1), (35, .getfield 287, 3), (38, .iconst 1, 1), (39, .iadd, 1), (40, .putfield 287, 3), (43, .aload_n 0, 1), (44, .getfield 77, 3), (47, .iload 4, 2), (49, .aload_n 0, 1), (50, .getfield 287, 3), (53, .iastore, 1), (54, .return_, 1)]
theorem okc_195_0 : ∀ e ∈ code_195_0, decode (mB 195) e.1 = .ok (e.2.1, e.2.2) := by decide +kernel
def code_195 : List (Nat × Instr × Nat) := code_195_0
theorem okc_195 : ∀ e ∈ code_195, decode (mB 195) e.1 = .ok (e.2.1, e.2.2) := okc_195_0
def code_196_0 : List (Nat × Instr × Nat) := [(0, .lload_n 1, 1), (1, .ldc2_w 284, 3), (4, .lmul, 1), (5, .iload_n 3, 1), (6, .i2l, 1), (7, .ladd, 1), (8, .lconst 1, 1), (9, .ladd, 1), (10, .ldc2_w 276, 3), (13, .lmul, 1), (14, .bipush 45, 2), (16, .lushr, 1), (17, .l2i, 1), (18, .istore 5, 2), (20, .aload_n 0, 1), (21, .getfield 77, 3), (24, .iload 5, 2), (26, .iaload, 1), (27, .ifCond .eq 62, 3), (30, .aload_n 0, 1), (31, .getfield 67, 3), (34, .aload_n 0, 1), (35, .getfield 77, 3), (38, .iload 5, 2), (40, .iaload, 1), (41, .iconst 1, 1), (42, .isub, 1), (43, .laload, 1), (44, .lload_n 1, 1), (45, .lcmp, 1), (46, .ifCond .ne 30, 3), (49, .aload_n 0, 1), (50, .getfield 77, 3), (53, .iload 5, 2), (55, .iaload, 1), (56, .iconst 1, 1), (57, .isub, 1), (58, .iload_n 3, 1), (59, .if_icmp .lt 17, 3), (62, .aload_n 0, 1), (63, .getfield 77, 3), (66, .iload 5, 2), (68, .iaload, 1), (69, .iconst 1, 1), (70, .isub, 1), (71, .iload 4, 2), (73, .if_icmp .lt 16, 3), (76, .iload 5, 2)]
theorem okc_196_0 : ∀ e ∈ code_196_0, decode (mB 196) e.1 = .ok (e.2.1, e.2.2) := by decide +kernel
def code_196_1 : List (Nat × Instr × Nat) := [(78, .iconst 1, 1), (79, .iadd, 1), (80, .ldc_w 286, 3), (83, .iand, 1), (84, .istore 5, 2), (86, .goto (-66), 3), (89, .iload 5, 2), (91, .ireturn, 1)]
theorem okc_196_1 : ∀ e ∈ code_196_1, decode (mB 196) e.1 = .ok (e.2.1, e.2.2) := by decide +kernel
def code_196 : List (Nat × Instr × Nat) := code_196_0 ++ (code_196_1)
theorem okc_196 : ∀ e ∈ code_196, decode (mB 196) e.1 = .ok (e.2.1, e.2.2) := (memP_app okc_196_0 okc_196_1)
def code_197_0 : List (Nat × Instr × Nat) := [(0, .aload_n 0, 1), (1, .aload_n 0, 1), (2, .getfield 231, 3), (5, .iload_n 3, 1), (6, .iadd, 1), (7, .iload 4, 2), (9, .iconst 1, 1), (10, .invokevirtual 304, 3), (13, .istore 6, 2), (15, .iload 6, 2), (17, .ifCond .eq 41, 3), (20, .aload_n 0, 1), (21, .iload 6, 2), (23, .iconst 1, 1), (24, .if_icmp .ne 26, 3), (27, .lload_n 1, 1), (28, .lconst 1, 1), (29, .bipush 36, 2), (31, .aload_n 0, 1), (32, .aload_n 0, 1), (33, .getfield 231, 3), (36, .iload_n 3, 1), (37, .iadd, 1), (38, .iload 4, 2), (40, .iconst 2, 1), (41, .invokevirtual 304, 3), (44, .iadd, 1), (45, .lshl, 1), (46, .lor, 1), (47, .goto 4, 3), (50, .lload_n 1, 1), (51, .iload_n 3, 1), (52, .iconst 1, 1), (53, .iadd, 1), (54, .invokevirtual 308, 3), (57, .lreturn, 1), (58, .aload_n 0, 1), (59, .aload_n 0, 1), (60, .lload_n 1, 1), (61, .iload_n 3, 1), (62, .iload 4, 2), (64, .iload 5, 2), (66, .invokevirtual 312, 3), (69, .iload_n 3, 1), (70, .iconst 1, 1), (71, .iadd, 1), (72, .invokevirtual 308, 3), (75, .lreturn, 1)]
theorem okc_197_0 : ∀ e ∈ code_197_0, decode (mB 197) e.1 = .ok (e.2.1, e.2.2) := by decide +kernel
def code_197 : List (Nat × Instr × Nat) := code_197_0
theorem okc_197 : ∀ e ∈ code_197, decode (mB 197) e.1 = .ok (e.2.1, e.2.2) := okc_197_0
def code_198_0 : List (Nat × Instr × Nat) := [(0, .aload_n 0, 1), (1, .getfield 70, 3), (4, .aload_n 0, 1), (5, .getfield 77, 3), (8, .aload_n 0, 1), (9, .lload_n 1, 1), (10, .aload_n 0, 1), (11, .getfield 73, 3), (14, .iload_n 3, 1), (15, .iaload, 1), (16, .aload_n 0, 1), (17, .getfield 73, 3), (20, .iload_n 3, 1), (21, .iconst 1, 1), (22, .iadd, 1), (23, .iaload, 1), (24, .invokevirtual 290, 3), (27, .iaload, 1), (28, .iconst 1, 1), (29, .isub, 1), (30, .laload, 1), (31, .lreturn, 1)]
theorem okc_198_0 : ∀ e ∈ code_198_0, decode (mB 198) e.1 = .ok (e.2.1, e.2.2) := by decide +kernel
def code_198 : List (Nat × Instr × Nat) := code_198_0
theorem okc_198 : ∀ e ∈ code_198, decode (mB 198) e.1 = .ok (e.2.1, e.2.2) := okc_198_0
def code_199_0 : List (Nat × Instr × Nat) := [(0, .aload_n 0, 1), (1, .aload_n 0, 1), (2, .getfield 231, 3), (5, .iload_n 3, 1), (6, .iadd, 1), (7, .iload 4, 2), (9, .iconst 2, 1), (10, .invokevirtual 304, 3), (13, .istore 6, 2), (15, .ldc2_w 316, 3), (18, .lstore 7, 2), (20, .iconst 0, 1), (21, .istore 9, 2), (23, .iload 9, 2), (25, .iconst 3, 1), (26, .if_icmp .gt 69, 3), (29, .lload_n 1, 1), (30, .iload 9, 2), (32, .iload 5, 2), (34, .invokestatic 300, 3), (37, .ifCond .ne 6, 3), (40, .goto 49, 3), (43, .lload_n 1, 1), (44, .iload 9, 2), (46, .iload 6, 2), (48, .invokestatic 254, 3), (51, .ladd, 1), (52, .lstore 10, 2), (54, .lload 7, 2), (56, .ldc2_w 316, 3), (59, .lcmp, 1), (60, .ifCond .eq 25, 3), (63, .aload_n 0, 1), (64, .lload 10, 2), (66, .iload_n 3, 1), (67, .iconst 1, 1), (68, .iadd, 1), (69, .invokevirtual 308, 3), (72, .aload_n 0, 1), (73, .lload 7, 2), (75, .iload_n 3, 1), (76, .iconst 1, 1), (77, .iadd, 1), (78, .invokevirtual 308, 3), (81, .lcmp, 1), (82, .ifCond .le 7, 3), (85, .lload 10, 2), (87, .lstore 7, 2)]
theorem okc_199_0 : ∀ e ∈ code_199_0, decode (mB 199) e.1 = .ok (e.2.1, e.2.2) := by decide +kernel
def code_199_1 : List (Nat × Instr × Nat) := [(89, .iinc 9 1, 3), (92, .goto (-69), 3), (95, .lload 7, 2), (97, .lreturn, 1)]
theorem okc_199_1 : ∀ e ∈ code_199_1, decode (mB 199) e.1 = .ok (e.2.1, e.2.2) := by decide +kernel
def code_199 : List (Nat × Instr × Nat) := code_199_0 ++ (code_199_1)
theorem okc_199 : ∀ e ∈ code_199, decode (mB 199) e.1 = .ok (e.2.1, e.2.2) := (memP_app okc_199_0 okc_199_1)
def code_200_0 : List (Nat × Instr × Nat) := [(0, .iload_n 3, 1), (1, .ifCond .ne 6, 3), (4, .lload_n 1, 1), (5, .l2i, 1), (6, .ireturn, 1), (7, .lconst 1, 1), (8, .lstore 4, 2), (10, .aload_n 0, 1), (11, .getfield 231, 3), (14, .istore 6, 2), (16, .iload 6, 2), (18, .aload_n 0, 1), (19, .getfield 221, 3), (22, .if_icmp .ge 17, 3), (25, .lload 4, 2), (27, .ldc2_w 328, 3), (30, .lmul, 1), (31, .lstore 4, 2), (33, .iinc 6 1, 3), (36, .goto (-20), 3), (39, .lload_n 1, 1), (40, .ldc2_w 330, 3), (43, .lmul, 1), (44, .lload 4, 2), (46, .ldiv, 1), (47, .l2i, 1), (48, .ireturn, 1)]
theorem okc_200_0 : ∀ e ∈ code_200_0, decode (mB 200) e.1 = .ok (e.2.1, e.2.2) := by decide +kernel
def code_200 : List (Nat × Instr × Nat) := code_200_0
theorem okc_200 : ∀ e ∈ code_200, decode (mB 200) e.1 = .ok (e.2.1, e.2.2) := okc_200_0
def code_201_0 : List (Nat × Instr × Nat) := [(0, .aload_n 0, 1), (1, .getfield 40, 3), (4, .iconst (-1), 1), (5, .if_icmp .eq 10, 3), (8, .iload_n 1, 1), (9, .invokestatic 335, 3), (12, .ifCond .ne 5, 3), (15, .iconst (-1), 1), (16, .ireturn, 1), (17, .aload_n 0, 1), (18, .iload_n 1, 1), (19, .iload_n 2, 1), (20, .aload_n 0, 1), (21, .getfield 224, 3), (24, .aload_n 0, 1), (25, .getfield 226, 3), (28, .invokevirtual 338, 3), (31, .lstore_n 3, 1), (32, .iconst 0, 1), (33, .istore 5, 2), (35, .iload 5, 2), (37, .iconst 3, 1), (38, .if_icmp .gt 52, 3), (41, .aload_n 0, 1), (42, .getfield 228, 3), (45, .iload 5, 2), (47, .aload_n 0, 1), (48, .getfield 224, 3), (51, .invokestatic 300, 3), (54, .ifCond .eq 30, 3), (57, .aload_n 0, 1), (58, .aload_n 0, 1), (59, .getfield 228, 3), (62, .iload 5, 2), (64, .aload_n 0, 1), (65, .getfield 40, 3), (68, .invokestatic 254, 3), (71, .ladd, 1), (72, .iconst 0, 1), (73, .invokevirtual 308, 3), (76, .lload_n 3, 1), (77, .lcmp, 1), (78, .ifCond .ne 6, 3), (81, .iload 5, 2), (83, .ireturn, 1), (84, .iinc 5 1, 3), (87, .goto (-52), 3), (90, .iconst (-1), 1)]
theorem okc_201_0 : ∀ e ∈ code_201_0, decode (mB 201) e.1 = .ok (e.2.1, e.2.2) := by decide +kernel
def code_201_1 : List (Nat × Instr × Nat) := [(91, .ireturn, 1)]
theorem okc_201_1 : ∀ e ∈ code_201_1, decode (mB 201) e.1 = .ok (e.2.1, e.2.2) := by decide +kernel
def code_201 : List (Nat × Instr × Nat) := code_201_0 ++ (code_201_1)
theorem okc_201 : ∀ e ∈ code_201, decode (mB 201) e.1 = .ok (e.2.1, e.2.2) := (memP_app okc_201_0 okc_201_1)
def code_202_0 : List (Nat × Instr × Nat) := [(0, .aload_n 0, 1), (1, .getfield 214, 3), (4, .ifCond .eq 37, 3), (7, .aload_n 0, 1), (8, .getfield 40, 3), (11, .iconst (-1), 1), (12, .if_icmp .ne 29, 3), (15, .iload_n 1, 1), (16, .invokestatic 335, 3), (19, .ifCond .eq 22, 3), (22, .iload_n 2, 1), (23, .iconst 0, 1), (24, .aload_n 0, 1), (25, .getfield 221, 3), (28, .aload_n 0, 1), (29, .getfield 231, 3), (32, .isub, 1), (33, .iconst 1, 1), (34, .isub, 1), (35, .invokestatic 98, 3), (38, .ifCond .ne 5, 3), (41, .iconst (-1), 1), (42, .ireturn, 1), (43, .aload_n 0, 1), (44, .iload_n 1, 1), (45, .iconst 0, 1), (46, .aload_n 0, 1), (47, .getfield 224, 3), (50, .aload_n 0, 1), (51, .getfield 226, 3), (54, .invokevirtual 338, 3), (57, .lstore_n 3, 1), (58, .aload_n 0, 1), (59, .getfield 228, 3), (62, .lstore 5, 2), (64, .iconst (-1), 1), (65, .istore 7, 2), (67, .iconst 0, 1), (68, .istore 8, 2), (70, .iload 8, 2), (72, .iload_n 2, 1), (73, .if_icmp .gt 216, 3), (76, .iconst 0, 1), (77, .istore 9, 2), (79, .iconst 1, 1), (80, .istore 10, 2), (82, .iload 10, 2), (84, .aload_n 0, 1)]
theorem okc_202_0 : ∀ e ∈ code_202_0, decode (mB 202) e.1 = .ok (e.2.1, e.2.2) := by decide +kernel
def code_202_1 : List (Nat × Instr × Nat) := [(85, .getfield 34, 3), (88, .aload_n 0, 1), (89, .getfield 231, 3), (92, .iload 8, 2), (94, .iadd, 1), (95, .iaload, 1), (96, .if_icmp .ge 45, 3), (99, .aload_n 0, 1), (100, .lload 5, 2), (102, .iload 8, 2), (104, .iload 10, 2), (106, .aload_n 0, 1), (107, .getfield 224, 3), (110, .invokevirtual 325, 3), (113, .aload_n 0, 1), (114, .lload 5, 2), (116, .iload 8, 2), (118, .iload 9, 2), (120, .aload_n 0, 1), (121, .getfield 224, 3), (124, .invokevirtual 325, 3), (127, .lcmp, 1), (128, .ifCond .ge 7, 3), (131, .iload 10, 2), (133, .istore 9, 2), (135, .iinc 10 1, 3), (138, .goto (-56), 3), (141, .aload_n 0, 1), (142, .aload_n 0, 1), (143, .getfield 231, 3), (146, .iload 8, 2), (148, .iadd, 1), (149, .iload 9, 2), (151, .iconst 1, 1), (152, .invokevirtual 304, 3), (155, .istore 10, 2), (157, .iload 10, 2), (159, .ifCond .ne 20, 3), (162, .aload_n 0, 1), (163, .lload 5, 2), (165, .iload 8, 2), (167, .iload 9, 2), (169, .aload_n 0, 1), (170, .getfield 224, 3), (173, .invokevirtual 312, 3), (176, .goto 36, 3), (179, .iload 10, 2), (181, .iconst 1, 1)]
theorem okc_202_1 : ∀ e ∈ code_202_1, decode (mB 202) e.1 = .ok (e.2.1, e.2.2) := by decide +kernel
def code_202_2 : List (Nat × Instr × Nat) := [(182, .if_icmp .ne 28, 3), (185, .lload 5, 2), (187, .lconst 1, 1), (188, .bipush 36, 2), (190, .aload_n 0, 1), (191, .aload_n 0, 1), (192, .getfield 231, 3), (195, .iload 8, 2), (197, .iadd, 1), (198, .iload 9, 2), (200, .iconst 2, 1), (201, .invokevirtual 304, 3), (204, .iadd, 1), (205, .lshl, 1), (206, .lor, 1), (207, .goto 5, 3), (210, .lload 5, 2), (212, .lstore 11, 2), (214, .bipush 9, 2), (216, .istore 13, 2), (218, .iconst 3, 1), (219, .istore 14, 2), (221, .iload 14, 2), (223, .ifCond .lt 46, 3), (226, .iload 10, 2), (228, .ifCond .ne 41, 3), (231, .lload 11, 2), (233, .lload 5, 2), (235, .iload 14, 2), (237, .aload_n 0, 1), (238, .aload_n 0, 1), (239, .getfield 231, 3), (242, .iload 8, 2), (244, .iadd, 1), (245, .iload 9, 2), (247, .iconst 2, 1), (248, .invokevirtual 304, 3), (251, .invokestatic 254, 3), (254, .ladd, 1), (255, .lcmp, 1), (256, .ifCond .ne 7, 3), (259, .iload 14, 2), (261, .istore 13, 2), (263, .iinc 14 (-1), 3), (266, .goto (-45), 3), (269, .bipush 10, 2), (271, .iload 9, 2), (273, .imul, 1)]
theorem okc_202_2 : ∀ e ∈ code_202_2, decode (mB 202) e.1 = .ok (e.2.1, e.2.2) := by decide +kernel
def code_202_3 : List (Nat × Instr × Nat) := [(274, .iload 13, 2), (276, .iadd, 1), (277, .istore 7, 2), (279, .lload 11, 2), (281, .lstore 5, 2), (283, .iinc 8 1, 3), (286, .goto (-216), 3), (289, .iload 7, 2), (291, .ireturn, 1)]
theorem okc_202_3 : ∀ e ∈ code_202_3, decode (mB 202) e.1 = .ok (e.2.1, e.2.2) := by decide +kernel
def code_202 : List (Nat × Instr × Nat) := code_202_0 ++ (code_202_1 ++ (code_202_2 ++ (code_202_3)))
theorem okc_202 : ∀ e ∈ code_202, decode (mB 202) e.1 = .ok (e.2.1, e.2.2) := (memP_app okc_202_0 (memP_app okc_202_1 (memP_app okc_202_2 okc_202_3)))
def code_203_0 : List (Nat × Instr × Nat) := [(0, .aload_n 0, 1), (1, .getfield 214, 3), (4, .ifCond .eq 34, 3), (7, .iload_n 1, 1), (8, .invokestatic 335, 3), (11, .ifCond .eq 27, 3), (14, .aload_n 0, 1), (15, .getfield 40, 3), (18, .iconst (-1), 1), (19, .if_icmp .ne 19, 3), (22, .aload_n 0, 1), (23, .iload_n 2, 1), (24, .invokevirtual 349, 3), (27, .ifCond .eq 11, 3), (30, .aload_n 0, 1), (31, .iload_n 1, 1), (32, .invokevirtual 352, 3), (35, .goto 6, 3), (38, .ldc_w 279, 3), (41, .ireturn, 1)]
theorem okc_203_0 : ∀ e ∈ code_203_0, decode (mB 203) e.1 = .ok (e.2.1, e.2.2) := by decide +kernel
def code_203 : List (Nat × Instr × Nat) := code_203_0
theorem okc_203 : ∀ e ∈ code_203, decode (mB 203) e.1 = .ok (e.2.1, e.2.2) := okc_203_0
def code_204_0 : List (Nat × Instr × Nat) := [(0, .aload_n 0, 1), (1, .iload_n 1, 1), (2, .invokevirtual 346, 3), (5, .ifCond .ne 5, 3), (8, .iconst 0, 1), (9, .ireturn, 1), (10, .iconst 0, 1), (11, .istore_n 2, 1), (12, .iload_n 2, 1), (13, .aload_n 0, 1), (14, .getfield 221, 3), (17, .aload_n 0, 1), (18, .getfield 231, 3), (21, .isub, 1), (22, .if_icmp .ge 31, 3), (25, .aload_n 0, 1), (26, .getfield 80, 3), (29, .iload_n 2, 1), (30, .iaload, 1), (31, .aload_n 0, 1), (32, .getfield 34, 3), (35, .aload_n 0, 1), (36, .getfield 231, 3), (39, .iload_n 2, 1), (40, .iadd, 1), (41, .iaload, 1), (42, .if_icmp .lt 5, 3), (45, .iconst 0, 1), (46, .ireturn, 1), (47, .iinc 2 1, 3), (50, .goto (-38), 3), (53, .iconst 1, 1), (54, .ireturn, 1)]
theorem okc_204_0 : ∀ e ∈ code_204_0, decode (mB 204) e.1 = .ok (e.2.1, e.2.2) := by decide +kernel
def code_204 : List (Nat × Instr × Nat) := code_204_0
theorem okc_204 : ∀ e ∈ code_204, decode (mB 204) e.1 = .ok (e.2.1, e.2.2) := okc_204_0
def code_205_0 : List (Nat × Instr × Nat) := [(0, .iload_n 1, 1), (1, .istore_n 2, 1), (2, .iconst 0, 1), (3, .istore_n 3, 1), (4, .iload_n 3, 1), (5, .aload_n 0, 1), (6, .getfield 221, 3), (9, .aload_n 0, 1), (10, .getfield 231, 3), (13, .isub, 1), (14, .if_icmp .ge 22, 3), (17, .aload_n 0, 1), (18, .getfield 80, 3), (21, .iload_n 3, 1), (22, .iload_n 2, 1), (23, .iconst 3, 1), (24, .iand, 1), (25, .iastore, 1), (26, .iload_n 2, 1), (27, .iconst 2, 1), (28, .ishr, 1), (29, .istore_n 2, 1), (30, .iinc 3 1, 3), (33, .goto (-29), 3), (36, .iload_n 1, 1), (37, .ifCond .lt 11, 3), (40, .iload_n 2, 1), (41, .ifCond .ne 7, 3), (44, .iconst 1, 1), (45, .goto 4, 3), (48, .iconst 0, 1), (49, .ireturn, 1)]
theorem okc_205_0 : ∀ e ∈ code_205_0, decode (mB 205) e.1 = .ok (e.2.1, e.2.2) := by decide +kernel
def code_205 : List (Nat × Instr × Nat) := code_205_0
theorem okc_205 : ∀ e ∈ code_205, decode (mB 205) e.1 = .ok (e.2.1, e.2.2) := okc_205_0
def code_206_0 : List (Nat × Instr × Nat) := [(0, .iconst 0, 1), (1, .istore_n 2, 1), (2, .iload_n 2, 1), (3, .ldc 76, 2), (5, .if_icmp .ge 16, 3), (8, .aload_n 0, 1), (9, .getfield 77, 3), (12, .iload_n 2, 1), (13, .iconst 0, 1), (14, .iastore, 1), (15, .iinc 2 1, 3), (18, .goto (-16), 3), (21, .aload_n 0, 1), (22, .iconst 0, 1), (23, .putfield 287, 3), (26, .aload_n 0, 1), (27, .aload_n 0, 1), (28, .getfield 228, 3), (31, .iconst 0, 1), (32, .invokevirtual 296, 3), (35, .iconst 0, 1), (36, .istore_n 2, 1), (37, .iconst 0, 1), (38, .istore_n 3, 1), (39, .iload_n 3, 1), (40, .aload_n 0, 1), (41, .getfield 221, 3), (44, .aload_n 0, 1), (45, .getfield 231, 3), (48, .isub, 1), (49, .if_icmp .ge 170, 3), (52, .aload_n 0, 1), (53, .getfield 287, 3), (56, .istore 4, 2), (58, .aload_n 0, 1), (59, .getfield 80, 3), (62, .iload_n 3, 1), (63, .iaload, 1), (64, .istore 5, 2), (66, .aload_n 0, 1), (67, .aload_n 0, 1), (68, .getfield 231, 3), (71, .iload_n 3, 1), (72, .iadd, 1), (73, .iload 5, 2), (75, .iconst 1, 1), (76, .invokevirtual 304, 3), (79, .istore 6, 2)]
theorem okc_206_0 : ∀ e ∈ code_206_0, decode (mB 206) e.1 = .ok (e.2.1, e.2.2) := by decide +kernel
def code_206_1 : List (Nat × Instr × Nat) := [(81, .iload_n 2, 1), (82, .istore 7, 2), (84, .iload 7, 2), (86, .iload 4, 2), (88, .if_icmp .ge 122, 3), (91, .aload_n 0, 1), (92, .getfield 67, 3), (95, .iload 7, 2), (97, .laload, 1), (98, .lstore 8, 2), (100, .iload 6, 2), (102, .ifCond .eq 41, 3), (105, .aload_n 0, 1), (106, .iload 6, 2), (108, .iconst 1, 1), (109, .if_icmp .ne 27, 3), (112, .lload 8, 2), (114, .lconst 1, 1), (115, .bipush 36, 2), (117, .aload_n 0, 1), (118, .aload_n 0, 1), (119, .getfield 231, 3), (122, .iload_n 3, 1), (123, .iadd, 1), (124, .iload 5, 2), (126, .iconst 2, 1), (127, .invokevirtual 304, 3), (130, .iadd, 1), (131, .lshl, 1), (132, .lor, 1), (133, .goto 5, 3), (136, .lload 8, 2), (138, .iload 4, 2), (140, .invokevirtual 296, 3), (143, .iconst 0, 1), (144, .istore 10, 2), (146, .iload 10, 2), (148, .iconst 3, 1), (149, .if_icmp .gt 55, 3), (152, .iload 6, 2), (154, .ifCond .ne 50, 3), (157, .lload 8, 2), (159, .iload 10, 2), (161, .aload_n 0, 1), (162, .getfield 224, 3), (165, .invokestatic 300, 3), (168, .ifCond .eq 30, 3), (171, .aload_n 0, 1)]
theorem okc_206_1 : ∀ e ∈ code_206_1, decode (mB 206) e.1 = .ok (e.2.1, e.2.2) := by decide +kernel
def code_206_2 : List (Nat × Instr × Nat) := [(172, .lload 8, 2), (174, .iload 10, 2), (176, .aload_n 0, 1), (177, .aload_n 0, 1), (178, .getfield 231, 3), (181, .iload_n 3, 1), (182, .iadd, 1), (183, .iload 5, 2), (185, .iconst 2, 1), (186, .invokevirtual 304, 3), (189, .invokestatic 254, 3), (192, .ladd, 1), (193, .iload 4, 2), (195, .invokevirtual 296, 3), (198, .iinc 10 1, 3), (201, .goto (-55), 3), (204, .iinc 7 1, 3), (207, .goto (-123), 3), (210, .iload 4, 2), (212, .istore_n 2, 1), (213, .iinc 3 1, 3), (216, .goto (-177), 3), (219, .ldc_w 279, 3), (222, .istore_n 3, 1), (223, .iload_n 2, 1), (224, .istore 4, 2), (226, .iload 4, 2), (228, .aload_n 0, 1), (229, .getfield 287, 3), (232, .if_icmp .ge 40, 3), (235, .aload_n 0, 1), (236, .aload_n 0, 1), (237, .getfield 67, 3), (240, .iload 4, 2), (242, .laload, 1), (243, .iload_n 1, 1), (244, .aload_n 0, 1), (245, .getfield 226, 3), (248, .invokevirtual 322, 3), (251, .istore 5, 2), (253, .iload 5, 2), (255, .iload_n 3, 1), (256, .if_icmp .le 8, 3), (259, .iload 5, 2), (261, .goto 4, 3), (264, .iload_n 3, 1), (265, .istore_n 3, 1), (266, .iinc 4 1, 3)]
theorem okc_206_2 : ∀ e ∈ code_206_2, decode (mB 206) e.1 = .ok (e.2.1, e.2.2) := by decide +kernel
def code_206_3 : List (Nat × Instr × Nat) := [(269, .goto (-43), 3), (272, .iload_n 3, 1), (273, .ireturn, 1)]
theorem okc_206_3 : ∀ e ∈ code_206_3, decode (mB 206) e.1 = .ok (e.2.1, e.2.2) := by decide +kernel
def code_206 : List (Nat × Instr × Nat) := code_206_0 ++ (code_206_1 ++ (code_206_2 ++ (code_206_3)))
theorem okc_206 : ∀ e ∈ code_206, decode (mB 206) e.1 = .ok (e.2.1, e.2.2) := (memP_app okc_206_0 (memP_app okc_206_1 (memP_app okc_206_2 okc_206_3)))
def code_207_0 : List (Nat × Instr × Nat) := [(0, .aload_n 0, 1), (1, .getfield 214, 3), (4, .ifCond .eq 18, 3), (7, .iload_n 1, 1), (8, .invokestatic 335, 3), (11, .ifCond .eq 11, 3), (14, .aload_n 0, 1), (15, .getfield 40, 3), (18, .iconst (-1), 1), (19, .if_icmp .eq 7, 3), (22, .ldc_w 279, 3), (25, .ireturn, 1), (26, .aload_n 0, 1), (27, .iload_n 1, 1), (28, .iconst 0, 1), (29, .aload_n 0, 1), (30, .getfield 224, 3), (33, .aload_n 0, 1), (34, .getfield 226, 3), (37, .invokevirtual 338, 3), (40, .l2i, 1), (41, .istore_n 2, 1), (42, .ldc_w 279, 3), (45, .istore_n 3, 1), (46, .iconst 0, 1), (47, .istore 4, 2), (49, .iload 4, 2), (51, .iconst 1, 1), (52, .iconst 2, 1), (53, .aload_n 0, 1), (54, .getfield 221, 3), (57, .aload_n 0, 1), (58, .getfield 231, 3), (61, .isub, 1), (62, .imul, 1), (63, .ishl, 1), (64, .if_icmp .ge 48, 3), (67, .aload_n 0, 1), (68, .iload 4, 2), (70, .invokevirtual 349, 3), (73, .ifCond .ne 6, 3), (76, .goto 30, 3), (79, .aload_n 0, 1), (80, .iload_n 1, 1), (81, .invokevirtual 352, 3), (84, .istore 5, 2), (86, .iload_n 3, 1), (87, .ldc_w 279, 3)]
theorem okc_207_0 : ∀ e ∈ code_207_0, decode (mB 207) e.1 = .ok (e.2.1, e.2.2) := by decide +kernel
def code_207_1 : List (Nat × Instr × Nat) := [(90, .if_icmp .eq 9, 3), (93, .iload 5, 2), (95, .iload_n 3, 1), (96, .if_icmp .ge 8, 3), (99, .iload 5, 2), (101, .goto 4, 3), (104, .iload_n 3, 1), (105, .istore_n 3, 1), (106, .iinc 4 1, 3), (109, .goto (-60), 3), (112, .iload_n 3, 1), (113, .iload_n 2, 1), (114, .isub, 1), (115, .ireturn, 1)]
theorem okc_207_1 : ∀ e ∈ code_207_1, decode (mB 207) e.1 = .ok (e.2.1, e.2.2) := by decide +kernel
def code_207 : List (Nat × Instr × Nat) := code_207_0 ++ (code_207_1)
theorem okc_207 : ∀ e ∈ code_207, decode (mB 207) e.1 = .ok (e.2.1, e.2.2) := (memP_app okc_207_0 okc_207_1)
def code_208_0 : List (Nat × Instr × Nat) := [(0, .aload_n 0, 1), (1, .getfield 214, 3), (4, .ifCond .eq 27, 3), (7, .iload_n 2, 1), (8, .invokestatic 335, 3), (11, .ifCond .eq 20, 3), (14, .iload_n 1, 1), (15, .iconst 0, 1), (16, .iconst 4, 1), (17, .invokestatic 98, 3), (20, .ifCond .eq 11, 3), (23, .aload_n 0, 1), (24, .getfield 40, 3), (27, .iconst (-1), 1), (28, .if_icmp .eq 7, 3), (31, .ldc_w 279, 3), (34, .ireturn, 1), (35, .iload_n 1, 1), (36, .iconst 4, 1), (37, .if_icmp .ne 18, 3), (40, .aload_n 0, 1), (41, .iconst 0, 1), (42, .iconst 0, 1), (43, .aload_n 0, 1), (44, .getfield 224, 3), (47, .aload_n 0, 1), (48, .getfield 226, 3), (51, .invokevirtual 338, 3), (54, .pop2, 1), (55, .iconst 1, 1), (56, .istore 4, 2), (58, .aload_n 0, 1), (59, .getfield 83, 3), (62, .iconst 0, 1), (63, .aload_n 0, 1), (64, .getfield 228, 3), (67, .lastore, 1), (68, .aload_n 0, 1), (69, .getfield 89, 3), (72, .iconst 0, 1), (73, .lconst 1, 1), (74, .lastore, 1), (75, .iconst 0, 1), (76, .istore 5, 2), (78, .iload 5, 2), (80, .aload_n 0, 1), (81, .getfield 221, 3), (84, .aload_n 0, 1)]
theorem okc_208_0 : ∀ e ∈ code_208_0, decode (mB 208) e.1 = .ok (e.2.1, e.2.2) := by decide +kernel
def code_208_1 : List (Nat × Instr × Nat) := [(85, .getfield 231, 3), (88, .isub, 1), (89, .if_icmp .ge 254, 3), (92, .iconst 0, 1), (93, .istore 6, 2), (95, .iconst 0, 1), (96, .istore 7, 2), (98, .iload 7, 2), (100, .iload 4, 2), (102, .if_icmp .ge 187, 3), (105, .iconst 0, 1), (106, .istore 8, 2), (108, .iload 8, 2), (110, .aload_n 0, 1), (111, .getfield 34, 3), (114, .aload_n 0, 1), (115, .getfield 231, 3), (118, .iload 5, 2), (120, .iadd, 1), (121, .iaload, 1), (122, .if_icmp .ge 161, 3), (125, .aload_n 0, 1), (126, .getfield 83, 3), (129, .iload 7, 2), (131, .laload, 1), (132, .lstore 9, 2), (134, .aload_n 0, 1), (135, .aload_n 0, 1), (136, .getfield 231, 3), (139, .iload 5, 2), (141, .iadd, 1), (142, .iload 8, 2), (144, .iconst 1, 1), (145, .invokevirtual 304, 3), (148, .istore 11, 2), (150, .aload_n 0, 1), (151, .aload_n 0, 1), (152, .getfield 231, 3), (155, .iload 5, 2), (157, .iadd, 1), (158, .iload 8, 2), (160, .iconst 2, 1), (161, .invokevirtual 304, 3), (164, .istore 12, 2), (166, .aload_n 0, 1), (167, .getfield 86, 3), (170, .iload 6, 2), (172, .iload 11, 2)]
theorem okc_208_1 : ∀ e ∈ code_208_1, decode (mB 208) e.1 = .ok (e.2.1, e.2.2) := by decide +kernel
def code_208_2 : List (Nat × Instr × Nat) := [(174, .iconst 1, 1), (175, .if_icmp .ne 16, 3), (178, .lload 9, 2), (180, .lconst 1, 1), (181, .bipush 36, 2), (183, .iload 12, 2), (185, .iadd, 1), (186, .lshl, 1), (187, .lor, 1), (188, .goto 55, 3), (191, .iload 11, 2), (193, .iconst 2, 1), (194, .if_icmp .ne 8, 3), (197, .lload 9, 2), (199, .goto 44, 3), (202, .iload_n 1, 1), (203, .iconst 4, 1), (204, .if_icmp .ne 20, 3), (207, .aload_n 0, 1), (208, .lload 9, 2), (210, .iload 5, 2), (212, .iload 8, 2), (214, .aload_n 0, 1), (215, .getfield 224, 3), (218, .invokevirtual 312, 3), (221, .goto 22, 3), (224, .lload 9, 2), (226, .aload_n 0, 1), (227, .lload 9, 2), (229, .iload 12, 2), (231, .iload_n 1, 1), (232, .iload 5, 2), (234, .invokevirtual 363, 3), (237, .iload 12, 2), (239, .invokestatic 254, 3), (242, .ladd, 1), (243, .lastore, 1), (244, .aload_n 0, 1), (245, .getfield 92, 3), (248, .iload 6, 2), (250, .aload_n 0, 1), (251, .getfield 89, 3), (254, .iload 7, 2), (256, .laload, 1), (257, .aload_n 0, 1), (258, .aload_n 0, 1), (259, .getfield 231, 3), (262, .iload 5, 2)]
theorem okc_208_2 : ∀ e ∈ code_208_2, decode (mB 208) e.1 = .ok (e.2.1, e.2.2) := by decide +kernel
def code_208_3 : List (Nat × Instr × Nat) := [(264, .iadd, 1), (265, .iload 8, 2), (267, .iconst 0, 1), (268, .invokevirtual 304, 3), (271, .i2l, 1), (272, .lmul, 1), (273, .lastore, 1), (274, .iinc 6 1, 3), (277, .iinc 8 1, 3), (280, .goto (-172), 3), (283, .iinc 7 1, 3), (286, .goto (-188), 3), (289, .iconst 0, 1), (290, .istore 7, 2), (292, .iload 7, 2), (294, .iload 6, 2), (296, .if_icmp .ge 37, 3), (299, .aload_n 0, 1), (300, .getfield 83, 3), (303, .iload 7, 2), (305, .aload_n 0, 1), (306, .getfield 86, 3), (309, .iload 7, 2), (311, .laload, 1), (312, .lastore, 1), (313, .aload_n 0, 1), (314, .getfield 89, 3), (317, .iload 7, 2), (319, .aload_n 0, 1), (320, .getfield 92, 3), (323, .iload 7, 2), (325, .laload, 1), (326, .lastore, 1), (327, .iinc 7 1, 3), (330, .goto (-38), 3), (333, .iload 6, 2), (335, .istore 4, 2), (337, .iinc 5 1, 3), (340, .goto (-262), 3), (343, .lconst 0, 1), (344, .lstore 5, 2), (346, .iconst 0, 1), (347, .istore 7, 2), (349, .iload 7, 2), (351, .iload 4, 2), (353, .if_icmp .ge 74, 3), (356, .aload_n 0, 1), (357, .aload_n 0, 1)]
theorem okc_208_3 : ∀ e ∈ code_208_3, decode (mB 208) e.1 = .ok (e.2.1, e.2.2) := by decide +kernel
def code_208_4 : List (Nat × Instr × Nat) := [(358, .getfield 83, 3), (361, .iload 7, 2), (363, .laload, 1), (364, .iload_n 2, 1), (365, .aload_n 0, 1), (366, .getfield 226, 3), (369, .invokevirtual 322, 3), (372, .istore 8, 2), (374, .iload_n 3, 1), (375, .ifCond .eq 22, 3), (378, .lload 5, 2), (380, .iload 8, 2), (382, .i2l, 1), (383, .aload_n 0, 1), (384, .getfield 89, 3), (387, .iload 7, 2), (389, .laload, 1), (390, .lmul, 1), (391, .ladd, 1), (392, .lstore 5, 2), (394, .goto 27, 3), (397, .iload 7, 2), (399, .ifCond .eq 12, 3), (402, .iload 8, 2), (404, .i2l, 1), (405, .lload 5, 2), (407, .lcmp, 1), (408, .ifCond .ge 9, 3), (411, .iload 8, 2), (413, .i2l, 1), (414, .goto 5, 3), (417, .lload 5, 2), (419, .lstore 5, 2), (421, .iinc 7 1, 3), (424, .goto (-75), 3), (427, .aload_n 0, 1), (428, .lload 5, 2), (430, .iload_n 3, 1), (431, .invokevirtual 342, 3), (434, .ireturn, 1)]
theorem okc_208_4 : ∀ e ∈ code_208_4, decode (mB 208) e.1 = .ok (e.2.1, e.2.2) := by decide +kernel
def code_208 : List (Nat × Instr × Nat) := code_208_0 ++ (code_208_1 ++ (code_208_2 ++ (code_208_3 ++ (code_208_4))))
theorem okc_208 : ∀ e ∈ code_208, decode (mB 208) e.1 = .ok (e.2.1, e.2.2) := (memP_app okc_208_0 (memP_app okc_208_1 (memP_app okc_208_2 (memP_app okc_208_3 okc_208_4))))
def code_209_0 : List (Nat × Instr × Nat) := [(0, .iload 4, 2), (2, .iconst 3, 1), (3, .if_icmp .ne 16, 3), (6, .lload_n 1, 1), (7, .invokestatic 241, 3), (10, .aload_n 0, 1), (11, .getfield 224, 3), (14, .if_icmp .ge 5, 3), (17, .iconst 3, 1), (18, .ireturn, 1), (19, .iconst (-1), 1), (20, .istore 6, 2), (22, .iconst 0, 1), (23, .istore 7, 2), (25, .iload 7, 2), (27, .iconst 3, 1), (28, .if_icmp .ge 56, 3), (31, .lload_n 1, 1), (32, .iload 7, 2), (34, .invokestatic 244, 3), (37, .ifCond .ne 6, 3), (40, .goto 38, 3), (43, .iload 6, 2), (45, .iconst (-1), 1), (46, .if_icmp .eq 28, 3), (49, .aload_n 0, 1), (50, .lload_n 1, 1), (51, .iload 7, 2), (53, .iload 6, 2), (55, .iload_n 3, 1), (56, .iload 4, 2), (58, .iconst 3, 1), (59, .if_icmp .ne 7, 3), (62, .iconst 0, 1), (63, .goto 5, 3), (66, .iload 4, 2), (68, .invokevirtual 356, 3), (71, .ifCond .eq 7, 3), (74, .iload 7, 2), (76, .istore 6, 2), (78, .iinc 7 1, 3), (81, .goto (-56), 3), (84, .iload 6, 2), (86, .ireturn, 1)]
theorem okc_209_0 : ∀ e ∈ code_209_0, decode (mB 209) e.1 = .ok (e.2.1, e.2.2) := by decide +kernel
def code_209 : List (Nat × Instr × Nat) := code_209_0
theorem okc_209 : ∀ e ∈ code_209, decode (mB 209) e.1 = .ok (e.2.1, e.2.2) := okc_209_0
def code_210_0 : List (Nat × Instr × Nat) := [(0, .iload 6, 2), (2, .ifCond .ne 35, 3), (5, .aload_n 0, 1), (6, .getfield 31, 3), (9, .iconst 3, 1), (10, .iload_n 3, 1), (11, .imul, 1), (12, .iload 5, 2), (14, .iadd, 1), (15, .iaload, 1), (16, .aload_n 0, 1), (17, .getfield 31, 3), (20, .iconst 3, 1), (21, .iload 4, 2), (23, .imul, 1), (24, .iload 5, 2), (26, .iadd, 1), (27, .iaload, 1), (28, .if_icmp .le 7, 3), (31, .iconst 1, 1), (32, .goto 4, 3), (35, .iconst 0, 1), (36, .ireturn, 1), (37, .iload 6, 2), (39, .iconst 2, 1), (40, .if_icmp .ne 28, 3), (43, .aload_n 0, 1), (44, .lload_n 1, 1), (45, .iload_n 3, 1), (46, .iload_n 3, 1), (47, .invokevirtual 251, 3), (50, .aload_n 0, 1), (51, .lload_n 1, 1), (52, .iload 4, 2), (54, .iload 4, 2), (56, .invokevirtual 251, 3), (59, .if_icmp .ge 7, 3), (62, .iconst 1, 1), (63, .goto 4, 3), (66, .iconst 0, 1), (67, .ireturn, 1), (68, .lload_n 1, 1), (69, .iload_n 3, 1), (70, .invokestatic 360, 3), (73, .lload_n 1, 1), (74, .iload 4, 2), (76, .invokestatic 360, 3), (79, .if_icmp .ge 7, 3)]
theorem okc_210_0 : ∀ e ∈ code_210_0, decode (mB 210) e.1 = .ok (e.2.1, e.2.2) := by decide +kernel
def code_210_1 : List (Nat × Instr × Nat) := [(82, .iconst 1, 1), (83, .goto 4, 3), (86, .iconst 0, 1), (87, .ireturn, 1)]
theorem okc_210_1 : ∀ e ∈ code_210_1, decode (mB 210) e.1 = .ok (e.2.1, e.2.2) := by decide +kernel
def code_210 : List (Nat × Instr × Nat) := code_210_0 ++ (code_210_1)
theorem okc_210 : ∀ e ∈ code_210, decode (mB 210) e.1 = .ok (e.2.1, e.2.2) := (memP_app okc_210_0 okc_210_1)
def code_211_0 : List (Nat × Instr × Nat) := [(0, .lload_n 0, 1), (1, .iload_n 2, 1), (2, .iconst 0, 1), (3, .invokestatic 237, 3), (6, .lload_n 0, 1), (7, .iload_n 2, 1), (8, .iconst 1, 1), (9, .invokestatic 237, 3), (12, .iadd, 1), (13, .lload_n 0, 1), (14, .iload_n 2, 1), (15, .iconst 2, 1), (16, .invokestatic 237, 3), (19, .iadd, 1), (20, .ireturn, 1)]
theorem okc_211_0 : ∀ e ∈ code_211_0, decode (mB 211) e.1 = .ok (e.2.1, e.2.2) := by decide +kernel
def code_211 : List (Nat × Instr × Nat) := code_211_0
theorem okc_211 : ∀ e ∈ code_211, decode (mB 211) e.1 = .ok (e.2.1, e.2.2) := okc_211_0
def code_212_0 : List (Nat × Instr × Nat) := [(0, .aload_n 0, 1), (1, .getfield 214, 3), (4, .ifCond .eq 19, 3), (7, .iload_n 1, 1), (8, .invokestatic 335, 3), (11, .ifCond .eq 12, 3), (14, .iload_n 2, 1), (15, .iconst 0, 1), (16, .iconst 1, 1), (17, .invokestatic 98, 3), (20, .ifCond .ne 5, 3), (23, .iconst (-1), 1), (24, .ireturn, 1), (25, .aload_n 0, 1), (26, .iload_n 1, 1), (27, .iconst 0, 1), (28, .aload_n 0, 1), (29, .getfield 224, 3), (32, .aload_n 0, 1), (33, .getfield 226, 3), (36, .invokevirtual 338, 3), (39, .lstore_n 3, 1), (40, .aload_n 0, 1), (41, .iload_n 1, 1), (42, .iconst 0, 1), (43, .iload_n 2, 1), (44, .ifCond .ne 12, 3), (47, .aload_n 0, 1), (48, .getfield 224, 3), (51, .iconst 1, 1), (52, .iadd, 1), (53, .goto 7, 3), (56, .aload_n 0, 1), (57, .getfield 224, 3), (60, .iload_n 2, 1), (61, .iconst 1, 1), (62, .if_icmp .ne 12, 3), (65, .aload_n 0, 1), (66, .getfield 226, 3), (69, .iconst 1, 1), (70, .iadd, 1), (71, .goto 7, 3), (74, .aload_n 0, 1), (75, .getfield 226, 3), (78, .invokevirtual 338, 3), (81, .lload_n 3, 1), (82, .lsub, 1), (83, .l2i, 1)]
theorem okc_212_0 : ∀ e ∈ code_212_0, decode (mB 212) e.1 = .ok (e.2.1, e.2.2) := by decide +kernel
def code_212_1 : List (Nat × Instr × Nat) := [(84, .ireturn, 1)]
theorem okc_212_1 : ∀ e ∈ code_212_1, decode (mB 212) e.1 = .ok (e.2.1, e.2.2) := by decide +kernel
def code_212 : List (Nat × Instr × Nat) := code_212_0 ++ (code_212_1)
theorem okc_212 : ∀ e ∈ code_212, decode (mB 212) e.1 = .ok (e.2.1, e.2.2) := (memP_app okc_212_0 okc_212_1)
end
section
/-! CODE of the methods, by number: pc, instruction, length (printed of the program). -/
def code_213_0 : List (Nat × Instr × Nat) := [(0, .aload_n 0, 1), (1, .iload_n 1, 1), (2, .invokevirtual 332, 3), (5, .ifCond .eq 12, 3), (8, .iload_n 2, 1), (9, .iconst 0, 1), (10, .iconst 2, 1), (11, .invokestatic 98, 3), (14, .ifCond .ne 5, 3), (17, .iconst (-1), 1), (18, .ireturn, 1), (19, .iconst 0, 1), (20, .istore_n 3, 1), (21, .aload_n 0, 1), (22, .getfield 231, 3), (25, .istore 4, 2), (27, .iload 4, 2), (29, .aload_n 0, 1), (30, .getfield 221, 3), (33, .if_icmp .ge 67, 3), (36, .iconst 0, 1), (37, .istore 5, 2), (39, .iload 5, 2), (41, .aload_n 0, 1), (42, .getfield 34, 3), (45, .iload 4, 2), (47, .iaload, 1), (48, .if_icmp .ge 46, 3), (51, .aload_n 0, 1), (52, .iload 4, 2), (54, .iload 5, 2), (56, .iconst 1, 1), (57, .invokevirtual 304, 3), (60, .ifCond .ne 28, 3), (63, .aload_n 0, 1), (64, .iload 4, 2), (66, .iload 5, 2), (68, .iconst 2, 1), (69, .invokevirtual 304, 3), (72, .iload_n 2, 1), (73, .if_icmp .ne 15, 3), (76, .iload_n 3, 1), (77, .aload_n 0, 1), (78, .iload 4, 2), (80, .iload 5, 2), (82, .iconst 0, 1), (83, .invokevirtual 304, 3), (86, .iadd, 1)]
theorem okc_213_0 : ∀ e ∈ code_213_0, decode (mB 213) e.1 = .ok (e.2.1, e.2.2) := by decide +kernel
def code_213_1 : List (Nat × Instr × Nat) := [(87, .istore_n 3, 1), (88, .iinc 5 1, 3), (91, .goto (-52), 3), (94, .iinc 4 1, 3), (97, .goto (-70), 3), (100, .iload_n 3, 1), (101, .aload_n 0, 1), (102, .getfield 31, 3), (105, .iconst 3, 1), (106, .iload_n 1, 1), (107, .imul, 1), (108, .iload_n 2, 1), (109, .iadd, 1), (110, .iaload, 1), (111, .imul, 1), (112, .ireturn, 1)]
theorem okc_213_1 : ∀ e ∈ code_213_1, decode (mB 213) e.1 = .ok (e.2.1, e.2.2) := by decide +kernel
def code_213 : List (Nat × Instr × Nat) := code_213_0 ++ (code_213_1)
theorem okc_213 : ∀ e ∈ code_213, decode (mB 213) e.1 = .ok (e.2.1, e.2.2) := (memP_app okc_213_0 okc_213_1)
def code_214_0 : List (Nat × Instr × Nat) := [(0, .aload_n 0, 1), (1, .getfield 214, 3), (4, .ifCond .eq 27, 3), (7, .aload_n 0, 1), (8, .getfield 40, 3), (11, .iconst (-1), 1), (12, .if_icmp .ne 19, 3), (15, .aload_n 0, 1), (16, .iload_n 1, 1), (17, .invokevirtual 349, 3), (20, .ifCond .eq 11, 3), (23, .aload_n 0, 1), (24, .iload_n 2, 1), (25, .invokevirtual 346, 3), (28, .ifCond .ne 6, 3), (31, .bipush 9, 2), (33, .ireturn, 1), (34, .aload_n 0, 1), (35, .getfield 228, 3), (38, .lstore_n 3, 1), (39, .iconst 0, 1), (40, .istore 5, 2), (42, .iload 5, 2), (44, .aload_n 0, 1), (45, .getfield 221, 3), (48, .aload_n 0, 1), (49, .getfield 231, 3), (52, .isub, 1), (53, .if_icmp .ge 129, 3), (56, .iload_n 1, 1), (57, .iconst 2, 1), (58, .iload 5, 2), (60, .imul, 1), (61, .ishr, 1), (62, .iconst 3, 1), (63, .iand, 1), (64, .istore 6, 2), (66, .iload_n 2, 1), (67, .iconst 2, 1), (68, .iload 5, 2), (70, .imul, 1), (71, .ishr, 1), (72, .iconst 3, 1), (73, .iand, 1), (74, .istore 7, 2), (76, .aload_n 0, 1), (77, .aload_n 0, 1), (78, .getfield 231, 3)]
theorem okc_214_0 : ∀ e ∈ code_214_0, decode (mB 214) e.1 = .ok (e.2.1, e.2.2) := by decide +kernel
def code_214_1 : List (Nat × Instr × Nat) := [(81, .iload 5, 2), (83, .iadd, 1), (84, .iload 6, 2), (86, .iconst 1, 1), (87, .invokevirtual 304, 3), (90, .istore 8, 2), (92, .iload 8, 2), (94, .ifCond .ne 19, 3), (97, .lload_n 3, 1), (98, .iload 7, 2), (100, .aload_n 0, 1), (101, .getfield 224, 3), (104, .invokestatic 300, 3), (107, .ifCond .ne 14, 3), (110, .goto 8, 3), (113, .iload 7, 2), (115, .ifCond .eq 6, 3), (118, .iload 5, 2), (120, .ireturn, 1), (121, .iload 8, 2), (123, .iconst 1, 1), (124, .if_icmp .ne 25, 3), (127, .lload_n 3, 1), (128, .lconst 1, 1), (129, .bipush 36, 2), (131, .aload_n 0, 1), (132, .aload_n 0, 1), (133, .getfield 231, 3), (136, .iload 5, 2), (138, .iadd, 1), (139, .iload 6, 2), (141, .iconst 2, 1), (142, .invokevirtual 304, 3), (145, .iadd, 1), (146, .lshl, 1), (147, .lor, 1), (148, .lstore_n 3, 1), (149, .iload 8, 2), (151, .ifCond .ne 25, 3), (154, .lload_n 3, 1), (155, .iload 7, 2), (157, .aload_n 0, 1), (158, .aload_n 0, 1), (159, .getfield 231, 3), (162, .iload 5, 2), (164, .iadd, 1), (165, .iload 6, 2), (167, .iconst 2, 1)]
theorem okc_214_1 : ∀ e ∈ code_214_1, decode (mB 214) e.1 = .ok (e.2.1, e.2.2) := by decide +kernel
def code_214_2 : List (Nat × Instr × Nat) := [(168, .invokevirtual 304, 3), (171, .invokestatic 254, 3), (174, .ladd, 1), (175, .lstore_n 3, 1), (176, .iinc 5 1, 3), (179, .goto (-137), 3), (182, .aload_n 0, 1), (183, .lload_n 3, 1), (184, .putfield 367, 3), (187, .iconst (-1), 1), (188, .ireturn, 1)]
theorem okc_214_2 : ∀ e ∈ code_214_2, decode (mB 214) e.1 = .ok (e.2.1, e.2.2) := by decide +kernel
def code_214 : List (Nat × Instr × Nat) := code_214_0 ++ (code_214_1 ++ (code_214_2))
theorem okc_214 : ∀ e ∈ code_214, decode (mB 214) e.1 = .ok (e.2.1, e.2.2) := (memP_app okc_214_0 (memP_app okc_214_1 okc_214_2))
def code_215_0 : List (Nat × Instr × Nat) := [(0, .iload_n 1, 1), (1, .invokestatic 335, 3), (4, .ifCond .eq 29, 3), (7, .aload_n 0, 1), (8, .iload_n 2, 1), (9, .iload_n 3, 1), (10, .invokevirtual 370, 3), (13, .iconst (-1), 1), (14, .if_icmp .ne 19, 3), (17, .aload_n 0, 1), (18, .aload_n 0, 1), (19, .getfield 367, 3), (22, .iload_n 1, 1), (23, .aload_n 0, 1), (24, .getfield 226, 3), (27, .invokevirtual 322, 3), (30, .goto 6, 3), (33, .ldc_w 279, 3), (36, .ireturn, 1)]
theorem okc_215_0 : ∀ e ∈ code_215_0, decode (mB 215) e.1 = .ok (e.2.1, e.2.2) := by decide +kernel
def code_215 : List (Nat × Instr × Nat) := code_215_0
theorem okc_215 : ∀ e ∈ code_215, decode (mB 215) e.1 = .ok (e.2.1, e.2.2) := okc_215_0
def code_216_0 : List (Nat × Instr × Nat) := [(0, .aload_n 0, 1), (1, .getfield 214, 3), (4, .ifCond .eq 12, 3), (7, .iload_n 1, 1), (8, .iconst 0, 1), (9, .iconst 3, 1), (10, .invokestatic 98, 3), (13, .ifCond .ne 5, 3), (16, .iconst 0, 1), (17, .ireturn, 1), (18, .aload_n 0, 1), (19, .getfield 44, 3), (22, .iload_n 1, 1), (23, .aload_n 0, 1), (24, .getfield 228, 3), (27, .lastore, 1), (28, .aload_n 0, 1), (29, .getfield 47, 3), (32, .iload_n 1, 1), (33, .aload_n 0, 1), (34, .getfield 231, 3), (37, .iastore, 1), (38, .aload_n 0, 1), (39, .getfield 50, 3), (42, .iload_n 1, 1), (43, .aload_n 0, 1), (44, .getfield 40, 3), (47, .iastore, 1), (48, .aload_n 0, 1), (49, .getfield 53, 3), (52, .iload_n 1, 1), (53, .iconst 1, 1), (54, .bastore, 1), (55, .iconst 1, 1), (56, .ireturn, 1)]
theorem okc_216_0 : ∀ e ∈ code_216_0, decode (mB 216) e.1 = .ok (e.2.1, e.2.2) := by decide +kernel
def code_216 : List (Nat × Instr × Nat) := code_216_0
theorem okc_216 : ∀ e ∈ code_216, decode (mB 216) e.1 = .ok (e.2.1, e.2.2) := okc_216_0
def code_217_0 : List (Nat × Instr × Nat) := [(0, .iload_n 1, 1), (1, .iconst 0, 1), (2, .iconst 3, 1), (3, .invokestatic 98, 3), (6, .ifCond .eq 12, 3), (9, .aload_n 0, 1), (10, .getfield 53, 3), (13, .iload_n 1, 1), (14, .baload, 1), (15, .ifCond .ne 5, 3), (18, .iconst 0, 1), (19, .ireturn, 1), (20, .aload_n 0, 1), (21, .aload_n 0, 1), (22, .getfield 44, 3), (25, .iload_n 1, 1), (26, .laload, 1), (27, .putfield 228, 3), (30, .aload_n 0, 1), (31, .aload_n 0, 1), (32, .getfield 47, 3), (35, .iload_n 1, 1), (36, .iaload, 1), (37, .putfield 231, 3), (40, .aload_n 0, 1), (41, .aload_n 0, 1), (42, .getfield 50, 3), (45, .iload_n 1, 1), (46, .iaload, 1), (47, .putfield 40, 3), (50, .iconst 1, 1), (51, .ireturn, 1)]
theorem okc_217_0 : ∀ e ∈ code_217_0, decode (mB 217) e.1 = .ok (e.2.1, e.2.2) := by decide +kernel
def code_217 : List (Nat × Instr × Nat) := code_217_0
theorem okc_217 : ∀ e ∈ code_217, decode (mB 217) e.1 = .ok (e.2.1, e.2.2) := okc_217_0
def code_218_0 : List (Nat × Instr × Nat) := [(0, .iload_n 1, 1), (1, .tableswitch 106 0 8 #[51, 56, 61, 66, 78, 86, 91, 96, 101], 51), (52, .aload_n 0, 1), (53, .getfield 218, 3), (56, .ireturn, 1), (57, .aload_n 0, 1), (58, .getfield 221, 3), (61, .ireturn, 1), (62, .aload_n 0, 1), (63, .getfield 231, 3), (66, .ireturn, 1), (67, .aload_n 0, 1), (68, .getfield 228, 3), (71, .bipush 36, 2), (73, .lshr, 1), (74, .l2i, 1), (75, .bipush 7, 2), (77, .iand, 1), (78, .ireturn, 1), (79, .aload_n 0, 1), (80, .getfield 228, 3), (83, .invokestatic 241, 3), (86, .ireturn, 1), (87, .aload_n 0, 1), (88, .getfield 40, 3), (91, .ireturn, 1), (92, .aload_n 0, 1), (93, .getfield 224, 3), (96, .ireturn, 1), (97, .aload_n 0, 1), (98, .getfield 226, 3), (101, .ireturn, 1), (102, .aload_n 0, 1), (103, .getfield 95, 3), (106, .ireturn, 1), (107, .iconst (-1), 1), (108, .ireturn, 1)]
theorem okc_218_0 : ∀ e ∈ code_218_0, decode (mB 218) e.1 = .ok (e.2.1, e.2.2) := by decide +kernel
def code_218 : List (Nat × Instr × Nat) := code_218_0
theorem okc_218 : ∀ e ∈ code_218, decode (mB 218) e.1 = .ok (e.2.1, e.2.2) := okc_218_0
def code_219_0 : List (Nat × Instr × Nat) := [(0, .new 7, 3), (3, .dup, 1), (4, .invokespecial 9, 3), (7, .astore_n 1, 1), (8, .new 10, 3), (11, .dup, 1), (12, .invokespecial 12, 3), (15, .astore_n 2, 1), (16, .iconst 0, 1), (17, .istore_n 3, 1), (18, .iload_n 3, 1), (19, .aload_n 0, 1), (20, .arraylength, 1), (21, .bipush 6, 2), (23, .isub, 1), (24, .if_icmp .gt 832, 3), (27, .aload_n 0, 1), (28, .iload_n 3, 1), (29, .iaload, 1), (30, .bipush 31, 2), (32, .iand, 1), (33, .tableswitch 817 0 21 #[103, 166, 189, 202, 215, 248, 291, 314, 337, 360, 409, 458, 491, 524, 547, 606, 639, 672, 705, 748, 771, 794], 103), (136, .aload_n 1, 1), (137, .aload_n 0, 1), (138, .iload_n 3, 1), (139, .iconst 1, 1), (140, .iadd, 1), (141, .iaload, 1), (142, .aload_n 0, 1), (143, .iload_n 3, 1), (144, .iconst 2, 1), (145, .iadd, 1), (146, .iaload, 1), (147, .aload_n 0, 1), (148, .iload_n 3, 1), (149, .iconst 3, 1), (150, .iadd, 1), (151, .iaload, 1), (152, .aload_n 0, 1), (153, .iload_n 3, 1), (154, .iconst 4, 1), (155, .iadd, 1), (156, .iaload, 1), (157, .aload_n 0, 1), (158, .iload_n 3, 1), (159, .iconst 5, 1), (160, .iadd, 1), (161, .iaload, 1)]
theorem okc_219_0 : ∀ e ∈ code_219_0, decode (mB 219) e.1 = .ok (e.2.1, e.2.2) := by decide +kernel
def code_219_1 : List (Nat × Instr × Nat) := [(162, .invokevirtual 13, 3), (165, .aload_n 2, 1), (166, .aload_n 0, 1), (167, .iload_n 3, 1), (168, .iconst 1, 1), (169, .iadd, 1), (170, .iaload, 1), (171, .aload_n 0, 1), (172, .iload_n 3, 1), (173, .iconst 2, 1), (174, .iadd, 1), (175, .iaload, 1), (176, .aload_n 0, 1), (177, .iload_n 3, 1), (178, .iconst 3, 1), (179, .iadd, 1), (180, .iaload, 1), (181, .aload_n 0, 1), (182, .iload_n 3, 1), (183, .iconst 4, 1), (184, .iadd, 1), (185, .iaload, 1), (186, .aload_n 0, 1), (187, .iload_n 3, 1), (188, .iconst 5, 1), (189, .iadd, 1), (190, .iaload, 1), (191, .invokevirtual 17, 3), (194, .if_icmp .eq 656, 3), (197, .iconst 0, 1), (198, .ireturn, 1), (199, .aload_n 1, 1), (200, .aload_n 0, 1), (201, .iload_n 3, 1), (202, .iconst 1, 1), (203, .iadd, 1), (204, .iaload, 1), (205, .invokevirtual 18, 3), (208, .aload_n 2, 1), (209, .aload_n 0, 1), (210, .iload_n 3, 1), (211, .iconst 1, 1), (212, .iadd, 1), (213, .iaload, 1), (214, .invokevirtual 22, 3), (217, .if_icmp .eq 633, 3), (220, .iconst 0, 1), (221, .ireturn, 1)]
theorem okc_219_1 : ∀ e ∈ code_219_1, decode (mB 219) e.1 = .ok (e.2.1, e.2.2) := by decide +kernel
def code_219_2 : List (Nat × Instr × Nat) := [(222, .aload_n 1, 1), (223, .invokevirtual 23, 3), (226, .aload_n 2, 1), (227, .invokevirtual 27, 3), (230, .if_icmp .eq 620, 3), (233, .iconst 0, 1), (234, .ireturn, 1), (235, .aload_n 1, 1), (236, .invokevirtual 28, 3), (239, .aload_n 2, 1), (240, .invokevirtual 31, 3), (243, .if_icmp .eq 607, 3), (246, .iconst 0, 1), (247, .ireturn, 1), (248, .aload_n 1, 1), (249, .aload_n 0, 1), (250, .iload_n 3, 1), (251, .iconst 1, 1), (252, .iadd, 1), (253, .iaload, 1), (254, .aload_n 0, 1), (255, .iload_n 3, 1), (256, .iconst 2, 1), (257, .iadd, 1), (258, .iaload, 1), (259, .invokevirtual 32, 3), (262, .aload_n 2, 1), (263, .aload_n 0, 1), (264, .iload_n 3, 1), (265, .iconst 1, 1), (266, .iadd, 1), (267, .iaload, 1), (268, .aload_n 0, 1), (269, .iload_n 3, 1), (270, .iconst 2, 1), (271, .iadd, 1), (272, .iaload, 1), (273, .invokevirtual 36, 3), (276, .if_icmp .eq 574, 3), (279, .iconst 0, 1), (280, .ireturn, 1), (281, .aload_n 1, 1), (282, .aload_n 0, 1), (283, .iload_n 3, 1), (284, .iconst 1, 1), (285, .iadd, 1), (286, .iaload, 1), (287, .aload_n 0, 1)]
theorem okc_219_2 : ∀ e ∈ code_219_2, decode (mB 219) e.1 = .ok (e.2.1, e.2.2) := by decide +kernel
def code_219_3 : List (Nat × Instr × Nat) := [(288, .iload_n 3, 1), (289, .iconst 2, 1), (290, .iadd, 1), (291, .iaload, 1), (292, .aload_n 0, 1), (293, .iload_n 3, 1), (294, .iconst 3, 1), (295, .iadd, 1), (296, .iaload, 1), (297, .invokevirtual 37, 3), (300, .aload_n 2, 1), (301, .aload_n 0, 1), (302, .iload_n 3, 1), (303, .iconst 1, 1), (304, .iadd, 1), (305, .iaload, 1), (306, .aload_n 0, 1), (307, .iload_n 3, 1), (308, .iconst 2, 1), (309, .iadd, 1), (310, .iaload, 1), (311, .aload_n 0, 1), (312, .iload_n 3, 1), (313, .iconst 3, 1), (314, .iadd, 1), (315, .iaload, 1), (316, .invokevirtual 41, 3), (319, .if_icmp .eq 531, 3), (322, .iconst 0, 1), (323, .ireturn, 1), (324, .aload_n 1, 1), (325, .aload_n 0, 1), (326, .iload_n 3, 1), (327, .iconst 1, 1), (328, .iadd, 1), (329, .iaload, 1), (330, .invokevirtual 42, 3), (333, .aload_n 2, 1), (334, .aload_n 0, 1), (335, .iload_n 3, 1), (336, .iconst 1, 1), (337, .iadd, 1), (338, .iaload, 1), (339, .invokevirtual 46, 3), (342, .if_icmp .eq 508, 3), (345, .iconst 0, 1), (346, .ireturn, 1), (347, .aload_n 1, 1)]
theorem okc_219_3 : ∀ e ∈ code_219_3, decode (mB 219) e.1 = .ok (e.2.1, e.2.2) := by decide +kernel
def code_219_4 : List (Nat × Instr × Nat) := [(348, .aload_n 0, 1), (349, .iload_n 3, 1), (350, .iconst 1, 1), (351, .iadd, 1), (352, .iaload, 1), (353, .invokevirtual 47, 3), (356, .aload_n 2, 1), (357, .aload_n 0, 1), (358, .iload_n 3, 1), (359, .iconst 1, 1), (360, .iadd, 1), (361, .iaload, 1), (362, .invokevirtual 50, 3), (365, .if_icmp .eq 485, 3), (368, .iconst 0, 1), (369, .ireturn, 1), (370, .aload_n 1, 1), (371, .aload_n 0, 1), (372, .iload_n 3, 1), (373, .iconst 1, 1), (374, .iadd, 1), (375, .iaload, 1), (376, .invokevirtual 51, 3), (379, .aload_n 2, 1), (380, .aload_n 0, 1), (381, .iload_n 3, 1), (382, .iconst 1, 1), (383, .iadd, 1), (384, .iaload, 1), (385, .invokevirtual 54, 3), (388, .if_icmp .eq 462, 3), (391, .iconst 0, 1), (392, .ireturn, 1), (393, .aload_n 1, 1), (394, .aload_n 0, 1), (395, .iload_n 3, 1), (396, .iconst 1, 1), (397, .iadd, 1), (398, .iaload, 1), (399, .aload_n 0, 1), (400, .iload_n 3, 1), (401, .iconst 2, 1), (402, .iadd, 1), (403, .iaload, 1), (404, .ifCond .eq 7, 3), (407, .iconst 1, 1), (408, .goto 4, 3), (411, .iconst 0, 1)]
theorem okc_219_4 : ∀ e ∈ code_219_4, decode (mB 219) e.1 = .ok (e.2.1, e.2.2) := by decide +kernel
def code_219_5 : List (Nat × Instr × Nat) := [(412, .invokevirtual 55, 3), (415, .aload_n 2, 1), (416, .aload_n 0, 1), (417, .iload_n 3, 1), (418, .iconst 1, 1), (419, .iadd, 1), (420, .iaload, 1), (421, .aload_n 0, 1), (422, .iload_n 3, 1), (423, .iconst 2, 1), (424, .iadd, 1), (425, .iaload, 1), (426, .ifCond .eq 7, 3), (429, .iconst 1, 1), (430, .goto 4, 3), (433, .iconst 0, 1), (434, .invokevirtual 59, 3), (437, .if_icmp .eq 413, 3), (440, .iconst 0, 1), (441, .ireturn, 1), (442, .aload_n 1, 1), (443, .aload_n 0, 1), (444, .iload_n 3, 1), (445, .iconst 1, 1), (446, .iadd, 1), (447, .iaload, 1), (448, .aload_n 0, 1), (449, .iload_n 3, 1), (450, .iconst 2, 1), (451, .iadd, 1), (452, .iaload, 1), (453, .ifCond .eq 7, 3), (456, .iconst 1, 1), (457, .goto 4, 3), (460, .iconst 0, 1), (461, .invokevirtual 60, 3), (464, .aload_n 2, 1), (465, .aload_n 0, 1), (466, .iload_n 3, 1), (467, .iconst 1, 1), (468, .iadd, 1), (469, .iaload, 1), (470, .aload_n 0, 1), (471, .iload_n 3, 1), (472, .iconst 2, 1), (473, .iadd, 1), (474, .iaload, 1), (475, .ifCond .eq 7, 3)]
theorem okc_219_5 : ∀ e ∈ code_219_5, decode (mB 219) e.1 = .ok (e.2.1, e.2.2) := by decide +kernel
def code_219_6 : List (Nat × Instr × Nat) := [(478, .iconst 1, 1), (479, .goto 4, 3), (482, .iconst 0, 1), (483, .invokevirtual 63, 3), (486, .if_icmp .eq 364, 3), (489, .iconst 0, 1), (490, .ireturn, 1), (491, .aload_n 1, 1), (492, .aload_n 0, 1), (493, .iload_n 3, 1), (494, .iconst 1, 1), (495, .iadd, 1), (496, .iaload, 1), (497, .aload_n 0, 1), (498, .iload_n 3, 1), (499, .iconst 2, 1), (500, .iadd, 1), (501, .iaload, 1), (502, .invokevirtual 64, 3), (505, .aload_n 2, 1), (506, .aload_n 0, 1), (507, .iload_n 3, 1), (508, .iconst 1, 1), (509, .iadd, 1), (510, .iaload, 1), (511, .aload_n 0, 1), (512, .iload_n 3, 1), (513, .iconst 2, 1), (514, .iadd, 1), (515, .iaload, 1), (516, .invokevirtual 67, 3), (519, .if_icmp .eq 331, 3), (522, .iconst 0, 1), (523, .ireturn, 1), (524, .aload_n 1, 1), (525, .aload_n 0, 1), (526, .iload_n 3, 1), (527, .iconst 1, 1), (528, .iadd, 1), (529, .iaload, 1), (530, .aload_n 0, 1), (531, .iload_n 3, 1), (532, .iconst 2, 1), (533, .iadd, 1), (534, .iaload, 1), (535, .invokevirtual 68, 3), (538, .aload_n 2, 1), (539, .aload_n 0, 1)]
theorem okc_219_6 : ∀ e ∈ code_219_6, decode (mB 219) e.1 = .ok (e.2.1, e.2.2) := by decide +kernel
def code_219_7 : List (Nat × Instr × Nat) := [(540, .iload_n 3, 1), (541, .iconst 1, 1), (542, .iadd, 1), (543, .iaload, 1), (544, .aload_n 0, 1), (545, .iload_n 3, 1), (546, .iconst 2, 1), (547, .iadd, 1), (548, .iaload, 1), (549, .invokevirtual 71, 3), (552, .if_icmp .eq 298, 3), (555, .iconst 0, 1), (556, .ireturn, 1), (557, .aload_n 1, 1), (558, .aload_n 0, 1), (559, .iload_n 3, 1), (560, .iconst 1, 1), (561, .iadd, 1), (562, .iaload, 1), (563, .invokevirtual 72, 3), (566, .aload_n 2, 1), (567, .aload_n 0, 1), (568, .iload_n 3, 1), (569, .iconst 1, 1), (570, .iadd, 1), (571, .iaload, 1), (572, .invokevirtual 75, 3), (575, .if_icmp .eq 275, 3), (578, .iconst 0, 1), (579, .ireturn, 1), (580, .aload_n 1, 1), (581, .aload_n 0, 1), (582, .iload_n 3, 1), (583, .iconst 1, 1), (584, .iadd, 1), (585, .iaload, 1), (586, .aload_n 0, 1), (587, .iload_n 3, 1), (588, .iconst 2, 1), (589, .iadd, 1), (590, .iaload, 1), (591, .aload_n 0, 1), (592, .iload_n 3, 1), (593, .iconst 3, 1), (594, .iadd, 1), (595, .iaload, 1), (596, .ifCond .eq 7, 3), (599, .iconst 1, 1)]
theorem okc_219_7 : ∀ e ∈ code_219_7, decode (mB 219) e.1 = .ok (e.2.1, e.2.2) := by decide +kernel
def code_219_8 : List (Nat × Instr × Nat) := [(600, .goto 4, 3), (603, .iconst 0, 1), (604, .invokevirtual 76, 3), (607, .aload_n 2, 1), (608, .aload_n 0, 1), (609, .iload_n 3, 1), (610, .iconst 1, 1), (611, .iadd, 1), (612, .iaload, 1), (613, .aload_n 0, 1), (614, .iload_n 3, 1), (615, .iconst 2, 1), (616, .iadd, 1), (617, .iaload, 1), (618, .aload_n 0, 1), (619, .iload_n 3, 1), (620, .iconst 3, 1), (621, .iadd, 1), (622, .iaload, 1), (623, .ifCond .eq 7, 3), (626, .iconst 1, 1), (627, .goto 4, 3), (630, .iconst 0, 1), (631, .invokevirtual 80, 3), (634, .if_icmp .eq 216, 3), (637, .iconst 0, 1), (638, .ireturn, 1), (639, .aload_n 1, 1), (640, .aload_n 0, 1), (641, .iload_n 3, 1), (642, .iconst 1, 1), (643, .iadd, 1), (644, .iaload, 1), (645, .aload_n 0, 1), (646, .iload_n 3, 1), (647, .iconst 2, 1), (648, .iadd, 1), (649, .iaload, 1), (650, .invokevirtual 81, 3), (653, .aload_n 2, 1), (654, .aload_n 0, 1), (655, .iload_n 3, 1), (656, .iconst 1, 1), (657, .iadd, 1), (658, .iaload, 1), (659, .aload_n 0, 1), (660, .iload_n 3, 1), (661, .iconst 2, 1)]
theorem okc_219_8 : ∀ e ∈ code_219_8, decode (mB 219) e.1 = .ok (e.2.1, e.2.2) := by decide +kernel
def code_219_9 : List (Nat × Instr × Nat) := [(662, .iadd, 1), (663, .iaload, 1), (664, .invokevirtual 84, 3), (667, .if_icmp .eq 183, 3), (670, .iconst 0, 1), (671, .ireturn, 1), (672, .aload_n 1, 1), (673, .aload_n 0, 1), (674, .iload_n 3, 1), (675, .iconst 1, 1), (676, .iadd, 1), (677, .iaload, 1), (678, .aload_n 0, 1), (679, .iload_n 3, 1), (680, .iconst 2, 1), (681, .iadd, 1), (682, .iaload, 1), (683, .invokevirtual 85, 3), (686, .aload_n 2, 1), (687, .aload_n 0, 1), (688, .iload_n 3, 1), (689, .iconst 1, 1), (690, .iadd, 1), (691, .iaload, 1), (692, .aload_n 0, 1), (693, .iload_n 3, 1), (694, .iconst 2, 1), (695, .iadd, 1), (696, .iaload, 1), (697, .invokevirtual 88, 3), (700, .if_icmp .eq 150, 3), (703, .iconst 0, 1), (704, .ireturn, 1), (705, .aload_n 1, 1), (706, .aload_n 0, 1), (707, .iload_n 3, 1), (708, .iconst 1, 1), (709, .iadd, 1), (710, .iaload, 1), (711, .aload_n 0, 1), (712, .iload_n 3, 1), (713, .iconst 2, 1), (714, .iadd, 1), (715, .iaload, 1), (716, .invokevirtual 89, 3), (719, .aload_n 2, 1), (720, .aload_n 0, 1), (721, .iload_n 3, 1)]
theorem okc_219_9 : ∀ e ∈ code_219_9, decode (mB 219) e.1 = .ok (e.2.1, e.2.2) := by decide +kernel
def code_219_10 : List (Nat × Instr × Nat) := [(722, .iconst 1, 1), (723, .iadd, 1), (724, .iaload, 1), (725, .aload_n 0, 1), (726, .iload_n 3, 1), (727, .iconst 2, 1), (728, .iadd, 1), (729, .iaload, 1), (730, .invokevirtual 92, 3), (733, .if_icmp .eq 117, 3), (736, .iconst 0, 1), (737, .ireturn, 1), (738, .aload_n 1, 1), (739, .aload_n 0, 1), (740, .iload_n 3, 1), (741, .iconst 1, 1), (742, .iadd, 1), (743, .iaload, 1), (744, .aload_n 0, 1), (745, .iload_n 3, 1), (746, .iconst 2, 1), (747, .iadd, 1), (748, .iaload, 1), (749, .aload_n 0, 1), (750, .iload_n 3, 1), (751, .iconst 3, 1), (752, .iadd, 1), (753, .iaload, 1), (754, .invokevirtual 93, 3), (757, .aload_n 2, 1), (758, .aload_n 0, 1), (759, .iload_n 3, 1), (760, .iconst 1, 1), (761, .iadd, 1), (762, .iaload, 1), (763, .aload_n 0, 1), (764, .iload_n 3, 1), (765, .iconst 2, 1), (766, .iadd, 1), (767, .iaload, 1), (768, .aload_n 0, 1), (769, .iload_n 3, 1), (770, .iconst 3, 1), (771, .iadd, 1), (772, .iaload, 1), (773, .invokevirtual 96, 3), (776, .if_icmp .eq 74, 3), (779, .iconst 0, 1)]
theorem okc_219_10 : ∀ e ∈ code_219_10, decode (mB 219) e.1 = .ok (e.2.1, e.2.2) := by decide +kernel
def code_219_11 : List (Nat × Instr × Nat) := [(780, .ireturn, 1), (781, .aload_n 1, 1), (782, .aload_n 0, 1), (783, .iload_n 3, 1), (784, .iconst 1, 1), (785, .iadd, 1), (786, .iaload, 1), (787, .invokevirtual 97, 3), (790, .aload_n 2, 1), (791, .aload_n 0, 1), (792, .iload_n 3, 1), (793, .iconst 1, 1), (794, .iadd, 1), (795, .iaload, 1), (796, .invokevirtual 100, 3), (799, .if_icmp .eq 51, 3), (802, .iconst 0, 1), (803, .ireturn, 1), (804, .aload_n 1, 1), (805, .aload_n 0, 1), (806, .iload_n 3, 1), (807, .iconst 1, 1), (808, .iadd, 1), (809, .iaload, 1), (810, .invokevirtual 101, 3), (813, .aload_n 2, 1), (814, .aload_n 0, 1), (815, .iload_n 3, 1), (816, .iconst 1, 1), (817, .iadd, 1), (818, .iaload, 1), (819, .invokevirtual 104, 3), (822, .if_icmp .eq 28, 3), (825, .iconst 0, 1), (826, .ireturn, 1), (827, .aload_n 1, 1), (828, .aload_n 0, 1), (829, .iload_n 3, 1), (830, .iconst 1, 1), (831, .iadd, 1), (832, .iaload, 1), (833, .invokevirtual 105, 3), (836, .aload_n 2, 1), (837, .aload_n 0, 1), (838, .iload_n 3, 1), (839, .iconst 1, 1), (840, .iadd, 1), (841, .iaload, 1)]
theorem okc_219_11 : ∀ e ∈ code_219_11, decode (mB 219) e.1 = .ok (e.2.1, e.2.2) := by decide +kernel
def code_219_12 : List (Nat × Instr × Nat) := [(842, .invokevirtual 108, 3), (845, .if_icmp .eq 5, 3), (848, .iconst 0, 1), (849, .ireturn, 1), (850, .iinc 3 6, 3), (853, .goto (-835), 3), (856, .iconst 1, 1), (857, .ireturn, 1)]
theorem okc_219_12 : ∀ e ∈ code_219_12, decode (mB 219) e.1 = .ok (e.2.1, e.2.2) := by decide +kernel
def code_219 : List (Nat × Instr × Nat) := code_219_0 ++ (code_219_1 ++ (code_219_2 ++ (code_219_3 ++ (code_219_4 ++ (code_219_5 ++ (code_219_6 ++ (code_219_7 ++ (code_219_8 ++ (code_219_9 ++ (code_219_10 ++ (code_219_11 ++ (code_219_12))))))))))))
theorem okc_219 : ∀ e ∈ code_219, decode (mB 219) e.1 = .ok (e.2.1, e.2.2) := (memP_app okc_219_0 (memP_app okc_219_1 (memP_app okc_219_2 (memP_app okc_219_3 (memP_app okc_219_4 (memP_app okc_219_5 (memP_app okc_219_6 (memP_app okc_219_7 (memP_app okc_219_8 (memP_app okc_219_9 (memP_app okc_219_10 (memP_app okc_219_11 okc_219_12))))))))))))
end
section
/-! CODE of the methods, by number: pc, instruction, length (printed of the program). -/
def ctab_0 : List (List (Nat × Instr × Nat)) := [code_0, code_1, code_2, code_3, code_4, code_5, code_6, code_7, code_8, code_9, code_10, code_11, code_12, code_13, code_14, code_15]
def ctab_1 : List (List (Nat × Instr × Nat)) := [code_16, code_17, code_18, code_19, code_20, code_21, code_22, code_23, code_24, code_25, code_26, code_27, code_28, code_29, code_30, code_31]
def ctab_2 : List (List (Nat × Instr × Nat)) := [code_32, code_33, code_34, code_35, code_36, code_37, code_38, code_39, code_40, code_41, code_42, code_43, code_44, code_45, code_46, code_47]
def ctab_3 : List (List (Nat × Instr × Nat)) := [code_48, code_49, code_50, code_51, code_52, code_53, code_54, code_55, code_56, code_57, code_58, code_59, code_60, code_61, code_62, code_63]
def ctab_4 : List (List (Nat × Instr × Nat)) := [code_64, code_65, code_66, code_67, code_68, code_69, code_70, code_71, code_72, code_73, code_74, code_75, code_76, code_77, code_78, code_79]
def ctab_5 : List (List (Nat × Instr × Nat)) := [code_80, code_81, code_82, code_83, code_84, code_85, code_86, code_87, code_88, code_89, code_90, code_91, code_92, code_93, code_94, code_95]
def ctab_6 : List (List (Nat × Instr × Nat)) := [code_96, code_97, code_98, code_99, code_100, code_101, code_102, code_103, code_104, code_105, code_106, code_107, code_108, code_109, code_110, code_111]
def ctab_7 : List (List (Nat × Instr × Nat)) := [code_112, code_113, code_114, code_115, code_116, code_117, code_118, code_119, code_120, code_121, code_122, code_123, code_124, code_125, code_126, code_127]
def ctab_8 : List (List (Nat × Instr × Nat)) := [code_128, code_129, code_130, code_131, code_132, code_133, code_134, code_135, code_136, code_137, code_138, code_139, code_140, code_141, code_142, code_143]
def ctab_9 : List (List (Nat × Instr × Nat)) := [code_144, code_145, code_146, code_147, code_148, code_149, code_150, code_151, code_152, code_153, code_154, code_155, code_156, code_157, code_158, code_159]
def ctab_10 : List (List (Nat × Instr × Nat)) := [code_160, code_161, code_162, code_163, code_164, code_165, code_166, code_167, code_168, code_169, code_170, code_171, code_172, code_173, code_174, code_175]
def ctab_11 : List (List (Nat × Instr × Nat)) := [code_176, code_177, code_178, code_179, code_180, code_181, code_182, code_183, code_184, code_185, code_186, code_187, code_188, code_189, code_190, code_191]
def ctab_12 : List (List (Nat × Instr × Nat)) := [code_192, code_193, code_194, code_195, code_196, code_197, code_198, code_199, code_200, code_201, code_202, code_203, code_204, code_205, code_206, code_207]
def ctab_13 : List (List (Nat × Instr × Nat)) := [code_208, code_209, code_210, code_211, code_212, code_213, code_214, code_215, code_216, code_217, code_218, code_219]
def ctab (i : Nat) : List (Nat × Instr × Nat) := ((match i / 16 with
  | 0 => ctab_0
  | 1 => ctab_1
  | 2 => ctab_2
  | 3 => ctab_3
  | 4 => ctab_4
  | 5 => ctab_5
  | 6 => ctab_6
  | 7 => ctab_7
  | 8 => ctab_8
  | 9 => ctab_9
  | 10 => ctab_10
  | 11 => ctab_11
  | 12 => ctab_12
  | 13 => ctab_13
  | _ => []) : List (List (Nat × Instr × Nat))).getD (i % 16) []
def cd (i pc : Nat) : Option (Instr × Nat) := lk (ctab i) pc
theorem ctab_ok : ∀ i, i < 220 → ∀ e ∈ ctab i, decode (mB i) e.1 = .ok (e.2.1, e.2.2) := by
  intro i hi
  match i, hi with
  | 0, _ => exact okc_0
  | 1, _ => exact okc_1
  | 2, _ => exact okc_2
  | 3, _ => exact okc_3
  | 4, _ => exact okc_4
  | 5, _ => exact okc_5
  | 6, _ => exact okc_6
  | 7, _ => exact okc_7
  | 8, _ => exact okc_8
  | 9, _ => exact okc_9
  | 10, _ => exact okc_10
  | 11, _ => exact okc_11
  | 12, _ => exact okc_12
  | 13, _ => exact okc_13
  | 14, _ => exact okc_14
  | 15, _ => exact okc_15
  | 16, _ => exact okc_16
  | 17, _ => exact okc_17
  | 18, _ => exact okc_18
  | 19, _ => exact okc_19
  | 20, _ => exact okc_20
  | 21, _ => exact okc_21
  | 22, _ => exact okc_22
  | 23, _ => exact okc_23
  | 24, _ => exact okc_24
  | 25, _ => exact okc_25
  | 26, _ => exact okc_26
  | 27, _ => exact okc_27
  | 28, _ => exact okc_28
  | 29, _ => exact okc_29
  | 30, _ => exact okc_30
  | 31, _ => exact okc_31
  | 32, _ => exact okc_32
  | 33, _ => exact okc_33
  | 34, _ => exact okc_34
  | 35, _ => exact okc_35
  | 36, _ => exact okc_36
  | 37, _ => exact okc_37
  | 38, _ => exact okc_38
  | 39, _ => exact okc_39
  | 40, _ => exact okc_40
  | 41, _ => exact okc_41
  | 42, _ => exact okc_42
  | 43, _ => exact okc_43
  | 44, _ => exact okc_44
  | 45, _ => exact okc_45
  | 46, _ => exact okc_46
  | 47, _ => exact okc_47
  | 48, _ => exact okc_48
  | 49, _ => exact okc_49
  | 50, _ => exact okc_50
  | 51, _ => exact okc_51
  | 52, _ => exact okc_52
  | 53, _ => exact okc_53
  | 54, _ => exact okc_54
  | 55, _ => exact okc_55
  | 56, _ => exact okc_56
  | 57, _ => exact okc_57
  | 58, _ => exact okc_58
  | 59, _ => exact okc_59
  | 60, _ => exact okc_60
  | 61, _ => exact okc_61
  | 62, _ => exact okc_62
  | 63, _ => exact okc_63
  | 64, _ => exact okc_64
  | 65, _ => exact okc_65
  | 66, _ => exact okc_66
  | 67, _ => exact okc_67
  | 68, _ => exact okc_68
  | 69, _ => exact okc_69
  | 70, _ => exact okc_70
  | 71, _ => exact okc_71
  | 72, _ => exact okc_72
  | 73, _ => exact okc_73
  | 74, _ => exact okc_74
  | 75, _ => exact okc_75
  | 76, _ => exact okc_76
  | 77, _ => exact okc_77
  | 78, _ => exact okc_78
  | 79, _ => exact okc_79
  | 80, _ => exact okc_80
  | 81, _ => exact okc_81
  | 82, _ => exact okc_82
  | 83, _ => exact okc_83
  | 84, _ => exact okc_84
  | 85, _ => exact okc_85
  | 86, _ => exact okc_86
  | 87, _ => exact okc_87
  | 88, _ => exact okc_88
  | 89, _ => exact okc_89
  | 90, _ => exact okc_90
  | 91, _ => exact okc_91
  | 92, _ => exact okc_92
  | 93, _ => exact okc_93
  | 94, _ => exact okc_94
  | 95, _ => exact okc_95
  | 96, _ => exact okc_96
  | 97, _ => exact okc_97
  | 98, _ => exact okc_98
  | 99, _ => exact okc_99
  | 100, _ => exact okc_100
  | 101, _ => exact okc_101
  | 102, _ => exact okc_102
  | 103, _ => exact okc_103
  | 104, _ => exact okc_104
  | 105, _ => exact okc_105
  | 106, _ => exact okc_106
  | 107, _ => exact okc_107
  | 108, _ => exact okc_108
  | 109, _ => exact okc_109
  | 110, _ => exact okc_110
  | 111, _ => exact okc_111
  | 112, _ => exact okc_112
  | 113, _ => exact okc_113
  | 114, _ => exact okc_114
  | 115, _ => exact okc_115
  | 116, _ => exact okc_116
  | 117, _ => exact okc_117
  | 118, _ => exact okc_118
  | 119, _ => exact okc_119
  | 120, _ => exact okc_120
  | 121, _ => exact okc_121
  | 122, _ => exact okc_122
  | 123, _ => exact okc_123
  | 124, _ => exact okc_124
  | 125, _ => exact okc_125
  | 126, _ => exact okc_126
  | 127, _ => exact okc_127
  | 128, _ => exact okc_128
  | 129, _ => exact okc_129
  | 130, _ => exact okc_130
  | 131, _ => exact okc_131
  | 132, _ => exact okc_132
  | 133, _ => exact okc_133
  | 134, _ => exact okc_134
  | 135, _ => exact okc_135
  | 136, _ => exact okc_136
  | 137, _ => exact okc_137
  | 138, _ => exact okc_138
  | 139, _ => exact okc_139
  | 140, _ => exact okc_140
  | 141, _ => exact okc_141
  | 142, _ => exact okc_142
  | 143, _ => exact okc_143
  | 144, _ => exact okc_144
  | 145, _ => exact okc_145
  | 146, _ => exact okc_146
  | 147, _ => exact okc_147
  | 148, _ => exact okc_148
  | 149, _ => exact okc_149
  | 150, _ => exact okc_150
  | 151, _ => exact okc_151
  | 152, _ => exact okc_152
  | 153, _ => exact okc_153
  | 154, _ => exact okc_154
  | 155, _ => exact okc_155
  | 156, _ => exact okc_156
  | 157, _ => exact okc_157
  | 158, _ => exact okc_158
  | 159, _ => exact okc_159
  | 160, _ => exact okc_160
  | 161, _ => exact okc_161
  | 162, _ => exact okc_162
  | 163, _ => exact okc_163
  | 164, _ => exact okc_164
  | 165, _ => exact okc_165
  | 166, _ => exact okc_166
  | 167, _ => exact okc_167
  | 168, _ => exact okc_168
  | 169, _ => exact okc_169
  | 170, _ => exact okc_170
  | 171, _ => exact okc_171
  | 172, _ => exact okc_172
  | 173, _ => exact okc_173
  | 174, _ => exact okc_174
  | 175, _ => exact okc_175
  | 176, _ => exact okc_176
  | 177, _ => exact okc_177
  | 178, _ => exact okc_178
  | 179, _ => exact okc_179
  | 180, _ => exact okc_180
  | 181, _ => exact okc_181
  | 182, _ => exact okc_182
  | 183, _ => exact okc_183
  | 184, _ => exact okc_184
  | 185, _ => exact okc_185
  | 186, _ => exact okc_186
  | 187, _ => exact okc_187
  | 188, _ => exact okc_188
  | 189, _ => exact okc_189
  | 190, _ => exact okc_190
  | 191, _ => exact okc_191
  | 192, _ => exact okc_192
  | 193, _ => exact okc_193
  | 194, _ => exact okc_194
  | 195, _ => exact okc_195
  | 196, _ => exact okc_196
  | 197, _ => exact okc_197
  | 198, _ => exact okc_198
  | 199, _ => exact okc_199
  | 200, _ => exact okc_200
  | 201, _ => exact okc_201
  | 202, _ => exact okc_202
  | 203, _ => exact okc_203
  | 204, _ => exact okc_204
  | 205, _ => exact okc_205
  | 206, _ => exact okc_206
  | 207, _ => exact okc_207
  | 208, _ => exact okc_208
  | 209, _ => exact okc_209
  | 210, _ => exact okc_210
  | 211, _ => exact okc_211
  | 212, _ => exact okc_212
  | 213, _ => exact okc_213
  | 214, _ => exact okc_214
  | 215, _ => exact okc_215
  | 216, _ => exact okc_216
  | 217, _ => exact okc_217
  | 218, _ => exact okc_218
  | 219, _ => exact okc_219
  | i + 220, hi => omega
theorem cd_ok {i pc : Nat} {ins : Instr} {len : Nat} (hi : i < 220) (h : cd i pc = some (ins, len)) : decode (mB i) pc = .ok (ins, len) := ctab_ok i hi (pc, ins, len) (lk_mem h)
end
section
/-! RUNS of the methods over the memory. -/
def sLen : List Nat := [4, 4, 3, 5, 5, 4, 4, 4]
def sByt : List (List Int32) := [[104, 101, 105, 114], [108, 97, 116, 101], [100, 97, 121], [116, 104, 105, 110, 103], [99, 111, 109, 101, 115], [110, 111, 110, 101], [104, 111, 108, 100], [98, 97, 99, 107]]
def sIx (i : Nat) : Nat := ([142, 148, 150, 152, 154, 156, 158, 160] : List Nat).getD i 0
def sTx (i : Nat) : String := (["heir", "late", "day", "thing", "comes", "none", "hold", "back"] : List String).getD i ""
/-- the String constant that index i of class o names -/
def sst (o i : Nat) : Option Nat := if o = 10 then lk [(142, 0), (148, 1), (150, 2), (152, 3), (154, 4), (156, 5), (158, 6), (160, 7)] i else none
theorem sst_ok {o i q : Nat} (h : sst o i = some q) : o = 10 ∧ q < 8 ∧ sIx q = i := by
  unfold sst at h
  split at h
  · next ho =>
    refine ⟨ho, ?_⟩
    have := lk_mem h
    simp only [List.mem_cons, List.not_mem_nil, or_false, Prod.mk.injEq] at this
    rcases this with ⟨rfl, rfl⟩ | ⟨rfl, rfl⟩ | ⟨rfl, rfl⟩ | ⟨rfl, rfl⟩ | ⟨rfl, rfl⟩ | ⟨rfl, rfl⟩ | ⟨rfl, rfl⟩ | ⟨rfl, rfl⟩ <;> exact ⟨by omega, rfl⟩
  · cases h
/-- is field k of class c final -/
def fin (c k : Nat) : Bool := match vwCl[c]? with
  | some r => (r.2.1 k).2.2.2
  | none => false
def cats (r : List Value) : Nat := (r.map fun v => v.category).sum
/-- one instruction that touches memory, in a method of class o (ini: a constructor); xs, L: the script -/
def Ms (xs : Nat → Int32) (L : Nat) (al : Bool) (o : Nat) (ini : Bool) (ins : Instr) (len : Nat) (st : List Value) (w : Wd) (st' : List Value) (w' : Wd) : Prop := match ins with
  | .getfield i => len = 3 ∧ w' = w ∧ ((∃ c k a r, fl o i = some (c, k) ∧ st = .ref a :: r ∧ Kd w a c ∧ st' = gV w a c k :: r) ∨ (∃ q r, q < 8 ∧ st = .retAddr q :: r ∧ o = 16 ∧ ((i = 9 ∧ st' = .retAddr (100 + q) :: r) ∨ (i = 15 ∧ st' = .int 0 :: r))))
  | .putfield i => len = 3 ∧ ∃ c k a r v, fl o i = some (c, k) ∧ st = v :: .ref a :: r ∧ Kd w a c ∧ (fin c k = false ∨ (fin c k = true ∧ ini = true ∧ c = o)) ∧ pV w a c k v = some w' ∧ st' = r
  | .iaload => len = 1 ∧ w' = w ∧ ((∃ a r i, st = .int i :: .ref a :: r ∧ Kd w a 12 ∧ vp_in i (wL w a) ∧ st' = .int (wX w a i.toNatClampNeg) :: r) ∨ (∃ r i, st = .int i :: .retAddr 1000 :: r ∧ vp_in i L ∧ st' = .int (xs i.toNatClampNeg) :: r))
  | .laload => len = 1 ∧ w' = w ∧ ∃ a r i, st = .int i :: .ref a :: r ∧ Kd w a 13 ∧ vp_in i (wL w a) ∧ st' = .long (wY w a i.toNatClampNeg) :: r
  | .baload => len = 1 ∧ w' = w ∧ ((∃ a r i, st = .int i :: .ref a :: r ∧ (Kd w a 11 ∨ Kd w a 14) ∧ vp_in i (wL w a) ∧ st' = .int (wX w a i.toNatClampNeg) :: r) ∨ (∃ q r i, q < 8 ∧ st = .int i :: .retAddr (100 + q) :: r ∧ vp_in i (sLen.getD q 0) ∧ st' = .int ((sByt.getD q []).getD i.toNatClampNeg 0) :: r))
  | .aaload => len = 1 ∧ w' = w ∧ ∃ a r i, st = .int i :: .ref a :: r ∧ (Kd w a 15 ∨ Kd w a 16) ∧ vp_in i (wL w a) ∧ st' = rfv (wZ w a i.toNatClampNeg) :: r
  | .arraylength => len = 1 ∧ w' = w ∧ ((∃ a r c, st = .ref a :: r ∧ Kd w a c ∧ 11 ≤ c ∧ st' = .int (Int32.ofNat (wL w a)) :: r) ∨ (∃ q r, q < 8 ∧ st = .retAddr (100 + q) :: r ∧ st' = .int (Int32.ofNat (sLen.getD q 0)) :: r) ∨ (∃ r, st = .retAddr 1000 :: r ∧ st' = .int (Int32.ofNat L) :: r))
  | .iastore => len = 1 ∧ ∃ a r i x, st = .int x :: .int i :: .ref a :: r ∧ Kd w a 12 ∧ vp_in i (wL w a) ∧ st' = r ∧ w' = uX w a i.toNatClampNeg x
  | .lastore => len = 1 ∧ ∃ a r i x, st = .long x :: .int i :: .ref a :: r ∧ Kd w a 13 ∧ vp_in i (wL w a) ∧ st' = r ∧ w' = uY w a i.toNatClampNeg x
  | .bastore => len = 1 ∧ ∃ a r i x ty, st = .int x :: .int i :: .ref a :: r ∧ ((Kd w a 11 ∧ ty = .byte) ∨ (Kd w a 14 ∧ ty = .boolean)) ∧ vp_in i (wL w a) ∧ st' = r ∧ w' = uX w a i.toNatClampNeg (vp_nar ty x)
  | .aastore => len = 1 ∧ ∃ a r i v, st = .ref v :: .int i :: .ref a :: r ∧ ((Kd w a 15 ∧ Kd w v 1) ∨ (Kd w a 16 ∧ Kd w v 5)) ∧ vp_in i (wL w a) ∧ st' = r ∧ w' = uZ w a i.toNatClampNeg (some v)
  | .newarray t => al = true ∧ len = 2 ∧ ∃ n r k, st = .int n :: r ∧ akd t = some k ∧ ¬ n < 0 ∧ n.toNatClampNeg * abt k ≤ 536870912 ∧ st' = .ref (wN w) :: r ∧ w' = nA w k n.toNatClampNeg
  | .anewarray i => al = true ∧ len = 3 ∧ ∃ n r k, st = .int n :: r ∧ cak o i = some k ∧ ¬ n < 0 ∧ n.toNatClampNeg * 4 ≤ 536870912 ∧ st' = .ref (wN w) :: r ∧ w' = nA w k n.toNatClampNeg
  | .new i => al = true ∧ len = 3 ∧ ∃ c r, clk o i = some c ∧ vwCl[c]? = some r ∧ st' = .ref (wN w) :: st ∧ w' = nO w c r.2.2
  | .ldc i => len = 2 ∧ w' = w ∧ ∃ q, sst o i = some q ∧ st' = .retAddr q :: st
  | .getstatic i => len = 3 ∧ w' = w ∧ o = 16 ∧ ((i = 38 ∧ st' = .int 1 :: st) ∨ (i = 1053 ∧ st' = .float 0 :: st))
  | .invokestatic i => len = 3 ∧ w' = w ∧ ∃ k r, mth o i = some k ∧ cats r ≤ 8 ∧ ((k = 0 ∧ ∃ x y, st = .int y :: .int x :: r ∧ st' = .int (if x < y then y else x) :: r) ∨ (k = 1 ∧ ∃ x y, st = .long y :: .long x :: r ∧ st' = .long (if y < x then x else y) :: r) ∨ (k = 2 ∧ ∃ x y, st = .int y :: .int x :: r ∧ st' = .int (if y < x then y else x) :: r) ∨ (k = 3 ∧ ∃ x y, st = .long y :: .long x :: r ∧ st' = .long (if y < x then y else x) :: r))
  | .invokespecial i => len = 3 ∧ w' = w ∧ ∃ a q, oin o i = some q ∧ cats st' ≤ 8 ∧ st = .ref a :: st'
  | _ => False
/-- a call of method m2 with the arguments as (the object first) -/
def Cs (o : Nat) (ins : Instr) (len : Nat) (st : List Value) (w : Wd) (m2 : Nat) (as rest : List Value) : Prop := len = 3 ∧ m2 < NM ∧ st = as.reverse ++ rest ∧ cats rest ≤ 8 ∧ match ins with
  | .invokestatic i => ml o i = some m2 ∧ mS m2 = 0 ∧ as.length = mA m2
  | .invokevirtual i => ml o i = some m2 ∧ mS m2 = 1 ∧ ∃ v vs, as = v :: vs ∧ vs.length = mA m2 ∧ ((∃ a, v = .ref a ∧ mO m2 < 11 ∧ Kd w a (mO m2)) ∨ (∃ q, v = .retAddr q ∧ q < 8 ∧ mO m2 = 16))
  | .invokespecial i => ml o i = some m2 ∧ mS m2 = 2 ∧ ∃ a vs, as = .ref a :: vs ∧ vs.length = mA m2
  | _ => False
/-- a return with the answer r -/
def Rt (mid : Nat) (ins : Instr) (len : Nat) (st : List Value) (w : Wd) (r : Option Value) (w' : Wd) : Prop := w' = w ∧ len = 1 ∧ match ins with
  | .ireturn => ∃ x ty, st = [.int x] ∧ r = some (.int x) ∧ mT mid = some ty ∧ narrow ty (.int x) = .int x
  | .lreturn => ∃ x, st = [.long x] ∧ r = some (.long x) ∧ mT mid = some .long
  | .areturn => ∃ a n, st = [.ref a] ∧ r = some (.ref a) ∧ mT mid = some (.object n)
  | .return_ => st = [] ∧ r = none ∧ mT mid = none
  | _ => False
abbrev Cr : Type := Nat → List Value → Wd → Option Value → Wd → Prop
/-- n instructions of method mid from pc on end in the answer r and the memory w'; C: what calls do -/
def Rn (xs : Nat → Int32) (L : Nat) (al : Bool) (C : Cr) (mid : Nat) : Nat → Nat → Lc → List Value → Wd → Option Value → Wd → Prop
  | 0, _, _, _, _, _, _ => False
  | n + 1, pc, lv, st, w, r, w' => ∃ ins len, cd mid pc = some (ins, len) ∧
      ((∃ t : Nx, stp (mL mid) (cI (mO mid)) (cJ (mO mid)) ins len pc lv st = some t ∧ Rn xs L al C mid n t.1 t.2.1 t.2.2 w r w')
      ∨ (∃ st1 w1, Ms xs L al (mO mid) (mS mid == 2) ins len st w st1 w1 ∧ Rn xs L al C mid n (pc + len) lv st1 w1 r w')
      ∨ (∃ m2 as rest r1 w1, Cs (mO mid) ins len st w m2 as rest ∧ C m2 as w r1 w1 ∧ Rn xs L al C mid n (pc + 3) lv (r1.toList ++ rest) w1 r w')
      ∨ Rt mid ins len st w r w')
/-- method mid with the arguments, at most d calls deep -/
def Ev (xs : Nat → Int32) (L : Nat) (al : Bool) : Nat → Cr
  | 0, _, _, _, _, _ => False
  | d + 1, mid, args, w, r, w' => mid < NM ∧ (lg_sl args).length ≤ mL mid ∧ ∃ n, Rn xs L al (Ev xs L al d) mid n 0 (lv_args 0 args) [] w r w'
/-- keys are only added -/
def Mo (w w' : Wd) : Prop := wN w ≤ wN w' ∧ wS w ≤ wS w'
theorem Mo.rf (w : Wd) : Mo w w := ⟨Nat.le_refl _, Nat.le_refl _⟩
theorem Mo.tr {a b c : Wd} (h : Mo a b) (k : Mo b c) : Mo a c := ⟨Nat.le_trans h.1 k.1, Nat.le_trans h.2 k.2⟩
theorem Ms_mo {xs : Nat → Int32} {L : Nat} {al : Bool} {o : Nat} {ini : Bool} {ins : Instr} {len : Nat} {st st' : List Value} {w w' : Wd} (h : Ms xs L al o ini ins len st w st' w') : Mo w w' := by
  cases ins <;> simp only [Ms] at h <;> first | (exact h.elim) | skip
  case putfield i =>
    obtain ⟨-, c, k, a, r, v, -, -, -, -, h, -⟩ := h
    obtain ⟨h1, h2, -⟩ := pV_ok h ((fun a => a, fun _ => 0, fun _ => 0, 0, none, (fun _ => 0, fun _ _ => 0), fun _ => 0) : Gc)
    exact ⟨by rw [h1]; exact Nat.le_refl _, by rw [h2]; exact Nat.le_refl _⟩
  case iastore => obtain ⟨-, a, r, i, x, -, -, -, -, rfl⟩ := h; exact Mo.rf w
  case lastore => obtain ⟨-, a, r, i, x, -, -, -, -, rfl⟩ := h; exact Mo.rf w
  case bastore => obtain ⟨-, a, r, i, x, ty, -, -, -, -, rfl⟩ := h; exact Mo.rf w
  case aastore => obtain ⟨-, a, r, i, v, -, -, -, -, rfl⟩ := h; exact Mo.rf w
  case newarray t => obtain ⟨-, -, n, r, k, -, -, -, -, -, rfl⟩ := h; exact ⟨Nat.le_succ _, Nat.le_add_right _ _⟩
  case anewarray i => obtain ⟨-, -, n, r, k, -, -, -, -, -, rfl⟩ := h; exact ⟨Nat.le_succ _, Nat.le_add_right _ _⟩
  case new i => obtain ⟨-, -, c, r, -, -, -, rfl⟩ := h; exact ⟨Nat.le_succ _, Nat.le_add_right _ _⟩
  all_goals (obtain ⟨-, rfl, -⟩ := h; exact Mo.rf _)
theorem Rn_mo {xs : Nat → Int32} {L : Nat} {al : Bool} {C : Cr} (hC : ∀ m2 as w r w', C m2 as w r w' → Mo w w') {mid : Nat} : ∀ (n pc : Nat) (lv : Lc) (st : List Value) (w : Wd) (r : Option Value) (w' : Wd), Rn xs L al C mid n pc lv st w r w' → Mo w w'
  | 0, _, _, _, _, _, _, h => h.elim
  | n + 1, pc, lv, st, w, r, w', h => by
    obtain ⟨ins, len, -, ⟨t, -, h⟩ | ⟨st1, w1, h1, h⟩ | ⟨m2, as, rest, r1, w1, -, h1, h⟩ | h⟩ := h
    · exact Rn_mo hC n _ _ _ _ _ _ h
    · exact (Ms_mo h1).tr (Rn_mo hC n _ _ _ _ _ _ h)
    · exact (hC _ _ _ _ _ h1).tr (Rn_mo hC n _ _ _ _ _ _ h)
    · rw [h.1]; exact Mo.rf w
theorem Ev_mo {xs : Nat → Int32} {L : Nat} {al : Bool} : ∀ (d m2 : Nat) (as : List Value) (w : Wd) (r : Option Value) (w' : Wd), Ev xs L al d m2 as w r w' → Mo w w'
  | 0, _, _, _, _, _, h => h.elim
  | d + 1, m2, as, w, r, w', h => by
    obtain ⟨-, -, n, h⟩ := h
    exact Rn_mo (Ev_mo d) n _ _ _ _ _ _ h
end
section
/-! MEMORY STEPS on the machine. -/
theorem jw9 : Cond.fieldLink (oN 16) 9 "java/lang/String" "value" "[B" ∈ WL := WL_of (q := 7) (j := 19) rfl rfl
theorem jw15 : Cond.fieldLink (oN 16) 15 "java/lang/String" "coder" "B" ∈ WL := WL_of (q := 7) (j := 20) rfl rfl
theorem jw38 : Cond.fieldLink (oN 16) 38 "java/lang/String" "COMPACT_STRINGS" "Z" ∈ WL := WL_of (q := 5) (j := 215) rfl rfl
theorem jw1053 : Cond.fieldLink (oN 16) 1053 "jdk/internal/util/Preconditions" "SIOOBE_FORMATTER" "Ljava/util/function/BiFunction;" ∈ WL := WL_of (q := 5) (j := 231) rfl rfl
/-- what stays outside the memory: String constants, two statics, the script -/
def SW (G : Gc) (A : Nat → Prop) (xs : Nat → Int32) (L : Nat) (U : State) : Prop := vk_S 8 sLen sByt (gsk G) (gsv G) A U U.heap ∧ va_Z "java/lang/String" "COMPACT_STRINGS" "Z" (.int 1) A U U.heap ∧ va_Z "jdk/internal/util/Preconditions" "SIOOBE_FORMATTER" "Ljava/util/function/BiFunction;" (va_rf (gfm G)) A U U.heap ∧ (∀ i, i < 8 → vk_R (oN 10) (sIx i) (sTx i) (gsk G i) U) ∧ (va_X (gsc G) L xs U U.heap ∧ gsc G < U.heap.size ∧ ¬ A (gsc G)) ∧ va_AO "SharesComing$Ends" U ∧ va_AO "SharesComing$Sight" U
def CX (G : Gc) (A : Nat → Prop) (xs : Nat → Int32) (L : Nat) (U : State) : Prop := KW G U ∧ SW G A xs L U
theorem CX.to {G : Gc} {A : Nat → Prop} {xs : Nat → Int32} {L : Nat} {s U : State} {H : Heap} {locs : List Loc} (h : CX G A xs L s) (hW : s.WarmedH U.vm) (hU : U.heap = H) (hS : va_S A s.heap H locs) : CX G A xs L U := by
  obtain ⟨h1, h2, h3, h4, h5, ⟨h6, h7, h8⟩, h9, h10⟩ := h
  have hq : ∀ a : Nat, a < s.heap.size → ¬ A a → U.heap[a]? = s.heap[a]? := fun a h1 h2 => by rw [hU]; exact hS.2.1 a h1 h2
  refine ⟨h1.moved hW.alike, ?_, ?_, ?_, fun i hi => (h5 i hi).warm hW, ⟨?_, ?_, h8⟩, h9.moved hW.alike, h10.moved hW.alike⟩
  · exact vk_S.moved hW.alike (h2.kept hq)
  · exact va_Z.moved hW.alike (h3.kept hq)
  · exact va_Z.moved hW.alike (h4.kept hq)
  · exact va_X.moved hW.alike (h6.kept (hq _ h7 h8))
  · rw [hU]; exact Nat.lt_of_lt_of_le h7 hS.1
theorem cl_dc : ∀ (c : Nat) (r : vw_C), vwCl[c]? = some r → r.1 = oN c ∧ ∀ k, k < r.2.2 → (r.2.1 k).1 = oN c := by
  intro c r h
  match c, h with
  | 0, h => cases h; exact ⟨rfl, by decide +kernel⟩
  | 1, h => cases h; exact ⟨rfl, by decide +kernel⟩
  | 2, h => cases h; exact ⟨rfl, by decide +kernel⟩
  | 3, h => cases h; exact ⟨rfl, by decide +kernel⟩
  | 4, h => cases h; exact ⟨rfl, by decide +kernel⟩
  | 5, h => cases h; exact ⟨rfl, by decide +kernel⟩
  | 6, h => cases h; exact ⟨rfl, by decide +kernel⟩
  | 7, h => cases h; exact ⟨rfl, by decide +kernel⟩
  | 8, h => cases h; exact ⟨rfl, by decide +kernel⟩
  | 9, h => cases h; exact ⟨rfl, by decide +kernel⟩
  | 10, h => cases h; exact ⟨rfl, by decide +kernel⟩
  | c + 11, h => simp [vwCl] at h
theorem cats_cv (G : Gc) (r : List Value) : ((r.map (cv G)).map fun v => v.category).sum = cats r := by
  unfold cats
  rw [List.map_map]
  congr 1
  apply List.map_congr_left
  intro v _
  exact cv_cat G v
theorem cv_s {G : Gc} {q : Nat} (h : q < 8) : cv G (.retAddr q) = .ref (gsk G q) := by
  rw [cv_ret G, if_pos (by omega)]
theorem cv_v {G : Gc} {q : Nat} (h : q < 8) : cv G (.retAddr (100 + q)) = .ref (gsv G q) := by
  rw [cv_ret G, if_neg (by omega), if_pos (by omega), Nat.add_sub_cancel_left]
theorem cv_x {G : Gc} : cv G (.retAddr 1000) = .ref (gsc G) := by
  rw [cv_ret G, if_neg (by omega), if_neg (by omega)]
theorem cv_f {G : Gc} : cv G (.float 0) = va_rf (gfm G) := rfl
section SNDM
variable {p : Program} {l : Launch} {e : Env} {R : Room} {s : State} {m : MethodId} {args : Array Value} {below : List Frame} {meth : Method} {c0 : Code} {H : Heap} {locs : List Loc} {cells slots : Nat} {Q : State → Prop}
variable {cc : ByteArray} {G : Gc} {pc : Nat} {ls : Array Slot} {A : Nat → Prop} {al : Bool} {w : Wd} {o : Nat}
theorem snd_ms (hx : p.tables.exec = Jvm.exec) (hb : c0.code = cc) (hml : c0.maxLocals = ls.size) (hts : ∀ w ∈ WL, w.before args s = true) (hown : s.vm.findClass (oN o) = some m.cls) {xs : Nat → Int32} {L : Nat} (hC : CX G A xs L s) (hH : HW al G A w H) (hS : va_S A s.heap H locs) {ini : Bool} (hini : ini = true → meth.name = "<init>") (hR1 : 1 ≤ R.frames) (hR2 : 23 ≤ R.locals)
    {ins : Instr} {len : Nat} {st st' : List Value} {w' : Wd} (hdg : decode cc pc = .ok (ins, len)) (h : Ms xs L al o ini ins len st w st' w') (hc : cells + (wN w' - wN w) ≤ R.cells) (hs : slots + (wS w' - wS w) ≤ R.slots)
    (kk : ∀ (H1 : Heap) (locs1 : List Loc), HW al G A w' H1 → va_S A s.heap H1 locs1 → W p l e R s m args below meth c0 H1 locs1 (cells + (wN w' - wN w)) (slots + (wS w' - wS w)) Q (F0 m (pc + len) ls (st'.map (cv G)))) : W p l e R s m args below meth c0 H locs cells slots Q (F0 m pc ls (st.map (cv G))) := by
  obtain ⟨hK, hSS, hZ1, hZ2, hRk, ⟨hX, hXl, hXA⟩, hO1, hO2⟩ := hC
  have same : wN w' = wN w → wS w' = wS w → ∀ (H1 : Heap) (locs1 : List Loc), HW al G A w' H1 → va_S A s.heap H1 locs1 → W p l e R s m args below meth c0 H1 locs1 cells slots Q (F0 m (pc + len) ls (st'.map (cv G))) := by
    intro e1 e2 H1 locs1 h1 h2
    have := kk H1 locs1 h1 h2
    rwa [e1, e2, Nat.sub_self, Nat.sub_self, Nat.add_zero, Nat.add_zero] at this
  cases ins <;> simp only [Ms] at h <;> first | (exact h.elim) | skip
  case getfield i =>
    obtain ⟨rfl, rfl, h⟩ := h
    have k := same rfl rfl H locs hH hS
    rcases h with ⟨c, k1, a, r, h1, rfl, h3, rfl⟩ | ⟨q, r, hq, rfl, rfl, h⟩
    · obtain ⟨rr, g1, g2, g3⟩ := flF_ok _ (lo_mem h1)
      exact x_get hx hb hts inCl_WL hown hK hH g1 g2 h3 (hts _ g3) hdg k
    · rw [List.map_cons, cv_s hq]
      rcases h with ⟨rfl, rfl⟩ | ⟨rfl, rfl⟩
      · rw [List.map_cons, cv_v hq] at k
        exact vk_getf hx hb (hSS.1 q hq).2.2.1 hS hown (hts _ jw9) (fun _ h => h) hdg k
      · exact vk_getf hx hb (hSS.1 q hq).2.1 hS hown (hts _ jw15) (fun _ h => h) hdg k
  case putfield i =>
    obtain ⟨rfl, c, k1, a, r, v, h1, rfl, h3, h4, h5, rfl⟩ := h
    obtain ⟨rr, g1, g2, g3⟩ := flF_ok _ (lo_mem h1)
    obtain ⟨pN, pS, -⟩ := pV_ok h5 G
    refine x_put hx hb hts inCl_WL hown hK hH hS g1 g2 h3 (hts _ g3) ?_ h5 hdg (fun H1 locs1 a1 a2 => same pN pS H1 locs1 a1 a2)
    have ef : fin c k1 = (rr.2.1 k1).2.2.2 := by unfold fin; rw [show vwCl[c]? = some rr from g1]
    rw [ef] at h4
    rcases h4 with h4 | ⟨h4, h6, rfl⟩
    · exact Or.inl h4
    · exact Or.inr ⟨h4, hini h6, (cl_dc c rr g1).2 k1 g2⟩
  case iaload =>
    obtain ⟨rfl, rfl, h⟩ := h
    have k := same rfl rfl H locs hH hS
    rcases h with ⟨a, r, i, rfl, h1, h2, rfl⟩ | ⟨r, i, rfl, h1, rfl⟩
    · exact x_iald hx hb hK hH h1 h2 hdg k
    · rw [List.map_cons, List.map_cons, cv_x]
      exact va_sld hx hb hX hXl hXA hS h1 hdg k
  case laload =>
    obtain ⟨rfl, rfl, a, r, i, rfl, h1, h2, rfl⟩ := h
    exact x_lald hx hb hK hH h1 h2 hdg (same rfl rfl H locs hH hS)
  case baload =>
    obtain ⟨rfl, rfl, h⟩ := h
    have k := same rfl rfl H locs hH hS
    rcases h with ⟨a, r, i, rfl, h1, h2, rfl⟩ | ⟨q, r, i, hq, rfl, h1, rfl⟩
    · exact x_bald hx hb hK hH h1 h2 hdg k
    · rw [List.map_cons, List.map_cons, cv_v hq]
      exact va_tb hx hb (hSS.1 q hq).2.2.2 hS h1 rfl hdg k
  case aaload =>
    obtain ⟨rfl, rfl, a, r, i, rfl, h1, h2, rfl⟩ := h
    exact x_aald hx hb hK hH h1 h2 hdg (same rfl rfl H locs hH hS)
  case arraylength =>
    obtain ⟨rfl, rfl, h⟩ := h
    have k := same rfl rfl H locs hH hS
    rcases h with ⟨a, r, c, rfl, h1, h2, rfl⟩ | ⟨q, r, hq, rfl, rfl⟩ | ⟨r, rfl, rfl⟩
    · exact x_alen hx hb hK hH h1 h2 hdg k
    · rw [List.map_cons, cv_v hq]
      exact va_tlen hx hb (hSS.1 q hq).2.2.2 hS rfl hdg k
    · rw [List.map_cons, cv_x]
      exact va_slen hx hb hX hXl hXA hS hdg k
  case iastore =>
    obtain ⟨rfl, a, r, i, x, rfl, h1, h2, rfl, rfl⟩ := h
    exact x_iast hx hb hK hH hS h1 h2 hdg (fun H1 locs1 a1 a2 => same rfl rfl H1 locs1 a1 a2)
  case lastore =>
    obtain ⟨rfl, a, r, i, x, rfl, h1, h2, rfl, rfl⟩ := h
    exact x_last hx hb hK hH hS h1 h2 hdg (fun H1 locs1 a1 a2 => same rfl rfl H1 locs1 a1 a2)
  case bastore =>
    obtain ⟨rfl, a, r, i, x, ty, rfl, h1, h2, rfl, rfl⟩ := h
    exact x_bast hx hb hK hH hS h1 h2 hdg (fun H1 locs1 a1 a2 => same rfl rfl H1 locs1 a1 a2)
  case aastore =>
    obtain ⟨rfl, a, r, i, v, rfl, h1, h2, rfl, rfl⟩ := h
    exact x_aast hx hb hK hH hS h1 h2 hdg (fun H1 locs1 a1 a2 => same rfl rfl H1 locs1 a1 a2)
  case newarray t =>
    obtain ⟨rfl, rfl, n, r, k1, rfl, h1, h2, h3, rfl, rfl⟩ := h
    have e1 : wN (nA w k1 n.toNatClampNeg) - wN w = 1 := by show wN w + 1 - wN w = 1; omega
    have e2 : wS (nA w k1 n.toNatClampNeg) - wS w = n.toNatClampNeg := by show wS w + n.toNatClampNeg - wS w = _; omega
    rw [e1] at hc kk
    rw [e2] at hs kk
    refine x_newa hx hb hK hH hS h1 ?_ h2 h3 hc hs hdg (fun H1 a1 a2 => kk H1 locs a1 a2)
    obtain ⟨b1, b2, b3, b4⟩ := acw
    cases t <;> cases h1
    · exact hts _ b4
    · exact hts _ b1
    · exact hts _ b2
    · exact hts _ b3
  case anewarray i =>
    obtain ⟨rfl, rfl, n, r, k1, rfl, h1, h2, h3, rfl, rfl⟩ := h
    have e1 : wN (nA w k1 n.toNatClampNeg) - wN w = 1 := by show wN w + 1 - wN w = 1; omega
    have e2 : wS (nA w k1 n.toNatClampNeg) - wS w = n.toNatClampNeg := by show wS w + n.toNatClampNeg - wS w = _; omega
    rw [e1] at hc kk
    rw [e2] at hs kk
    obtain ⟨g1, C, g2, g3⟩ := caF_ok _ (lo_mem h1)
    have hov : va_AO C s := by
      have g1' : k1 = 15 ∨ k1 = 16 := g1
      have g2' : arty (k1 - 11) = .object C := g2
      rcases g1' with rfl | rfl
      · have : C = "SharesComing$Ends" := by simpa [arty] using g2'.symm
        rw [this]; exact hO1
      · have : C = "SharesComing$Sight" := by simpa [arty] using g2'.symm
        rw [this]; exact hO2
    exact x_anew hx hb hown hK hH hS g1 g2 (hts _ g3) (va_AO.use hov) h2 h3 hc hs hdg (fun H1 a1 a2 => kk H1 locs a1 a2)
  case new i =>
    obtain ⟨rfl, rfl, c, r, h1, h2, rfl, rfl⟩ := h
    have e1 : wN (nO w c r.2.2) - wN w = 1 := by show wN w + 1 - wN w = 1; omega
    have e2 : wS (nO w c r.2.2) - wS w = r.2.2 := by show wS w + r.2.2 - wS w = _; omega
    rw [e1] at hc kk
    rw [e2] at hs kk
    obtain ⟨r', g1, g2, g3, g4⟩ := clF_ok _ (lo_mem h1)
    have : r' = r := Option.some.inj ((show vwCl[c]? = some r' from g1).symm.trans h2)
    subst this
    exact x_new hx hb hts inCl_WL hown hK hH hS h2 (hts _ g2) (hts _ g3) (hts _ g4) hc hs hdg (fun H1 a1 a2 => kk H1 locs a1 a2)
  case ldc i =>
    obtain ⟨rfl, rfl, q, h1, rfl⟩ := h
    obtain ⟨rfl, hq, rfl⟩ := sst_ok h1
    have k := same rfl rfl H locs hH hS
    rw [List.map_cons, cv_s hq] at k
    exact va_ldcS hx hb hown (hRk q hq) hdg k
  case getstatic i =>
    obtain ⟨rfl, rfl, rfl, h⟩ := h
    have k := same rfl rfl H locs hH hS
    rcases h with ⟨rfl, rfl⟩ | ⟨rfl, rfl⟩
    · exact va_gets hx hb hZ1 hS hown (hts _ jw38) (fun _ h => h) hdg k
    · rw [List.map_cons, cv_f] at k
      exact va_gets hx hb hZ2 hS hown (hts _ jw1053) (fun _ h => h) hdg k
  case invokestatic i =>
    obtain ⟨rfl, rfl, k1, r, h1, h2, h⟩ := h
    have k := same rfl rfl H locs hH hS
    rw [Nat.sub_self, Nat.add_zero] at hc hs
    have hl : ((r.map (cv G)).map fun v => v.category).sum ≤ 8 := by rw [cats_cv]; exact h2
    obtain ⟨-, g1⟩ := mthF_ok _ (lo_mem h1)
    obtain ⟨⟨a1, a2⟩, ⟨a3, a4⟩, ⟨a5, a6⟩, ⟨a7, a8⟩, a9⟩ := mthw
    rcases h with ⟨rfl, x, y, rfl, rfl⟩ | ⟨rfl, x, y, rfl, rfl⟩ | ⟨rfl, x, y, rfl, rfl⟩ | ⟨rfl, x, y, rfl, rfl⟩
    · exact va_mmax hx hb hml hown (hts _ g1) (hts _ a1) (hts _ a9) (hts _ a2) hR1 (by omega) hc hs hdg k
    · exact va_mmax_long hx hb hml hown (hts _ g1) (hts _ a3) (hts _ a9) (hts _ a4) hR1 (by omega) hc hs hdg k
    · exact va_mmin hx hb hml hown (hts _ g1) (hts _ a5) (hts _ a9) (hts _ a6) hR1 (by omega) hc hs hdg k
    · exact va_mmin_long hx hb hml hown (hts _ g1) (hts _ a7) (hts _ a9) (hts _ a8) hR1 (by omega) hc hs hdg k
  case invokespecial i =>
    obtain ⟨rfl, rfl, a, q, h1, h2, rfl⟩ := h
    have k := same rfl rfl H locs hH hS
    have hl : ((st'.map (cv G)).map fun v => v.category).sum ≤ 8 := by rw [cats_cv]; exact h2
    have g1 := oiF_ok _ (lo_mem h1)
    exact W.objInit (g := F0 m pc ls (List.map (cv G) (.ref a :: st'))) hx hb hown (hts _ g1) (hts _ oiw.1) (hts _ oiw.2) rfl hml.symm rfl hdg hR1 (by show 2 * 0 + _ + 12 ≤ _; omega) k
end SNDM
end
section
/-! A RUN over the memory is a run of the machine. -/
def HS (xs : Nat → Int32) (L : Nat) (al : Bool) (G : Gc) (A : Nat → Prop) (w : Wd) (U : State) : Prop := HW al G A w U.heap ∧ CX G A xs L U
def QR (al : Bool) (G : Gc) (A : Nat → Prop) (r : Option Value) (w' : Wd) : Array Value → State → Outcome → State → Prop := fun _ st oc t => oc = .returned (r.map (cv G)) ∧ HW al G A w' t.heap ∧ va_F A st t
def WS (mid : Nat) : List Cond := Cond.code (mY mid) (mB mid) (mL mid) (mT mid) :: WL
def rmD (d mc ms : Nat) : Room := { frames := d, cells := mc, slots := ms, locals := 100 * d }
/-- the contract that a run gives -/
def Con (l : Launch) (xs : Nat → Int32) (L : Nat) (al : Bool) (G : Gc) (A : Nat → Prop) (d mid : Nat) (as : List Value) (w : Wd) (r : Option Value) (w' : Wd) : Prop := Met l (mY mid) (WS mid) (rmD d (wN w' - wN w) (wS w' - wS w)) (va_Pc (as.map (cv G)) (HS xs L al G A w)) (QR al G A r w') (wN w' - wN w) (wS w' - wS w) A
theorem HS.blind {xs : Nat → Int32} {L : Nat} {al : Bool} {G : Gc} {A : Nat → Prop} {w : Wd} {vs : List Value} : FrameBlind (va_Pc vs (HS xs L al G A w)) := by
  intro a U g mk h
  obtain ⟨h1, h2, h3, h4, h5, h6, h7, ⟨h8, h9, h10⟩, h11, h12⟩ := h
  have hv : U.vm.Alike (U.calling g mk a).vm := Vm.Alike.refl U.vm
  exact ⟨h1, h2, h3.moved hv, vk_S.moved hv h4, va_Z.moved hv h5, va_Z.moved hv h6, fun i hi => (h7 i hi).same rfl, ⟨va_X.moved hv h8, h9, h10⟩, h11.moved hv, h12.moved hv⟩
theorem WS_good {mid : Nat} (h : okM mid) : GoodIn WL (WS mid) := by
  intro w hw
  rcases List.mem_cons.mp hw with rfl | hw
  · exact ⟨h.1, good_of_word (WL_good h.1)⟩
  · exact ⟨hw, good_of_word (WL_good hw)⟩
theorem recv_obj {al : Bool} {G : Gc} {A : Nat → Prop} {w : Wd} {H : Heap} {s : State} (hK : KW G s) (hH : HW al G A w H) {a c : Nat} (hc : c < 11) (hk : Kd w a c) : ∃ cell : Cell, H[gad G a]? = some cell ∧ cell.vm.isStatics = false ∧ s.vm.findClass (oN c) = some cell.cls := by
  obtain ⟨r, hr⟩ : ∃ r, vwCl[c]? = some r := ⟨vwCl[c], List.getElem?_eq_getElem (h := hc)⟩
  obtain ⟨cell, g1, g2, g3, -⟩ := hH.obj hk hr
  refine ⟨cell, g1, by rw [g3]; rfl, ?_⟩
  rw [g2, ← (cl_dc c r hr).1]
  exact (hK.1 c r hr).2.1
section SND
variable {p : Program} {l : Launch} {e : Env} {R : Room} {s : State} {m : MethodId} {args : Array Value} {below : List Frame} {meth : Method} {c0 : Code} {Q : State → Prop}
variable {cc : ByteArray} {G : Gc} {A : Nat → Prop} {al : Bool}
/-- behind a call -/
theorem snd_call {H : Heap} {locs : List Loc} {cells slots mc ms : Nat} {pc : Nat} {ls : Array Slot} {st0 rest : List Value} {r : Option Value} {w' : Wd} {a : Array Value} (hr : va_Run p l e R s m args below meth c0 H locs cells slots mc ms (F0 m pc ls st0) rest (QR al G A r w' a) A) (hS : va_S A s.heap H locs)
    (kk : ∀ (H1 : Heap) (locs1 : List Loc), HW al G A w' H1 → va_S A s.heap H1 locs1 → W p l e R s m args below meth c0 H1 locs1 (cells + mc) (slots + ms) Q (F0 m (pc + 3) ls ((r.map (cv G)).toList ++ rest))) : W p l e R s m args below meth c0 H locs cells slots Q (F0 m pc ls st0) := by
  intro T hT X
  obtain ⟨v, st₀, t, T', L, h0, X', hL, e1, e2, ⟨hv, hW', hz, hk⟩, st⟩ := hr T hT X
  cases hv
  rw [h0] at hz hk
  obtain ⟨t2, a1, b1⟩ := kk T'.heap (locs ++ L) (by rw [e1]; exact hW')
    ⟨Nat.le_trans hS.1 (by rw [e1]; exact hz), fun q h1 h2 => by rw [e1, hk q (Nat.lt_of_lt_of_le h1 hS.1) h2]; exact hS.2.1 q h1 h2, fun q hq => by
      rcases List.mem_append.mp hq with h | h
      · exact hS.2.2 q h
      · exact hL q h⟩ T' rfl X'
  exact ⟨t2, st t2 a1, b1⟩
theorem snd_rn (hx : p.tables.exec = Jvm.exec) {mid : Nat} (hmid : mid < NM + 1) (hb : c0.code = mB mid) (hml : c0.maxLocals = mL mid) (hts : ∀ w ∈ WL, w.before args s = true) (hown : s.vm.findClass (oN (mO mid)) = some m.cls) {xs : Nat → Int32} {L : Nat} (hC : CX G A xs L s) (hini : (mS mid == 2) = true → meth.name = "<init>")
    {d : Nat} (hR1 : d + 1 ≤ R.frames) (hR2 : 100 * d + 80 ≤ R.locals) (IH : ∀ m2 as w r w', Ev xs L al d m2 as w r w' → Con l xs L al G A d m2 as w r w') {r : Option Value} {w0 w' : Wd} (hRc : wN w' - wN w0 ≤ R.cells) (hRs : wS w' - wS w0 ≤ R.slots)
    (hret : ∀ (pc : Nat) (ls : Array Slot) (H : Heap) (locs : List Loc) (ins : Instr) (len : Nat) (st : List Value), decode (mB mid) pc = .ok (ins, len) → Rt mid ins len st w' r w' → HW al G A w' H → va_S A s.heap H locs → W p l e R s m args below meth c0 H locs (wN w' - wN w0) (wS w' - wS w0) Q (F0 m pc ls (st.map (cv G)))) :
    ∀ (n pc : Nat) (lv : Lc) (st : List Value) (w : Wd), Mo w0 w → Rn xs L al (Ev xs L al d) mid n pc lv st w r w' → ∀ (ls : Array Slot) (H : Heap) (locs : List Loc), lv_has ls (mL mid) (cvl G lv) → HW al G A w H → va_S A s.heap H locs → W p l e R s m args below meth c0 H locs (wN w - wN w0) (wS w - wS w0) Q (F0 m pc ls (st.map (cv G)))
  | 0, _, _, _, _, _, h, _, _, _, _, _, _ => h.elim
  | n + 1, pc, lv, st, w, hm, h, ls, H, locs, hl, hH, hS => by
    have go := snd_rn hx hmid hb hml hts hown hC hini hR1 hR2 IH hRc hRs hret n
    obtain ⟨ins, len, hcd, h⟩ := h
    have hdg := cd_ok hmid hcd
    rcases h with ⟨t, h1, h⟩ | ⟨st1, w1, h1, h⟩ | ⟨m2, as, rest, r1, w1, h1, h2, h⟩ | h
    · exact snd_stp hx hb hown (fun i v hv => hts _ (cIF_ok _ (lo_mem hv))) (fun i v hv => hts _ (cJF_ok _ (lo_mem hv))) hdg h1 hl (fun ls' hl' => go _ _ _ _ hm h ls' H locs hl' hH hS)
    · have m1 := Ms_mo h1
      have m2 := Rn_mo (Ev_mo d) _ _ _ _ _ _ _ h
      have a1 := m1.1; have a2 := m1.2; have b1 := m2.1; have b2 := m2.2; have c1 := hm.1; have c2 := hm.2
      refine snd_ms hx hb (by rw [hml]; exact hl.1.symm) hts hown hC hH hS hini (by omega) (by omega) hdg h1 (by omega) (by omega) (fun H1 locs1 g1 g2 => ?_)
      have k := go _ _ _ _ (hm.tr m1) h ls H1 locs1 hl g1 g2
      rwa [show wN w - wN w0 + (wN w1 - wN w) = wN w1 - wN w0 by omega, show wS w - wS w0 + (wS w1 - wS w) = wS w1 - wS w0 by omega]
    · obtain ⟨rfl, hm2, rfl, hcat, h1⟩ := h1
      have ok2 := okM_all m2 hm2
      obtain ⟨o1, o2, o3, o4, o5, o6, o7⟩ := id ok2
      have m1 := Ev_mo d _ _ _ _ _ h2
      have mr := Rn_mo (Ev_mo d) _ _ _ _ _ _ _ h
      have a1 := m1.1; have a2 := m1.2; have b1 := mr.1; have b2 := mr.2; have c1 := hm.1; have c2 := hm.2
      have hcon := IH _ _ _ _ _ h2
      have hcat' : ((rest.map (cv G)).map fun v => v.category).sum ≤ 8 := by rw [cats_cv]; exact hcat
      have kk : ∀ (H1 : Heap) (locs1 : List Loc), HW al G A w1 H1 → va_S A s.heap H1 locs1 → W p l e R s m args below meth c0 H1 locs1 (wN w - wN w0 + (wN w1 - wN w)) (wS w - wS w0 + (wS w1 - wS w)) Q (F0 m (pc + 3) ls ((r1.map (cv G)).toList ++ rest.map (cv G))) := by
        intro H1 locs1 g1 g2
        have k := go _ _ _ _ (hm.tr m1) h ls H1 locs1 hl g1 g2
        rw [show wN w - wN w0 + (wN w1 - wN w) = wN w1 - wN w0 by omega, show wS w - wS w0 + (wS w1 - wS w) = wS w1 - wS w0 by omega]
        rw [List.map_append] at k
        cases r1 <;> exact k
      have hpc : ∀ U : State, U.heap = H → s.WarmedH U.vm → va_Pc (as.map (cv G)) (HS xs L al G A w) (as.map (cv G)).toArray U := fun U hU hW => ⟨rfl, by rw [hU]; exact hH, hC.to hW hU hS⟩
      have hst : (as.reverse ++ rest).map (cv G) = (as.map (cv G)).reverse ++ rest.map (cv G) := by rw [List.map_append, List.map_reverse]
      have hlen : ls.size = mL mid := hl.1
      have hR : (rmD d (wN w1 - wN w) (wS w1 - wS w)).frames + 1 ≤ R.frames ∧ 8 + (mL m2 + 11) + (rmD d (wN w1 - wN w) (wS w1 - wS w)).locals ≤ R.locals := ⟨hR1, by show 8 + (mL m2 + 11) + 100 * d ≤ R.locals; omega⟩
      have hf : wN w - wN w0 + (wN w1 - wN w) ≤ R.cells ∧ wS w - wS w0 + (wS w1 - wS w) ≤ R.slots := ⟨by omega, by omega⟩
      cases ins <;> simp only at h1 <;> first | (exact h1.elim) | skip
      case invokestatic i =>
        obtain ⟨g1, g2, g3⟩ := h1
        have hl1 := hts _ (mlF_ok _ (lo_mem g1))
        have hst0 : (Cond.static (mY m2)).before args s = true := by
          rcases o3 with ⟨-, h⟩ | ⟨h, -⟩ | ⟨h, -⟩
          · exact hts _ h
          · omega
          · omega
        refine snd_call (va_runS (As := as.map (cv G)) (rest := rest.map (cv G)) (nL := mL mid) ⟨hx, hb, hml, hown, hts⟩ hcon ⟨callB_of (mA m2) hts (WS_good ok2) rfl rfl rfl (hts _ o2) hl1 o6 hR, hst0⟩ ⟨HS.blind, hpc⟩ rfl (by rw [List.length_map]; exact g3) hlen (by rw [hst]) (lv_room hcat') hdg hf) hS kk
      case invokevirtual i =>
        obtain ⟨g1, g2, v, vs, rfl, g3, g4⟩ := h1
        have hl1 := hts _ (mlF_ok _ (lo_mem g1))
        obtain ⟨hi, hsel⟩ : (Cond.instanceMethod (mY m2)).before args s = true ∧ (Cond.selects (mY m2).cls (mY m2) (mY m2)).before args s = true := by
          rcases o3 with ⟨h, -⟩ | ⟨-, h, h'⟩ | ⟨h, -⟩
          · omega
          · exact ⟨hts _ h, hts _ h'⟩
          · omega
        obtain ⟨b, hcb, hrc⟩ : ∃ b, cv G v = .ref b ∧ ∃ cellB : Cell, H[b]? = some cellB ∧ cellB.vm.isStatics = false ∧ s.vm.findClass (mY m2).cls = some cellB.cls := by
          rcases g4 with ⟨a, rfl, g5, g6⟩ | ⟨q, rfl, g5, g6⟩
          · refine ⟨gad G a, rfl, ?_⟩
            rw [← o5]
            exact recv_obj hC.1 hH g5 g6
          · refine ⟨gsk G q, cv_s g5, ?_⟩
            rw [← o5, g6]
            exact vk_recv hC.2.1 g5 hS
        rw [hst, List.map_cons, hcb, List.reverse_cons, List.append_assoc]
        rw [List.map_cons, hcb] at hpc
        have hcon' := hcon
        unfold Con at hcon'
        rw [List.map_cons, hcb] at hcon'
        refine snd_call (va_runV (As := vs.map (cv G)) (rest := rest.map (cv G)) (nL := mL mid) (b := b) ⟨hx, hb, hml, hown, hts⟩ hcon' ⟨callB_of (mA m2) hts (WS_good ok2) rfl rfl rfl (hts _ o2) hl1 o6 hR, hi, hsel⟩ ⟨HS.blind, hrc, hpc⟩ rfl (by rw [List.length_map]; exact g3) hlen rfl (lv_room hcat') hdg hf) hS kk
      case invokespecial i =>
        obtain ⟨g1, g2, a, vs, rfl, g3⟩ := h1
        have hl1 := hts _ (mlF_ok _ (lo_mem g1))
        obtain ⟨hi, hnm, hnt⟩ : (Cond.instanceMethod (mY m2)).before args s = true ∧ (mY m2).name = "<init>" ∧ mT m2 = none := by
          rcases o3 with ⟨h, -⟩ | ⟨h, -⟩ | ⟨-, h, h', h''⟩
          · omega
          · omega
          · exact ⟨hts _ h, h', h''⟩
        rw [hst, List.map_cons, List.reverse_cons, List.append_assoc]
        refine snd_call (va_runI (As := vs.map (cv G)) (rest := rest.map (cv G)) (nL := mL mid) (b := gad G a) ⟨hx, hb, hml, hown, hts⟩ hcon ⟨callB_of (mA m2) hts (WS_good ok2) (by unfold WS; rw [hnt]) rfl rfl (hts _ o2) hl1 o6 hR, hnm, hi⟩ ⟨HS.blind, hpc⟩ rfl (by rw [List.length_map]; exact g3) hlen rfl (lv_room hcat') hdg hf) hS kk
    · have hw := h.1
      subst hw
      exact hret pc ls H locs ins len st hdg h hH hS
end SND
/-- every run is met by the machine -/
theorem snd_ev (l : Launch) {xs : Nat → Int32} {L : Nat} {al : Bool} {G : Gc} {A : Nat → Prop} : ∀ (d mid : Nat) (as : List Value) (w : Wd) (r : Option Value) (w' : Wd), Ev xs L al d mid as w r w' → Con l xs L al G A d mid as w r w'
  | 0, _, _, _, _, _, h => h.elim
  | d + 1, mid, as, w, r, w', h => by
    obtain ⟨hmid, hargs, n, h⟩ := h
    have ok := okM_all mid hmid
    unfold Con
    refine Met.ofW (cc := mB mid) (maxL := mL mid) (ret := mT mid) ok.2.2.2.1 rfl ?_
    intro p e s m args below meth c s₁ B hml hv
    obtain ⟨rfl, hH, hC⟩ := hv
    have hts0 := atoms_spec (ws := WS mid) B.pre
    have hts : ∀ w ∈ WL, w.before (as.map (cv G)).toArray s = true := fun w hw => hts0 w (List.mem_cons_of_mem _ hw)
    have hown : s.vm.findClass (oN (mO mid)) = some m.cls := by rw [ok.2.2.2.2.1]; exact findClass_of_methodNamed B.named
    have hlocks := B.notSynchronized
    have hlen : (lg_sl (as.map (cv G))).length = (lg_sl as).length := by
      clear hC hH hts hts0 h B hargs
      induction as with
      | nil => rfl
      | cons v vs ih =>
        simp only [lg_sl, List.map_cons, List.flatMap_cons, List.length_append, cv_cat] at ih ⊢
        rw [ih]
        split <;> rfl
    have hl := lv_entry (as.map (cv G)) (n := mL mid) (by rw [hlen]; exact hargs)
    rw [lg_entry_eq]
    rw [cvl_args] at hl
    have hret : ∀ (pc : Nat) (ls : Array Slot) (H : Heap) (locs : List Loc) (ins : Instr) (len : Nat) (st : List Value), decode (mB mid) pc = .ok (ins, len) → Rt mid ins len st w' r w' → HW al G A w' H → va_S A s.heap H locs → W p l e (headSpec (WS mid) (rmD (d + 1) (wN w' - wN w) (wS w' - wS w))).room s m (as.map (cv G)).toArray below meth c H locs (wN w' - wN w) (wS w' - wS w) (MQ below (QR al G A r w') (as.map (cv G)).toArray s (wN w' - wN w) (wS w' - wS w) A) (F0 m pc ls (st.map (cv G))) := by
      intro pc ls H locs ins len st hdg hrt hH' hS'
      obtain ⟨-, rfl, hrt⟩ := hrt
      cases ins <;> simp only at hrt <;> first | (exact hrt.elim) | skip
      case ireturn =>
        obtain ⟨x, ty, rfl, rfl, h1, h2⟩ := hrt
        exact W.zret (v := x) B.exec B.bytes (B.returns.trans h1) h2 (fun t ht hW => ⟨rfl, by rw [ht]; exact hH', hS'.F ht⟩) hS'.2.2 hdg
      case lreturn =>
        obtain ⟨x, rfl, rfl, h1⟩ := hrt
        exact W.lret (v := x) B.exec B.bytes (B.returns.trans h1) (fun t ht hW => ⟨rfl, by rw [ht]; exact hH', hS'.F ht⟩) hS'.2.2 hdg
      case areturn =>
        obtain ⟨a, n, rfl, rfl, h1⟩ := hrt
        exact W.aret (v := .ref (gad G a)) B.exec B.bytes (B.returns.trans h1) (Or.inl ⟨n, rfl⟩) (Or.inr ⟨_, rfl⟩) (fun t ht hW => ⟨rfl, by rw [ht]; exact hH', hS'.F ht⟩) hS'.2.2 hdg
      case return_ =>
        obtain ⟨rfl, rfl, h1⟩ := hrt
        exact W.vret B.exec B.bytes (B.returns.trans h1) (fun t ht hW => ⟨rfl, by rw [ht]; exact hH', hS'.F ht⟩) hS'.2.2 hdg
    have k := snd_rn (l := l) (R := (headSpec (WS mid) (rmD (d + 1) (wN w' - wN w) (wS w' - wS w))).room) (e := e) (below := below) (meth := meth) B.exec (Nat.lt_succ_of_lt hmid) B.bytes hml hts hown hC (fun h2 => by
        have h3 : mS mid = 2 := by simpa using h2
        have h4 := (name_of_methodNamed B.named B.method).1
        rw [h4]
        rcases ok.2.2.1 with ⟨h, -⟩ | ⟨h, -⟩ | ⟨-, -, h, -⟩
        · omega
        · omega
        · exact h) (d := d) (Nat.le_refl _) (by show 100 * d + 80 ≤ 100 * (d + 1); omega) (fun m2 as w r w' h => snd_ev l d m2 as w r w' h) (w0 := w) (Nat.le_refl _) (Nat.le_refl _) hret n 0 _ [] w (Mo.rf w) h _ s.heap [] hl hH va_S.rf
    rw [Nat.sub_self, Nat.sub_self] at k
    exact k
end
section
/-! ROWS for runs: one an instruction, or many. -/
def RN (xs : Nat → Int32) (L : Nat) (al : Bool) (C : Cr) (mid pc : Nat) (lv : Lc) (st : List Value) (w : Wd) (r : Option Value) (w' : Wd) : Prop := ∃ n, Rn xs L al C mid n pc lv st w r w'
/-- k instructions without memory -/
def stn (mid : Nat) : Nat → Nx → Option Nx
  | 0, x => some x
  | k + 1, x => match cd mid x.1 with
    | none => none
    | some i => match stp (mL mid) (cI (mO mid)) (cJ (mO mid)) i.1 i.2 x.1 x.2.1 x.2.2 with
      | none => none
      | some y => stn mid k y
/-- the listed locals are those -/
def Sub (l l' : Lc) : Prop := ∀ i v, lcg l i = some v → lcg l' i = some v
theorem Sub.of {l l' : Lc} (h : allP (fun q => lcg l' q.1 = some q.2) l) : Sub l l' := fun i v hi => allP_mem h (i, v) (lcg_mem hi)
theorem lcg_filter {p : Nat × Value → Bool} : ∀ {l : Lc} {i : Nat} {v : Value}, lcg l i = some v → p (i, v) = true → lcg (l.filter p) i = some v
  | [], _, _, h, _ => by cases h
  | q :: l, i, v, h, hp => by
    unfold lcg at h
    by_cases hq : q.1 = i
    · rw [if_pos hq] at h
      cases h
      have : q = (i, q.2) := by rw [← hq]
      rw [List.filter_cons, if_pos (by rw [this]; exact hp)]
      unfold lcg
      rw [if_pos hq]
    · rw [if_neg hq] at h
      rw [List.filter_cons]
      split
      · unfold lcg
        rw [if_neg hq]
        exact lcg_filter h hp
      · exact lcg_filter h hp
theorem lcg_filter' {p : Nat × Value → Bool} (hp : ∀ i v v', v.category = v'.category → p (i, v) = p (i, v')) : ∀ {l : Lc} {i : Nat} {v : Value}, lcg (l.filter p) i = some v → p (i, v) = true
  | [], _, _, h => by cases h
  | q :: l, i, v, h => by
    have := lcg_mem h
    exact (List.mem_filter.mp this).2
theorem lcg_cons {q : Nat × Value} {l : Lc} {i : Nat} : lcg (q :: l) i = if q.1 = i then some q.2 else lcg l i := rfl
/-- lists in which each place stands once -/
def Uq : Lc → Prop
  | [] => True
  | q :: l => lcg l q.1 = none ∧ Uq l
theorem lcg_filter_none {p : Nat × Value → Bool} : ∀ {l : Lc} {i : Nat}, lcg l i = none → lcg (l.filter p) i = none
  | [], _, _ => rfl
  | q :: l, i, h => by
    rw [lcg_cons] at h
    by_cases hq : q.1 = i
    · rw [if_pos hq] at h; cases h
    · rw [if_neg hq] at h
      rw [List.filter_cons]
      split
      · rw [lcg_cons, if_neg hq]; exact lcg_filter_none h
      · exact lcg_filter_none h
theorem Uq.filter {p : Nat × Value → Bool} : ∀ {l : Lc}, Uq l → Uq (l.filter p)
  | [], _ => trivial
  | q :: l, h => by
    rw [List.filter_cons]
    split
    · exact ⟨lcg_filter_none h.1, h.2.filter⟩
    · exact h.2.filter
theorem lcg_of_filter {p : Nat × Value → Bool} : ∀ {l : Lc} {i : Nat} {v : Value}, Uq l → lcg (l.filter p) i = some v → lcg l i = some v
  | [], _, _, _, h => by cases h
  | q :: l, i, v, hu, h => by
    rw [List.filter_cons] at h
    by_cases hq : q.1 = i
    · split at h
      · rw [lcg_cons, if_pos hq] at h ⊢
        exact h
      · have h0 := hu.1
        rw [hq] at h0
        rw [lcg_filter_none h0] at h
        cases h
    · rw [lcg_cons, if_neg hq]
      split at h
      · rw [lcg_cons, if_neg hq] at h
        exact lcg_of_filter hu.2 h
      · exact lcg_of_filter hu.2 h
theorem Sub.lcf {l l' : Lc} {p : Nat × Value → Bool} {i : Nat} {v : Value} (hu : Uq l) (h : Sub l l') : Sub ((i, v) :: l.filter p) ((i, v) :: l'.filter p) := by
  intro j u hj
  rw [lcg_cons] at hj ⊢
  by_cases hij : i = j
  · rw [if_pos hij] at hj ⊢
    exact hj
  · rw [if_neg hij] at hj ⊢
    have h1 := lcg_of_filter hu hj
    exact lcg_filter (h j u h1) ((List.mem_filter.mp (lcg_mem hj)).2)
theorem Uq.lc1 {l : Lc} {i : Nat} {v : Value} (h : Uq l) : Uq (lc1 l i v) := by
  refine ⟨?_, h.filter⟩
  cases hq : lcg (l.filter fun q => !(q.1 == i) && !(q.1 + 1 == i && q.2.category == 2)) i with
  | none => rfl
  | some u =>
    have := (List.mem_filter.mp (lcg_mem hq)).2
    simp at this
theorem Uq.lc2 {l : Lc} {i : Nat} {v : Value} (h : Uq l) : Uq (lc2 l i v) := by
  refine ⟨?_, h.filter⟩
  cases hq : lcg (l.filter fun q => !(q.1 == i) && (!(q.1 == i + 1) && !(q.1 + 1 == i && q.2.category == 2))) i with
  | none => rfl
  | some u =>
    have := (List.mem_filter.mp (lcg_mem hq)).2
    simp at this
/-- a step with fewer known locals is a step with more -/
theorem stp_sub {nL : Nat} {a : Nat → Option Int32} {b : Nat → Option Int64} {ins : Instr} {len pc : Nat} {l l' : Lc} {st : List Value} {t : Nx} (hu : Uq l) (h : Sub l l') (hs : stp nL a b ins len pc l st = some t) : Uq t.2.1 ∧ ∃ l2, stp nL a b ins len pc l' st = some (t.1, l2, t.2.2) ∧ Sub t.2.1 l2 := by
  have one : ∀ {n : Nat} {o o' : Option (List Value)}, nxt len n pc l o = some t → (∀ u, o = some u → o' = some u) → Uq t.2.1 ∧ ∃ l2, nxt len n pc l' o' = some (t.1, l2, t.2.2) ∧ Sub t.2.1 l2 := by
    intro n o o' h1 h2
    obtain ⟨rfl, t', h3, rfl⟩ := nxt_some h1
    exact ⟨hu, l', by rw [h2 _ h3]; simp [nxt], h⟩
  have jp : ∀ {off : Int} {c : Prop} {_ : Decidable c} {r : List Value}, jmp len pc off l c r = some t → Uq t.2.1 ∧ ∃ l2, jmp len pc off l' c r = some (t.1, l2, t.2.2) ∧ Sub t.2.1 l2 := by
    intro off c _ r h1
    unfold jmp at h1 ⊢
    split at h1
    · next hc =>
      rw [if_pos hc]
      split at h1
      · next hc2 => cases h1; exact ⟨hu, l', by rw [if_pos hc2], h⟩
      · next hc2 => cases h1; exact ⟨hu, l', by rw [if_neg hc2], h⟩
    · cases h1
  have li : ∀ {i : Nat} (u : List Value), ldI l i st = some u → ldI l' i st = some u := by
    intro i u h1; obtain ⟨x, h2, rfl⟩ := ldI_some h1; simp [ldI, h _ _ h2]
  have lj : ∀ {i : Nat} (u : List Value), ldJ l i st = some u → ldJ l' i st = some u := by
    intro i u h1; obtain ⟨x, h2, rfl⟩ := ldJ_some h1; simp [ldJ, h _ _ h2]
  have la : ∀ {i : Nat} (u : List Value), ldA l i st = some u → ldA l' i st = some u := by
    intro i u h1
    obtain ⟨v, h2, rfl, h3⟩ := ldA_some h1
    rcases h3 with rfl | ⟨x, rfl⟩ | ⟨x, rfl⟩
    · simp [ldA, h _ _ h2]
    · simp [ldA, h _ _ h2]
    · simp [ldA, h _ _ h2]
  cases ins <;> simp only [stp] at hs ⊢ <;> first | (cases hs; done) | (exact one hs (fun _ h => h)) | (exact one hs li) | (exact one hs lj) | (exact one hs la) | (exact jp hs) | skip
  case istore_n i => obtain ⟨x, r, rfl, rfl, hn, rfl⟩ := stI_some hs; exact ⟨hu.lc1, lc1 l' _ (.int x), by simp [stI, hn], h.lcf hu⟩
  case istore i => obtain ⟨x, r, rfl, rfl, hn, rfl⟩ := stI_some hs; exact ⟨hu.lc1, lc1 l' _ (.int x), by simp [stI, hn], h.lcf hu⟩
  case lstore_n i => obtain ⟨x, r, rfl, rfl, hn, rfl⟩ := stJ_some hs; exact ⟨hu.lc2, lc2 l' _ (.long x), by simp [stJ, hn], h.lcf hu⟩
  case lstore i => obtain ⟨x, r, rfl, rfl, hn, rfl⟩ := stJ_some hs; exact ⟨hu.lc2, lc2 l' _ (.long x), by simp [stJ, hn], h.lcf hu⟩
  case astore_n i =>
    obtain ⟨v, r, rfl, rfl, hn, rfl, rfl | ⟨x, rfl⟩⟩ := stA_some hs
    · exact ⟨hu.lc1, lc1 l' _ .null, by simp [stA, hn], h.lcf hu⟩
    · exact ⟨hu.lc1, lc1 l' _ (.ref x), by simp [stA, hn], h.lcf hu⟩
  case astore i =>
    obtain ⟨v, r, rfl, rfl, hn, rfl, rfl | ⟨x, rfl⟩⟩ := stA_some hs
    · exact ⟨hu.lc1, lc1 l' _ .null, by simp [stA, hn], h.lcf hu⟩
    · exact ⟨hu.lc1, lc1 l' _ (.ref x), by simp [stA, hn], h.lcf hu⟩
  case iinc i n =>
    unfold iincr at hs ⊢
    split at hs
    · next x hg =>
      split at hs
      · next hc =>
        cases hs
        exact ⟨hu.lc1, lc1 l' _ (.int (x + Int32.ofInt n)), by simp [h _ _ hg, hc], h.lcf hu⟩
      · cases hs
    · cases hs
  case ifCond cd off =>
    unfold ifZ at hs ⊢
    split at hs
    · cases cd <;> exact jp hs
    · cases hs
  case if_icmp cd off =>
    unfold ifC at hs ⊢
    split at hs
    · cases cd <;> exact jp hs
    · cases hs
  case ifnull off =>
    unfold ifN at hs ⊢
    split at hs
    · split at hs
      · next hc => cases hs; exact ⟨hu, l', by simp [hc], h⟩
      · cases hs
    · split at hs
      · next hc => cases hs; exact ⟨hu, l', by simp [hc], h⟩
      · cases hs
    · cases hs
  case tableswitch dflt lo hi offs =>
    split at hs
    · next x r =>
      split at hs
      · next hc =>
        rw [if_pos hc]
        split at hs
        · next h1 => cases hs; exact ⟨hu, l', by rw [if_pos h1], h⟩
        · next h1 =>
          obtain ⟨o, ho, rfl⟩ := Option.map_eq_some_iff.mp hs
          exact ⟨hu, l', by rw [if_neg h1, ho]; rfl, h⟩
      · cases hs
    · cases hs
  case lookupswitch dflt ps =>
    split at hs
    · next x r =>
      split at hs
      · next hc => cases hs; exact ⟨hu, l', by rw [if_pos hc], h⟩
      · cases hs
    · cases hs
theorem Rn_sub {xs : Nat → Int32} {L : Nat} {al : Bool} {C : Cr} {mid : Nat} : ∀ (n : Nat) {pc : Nat} {l l' : Lc} {st : List Value} {w : Wd} {r : Option Value} {w' : Wd}, Uq l → Sub l l' → Rn xs L al C mid n pc l st w r w' → Rn xs L al C mid n pc l' st w r w'
  | 0, _, _, _, _, _, _, _, _, _, h => h.elim
  | n + 1, pc, l, l', st, w, r, w', hu, hs, h => by
    obtain ⟨ins, len, hcd, ⟨t, h1, h⟩ | ⟨st1, w1, h1, h⟩ | ⟨m2, as, rest, r1, w1, h0, h1, h⟩ | h⟩ := h
    · obtain ⟨hu2, l2, g1, g2⟩ := stp_sub hu hs h1
      exact ⟨ins, len, hcd, Or.inl ⟨_, g1, Rn_sub n hu2 g2 h⟩⟩
    · exact ⟨ins, len, hcd, Or.inr (Or.inl ⟨st1, w1, h1, Rn_sub n hu hs h⟩)⟩
    · exact ⟨ins, len, hcd, Or.inr (Or.inr (Or.inl ⟨m2, as, rest, r1, w1, h0, h1, Rn_sub n hu hs h⟩))⟩
    · exact ⟨ins, len, hcd, Or.inr (Or.inr (Or.inr h))⟩
section ROWS
variable {xs : Nat → Int32} {L : Nat} {al : Bool} {C : Cr} {mid pc : Nat} {lv : Lc} {st rest : List Value} {w : Wd} {r : Option Value} {w' : Wd} {ins : Instr} {len : Nat}
theorem ev_of {d : Nat} {args : List Value} (h1 : mid < NM) (h2 : (lg_sl args).length ≤ mL mid) (h : RN xs L al (Ev xs L al d) mid 0 (lv_args 0 args) [] w r w') : Ev xs L al (d + 1) mid args w r w' := ⟨h1, h2, h⟩
/-- fewer locals, in any order -/
theorem rsub (l0 : Lc) (hu : Uq l0) (h : allP (fun q => lcg lv q.1 = some q.2) l0) (k : RN xs L al C mid pc l0 st w r w') : RN xs L al C mid pc lv st w r w' := by
  obtain ⟨n, k⟩ := k
  exact ⟨n, Rn_sub n hu (Sub.of h) k⟩
theorem rs {t : Nx} (h1 : cd mid pc = some (ins, len)) (h2 : stp (mL mid) (cI (mO mid)) (cJ (mO mid)) ins len pc lv st = some t) (k : RN xs L al C mid t.1 t.2.1 t.2.2 w r w') : RN xs L al C mid pc lv st w r w' := by
  obtain ⟨n, k⟩ := k
  exact ⟨n + 1, ins, len, h1, Or.inl ⟨t, h2, k⟩⟩
theorem rsn (n : Nat) {t : Nx} (h : stn mid n (pc, lv, st) = some t) (k : RN xs L al C mid t.1 t.2.1 t.2.2 w r w') : RN xs L al C mid pc lv st w r w' := by
  induction n generalizing pc lv st with
  | zero => cases h; exact k
  | succ n ih =>
    unfold stn at h
    split at h
    · cases h
    · next i hi =>
      split at h
      · cases h
      · next y hy => exact rs hi hy (ih h)
/-- a jump: taken, not taken -/
theorem rjt {c : Prop} {dc : Decidable c} {a b : Nx} (h1 : cd mid pc = some (ins, len)) (h2 : stp (mL mid) (cI (mO mid)) (cJ (mO mid)) ins len pc lv st = @ite _ c dc (some a) (some b)) (hc : c) (k : RN xs L al C mid a.1 a.2.1 a.2.2 w r w') : RN xs L al C mid pc lv st w r w' := rs h1 (by rw [h2, if_pos hc]) k
theorem rjf {c : Prop} {dc : Decidable c} {a b : Nx} (h1 : cd mid pc = some (ins, len)) (h2 : stp (mL mid) (cI (mO mid)) (cJ (mO mid)) ins len pc lv st = @ite _ c dc (some a) (some b)) (hc : ¬ c) (k : RN xs L al C mid b.1 b.2.1 b.2.2 w r w') : RN xs L al C mid pc lv st w r w' := rs h1 (by rw [h2, if_neg hc]) k
theorem rret (h1 : cd mid pc = some (ins, len)) (h2 : Rt mid ins len st w r w') : RN xs L al C mid pc lv st w r w' := ⟨1, ins, len, h1, Or.inr (Or.inr (Or.inr h2))⟩
theorem rm {st1 : List Value} {w1 : Wd} (h1 : cd mid pc = some (ins, len)) (h2 : Ms xs L al (mO mid) (mS mid == 2) ins len st w st1 w1) (k : RN xs L al C mid (pc + len) lv st1 w1 r w') : RN xs L al C mid pc lv st w r w' := by
  obtain ⟨n, k⟩ := k
  exact ⟨n + 1, ins, len, h1, Or.inr (Or.inl ⟨st1, w1, h2, k⟩)⟩
variable {i a c k0 : Nat}
theorem rgI (h1 : cd mid pc = some (.getfield i, 3)) (h2 : fl (mO mid) i = some (c, k0)) (h3 : (fty c k0 == 0 || fty c k0 == 3) = true) (hk : Kd w a c) (k : RN xs L al C mid (pc + 3) lv (.int (wI w a k0) :: rest) w r w') : RN xs L al C mid pc lv (.ref a :: rest) w r w' := by
  refine rm h1 ⟨rfl, rfl, Or.inl ⟨c, k0, a, rest, h2, rfl, hk, ?_⟩⟩ k
  simp only [Bool.or_eq_true, beq_iff_eq] at h3
  have e1 : fty c k0 ≠ 1 := by rcases h3 with h | h <;> omega
  have e2 : fty c k0 ≠ 2 := by rcases h3 with h | h <;> omega
  simp [gV, e1, e2]
theorem rgJ (h1 : cd mid pc = some (.getfield i, 3)) (h2 : fl (mO mid) i = some (c, k0)) (h3 : fty c k0 = 1) (hk : Kd w a c) (k : RN xs L al C mid (pc + 3) lv (.long (wJ w a k0) :: rest) w r w') : RN xs L al C mid pc lv (.ref a :: rest) w r w' :=
  rm h1 ⟨rfl, rfl, Or.inl ⟨c, k0, a, rest, h2, rfl, hk, by simp [gV, h3]⟩⟩ k
theorem rgR {t : Nat} (h1 : cd mid pc = some (.getfield i, 3)) (h2 : fl (mO mid) i = some (c, k0)) (h3 : fty c k0 = 2) (hk : Kd w a c) (ht : wR w a k0 = some t) (k : RN xs L al C mid (pc + 3) lv (.ref t :: rest) w r w') : RN xs L al C mid pc lv (.ref a :: rest) w r w' :=
  rm h1 ⟨rfl, rfl, Or.inl ⟨c, k0, a, rest, h2, rfl, hk, by simp [gV, h3, ht, rfv]⟩⟩ k
theorem rgN (h1 : cd mid pc = some (.getfield i, 3)) (h2 : fl (mO mid) i = some (c, k0)) (h3 : fty c k0 = 2) (hk : Kd w a c) (ht : wR w a k0 = none) (k : RN xs L al C mid (pc + 3) lv (.null :: rest) w r w') : RN xs L al C mid pc lv (.ref a :: rest) w r w' :=
  rm h1 ⟨rfl, rfl, Or.inl ⟨c, k0, a, rest, h2, rfl, hk, by simp [gV, h3, ht, rfv]⟩⟩ k
theorem rpI {x : Int32} (h1 : cd mid pc = some (.putfield i, 3)) (h2 : fl (mO mid) i = some (c, k0)) (h3 : fty c k0 = 0) (hf : fin c k0 = false ∨ (fin c k0 = true ∧ (mS mid == 2) = true ∧ c = mO mid)) (hk : Kd w a c) (k : RN xs L al C mid (pc + 3) lv rest (uI w a k0 x) r w') : RN xs L al C mid pc lv (.int x :: .ref a :: rest) w r w' :=
  rm h1 ⟨rfl, c, k0, a, rest, .int x, h2, rfl, hk, hf, by simp [pV, h3], rfl⟩ k
theorem rpZ {x : Int32} (h1 : cd mid pc = some (.putfield i, 3)) (h2 : fl (mO mid) i = some (c, k0)) (h3 : fty c k0 = 3) (hf : fin c k0 = false ∨ (fin c k0 = true ∧ (mS mid == 2) = true ∧ c = mO mid)) (hk : Kd w a c) (hx : x = 0 ∨ x = 1) (k : RN xs L al C mid (pc + 3) lv rest (uI w a k0 x) r w') : RN xs L al C mid pc lv (.int x :: .ref a :: rest) w r w' :=
  rm h1 ⟨rfl, c, k0, a, rest, .int x, h2, rfl, hk, hf, by simp [pV, h3, hx], rfl⟩ k
theorem rpJ {x : Int64} (h1 : cd mid pc = some (.putfield i, 3)) (h2 : fl (mO mid) i = some (c, k0)) (h3 : fty c k0 = 1) (hf : fin c k0 = false ∨ (fin c k0 = true ∧ (mS mid == 2) = true ∧ c = mO mid)) (hk : Kd w a c) (k : RN xs L al C mid (pc + 3) lv rest (uJ w a k0 x) r w') : RN xs L al C mid pc lv (.long x :: .ref a :: rest) w r w' :=
  rm h1 ⟨rfl, c, k0, a, rest, .long x, h2, rfl, hk, hf, by simp [pV, h3], rfl⟩ k
theorem rpR {t : Nat} (h1 : cd mid pc = some (.putfield i, 3)) (h2 : fl (mO mid) i = some (c, k0)) (h3 : fty c k0 = 2) (hf : fin c k0 = false ∨ (fin c k0 = true ∧ (mS mid == 2) = true ∧ c = mO mid)) (hk : Kd w a c) (k : RN xs L al C mid (pc + 3) lv rest (uR w a k0 (some t)) r w') : RN xs L al C mid pc lv (.ref t :: .ref a :: rest) w r w' :=
  rm h1 ⟨rfl, c, k0, a, rest, .ref t, h2, rfl, hk, hf, by simp [pV, h3], rfl⟩ k
theorem rpN (h1 : cd mid pc = some (.putfield i, 3)) (h2 : fl (mO mid) i = some (c, k0)) (h3 : fty c k0 = 2) (hf : fin c k0 = false ∨ (fin c k0 = true ∧ (mS mid == 2) = true ∧ c = mO mid)) (hk : Kd w a c) (k : RN xs L al C mid (pc + 3) lv rest (uR w a k0 none) r w') : RN xs L al C mid pc lv (.null :: .ref a :: rest) w r w' :=
  rm h1 ⟨rfl, c, k0, a, rest, .null, h2, rfl, hk, hf, by simp [pV, h3], rfl⟩ k
variable {j : Int32}
theorem rxI (h1 : cd mid pc = some (.iaload, 1)) (hk : Kd w a 12) {n : Nat} (hn : wL w a = n) (hj : ¬ (j < 0 ∨ n ≤ j.toNatClampNeg)) (k : RN xs L al C mid (pc + 1) lv (.int (wX w a j.toNatClampNeg) :: rest) w r w') : RN xs L al C mid pc lv (.int j :: .ref a :: rest) w r w' :=
  rm h1 ⟨rfl, rfl, Or.inl ⟨a, rest, j, rfl, hk, by rw [hn]; exact hj, rfl⟩⟩ k
theorem rxJ (h1 : cd mid pc = some (.laload, 1)) (hk : Kd w a 13) {n : Nat} (hn : wL w a = n) (hj : ¬ (j < 0 ∨ n ≤ j.toNatClampNeg)) (k : RN xs L al C mid (pc + 1) lv (.long (wY w a j.toNatClampNeg) :: rest) w r w') : RN xs L al C mid pc lv (.int j :: .ref a :: rest) w r w' :=
  rm h1 ⟨rfl, rfl, a, rest, j, rfl, hk, by rw [hn]; exact hj, rfl⟩ k
theorem rxB (h1 : cd mid pc = some (.baload, 1)) (hk : Kd w a 11 ∨ Kd w a 14) {n : Nat} (hn : wL w a = n) (hj : ¬ (j < 0 ∨ n ≤ j.toNatClampNeg)) (k : RN xs L al C mid (pc + 1) lv (.int (wX w a j.toNatClampNeg) :: rest) w r w') : RN xs L al C mid pc lv (.int j :: .ref a :: rest) w r w' :=
  rm h1 ⟨rfl, rfl, Or.inl ⟨a, rest, j, rfl, hk, by rw [hn]; exact hj, rfl⟩⟩ k
theorem rxA {t : Nat} (h1 : cd mid pc = some (.aaload, 1)) (hk : Kd w a 15 ∨ Kd w a 16) {n : Nat} (hn : wL w a = n) (hj : ¬ (j < 0 ∨ n ≤ j.toNatClampNeg)) (ht : wZ w a j.toNatClampNeg = some t) (k : RN xs L al C mid (pc + 1) lv (.ref t :: rest) w r w') : RN xs L al C mid pc lv (.int j :: .ref a :: rest) w r w' :=
  rm h1 ⟨rfl, rfl, a, rest, j, rfl, hk, by rw [hn]; exact hj, by rw [ht]; rfl⟩ k
theorem rxL (h1 : cd mid pc = some (.arraylength, 1)) (hk : Kd w a c) (hc : 11 ≤ c) {n : Nat} (hn : wL w a = n) (k : RN xs L al C mid (pc + 1) lv (.int (Int32.ofNat n) :: rest) w r w') : RN xs L al C mid pc lv (.ref a :: rest) w r w' :=
  rm h1 ⟨rfl, rfl, Or.inl ⟨a, rest, c, rfl, hk, hc, by rw [hn]⟩⟩ k
theorem rsI {x : Int32} (h1 : cd mid pc = some (.iastore, 1)) (hk : Kd w a 12) {n : Nat} (hn : wL w a = n) (hj : ¬ (j < 0 ∨ n ≤ j.toNatClampNeg)) (k : RN xs L al C mid (pc + 1) lv rest (uX w a j.toNatClampNeg x) r w') : RN xs L al C mid pc lv (.int x :: .int j :: .ref a :: rest) w r w' :=
  rm h1 ⟨rfl, a, rest, j, x, rfl, hk, by rw [hn]; exact hj, rfl, rfl⟩ k
theorem rsJ {x : Int64} (h1 : cd mid pc = some (.lastore, 1)) (hk : Kd w a 13) {n : Nat} (hn : wL w a = n) (hj : ¬ (j < 0 ∨ n ≤ j.toNatClampNeg)) (k : RN xs L al C mid (pc + 1) lv rest (uY w a j.toNatClampNeg x) r w') : RN xs L al C mid pc lv (.long x :: .int j :: .ref a :: rest) w r w' :=
  rm h1 ⟨rfl, a, rest, j, x, rfl, hk, by rw [hn]; exact hj, rfl, rfl⟩ k
theorem rsB {x : Int32} (h1 : cd mid pc = some (.bastore, 1)) (hk : Kd w a 11) {n : Nat} (hn : wL w a = n) (hj : ¬ (j < 0 ∨ n ≤ j.toNatClampNeg)) (k : RN xs L al C mid (pc + 1) lv rest (uX w a j.toNatClampNeg x.toInt8.toInt32) r w') : RN xs L al C mid pc lv (.int x :: .int j :: .ref a :: rest) w r w' :=
  rm h1 ⟨rfl, a, rest, j, x, .byte, rfl, Or.inl ⟨hk, rfl⟩, by rw [hn]; exact hj, rfl, by rw [vp_nar_byte]⟩ k
theorem rsZ {x : Int32} (h1 : cd mid pc = some (.bastore, 1)) (hk : Kd w a 14) {n : Nat} (hn : wL w a = n) (hj : ¬ (j < 0 ∨ n ≤ j.toNatClampNeg)) (k : RN xs L al C mid (pc + 1) lv rest (uX w a j.toNatClampNeg (vp_nar .boolean x)) r w') : RN xs L al C mid pc lv (.int x :: .int j :: .ref a :: rest) w r w' :=
  rm h1 ⟨rfl, a, rest, j, x, .boolean, rfl, Or.inr ⟨hk, rfl⟩, by rw [hn]; exact hj, rfl, rfl⟩ k
variable {m2 : Nat} {as : List Value} {r1 : Option Value} {w1 : Wd}
theorem rcl (h1 : cd mid pc = some (ins, 3)) (h2 : Cs (mO mid) ins 3 st w m2 as rest) (hc : C m2 as w r1 w1) (k : RN xs L al C mid (pc + 3) lv (r1.toList ++ rest) w1 r w') : RN xs L al C mid pc lv st w r w' := by
  obtain ⟨n, k⟩ := k
  exact ⟨n + 1, ins, 3, h1, Or.inr (Or.inr (Or.inl ⟨m2, as, rest, r1, w1, h2, hc, k⟩))⟩
/-- static; of an object; of a String constant -/
theorem rcS (m2 : Nat) (as : List Value) (h1 : cd mid pc = some (.invokestatic i, 3)) (h2 : ml (mO mid) i = some m2) (h3 : (decide (m2 < NM) && mS m2 == 0 && as.length == mA m2) = true) (h4 : cats rest ≤ 8) (hs : st = as.reverse ++ rest) (hc : C m2 as w r1 w1) (k : RN xs L al C mid (pc + 3) lv (r1.toList ++ rest) w1 r w') : RN xs L al C mid pc lv st w r w' := by
  simp only [Bool.and_eq_true, decide_eq_true_eq, beq_iff_eq] at h3
  exact rcl h1 ⟨rfl, h3.1.1, hs, h4, h2, h3.1.2, h3.2⟩ hc k
theorem rcV (m2 a : Nat) (as : List Value) (h1 : cd mid pc = some (.invokevirtual i, 3)) (h2 : ml (mO mid) i = some m2) (h3 : (decide (m2 < NM) && mS m2 == 1 && as.length == mA m2 && decide (mO m2 < 11)) = true) (hk : Kd w a (mO m2)) (h4 : cats rest ≤ 8) (hs : st = (.ref a :: as).reverse ++ rest) (hc : C m2 (.ref a :: as) w r1 w1) (k : RN xs L al C mid (pc + 3) lv (r1.toList ++ rest) w1 r w') : RN xs L al C mid pc lv st w r w' := by
  simp only [Bool.and_eq_true, decide_eq_true_eq, beq_iff_eq] at h3
  exact rcl h1 ⟨rfl, h3.1.1.1, hs, h4, h2, h3.1.1.2, _, _, rfl, h3.1.2, Or.inl ⟨a, rfl, h3.2, hk⟩⟩ hc k
theorem rcQ (m2 q : Nat) (as : List Value) (h1 : cd mid pc = some (.invokevirtual i, 3)) (h2 : ml (mO mid) i = some m2) (h3 : (decide (m2 < NM) && mS m2 == 1 && as.length == mA m2 && mO m2 == 16) = true) (hq : q < 8) (h4 : cats rest ≤ 8) (hs : st = (.retAddr q :: as).reverse ++ rest) (hc : C m2 (.retAddr q :: as) w r1 w1) (k : RN xs L al C mid (pc + 3) lv (r1.toList ++ rest) w1 r w') : RN xs L al C mid pc lv st w r w' := by
  simp only [Bool.and_eq_true, decide_eq_true_eq, beq_iff_eq] at h3
  exact rcl h1 ⟨rfl, h3.1.1.1, hs, h4, h2, h3.1.1.2, _, _, rfl, h3.1.2, Or.inr ⟨q, rfl, hq, h3.2⟩⟩ hc k
theorem rcI (m2 a : Nat) (as : List Value) (h1 : cd mid pc = some (.invokespecial i, 3)) (h2 : ml (mO mid) i = some m2) (h3 : (decide (m2 < NM) && mS m2 == 2 && as.length == mA m2) = true) (h4 : cats rest ≤ 8) (hs : st = (.ref a :: as).reverse ++ rest) (hc : C m2 (.ref a :: as) w r1 w1) (k : RN xs L al C mid (pc + 3) lv (r1.toList ++ rest) w1 r w') : RN xs L al C mid pc lv st w r w' := by
  simp only [Bool.and_eq_true, decide_eq_true_eq, beq_iff_eq] at h3
  exact rcl h1 ⟨rfl, h3.1.1, hs, h4, h2, h3.1.2, a, as, rfl, h3.2⟩ hc k
end ROWS
end
section
/-! WORDS of the functions that the methods are. -/
abbrev Mm : Type := (Nat → Nat → Int32) × (Nat → Nat → Int64) × (Nat → Nat → Int32) × (Nat → Nat → Int64)
abbrev St : Type := (Nat → Nat → Option Nat) × (Nat → Nat) × (Nat → Nat) × (Nat → Nat → Option Nat) × Nat × Nat
def mI (m : Mm) (a k : Nat) : Int32 := m.1 a k
def mJ (m : Mm) (a k : Nat) : Int64 := m.2.1 a k
def mX (m : Mm) (a k : Nat) : Int32 := m.2.2.1 a k
def mYy (m : Mm) (a k : Nat) : Int64 := m.2.2.2 a k
def vI (m : Mm) (a k : Nat) (v : Int32) : Mm := (u2 m.1 a k v, m.2)
def vJ (m : Mm) (a k : Nat) (v : Int64) : Mm := (m.1, u2 m.2.1 a k v, m.2.2)
def vX (m : Mm) (a k : Nat) (v : Int32) : Mm := (m.1, m.2.1, u2 m.2.2.1 a k v, m.2.2.2)
def vY (m : Mm) (a k : Nat) (v : Int64) : Mm := (m.1, m.2.1, m.2.2.1, u2 m.2.2.2 a k v)
def ck {α : Type} (c : Prop) [Decidable c] (k : Option α) : Option α := if c then k else none
theorem ck_some {α : Type} {c : Prop} {dc : Decidable c} {k : Option α} {x : α} (h : @ck α c dc k = some x) : c ∧ k = some x := by
  unfold ck at h
  split at h
  · next hc => exact ⟨hc, h⟩
  · cases h
theorem ck_t {α : Type} {c : Prop} {dc : Decidable c} {k : Option α} (h : c) : @ck α c dc k = k := by unfold ck; rw [if_pos h]
def b1 {α β : Type} (o : Option α) (k : α → Option β) : Option β := match o with
  | none => none
  | some a => k a
def b2 {α β : Type} (o : Option (α × Mm)) (k : α → Mm → Option β) : Option β := match o with
  | none => none
  | some a => k a.1 a.2
def b3 {β : Type} (o : Option Mm) (k : Mm → Option β) : Option β := match o with
  | none => none
  | some a => k a
theorem b1_some {α β : Type} {o : Option α} {k : α → Option β} {x : β} (h : b1 o k = some x) : ∃ a, o = some a ∧ k a = some x := by
  unfold b1 at h
  split at h
  · cases h
  · exact ⟨_, rfl, h⟩
theorem b2_some {α β : Type} {o : Option (α × Mm)} {k : α → Mm → Option β} {x : β} (h : b2 o k = some x) : ∃ a m, o = some (a, m) ∧ k a m = some x := by
  unfold b2 at h
  split at h
  · cases h
  · exact ⟨_, _, rfl, h⟩
theorem b3_some {β : Type} {o : Option Mm} {k : Mm → Option β} {x : β} (h : b3 o k = some x) : ∃ m, o = some m ∧ k m = some x := by
  unfold b3 at h
  split at h
  · cases h
  · exact ⟨_, rfl, h⟩
theorem b1_s {α β : Type} {a : α} {k : α → Option β} : b1 (some a) k = k a := rfl
theorem b2_s {α β : Type} {a : α} {m : Mm} {k : α → Mm → Option β} : b2 (some (a, m)) k = k a m := rfl
theorem b3_s {β : Type} {m : Mm} {k : Mm → Option β} : b3 (some m) k = k m := rfl
/-- a common rest -/
def jn {α β : Type} (a : α) (f : α → β) : β := f a
def ius (x y : Int32) : Int32 := (x.toUInt32 >>> (y.toUInt32 &&& Int32.toUInt32 31)).toInt32
def lus (x : Int64) (y : Int32) : Int64 := (x.toUInt64 >>> (y.toInt64.toUInt64 &&& Int64.toUInt64 63)).toInt64
def lsl (x : Int64) (y : Int32) : Int64 := x <<< (y.toInt64 &&& 63)
def lsr (x : Int64) (y : Int32) : Int64 := x >>> (y.toInt64 &&& 63)
def isl (x y : Int32) : Int32 := x <<< (y &&& 31)
def isr (x y : Int32) : Int32 := x >>> (y &&& 31)
def irm (x y : Int32) : Int32 := x - x / y * y
def lrm (x y : Int64) : Int64 := x - x / y * y
def i2c (x : Int32) : Int32 := (x.toUInt32 % 65536).toInt32
/-- index i in a row of n -/
abbrev ix (i : Int32) (n : Nat) : Prop := ¬ (i < 0 ∨ n ≤ i.toNatClampNeg)
theorem lgc (x y : Int64) : (y < x ∧ lg_cmp x y = 1) ∨ (x = y ∧ lg_cmp x y = 0) ∨ (x < y ∧ lg_cmp x y = -1) := by
  by_cases h1 : y < x
  · exact Or.inl ⟨h1, by simp [lg_cmp, h1]⟩
  · by_cases h2 : x = y
    · subst h2
      exact Or.inr (Or.inl ⟨rfl, by simp [lg_cmp, h1]⟩)
    · have h3 : x < y := by
        simp only [Int64.lt_iff_toInt_lt, ← Int64.toInt_inj] at *
        omega
      exact Or.inr (Or.inr ⟨h3, by simp [lg_cmp, h1, h2]⟩)
theorem lgc_eq {x y : Int64} : lg_cmp x y = 0 ↔ x = y := by
  rcases lgc x y with ⟨h, e⟩ | ⟨h, e⟩ | ⟨h, e⟩ <;> rw [e]
  · exact ⟨fun q => absurd q (by decide), fun q => absurd q.symm (lg_lt_ne h)⟩
  · exact ⟨fun _ => h, fun _ => rfl⟩
  · exact ⟨fun q => absurd q (by decide), fun q => absurd q (lg_lt_ne h)⟩
theorem lgc_lt {x y : Int64} : lg_cmp x y < 0 ↔ x < y := by
  rcases lgc x y with ⟨h, e⟩ | ⟨h, e⟩ | ⟨h, e⟩ <;> rw [e]
  · exact ⟨fun q => absurd q (by decide), fun q => absurd q (lg_lt_not h)⟩
  · exact ⟨fun q => absurd q (by decide), fun q => absurd h (lg_lt_ne q)⟩
  · exact ⟨fun _ => h, fun _ => by decide⟩
theorem lgc_ge {x y : Int64} : 0 ≤ lg_cmp x y ↔ y ≤ x := by
  rcases lgc x y with ⟨h, e⟩ | ⟨h, e⟩ | ⟨h, e⟩ <;> rw [e]
  · exact ⟨fun _ => Int64.le_of_lt h, fun _ => by decide⟩
  · exact ⟨fun _ => by rw [h]; exact Int64.le_refl y, fun _ => by decide⟩
  · exact ⟨fun q => absurd q (by decide), fun q => absurd q (lg_lt_not_le h)⟩
theorem lgc_gt {x y : Int64} : 0 < lg_cmp x y ↔ y < x := by
  rcases lgc x y with ⟨h, e⟩ | ⟨h, e⟩ | ⟨h, e⟩ <;> rw [e]
  · exact ⟨fun _ => h, fun _ => by decide⟩
  · exact ⟨fun q => absurd q (by decide), fun q => absurd h.symm (lg_lt_ne q)⟩
  · exact ⟨fun q => absurd q (by decide), fun q => absurd h (lg_lt_not q)⟩
theorem lgc_le {x y : Int64} : lg_cmp x y ≤ 0 ↔ x ≤ y := by
  rcases lgc x y with ⟨h, e⟩ | ⟨h, e⟩ | ⟨h, e⟩ <;> rw [e]
  · exact ⟨fun q => absurd q (by decide), fun q => absurd q (lg_lt_not_le h)⟩
  · exact ⟨fun _ => by rw [h]; exact Int64.le_refl y, fun _ => by decide⟩
  · exact ⟨fun _ => Int64.le_of_lt h, fun _ => by decide⟩
/-- a static shape: kinds, lengths, references -/
def Sh (kT lT : List (Nat × Nat)) (rT : List (Nat × Nat × Nat)) (S : St) : Prop := (∀ e ∈ kT, e.1 < S.2.2.2.2.1 ∧ S.2.1 e.1 = e.2) ∧ (∀ e ∈ lT, S.2.2.1 e.1 = e.2) ∧ ∀ e ∈ rT, S.1 e.1 e.2.1 = some e.2.2
theorem Sh.k {kT lT : List (Nat × Nat)} {rT : List (Nat × Nat × Nat)} {S : St} (h : Sh kT lT rT S) {a c : Nat} (i : Nat) (hi : kT[i]? = some (a, c)) (m : Mm) : Kd (m, S) a c := h.1 (a, c) (List.mem_of_getElem? hi)
theorem Sh.l {kT lT : List (Nat × Nat)} {rT : List (Nat × Nat × Nat)} {S : St} (h : Sh kT lT rT S) {a n : Nat} (i : Nat) (hi : lT[i]? = some (a, n)) (m : Mm) : wL (m, S) a = n := h.2.1 (a, n) (List.mem_of_getElem? hi)
theorem Sh.r {kT lT : List (Nat × Nat)} {rT : List (Nat × Nat × Nat)} {S : St} (h : Sh kT lT rT S) {a k t : Nat} (i : Nat) (hi : rT[i]? = some (a, k, t)) (m : Mm) : wR (m, S) a k = some t := h.2.2 (a, k, t) (List.mem_of_getElem? hi)
theorem nz_of {x : Int32} (h : x = 0 ∨ x = 1) : narrow .boolean (.int x) = .int x := by rcases h with rfl | rfl <;> rfl
/-! The rows with the memory as a pair: what changes, and what stays. -/
section PROWS
variable {xs : Nat → Int32} {L : Nat} {al : Bool} {C : Cr} {mid pc : Nat} {lv : Lc} {rest : List Value} {m : Mm} {S : St} {r : Option Value} {w' : Wd} {i a c k0 : Nat} {j : Int32}
theorem pgI (h1 : cd mid pc = some (.getfield i, 3)) (h2 : fl (mO mid) i = some (c, k0)) (h3 : (fty c k0 == 0 || fty c k0 == 3) = true) (hk : Kd (m, S) a c) (k : RN xs L al C mid (pc + 3) lv (.int (mI m a k0) :: rest) (m, S) r w') : RN xs L al C mid pc lv (.ref a :: rest) (m, S) r w' := rgI h1 h2 h3 hk k
theorem pgJ (h1 : cd mid pc = some (.getfield i, 3)) (h2 : fl (mO mid) i = some (c, k0)) (h3 : fty c k0 = 1) (hk : Kd (m, S) a c) (k : RN xs L al C mid (pc + 3) lv (.long (mJ m a k0) :: rest) (m, S) r w') : RN xs L al C mid pc lv (.ref a :: rest) (m, S) r w' := rgJ h1 h2 h3 hk k
theorem ppI {x : Int32} (h1 : cd mid pc = some (.putfield i, 3)) (h2 : fl (mO mid) i = some (c, k0)) (h3 : fty c k0 = 0) (hf : fin c k0 = false) (hk : Kd (m, S) a c) (k : RN xs L al C mid (pc + 3) lv rest (vI m a k0 x, S) r w') : RN xs L al C mid pc lv (.int x :: .ref a :: rest) (m, S) r w' := rpI h1 h2 h3 (Or.inl hf) hk k
theorem ppZ {x : Int32} (h1 : cd mid pc = some (.putfield i, 3)) (h2 : fl (mO mid) i = some (c, k0)) (h3 : fty c k0 = 3) (hf : fin c k0 = false) (hk : Kd (m, S) a c) (hx : x = 0 ∨ x = 1) (k : RN xs L al C mid (pc + 3) lv rest (vI m a k0 x, S) r w') : RN xs L al C mid pc lv (.int x :: .ref a :: rest) (m, S) r w' := rpZ h1 h2 h3 (Or.inl hf) hk hx k
theorem ppJ {x : Int64} (h1 : cd mid pc = some (.putfield i, 3)) (h2 : fl (mO mid) i = some (c, k0)) (h3 : fty c k0 = 1) (hf : fin c k0 = false) (hk : Kd (m, S) a c) (k : RN xs L al C mid (pc + 3) lv rest (vJ m a k0 x, S) r w') : RN xs L al C mid pc lv (.long x :: .ref a :: rest) (m, S) r w' := rpJ h1 h2 h3 (Or.inl hf) hk k
theorem pxI (h1 : cd mid pc = some (.iaload, 1)) (hk : Kd (m, S) a 12) {n : Nat} (hn : wL (m, S) a = n) (hj : ix j n) (k : RN xs L al C mid (pc + 1) lv (.int (mX m a j.toNatClampNeg) :: rest) (m, S) r w') : RN xs L al C mid pc lv (.int j :: .ref a :: rest) (m, S) r w' := rxI h1 hk hn hj k
theorem pxJ (h1 : cd mid pc = some (.laload, 1)) (hk : Kd (m, S) a 13) {n : Nat} (hn : wL (m, S) a = n) (hj : ix j n) (k : RN xs L al C mid (pc + 1) lv (.long (mYy m a j.toNatClampNeg) :: rest) (m, S) r w') : RN xs L al C mid pc lv (.int j :: .ref a :: rest) (m, S) r w' := rxJ h1 hk hn hj k
theorem pxB (h1 : cd mid pc = some (.baload, 1)) (hk : Kd (m, S) a 11 ∨ Kd (m, S) a 14) {n : Nat} (hn : wL (m, S) a = n) (hj : ix j n) (k : RN xs L al C mid (pc + 1) lv (.int (mX m a j.toNatClampNeg) :: rest) (m, S) r w') : RN xs L al C mid pc lv (.int j :: .ref a :: rest) (m, S) r w' := rxB h1 hk hn hj k
theorem psI {x : Int32} (h1 : cd mid pc = some (.iastore, 1)) (hk : Kd (m, S) a 12) {n : Nat} (hn : wL (m, S) a = n) (hj : ix j n) (k : RN xs L al C mid (pc + 1) lv rest (vX m a j.toNatClampNeg x, S) r w') : RN xs L al C mid pc lv (.int x :: .int j :: .ref a :: rest) (m, S) r w' := rsI h1 hk hn hj k
theorem psJ {x : Int64} (h1 : cd mid pc = some (.lastore, 1)) (hk : Kd (m, S) a 13) {n : Nat} (hn : wL (m, S) a = n) (hj : ix j n) (k : RN xs L al C mid (pc + 1) lv rest (vY m a j.toNatClampNeg x, S) r w') : RN xs L al C mid pc lv (.long x :: .int j :: .ref a :: rest) (m, S) r w' := rsJ h1 hk hn hj k
theorem psB {x : Int32} (h1 : cd mid pc = some (.bastore, 1)) (hk : Kd (m, S) a 11) {n : Nat} (hn : wL (m, S) a = n) (hj : ix j n) (k : RN xs L al C mid (pc + 1) lv rest (vX m a j.toNatClampNeg x.toInt8.toInt32, S) r w') : RN xs L al C mid pc lv (.int x :: .int j :: .ref a :: rest) (m, S) r w' := rsB h1 hk hn hj k
theorem psZ {x : Int32} (h1 : cd mid pc = some (.bastore, 1)) (hk : Kd (m, S) a 14) {n : Nat} (hn : wL (m, S) a = n) (hj : ix j n) (k : RN xs L al C mid (pc + 1) lv rest (vX m a j.toNatClampNeg (vp_nar .boolean x), S) r w') : RN xs L al C mid pc lv (.int x :: .int j :: .ref a :: rest) (m, S) r w' := rsZ h1 hk hn hj k
end PROWS
end
section
/-! THE REFERENCE: its shape, and its methods as functions (printed by wip/whole/gen_fun.py). -/
def kTR : List (Nat × Nat) := [(0, 10), (1, 11), (2, 13), (3, 14), (4, 12), (5, 12), (6, 12), (7, 12), (8, 12), (9, 12), (10, 13), (11, 12), (12, 12), (13, 14), (14, 13), (15, 12), (16, 12), (17, 13), (18, 13), (19, 12), (20, 12), (21, 12), (22, 13), (23, 13), (24, 13), (25, 13)]
def lTR : List (Nat × Nat) := [(1, 400), (2, 3), (3, 3), (4, 9), (5, 6), (6, 54), (7, 9), (8, 6), (9, 54), (10, 4), (11, 4), (12, 4), (13, 4), (14, 262144), (15, 262144), (16, 8), (17, 160000), (18, 160000), (19, 9), (20, 524288), (21, 6), (22, 729), (23, 729), (24, 729), (25, 729)]
def rTR : List (Nat × Nat × Nat) := [(0, 0, 1), (0, 7, 2), (0, 8, 3), (0, 9, 4), (0, 11, 5), (0, 12, 6), (0, 17, 7), (0, 19, 8), (0, 20, 9), (0, 26, 10), (0, 27, 11), (0, 28, 12), (0, 29, 13), (0, 31, 14), (0, 32, 15), (0, 34, 16), (0, 35, 17), (0, 36, 18), (0, 37, 19), (0, 38, 20), (0, 41, 21), (0, 42, 22), (0, 43, 23), (0, 44, 24), (0, 45, 25)]
abbrev ShR (S : St) : Prop := Sh kTR lTR rTR S
theorem sw_d {nL : Nat} {a : Nat → Option Int32} {b : Nat → Option Int64} {dflt lo hi : Int} {offs : Array Int} {len pc : Nat} {lv : Lc} {x : Int32} {r : List Value} (h1 : 0 ≤ (pc : Int) + dflt ∧ (offs.all fun o => decide (0 ≤ (pc : Int) + o)) = true) (h2 : x.toInt < lo ∨ hi < x.toInt) : stp nL a b (.tableswitch dflt lo hi offs) len pc lv (.int x :: r) = some (tgt pc dflt, lv, r) := by
  simp only [stp]
  rw [if_pos h1, if_pos h2]
theorem sw_out {x : Int32} {n : Nat} (h : ∀ i : Nat, i ≤ n → ¬ x = Int32.ofNat i) (hn : n < 2 ^ 31) : x.toInt < 0 ∨ (n : Int) < x.toInt := by
  by_cases h0 : x.toInt < 0
  · exact Or.inl h0
  · right
    obtain ⟨j, hj, rfl⟩ := nI_of (x := x) (fun q => h0 (by simpa [Int32.lt_iff_toInt_lt] using q))
    have h1 : ¬ j ≤ n := fun q => h j q rfl
    rw [nI_toInt hj]
    omega
def f_State_cameOf (N : Nat) (x0 : Int64) : Option (Int32) := some (((((lus x0 36)).toInt32) &&& 7))
set_option maxRecDepth 20000 in
set_option maxHeartbeats 4000000 in
theorem e_State_cameOf {xs : Nat → Int32} {L : Nat} {al : Bool} (N : Nat) {d : Nat} (hd : 1 ≤ d) {w : Wd} {x0 : Int64} {r0 : Int32} (h : f_State_cameOf N x0 = some r0) : Ev xs L al d 55 [.long x0] w (some (.int r0)) w := by
  obtain ⟨d, rfl⟩ : ∃ e, d = e + 1 := ⟨d - 1, by omega⟩
  refine ev_of (by decide) (Nat.le_of_ble_eq_true rfl) ?_
  rw [f_State_cameOf] at h
  show RN xs L al (Ev xs L al d) 55 0 [(0, .long x0)] [] w (some (.int r0)) w
  refine rsn 6 (t := (8, [(0, .long x0)], [.int (((((lus x0 36)).toInt32) &&& 7))])) rfl ?_
  cases h
  exact rret rfl ⟨rfl, rfl, _, _, rfl, rfl, rfl, rfl⟩
def f_State_isThere (N : Nat) (x0 : Int64) (x2 : Int32) : Option (Int32) := b1 (f_State_cameOf N x0) fun r1 => (if ((((isr r1 x2)) &&& 1)) = 1 then some 1 else some 0)
set_option maxRecDepth 20000 in
set_option maxHeartbeats 4000000 in
theorem e_State_isThere {xs : Nat → Int32} {L : Nat} {al : Bool} (N : Nat) {d : Nat} (hd : 2 ≤ d) {w : Wd} {x0 : Int64} {x2 : Int32} {r0 : Int32} (h : f_State_isThere N x0 x2 = some r0) : Ev xs L al d 54 [.long x0, .int x2] w (some (.int r0)) w := by
  obtain ⟨d, rfl⟩ : ∃ e, d = e + 1 := ⟨d - 1, by omega⟩
  refine ev_of (by decide) (Nat.le_of_ble_eq_true rfl) ?_
  rw [f_State_isThere] at h
  show RN xs L al (Ev xs L al d) 54 0 [(0, .long x0), (2, .int x2)] [] w (some (.int r0)) w
  refine rsn 1 (t := (1, [(0, .long x0), (2, .int x2)], [.long x0])) rfl ?_
  obtain ⟨r1, g1, h⟩ := b1_some h
  refine rcS 55 [.long x0] rfl rfl rfl (Nat.le_of_ble_eq_true rfl) rfl (e_State_cameOf N (by omega) g1) ?_
  show RN xs L al (Ev xs L al d) 54 4 [(0, .long x0), (2, .int x2)] [.int r1] w (some (.int r0)) w
  refine rsn 5 (t := (9, [(0, .long x0), (2, .int x2)], [.int 1, .int ((((isr r1 x2)) &&& 1))])) rfl ?_
  by_cases c2 : ((((isr r1 x2)) &&& 1)) = 1
  · rw [if_pos c2] at h
    refine rjf (a := (16, [(0, .long x0), (2, .int x2)], [])) (b := (12, [(0, .long x0), (2, .int x2)], [])) rfl rfl (fun q => q c2) ?_
    refine rsn 2 (t := (17, [(0, .long x0), (2, .int x2)], [.int 1])) rfl ?_
    cases h
    exact rret rfl ⟨rfl, rfl, _, _, rfl, rfl, rfl, rfl⟩
  · rw [if_neg c2] at h
    refine rjt (a := (16, [(0, .long x0), (2, .int x2)], [])) (b := (12, [(0, .long x0), (2, .int x2)], [])) rfl rfl c2 ?_
    refine rsn 1 (t := (17, [(0, .long x0), (2, .int x2)], [.int 0])) rfl ?_
    cases h
    exact rret rfl ⟨rfl, rfl, _, _, rfl, rfl, rfl, rfl⟩
def f_State_amount (N : Nat) (x0 : Int64) (x2 : Int32) (x3 : Int32) : Option (Int32) := some (((((lus x0 ((((12 * x2)) + ((3 * x3)))))).toInt32) &&& 7))
set_option maxRecDepth 20000 in
set_option maxHeartbeats 4000000 in
theorem e_State_amount {xs : Nat → Int32} {L : Nat} {al : Bool} (N : Nat) {d : Nat} (hd : 1 ≤ d) {w : Wd} {x0 : Int64} {x2 : Int32} {x3 : Int32} {r0 : Int32} (h : f_State_amount N x0 x2 x3 = some r0) : Ev xs L al d 57 [.long x0, .int x2, .int x3] w (some (.int r0)) w := by
  obtain ⟨d, rfl⟩ : ∃ e, d = e + 1 := ⟨d - 1, by omega⟩
  refine ev_of (by decide) (Nat.le_of_ble_eq_true rfl) ?_
  rw [f_State_amount] at h
  show RN xs L al (Ev xs L al d) 57 0 [(0, .long x0), (2, .int x2), (3, .int x3)] [] w (some (.int r0)) w
  refine rsn 12 (t := (14, [(0, .long x0), (2, .int x2), (3, .int x3)], [.int (((((lus x0 ((((12 * x2)) + ((3 * x3)))))).toInt32) &&& 7))])) rfl ?_
  cases h
  exact rret rfl ⟨rfl, rfl, _, _, rfl, rfl, rfl, rfl⟩
def f_State_dayOf (N : Nat) (x0 : Int64) : Option (Int32) := some (((((lus x0 39)).toInt32) &&& 7))
set_option maxRecDepth 20000 in
set_option maxHeartbeats 4000000 in
theorem e_State_dayOf {xs : Nat → Int32} {L : Nat} {al : Bool} (N : Nat) {d : Nat} (hd : 1 ≤ d) {w : Wd} {x0 : Int64} {r0 : Int32} (h : f_State_dayOf N x0 = some r0) : Ev xs L al d 63 [.long x0] w (some (.int r0)) w := by
  obtain ⟨d, rfl⟩ : ∃ e, d = e + 1 := ⟨d - 1, by omega⟩
  refine ev_of (by decide) (Nat.le_of_ble_eq_true rfl) ?_
  rw [f_State_dayOf] at h
  show RN xs L al (Ev xs L al d) 63 0 [(0, .long x0)] [] w (some (.int r0)) w
  refine rsn 6 (t := (8, [(0, .long x0)], [.int (((((lus x0 39)).toInt32) &&& 7))])) rfl ?_
  cases h
  exact rret rfl ⟨rfl, rfl, _, _, rfl, rfl, rfl, rfl⟩
def f_State_thingsOf (N : Nat) (x0 : Int64) (x2 : Int32) : Option (Int32) := b1 (f_State_amount N x0 0 x2) fun r1 => b1 (f_State_amount N x0 1 x2) fun r2 => b1 (f_State_amount N x0 2 x2) fun r3 => some ((((r1 + r2)) + r3))
set_option maxRecDepth 20000 in
set_option maxHeartbeats 4000000 in
theorem e_State_thingsOf {xs : Nat → Int32} {L : Nat} {al : Bool} (N : Nat) {d : Nat} (hd : 2 ≤ d) {w : Wd} {x0 : Int64} {x2 : Int32} {r0 : Int32} (h : f_State_thingsOf N x0 x2 = some r0) : Ev xs L al d 69 [.long x0, .int x2] w (some (.int r0)) w := by
  obtain ⟨d, rfl⟩ : ∃ e, d = e + 1 := ⟨d - 1, by omega⟩
  refine ev_of (by decide) (Nat.le_of_ble_eq_true rfl) ?_
  rw [f_State_thingsOf] at h
  show RN xs L al (Ev xs L al d) 69 0 [(0, .long x0), (2, .int x2)] [] w (some (.int r0)) w
  refine rsn 3 (t := (3, [(0, .long x0), (2, .int x2)], [.int x2, .int 0, .long x0])) rfl ?_
  obtain ⟨r1, g1, h⟩ := b1_some h
  refine rcS 57 [.long x0, .int 0, .int x2] rfl rfl rfl (Nat.le_of_ble_eq_true rfl) rfl (e_State_amount N (by omega) g1) ?_
  show RN xs L al (Ev xs L al d) 69 6 [(0, .long x0), (2, .int x2)] [.int r1] w (some (.int r0)) w
  refine rsn 3 (t := (9, [(0, .long x0), (2, .int x2)], [.int x2, .int 1, .long x0, .int r1])) rfl ?_
  obtain ⟨r2, g2, h⟩ := b1_some h
  refine rcS 57 [.long x0, .int 1, .int x2] rfl rfl rfl (Nat.le_of_ble_eq_true rfl) rfl (e_State_amount N (by omega) g2) ?_
  show RN xs L al (Ev xs L al d) 69 12 [(0, .long x0), (2, .int x2)] [.int r2, .int r1] w (some (.int r0)) w
  refine rsn 4 (t := (16, [(0, .long x0), (2, .int x2)], [.int x2, .int 2, .long x0, .int ((r1 + r2))])) rfl ?_
  obtain ⟨r3, g3, h⟩ := b1_some h
  refine rcS 57 [.long x0, .int 2, .int x2] rfl rfl rfl (Nat.le_of_ble_eq_true rfl) rfl (e_State_amount N (by omega) g3) ?_
  show RN xs L al (Ev xs L al d) 69 19 [(0, .long x0), (2, .int x2)] [.int r3, .int ((r1 + r2))] w (some (.int r0)) w
  refine rsn 1 (t := (20, [(0, .long x0), (2, .int x2)], [.int ((((r1 + r2)) + r3))])) rfl ?_
  cases h
  exact rret rfl ⟨rfl, rfl, _, _, rfl, rfl, rfl, rfl⟩
def f_State_heldOf (N : Nat) (x0 : Int64) : Option (Int32) := b1 (f_State_thingsOf N x0 3) fun r1 => some r1
set_option maxRecDepth 20000 in
set_option maxHeartbeats 4000000 in
theorem e_State_heldOf {xs : Nat → Int32} {L : Nat} {al : Bool} (N : Nat) {d : Nat} (hd : 3 ≤ d) {w : Wd} {x0 : Int64} {r0 : Int32} (h : f_State_heldOf N x0 = some r0) : Ev xs L al d 68 [.long x0] w (some (.int r0)) w := by
  obtain ⟨d, rfl⟩ : ∃ e, d = e + 1 := ⟨d - 1, by omega⟩
  refine ev_of (by decide) (Nat.le_of_ble_eq_true rfl) ?_
  rw [f_State_heldOf] at h
  show RN xs L al (Ev xs L al d) 68 0 [(0, .long x0)] [] w (some (.int r0)) w
  refine rsn 2 (t := (2, [(0, .long x0)], [.int 3, .long x0])) rfl ?_
  obtain ⟨r1, g1, h⟩ := b1_some h
  refine rcS 69 [.long x0, .int 3] rfl rfl rfl (Nat.le_of_ble_eq_true rfl) rfl (e_State_thingsOf N (by omega) g1) ?_
  show RN xs L al (Ev xs L al d) 68 5 [(0, .long x0)] [.int r1] w (some (.int r0)) w
  cases h
  exact rret rfl ⟨rfl, rfl, _, _, rfl, rfl, rfl, rfl⟩
def f_State_one (N : Nat) (x0 : Int32) (x1 : Int32) : Option (Int64) := some ((lsl 1 ((((12 * x0)) + ((3 * x1))))))
set_option maxRecDepth 20000 in
set_option maxHeartbeats 4000000 in
theorem e_State_one {xs : Nat → Int32} {L : Nat} {al : Bool} (N : Nat) {d : Nat} (hd : 1 ≤ d) {w : Wd} {x0 : Int32} {x1 : Int32} {r0 : Int64} (h : f_State_one N x0 x1 = some r0) : Ev xs L al d 71 [.int x0, .int x1] w (some (.long r0)) w := by
  obtain ⟨d, rfl⟩ : ∃ e, d = e + 1 := ⟨d - 1, by omega⟩
  refine ev_of (by decide) (Nat.le_of_ble_eq_true rfl) ?_
  rw [f_State_one] at h
  show RN xs L al (Ev xs L al d) 71 0 [(0, .int x0), (1, .int x1)] [] w (some (.long r0)) w
  refine rsn 9 (t := (10, [(0, .int x0), (1, .int x1)], [.long ((lsl 1 ((((12 * x0)) + ((3 * x1))))))])) rfl ?_
  cases h
  exact rret rfl ⟨rfl, rfl, _, rfl, rfl, rfl⟩
def f_State_with (N : Nat) (x0 : Int64) (x2 : Int32) (x3 : Int32) : Option (Int64) := b1 (f_State_one N x2 x3) fun r1 => some ((x0 + r1))
set_option maxRecDepth 20000 in
set_option maxHeartbeats 4000000 in
theorem e_State_with {xs : Nat → Int32} {L : Nat} {al : Bool} (N : Nat) {d : Nat} (hd : 2 ≤ d) {w : Wd} {x0 : Int64} {x2 : Int32} {x3 : Int32} {r0 : Int64} (h : f_State_with N x0 x2 x3 = some r0) : Ev xs L al d 70 [.long x0, .int x2, .int x3] w (some (.long r0)) w := by
  obtain ⟨d, rfl⟩ : ∃ e, d = e + 1 := ⟨d - 1, by omega⟩
  refine ev_of (by decide) (Nat.le_of_ble_eq_true rfl) ?_
  rw [f_State_with] at h
  show RN xs L al (Ev xs L al d) 70 0 [(0, .long x0), (2, .int x2), (3, .int x3)] [] w (some (.long r0)) w
  refine rsn 3 (t := (3, [(0, .long x0), (2, .int x2), (3, .int x3)], [.int x3, .int x2, .long x0])) rfl ?_
  obtain ⟨r1, g1, h⟩ := b1_some h
  refine rcS 71 [.int x2, .int x3] rfl rfl rfl (Nat.le_of_ble_eq_true rfl) rfl (e_State_one N (by omega) g1) ?_
  show RN xs L al (Ev xs L al d) 70 6 [(0, .long x0), (2, .int x2), (3, .int x3)] [.long r1, .long x0] w (some (.long r0)) w
  refine rsn 1 (t := (7, [(0, .long x0), (2, .int x2), (3, .int x3)], [.long ((x0 + r1))])) rfl ?_
  cases h
  exact rret rfl ⟨rfl, rfl, _, rfl, rfl, rfl⟩
def f_SC_isGoal (N : Nat) (x0 : Int32) : Option (Int32) := (if x0 < 0 then some 0 else (if 3 ≤ x0 then some 0 else some 1))
set_option maxRecDepth 20000 in
set_option maxHeartbeats 4000000 in
theorem e_SC_isGoal {xs : Nat → Int32} {L : Nat} {al : Bool} (N : Nat) {d : Nat} (hd : 1 ≤ d) {w : Wd} {x0 : Int32} {r0 : Int32} (h : f_SC_isGoal N x0 = some r0) : Ev xs L al d 74 [.int x0] w (some (.int r0)) w := by
  obtain ⟨d, rfl⟩ : ∃ e, d = e + 1 := ⟨d - 1, by omega⟩
  refine ev_of (by decide) (Nat.le_of_ble_eq_true rfl) ?_
  rw [f_SC_isGoal] at h
  show RN xs L al (Ev xs L al d) 74 0 [(0, .int x0)] [] w (some (.int r0)) w
  refine rsn 1 (t := (1, [(0, .int x0)], [.int x0])) rfl ?_
  by_cases c1 : x0 < 0
  · rw [if_pos c1] at h
    refine rjt (a := (13, [(0, .int x0)], [])) (b := (4, [(0, .int x0)], [])) rfl rfl c1 ?_
    refine rsn 1 (t := (14, [(0, .int x0)], [.int 0])) rfl ?_
    cases h
    exact rret rfl ⟨rfl, rfl, _, _, rfl, rfl, rfl, rfl⟩
  · rw [if_neg c1] at h
    refine rjf (a := (13, [(0, .int x0)], [])) (b := (4, [(0, .int x0)], [])) rfl rfl c1 ?_
    refine rsn 2 (t := (6, [(0, .int x0)], [.int 3, .int x0])) rfl ?_
    by_cases c2 : 3 ≤ x0
    · rw [if_pos c2] at h
      refine rjt (a := (13, [(0, .int x0)], [])) (b := (9, [(0, .int x0)], [])) rfl rfl c2 ?_
      refine rsn 1 (t := (14, [(0, .int x0)], [.int 0])) rfl ?_
      cases h
      exact rret rfl ⟨rfl, rfl, _, _, rfl, rfl, rfl, rfl⟩
    · rw [if_neg c2] at h
      refine rjf (a := (13, [(0, .int x0)], [])) (b := (9, [(0, .int x0)], [])) rfl rfl c2 ?_
      refine rsn 2 (t := (14, [(0, .int x0)], [.int 1])) rfl ?_
      cases h
      exact rret rfl ⟨rfl, rfl, _, _, rfl, rfl, rfl, rfl⟩
def f_State_firstHeld_L2 (N : Nat) (x0 : Int64) (k2 : Int32 → Option (Int32)) : Nat → Int32 → Option (Int32)
  | 0, _ => none
  | n2 + 1, x2 => f_State_firstHeld_L2 N x0 k2 n2 x2
def f_State_firstHeld (N : Nat) (x0 : Int64) : Option (Int32) := f_State_firstHeld_L2 N x0 (fun (z1_2 : Int32) => some ((-1))) N 0
set_option maxRecDepth 20000 in
set_option maxHeartbeats 4000000 in
theorem e_State_firstHeld {xs : Nat → Int32} {L : Nat} {al : Bool} (N : Nat) {d : Nat} (hd : 2 ≤ d) {w : Wd} {x0 : Int64} {r0 : Int32} (h : f_State_firstHeld N x0 = some r0) : Ev xs L al d 86 [.long x0] w (some (.int r0)) w := by
  obtain ⟨d, rfl⟩ : ∃ e, d = e + 1 := ⟨d - 1, by omega⟩
  refine ev_of (by decide) (Nat.le_of_ble_eq_true rfl) ?_
  rw [f_State_firstHeld] at h
  show RN xs L al (Ev xs L al d) 86 0 [(0, .long x0)] [] w (some (.int r0)) w
  refine rsn 2 (t := (2, [(2, .int 0), (0, .long x0)], [])) rfl ?_
  have ex2 : ∀ (z1_2 : Int32), (some ((-1))) = some r0 → RN xs L al (Ev xs L al d) 86 24 [] [] w (some (.int r0)) w := by
    intro z1_2 h
    refine rsn 1 (t := (25, [], [.int ((-1))])) rfl ?_
    cases h
    exact rret rfl ⟨rfl, rfl, _, _, rfl, rfl, rfl, rfl⟩
  have lp2 : ∀ (n : Nat) (y2_2 : Int32), f_State_firstHeld_L2 N x0 (fun (z1_2 : Int32) => some ((-1))) n y2_2 = some r0 → RN xs L al (Ev xs L al d) 86 2 [(0, .long x0), (2, .int y2_2)] [] w (some (.int r0)) w := by
    intro n
    induction n with
    | zero => intro y2_2 h; cases h
    | succ n2 ih2 =>
      intro y2_2 h
      rw [f_State_firstHeld_L2] at h
      try dsimp only at h
      exact rsub [(0, .long x0), (2, .int y2_2)] ⟨rfl, ⟨rfl, trivial⟩⟩ ⟨rfl, ⟨rfl, trivial⟩⟩ (ih2 y2_2 h)
  exact rsub [(0, .long x0), (2, .int 0)] ⟨rfl, ⟨rfl, trivial⟩⟩ ⟨rfl, ⟨rfl, trivial⟩⟩ (lp2 N 0 h)
def f_Rows_digit (N : Nat) (x0 : Int32) (x1 : Int32) : Option (Int32) := some ((((ius x0 ((2 * x1)))) &&& 3))
set_option maxRecDepth 20000 in
set_option maxHeartbeats 4000000 in
theorem e_Rows_digit {xs : Nat → Int32} {L : Nat} {al : Bool} (N : Nat) {d : Nat} (hd : 1 ≤ d) {w : Wd} {x0 : Int32} {x1 : Int32} {r0 : Int32} (h : f_Rows_digit N x0 x1 = some r0) : Ev xs L al d 115 [.int x0, .int x1] w (some (.int r0)) w := by
  obtain ⟨d, rfl⟩ : ∃ e, d = e + 1 := ⟨d - 1, by omega⟩
  refine ev_of (by decide) (Nat.le_of_ble_eq_true rfl) ?_
  rw [f_Rows_digit] at h
  show RN xs L al (Ev xs L al d) 115 0 [(0, .int x0), (1, .int x1)] [] w (some (.int r0)) w
  refine rsn 7 (t := (7, [(0, .int x0), (1, .int x1)], [.int ((((ius x0 ((2 * x1)))) &&& 3))])) rfl ?_
  cases h
  exact rret rfl ⟨rfl, rfl, _, _, rfl, rfl, rfl, rfl⟩
def f_Rows_ending (N : Nat) (x0 : Int64) (x2 : Int64) : Option (Int64) := some ((((x0 &&& 68719476735)) ||| ((x2 &&& ((-68719476736))))))
set_option maxRecDepth 20000 in
set_option maxHeartbeats 4000000 in
theorem e_Rows_ending {xs : Nat → Int32} {L : Nat} {al : Bool} (N : Nat) {d : Nat} (hd : 1 ≤ d) {w : Wd} {x0 : Int64} {x2 : Int64} {r0 : Int64} (h : f_Rows_ending N x0 x2 = some r0) : Ev xs L al d 119 [.long x0, .long x2] w (some (.long r0)) w := by
  obtain ⟨d, rfl⟩ : ∃ e, d = e + 1 := ⟨d - 1, by omega⟩
  refine ev_of (by decide) (Nat.le_of_ble_eq_true rfl) ?_
  rw [f_Rows_ending] at h
  show RN xs L al (Ev xs L al d) 119 0 [(0, .long x0), (2, .long x2)] [] w (some (.long r0)) w
  refine rsn 7 (t := (11, [(0, .long x0), (2, .long x2)], [.long ((((x0 &&& 68719476735)) ||| ((x2 &&& ((-68719476736))))))])) rfl ?_
  cases h
  exact rret rfl ⟨rfl, rfl, _, rfl, rfl, rfl⟩
def f_Mo_in (N : Nat) (x0 : Int32) (x1 : Int32) (x2 : Int32) : Option (Int32) := (if x0 < x1 then some 0 else (if x2 < x0 then some 0 else some 1))
set_option maxRecDepth 20000 in
set_option maxHeartbeats 4000000 in
theorem e_Mo_in {xs : Nat → Int32} {L : Nat} {al : Bool} (N : Nat) {d : Nat} (hd : 1 ≤ d) {w : Wd} {x0 : Int32} {x1 : Int32} {x2 : Int32} {r0 : Int32} (h : f_Mo_in N x0 x1 x2 = some r0) : Ev xs L al d 146 [.int x0, .int x1, .int x2] w (some (.int r0)) w := by
  obtain ⟨d, rfl⟩ : ∃ e, d = e + 1 := ⟨d - 1, by omega⟩
  refine ev_of (by decide) (Nat.le_of_ble_eq_true rfl) ?_
  rw [f_Mo_in] at h
  show RN xs L al (Ev xs L al d) 146 0 [(0, .int x0), (1, .int x1), (2, .int x2)] [] w (some (.int r0)) w
  refine rsn 2 (t := (2, [(0, .int x0), (1, .int x1), (2, .int x2)], [.int x1, .int x0])) rfl ?_
  by_cases c1 : x0 < x1
  · rw [if_pos c1] at h
    refine rjt (a := (14, [(0, .int x0), (1, .int x1), (2, .int x2)], [])) (b := (5, [(0, .int x0), (1, .int x1), (2, .int x2)], [])) rfl rfl c1 ?_
    refine rsn 1 (t := (15, [(0, .int x0), (1, .int x1), (2, .int x2)], [.int 0])) rfl ?_
    cases h
    exact rret rfl ⟨rfl, rfl, _, _, rfl, rfl, rfl, rfl⟩
  · rw [if_neg c1] at h
    refine rjf (a := (14, [(0, .int x0), (1, .int x1), (2, .int x2)], [])) (b := (5, [(0, .int x0), (1, .int x1), (2, .int x2)], [])) rfl rfl c1 ?_
    refine rsn 2 (t := (7, [(0, .int x0), (1, .int x1), (2, .int x2)], [.int x2, .int x0])) rfl ?_
    by_cases c2 : x2 < x0
    · rw [if_pos c2] at h
      refine rjt (a := (14, [(0, .int x0), (1, .int x1), (2, .int x2)], [])) (b := (10, [(0, .int x0), (1, .int x1), (2, .int x2)], [])) rfl rfl c2 ?_
      refine rsn 1 (t := (15, [(0, .int x0), (1, .int x1), (2, .int x2)], [.int 0])) rfl ?_
      cases h
      exact rret rfl ⟨rfl, rfl, _, _, rfl, rfl, rfl, rfl⟩
    · rw [if_neg c2] at h
      refine rjf (a := (14, [(0, .int x0), (1, .int x1), (2, .int x2)], [])) (b := (10, [(0, .int x0), (1, .int x1), (2, .int x2)], [])) rfl rfl c2 ?_
      refine rsn 2 (t := (15, [(0, .int x0), (1, .int x1), (2, .int x2)], [.int 1])) rfl ?_
      cases h
      exact rret rfl ⟨rfl, rfl, _, _, rfl, rfl, rfl, rfl⟩
def f_Mo_isLetter (N : Nat) (x0 : Int32) : Option (Int32) := (if x0 < 97 then some 0 else (if 122 < x0 then some 0 else some 1))
set_option maxRecDepth 20000 in
set_option maxHeartbeats 4000000 in
theorem e_Mo_isLetter {xs : Nat → Int32} {L : Nat} {al : Bool} (N : Nat) {d : Nat} (hd : 1 ≤ d) {w : Wd} {x0 : Int32} {r0 : Int32} (h : f_Mo_isLetter N x0 = some r0) : Ev xs L al d 149 [.int x0] w (some (.int r0)) w := by
  obtain ⟨d, rfl⟩ : ∃ e, d = e + 1 := ⟨d - 1, by omega⟩
  refine ev_of (by decide) (Nat.le_of_ble_eq_true rfl) ?_
  rw [f_Mo_isLetter] at h
  show RN xs L al (Ev xs L al d) 149 0 [(0, .int x0)] [] w (some (.int r0)) w
  refine rsn 2 (t := (3, [(0, .int x0)], [.int 97, .int x0])) rfl ?_
  by_cases c1 : x0 < 97
  · rw [if_pos c1] at h
    refine rjt (a := (16, [(0, .int x0)], [])) (b := (6, [(0, .int x0)], [])) rfl rfl c1 ?_
    refine rsn 1 (t := (17, [(0, .int x0)], [.int 0])) rfl ?_
    cases h
    exact rret rfl ⟨rfl, rfl, _, _, rfl, rfl, rfl, rfl⟩
  · rw [if_neg c1] at h
    refine rjf (a := (16, [(0, .int x0)], [])) (b := (6, [(0, .int x0)], [])) rfl rfl c1 ?_
    refine rsn 2 (t := (9, [(0, .int x0)], [.int 122, .int x0])) rfl ?_
    by_cases c2 : 122 < x0
    · rw [if_pos c2] at h
      refine rjt (a := (16, [(0, .int x0)], [])) (b := (12, [(0, .int x0)], [])) rfl rfl c2 ?_
      refine rsn 1 (t := (17, [(0, .int x0)], [.int 0])) rfl ?_
      cases h
      exact rret rfl ⟨rfl, rfl, _, _, rfl, rfl, rfl, rfl⟩
    · rw [if_neg c2] at h
      refine rjf (a := (16, [(0, .int x0)], [])) (b := (12, [(0, .int x0)], [])) rfl rfl c2 ?_
      refine rsn 2 (t := (17, [(0, .int x0)], [.int 1])) rfl ?_
      cases h
      exact rret rfl ⟨rfl, rfl, _, _, rfl, rfl, rfl, rfl⟩
def f_Mo_isDigit (N : Nat) (x0 : Int32) : Option (Int32) := (if x0 < 48 then some 0 else (if 57 < x0 then some 0 else some 1))
set_option maxRecDepth 20000 in
set_option maxHeartbeats 4000000 in
theorem e_Mo_isDigit {xs : Nat → Int32} {L : Nat} {al : Bool} (N : Nat) {d : Nat} (hd : 1 ≤ d) {w : Wd} {x0 : Int32} {r0 : Int32} (h : f_Mo_isDigit N x0 = some r0) : Ev xs L al d 150 [.int x0] w (some (.int r0)) w := by
  obtain ⟨d, rfl⟩ : ∃ e, d = e + 1 := ⟨d - 1, by omega⟩
  refine ev_of (by decide) (Nat.le_of_ble_eq_true rfl) ?_
  rw [f_Mo_isDigit] at h
  show RN xs L al (Ev xs L al d) 150 0 [(0, .int x0)] [] w (some (.int r0)) w
  refine rsn 2 (t := (3, [(0, .int x0)], [.int 48, .int x0])) rfl ?_
  by_cases c1 : x0 < 48
  · rw [if_pos c1] at h
    refine rjt (a := (16, [(0, .int x0)], [])) (b := (6, [(0, .int x0)], [])) rfl rfl c1 ?_
    refine rsn 1 (t := (17, [(0, .int x0)], [.int 0])) rfl ?_
    cases h
    exact rret rfl ⟨rfl, rfl, _, _, rfl, rfl, rfl, rfl⟩
  · rw [if_neg c1] at h
    refine rjf (a := (16, [(0, .int x0)], [])) (b := (6, [(0, .int x0)], [])) rfl rfl c1 ?_
    refine rsn 2 (t := (9, [(0, .int x0)], [.int 57, .int x0])) rfl ?_
    by_cases c2 : 57 < x0
    · rw [if_pos c2] at h
      refine rjt (a := (16, [(0, .int x0)], [])) (b := (12, [(0, .int x0)], [])) rfl rfl c2 ?_
      refine rsn 1 (t := (17, [(0, .int x0)], [.int 0])) rfl ?_
      cases h
      exact rret rfl ⟨rfl, rfl, _, _, rfl, rfl, rfl, rfl⟩
    · rw [if_neg c2] at h
      refine rjf (a := (16, [(0, .int x0)], [])) (b := (12, [(0, .int x0)], [])) rfl rfl c2 ?_
      refine rsn 2 (t := (17, [(0, .int x0)], [.int 1])) rfl ?_
      cases h
      exact rret rfl ⟨rfl, rfl, _, _, rfl, rfl, rfl, rfl⟩
def f_String_coder (N : Nat) (x0 : Nat) : Option (Int32) := some 0
set_option maxRecDepth 20000 in
set_option maxHeartbeats 4000000 in
theorem e_String_coder {xs : Nat → Int32} {L : Nat} {al : Bool} (N : Nat) {d : Nat} (hd : 1 ≤ d) {w : Wd} {x0 : Nat} (hx0 : x0 < 8) {r0 : Int32} (h : f_String_coder N x0 = some r0) : Ev xs L al d 155 [.retAddr x0] w (some (.int r0)) w := by
  obtain ⟨d, rfl⟩ : ∃ e, d = e + 1 := ⟨d - 1, by omega⟩
  refine ev_of (by decide) (Nat.le_of_ble_eq_true rfl) ?_
  rw [f_String_coder] at h
  show RN xs L al (Ev xs L al d) 155 0 [(0, .retAddr x0)] [] w (some (.int r0)) w
  refine rm (st1 := [.int 1]) rfl ⟨rfl, rfl, rfl, Or.inl ⟨rfl, rfl⟩⟩ ?_
  refine rsn 2 (t := (7, [(0, .retAddr x0)], [.retAddr x0])) rfl ?_
  refine rm (st1 := [.int 0]) rfl ⟨rfl, rfl, Or.inr ⟨x0, _, hx0, rfl, rfl, Or.inr ⟨rfl, rfl⟩⟩⟩ ?_
  refine rsn 1 (t := (14, [(0, .retAddr x0)], [.int 0])) rfl ?_
  cases h
  exact rret rfl ⟨rfl, rfl, _, _, rfl, rfl, rfl, rfl⟩
def f_String_length (N : Nat) (x0 : Nat) : Option (Int32) := b1 (f_String_coder N x0) fun r1 => some ((isr ((Int32.ofNat (sLen.getD x0 0))) r1))
set_option maxRecDepth 20000 in
set_option maxHeartbeats 4000000 in
theorem e_String_length {xs : Nat → Int32} {L : Nat} {al : Bool} (N : Nat) {d : Nat} (hd : 2 ≤ d) {w : Wd} {x0 : Nat} (hx0 : x0 < 8) {r0 : Int32} (h : f_String_length N x0 = some r0) : Ev xs L al d 154 [.retAddr x0] w (some (.int r0)) w := by
  obtain ⟨d, rfl⟩ : ∃ e, d = e + 1 := ⟨d - 1, by omega⟩
  refine ev_of (by decide) (Nat.le_of_ble_eq_true rfl) ?_
  rw [f_String_length] at h
  show RN xs L al (Ev xs L al d) 154 0 [(0, .retAddr x0)] [] w (some (.int r0)) w
  refine rsn 1 (t := (1, [(0, .retAddr x0)], [.retAddr x0])) rfl ?_
  refine rm (st1 := [.retAddr (100 + x0)]) rfl ⟨rfl, rfl, Or.inr ⟨x0, _, hx0, rfl, rfl, Or.inl ⟨rfl, rfl⟩⟩⟩ ?_
  refine rm (st1 := [.int ((Int32.ofNat (sLen.getD x0 0)))]) rfl ⟨rfl, rfl, Or.inr (Or.inl ⟨x0, _, hx0, rfl, rfl⟩)⟩ ?_
  refine rsn 1 (t := (6, [(0, .retAddr x0)], [.retAddr x0, .int ((Int32.ofNat (sLen.getD x0 0)))])) rfl ?_
  obtain ⟨r1, g1, h⟩ := b1_some h
  refine rcQ 155 x0 [] rfl rfl rfl hx0 (Nat.le_of_ble_eq_true rfl) rfl (e_String_coder N (by omega) hx0 g1) ?_
  show RN xs L al (Ev xs L al d) 154 9 [(0, .retAddr x0)] [.int r1, .int ((Int32.ofNat (sLen.getD x0 0)))] w (some (.int r0)) w
  refine rsn 1 (t := (10, [(0, .retAddr x0)], [.int ((isr ((Int32.ofNat (sLen.getD x0 0))) r1))])) rfl ?_
  cases h
  exact rret rfl ⟨rfl, rfl, _, _, rfl, rfl, rfl, rfl⟩
def f_String_isLatin1 (N : Nat) (x0 : Nat) : Option (Int32) := some 1
set_option maxRecDepth 20000 in
set_option maxHeartbeats 4000000 in
theorem e_String_isLatin1 {xs : Nat → Int32} {L : Nat} {al : Bool} (N : Nat) {d : Nat} (hd : 1 ≤ d) {w : Wd} {x0 : Nat} (hx0 : x0 < 8) {r0 : Int32} (h : f_String_isLatin1 N x0 = some r0) : Ev xs L al d 157 [.retAddr x0] w (some (.int r0)) w := by
  obtain ⟨d, rfl⟩ : ∃ e, d = e + 1 := ⟨d - 1, by omega⟩
  refine ev_of (by decide) (Nat.le_of_ble_eq_true rfl) ?_
  rw [f_String_isLatin1] at h
  show RN xs L al (Ev xs L al d) 157 0 [(0, .retAddr x0)] [] w (some (.int r0)) w
  refine rm (st1 := [.int 1]) rfl ⟨rfl, rfl, rfl, Or.inl ⟨rfl, rfl⟩⟩ ?_
  refine rsn 2 (t := (7, [(0, .retAddr x0)], [.retAddr x0])) rfl ?_
  refine rm (st1 := [.int 0]) rfl ⟨rfl, rfl, Or.inr ⟨x0, _, hx0, rfl, rfl, Or.inr ⟨rfl, rfl⟩⟩⟩ ?_
  refine rsn 3 (t := (18, [(0, .retAddr x0)], [.int 1])) rfl ?_
  cases h
  exact rret rfl ⟨rfl, rfl, _, _, rfl, rfl, rfl, rfl⟩
def f_Preconditions_checkIndex (N : Nat) (x0 : Int32) (x1 : Int32) : Option (Int32) := (if x0 < 0 then none else (if x0 < x1 then some x0 else none))
set_option maxRecDepth 20000 in
set_option maxHeartbeats 4000000 in
theorem e_Preconditions_checkIndex {xs : Nat → Int32} {L : Nat} {al : Bool} (N : Nat) {d : Nat} (hd : 1 ≤ d) {w : Wd} {x0 : Int32} {x1 : Int32} {r0 : Int32} (h : f_Preconditions_checkIndex N x0 x1 = some r0) : Ev xs L al d 160 [.int x0, .int x1, .float 0] w (some (.int r0)) w := by
  obtain ⟨d, rfl⟩ : ∃ e, d = e + 1 := ⟨d - 1, by omega⟩
  refine ev_of (by decide) (Nat.le_of_ble_eq_true rfl) ?_
  rw [f_Preconditions_checkIndex] at h
  show RN xs L al (Ev xs L al d) 160 0 [(0, .int x0), (1, .int x1), (2, .float 0)] [] w (some (.int r0)) w
  refine rsn 1 (t := (1, [(0, .int x0), (1, .int x1), (2, .float 0)], [.int x0])) rfl ?_
  by_cases c1 : x0 < 0
  · rw [if_pos c1] at h
    refine rjt (a := (9, [(0, .int x0), (1, .int x1), (2, .float 0)], [])) (b := (4, [(0, .int x0), (1, .int x1), (2, .float 0)], [])) rfl rfl c1 ?_
    cases h
  · rw [if_neg c1] at h
    refine rjf (a := (9, [(0, .int x0), (1, .int x1), (2, .float 0)], [])) (b := (4, [(0, .int x0), (1, .int x1), (2, .float 0)], [])) rfl rfl c1 ?_
    refine rsn 2 (t := (6, [(0, .int x0), (1, .int x1), (2, .float 0)], [.int x1, .int x0])) rfl ?_
    by_cases c2 : x0 < x1
    · rw [if_pos c2] at h
      refine rjt (a := (16, [(0, .int x0), (1, .int x1), (2, .float 0)], [])) (b := (9, [(0, .int x0), (1, .int x1), (2, .float 0)], [])) rfl rfl c2 ?_
      refine rsn 1 (t := (17, [(0, .int x0), (1, .int x1), (2, .float 0)], [.int x0])) rfl ?_
      cases h
      exact rret rfl ⟨rfl, rfl, _, _, rfl, rfl, rfl, rfl⟩
    · rw [if_neg c2] at h
      refine rjf (a := (16, [(0, .int x0), (1, .int x1), (2, .float 0)], [])) (b := (9, [(0, .int x0), (1, .int x1), (2, .float 0)], [])) rfl rfl c2 ?_
      cases h
def f_String_checkIndex (N : Nat) (x0 : Int32) (x1 : Int32) : Option (Unit) := b1 (f_Preconditions_checkIndex N x0 x1) fun r1 => some ()
set_option maxRecDepth 20000 in
set_option maxHeartbeats 4000000 in
theorem e_String_checkIndex {xs : Nat → Int32} {L : Nat} {al : Bool} (N : Nat) {d : Nat} (hd : 2 ≤ d) {w : Wd} {x0 : Int32} {x1 : Int32} {r0 : Unit} (h : f_String_checkIndex N x0 x1 = some r0) : Ev xs L al d 159 [.int x0, .int x1] w none w := by
  obtain ⟨d, rfl⟩ : ∃ e, d = e + 1 := ⟨d - 1, by omega⟩
  refine ev_of (by decide) (Nat.le_of_ble_eq_true rfl) ?_
  rw [f_String_checkIndex] at h
  show RN xs L al (Ev xs L al d) 159 0 [(0, .int x0), (1, .int x1)] [] w none w
  refine rsn 2 (t := (2, [(0, .int x0), (1, .int x1)], [.int x1, .int x0])) rfl ?_
  refine rm (st1 := [.float 0, .int x1, .int x0]) rfl ⟨rfl, rfl, rfl, Or.inr ⟨rfl, rfl⟩⟩ ?_
  obtain ⟨r1, g1, h⟩ := b1_some h
  refine rcS 160 [.int x0, .int x1, .float 0] rfl rfl rfl (Nat.le_of_ble_eq_true rfl) rfl (e_Preconditions_checkIndex N (by omega) g1) ?_
  show RN xs L al (Ev xs L al d) 159 8 [(0, .int x0), (1, .int x1)] [.int r1] w none w
  refine rsn 1 (t := (9, [(0, .int x0), (1, .int x1)], [])) rfl ?_
  cases h
  exact rret rfl ⟨rfl, rfl, rfl, rfl, rfl⟩
def f_StringLatin1_charAt (N : Nat) (x0 : Nat) (x1 : Int32) : Option (Int32) := b1 (f_String_checkIndex N x1 ((Int32.ofNat (sLen.getD x0 0)))) fun _ => ck (ix x1 (sLen.getD x0 0)) (ck (narrow .char (.int ((i2c (((((sByt.getD x0 []).getD x1.toNatClampNeg 0)) &&& 255))))) = .int ((i2c (((((sByt.getD x0 []).getD x1.toNatClampNeg 0)) &&& 255))))) (some ((i2c (((((sByt.getD x0 []).getD x1.toNatClampNeg 0)) &&& 255))))))
set_option maxRecDepth 20000 in
set_option maxHeartbeats 4000000 in
theorem e_StringLatin1_charAt {xs : Nat → Int32} {L : Nat} {al : Bool} (N : Nat) {d : Nat} (hd : 3 ≤ d) {w : Wd} {x0 : Nat} {x1 : Int32} (hx0 : x0 < 8) {r0 : Int32} (h : f_StringLatin1_charAt N x0 x1 = some r0) : Ev xs L al d 158 [.retAddr (100 + x0), .int x1] w (some (.int r0)) w := by
  obtain ⟨d, rfl⟩ : ∃ e, d = e + 1 := ⟨d - 1, by omega⟩
  refine ev_of (by decide) (Nat.le_of_ble_eq_true rfl) ?_
  rw [f_StringLatin1_charAt] at h
  show RN xs L al (Ev xs L al d) 158 0 [(0, .retAddr (100 + x0)), (1, .int x1)] [] w (some (.int r0)) w
  refine rsn 2 (t := (2, [(0, .retAddr (100 + x0)), (1, .int x1)], [.retAddr (100 + x0), .int x1])) rfl ?_
  refine rm (st1 := [.int ((Int32.ofNat (sLen.getD x0 0))), .int x1]) rfl ⟨rfl, rfl, Or.inr (Or.inl ⟨x0, _, hx0, rfl, rfl⟩)⟩ ?_
  obtain ⟨_, g1, h⟩ := b1_some h
  refine rcS 159 [.int x1, .int ((Int32.ofNat (sLen.getD x0 0)))] rfl rfl rfl (Nat.le_of_ble_eq_true rfl) rfl (e_String_checkIndex N (by omega) g1) ?_
  show RN xs L al (Ev xs L al d) 158 6 [(0, .retAddr (100 + x0)), (1, .int x1)] [] w (some (.int r0)) w
  refine rsn 2 (t := (8, [(0, .retAddr (100 + x0)), (1, .int x1)], [.int x1, .retAddr (100 + x0)])) rfl ?_
  obtain ⟨c2, h⟩ := ck_some h
  refine rm (st1 := [.int (((sByt.getD x0 []).getD x1.toNatClampNeg 0))]) rfl ⟨rfl, rfl, Or.inr ⟨x0, _, _, hx0, rfl, c2, rfl⟩⟩ ?_
  refine rsn 3 (t := (14, [(0, .retAddr (100 + x0)), (1, .int x1)], [.int ((i2c (((((sByt.getD x0 []).getD x1.toNatClampNeg 0)) &&& 255))))])) rfl ?_
  obtain ⟨c3, h⟩ := ck_some h
  cases h
  exact rret rfl ⟨rfl, rfl, _, _, rfl, rfl, rfl, c3⟩
def f_String_charAt (N : Nat) (x0 : Nat) (x1 : Int32) : Option (Int32) := b1 (f_String_isLatin1 N x0) fun r1 => (if r1 = 0 then none else b1 (f_StringLatin1_charAt N x0 x1) fun r3 => ck (narrow .char (.int r3) = .int r3) (some r3))
set_option maxRecDepth 20000 in
set_option maxHeartbeats 4000000 in
theorem e_String_charAt {xs : Nat → Int32} {L : Nat} {al : Bool} (N : Nat) {d : Nat} (hd : 4 ≤ d) {w : Wd} {x0 : Nat} {x1 : Int32} (hx0 : x0 < 8) {r0 : Int32} (h : f_String_charAt N x0 x1 = some r0) : Ev xs L al d 156 [.retAddr x0, .int x1] w (some (.int r0)) w := by
  obtain ⟨d, rfl⟩ : ∃ e, d = e + 1 := ⟨d - 1, by omega⟩
  refine ev_of (by decide) (Nat.le_of_ble_eq_true rfl) ?_
  rw [f_String_charAt] at h
  show RN xs L al (Ev xs L al d) 156 0 [(0, .retAddr x0), (1, .int x1)] [] w (some (.int r0)) w
  refine rsn 1 (t := (1, [(0, .retAddr x0), (1, .int x1)], [.retAddr x0])) rfl ?_
  obtain ⟨r1, g1, h⟩ := b1_some h
  refine rcQ 157 x0 [] rfl rfl rfl hx0 (Nat.le_of_ble_eq_true rfl) rfl (e_String_isLatin1 N (by omega) hx0 g1) ?_
  show RN xs L al (Ev xs L al d) 156 4 [(0, .retAddr x0), (1, .int x1)] [.int r1] w (some (.int r0)) w
  by_cases c2 : r1 = 0
  · rw [if_pos c2] at h
    refine rjt (a := (16, [(0, .retAddr x0), (1, .int x1)], [])) (b := (7, [(0, .retAddr x0), (1, .int x1)], [])) rfl rfl c2 ?_
    cases h
  · rw [if_neg c2] at h
    refine rjf (a := (16, [(0, .retAddr x0), (1, .int x1)], [])) (b := (7, [(0, .retAddr x0), (1, .int x1)], [])) rfl rfl c2 ?_
    refine rsn 1 (t := (8, [(0, .retAddr x0), (1, .int x1)], [.retAddr x0])) rfl ?_
    refine rm (st1 := [.retAddr (100 + x0)]) rfl ⟨rfl, rfl, Or.inr ⟨x0, _, hx0, rfl, rfl, Or.inl ⟨rfl, rfl⟩⟩⟩ ?_
    refine rsn 1 (t := (12, [(0, .retAddr x0), (1, .int x1)], [.int x1, .retAddr (100 + x0)])) rfl ?_
    obtain ⟨r3, g3, h⟩ := b1_some h
    refine rcS 158 [.retAddr (100 + x0), .int x1] rfl rfl rfl (Nat.le_of_ble_eq_true rfl) rfl (e_StringLatin1_charAt N (by omega) hx0 g3) ?_
    show RN xs L al (Ev xs L al d) 156 15 [(0, .retAddr x0), (1, .int x1)] [.int r3] w (some (.int r0)) w
    obtain ⟨c4, h⟩ := ck_some h
    cases h
    exact rret rfl ⟨rfl, rfl, _, _, rfl, rfl, rfl, c4⟩
def f_Mo_packed_L4 (N : Nat) (x0 : Nat) (k4 : Int64 → Int32 → Option (Int64)) : Nat → Int64 → Int32 → Option (Int64)
  | 0, _, _ => none
  | n4 + 1, x1, x3 => f_Mo_packed_L4 N x0 k4 n4 x1 x3
def f_Mo_packed (N : Nat) (x0 : Nat) : Option (Int64) := f_Mo_packed_L4 N x0 (fun (z1_1 : Int64) (z1_3 : Int32) => some z1_1) N 0 0
set_option maxRecDepth 20000 in
set_option maxHeartbeats 4000000 in
theorem e_Mo_packed {xs : Nat → Int32} {L : Nat} {al : Bool} (N : Nat) {d : Nat} (hd : 5 ≤ d) {w : Wd} {x0 : Nat} (hx0 : x0 < 8) {r0 : Int64} (h : f_Mo_packed N x0 = some r0) : Ev xs L al d 153 [.retAddr x0] w (some (.long r0)) w := by
  obtain ⟨d, rfl⟩ : ∃ e, d = e + 1 := ⟨d - 1, by omega⟩
  refine ev_of (by decide) (Nat.le_of_ble_eq_true rfl) ?_
  rw [f_Mo_packed] at h
  show RN xs L al (Ev xs L al d) 153 0 [(0, .retAddr x0)] [] w (some (.long r0)) w
  refine rsn 4 (t := (4, [(3, .int 0), (1, .long 0), (0, .retAddr x0)], [])) rfl ?_
  have ex4 : ∀ (z1_1 : Int64) (z1_3 : Int32), (some z1_1) = some r0 → RN xs L al (Ev xs L al d) 153 30 [(1, .long z1_1)] [] w (some (.long r0)) w := by
    intro z1_1 z1_3 h
    refine rsn 1 (t := (31, [(1, .long z1_1)], [.long z1_1])) rfl ?_
    cases h
    exact rret rfl ⟨rfl, rfl, _, rfl, rfl, rfl⟩
  have lp4 : ∀ (n : Nat) (y2_1 : Int64) (y2_3 : Int32), f_Mo_packed_L4 N x0 (fun (z1_1 : Int64) (z1_3 : Int32) => some z1_1) n y2_1 y2_3 = some r0 → RN xs L al (Ev xs L al d) 153 4 [(0, .retAddr x0), (1, .long y2_1), (3, .int y2_3)] [] w (some (.long r0)) w := by
    intro n
    induction n with
    | zero => intro y2_1 y2_3 h; cases h
    | succ n4 ih4 =>
      intro y2_1 y2_3 h
      rw [f_Mo_packed_L4] at h
      try dsimp only at h
      exact rsub [(0, .retAddr x0), (1, .long y2_1), (3, .int y2_3)] ⟨rfl, ⟨rfl, ⟨rfl, trivial⟩⟩⟩ ⟨rfl, ⟨rfl, ⟨rfl, trivial⟩⟩⟩ (ih4 y2_1 y2_3 h)
  exact rsub [(0, .retAddr x0), (1, .long 0), (3, .int 0)] ⟨rfl, ⟨rfl, ⟨rfl, trivial⟩⟩⟩ ⟨rfl, ⟨rfl, ⟨rfl, trivial⟩⟩⟩ (lp4 N 0 0 h)
def f_Mo_hasCome (N : Nat) (x0 : Int64) (x2 : Int32) : Option (Int32) := (if ((((lsr x0 ((36 + x2)))) &&& 1)) = 1 then some 1 else some 0)
set_option maxRecDepth 20000 in
set_option maxHeartbeats 4000000 in
theorem e_Mo_hasCome {xs : Nat → Int32} {L : Nat} {al : Bool} (N : Nat) {d : Nat} (hd : 1 ≤ d) {w : Wd} {x0 : Int64} {x2 : Int32} {r0 : Int32} (h : f_Mo_hasCome N x0 x2 = some r0) : Ev xs L al d 173 [.long x0, .int x2] w (some (.int r0)) w := by
  obtain ⟨d, rfl⟩ : ∃ e, d = e + 1 := ⟨d - 1, by omega⟩
  refine ev_of (by decide) (Nat.le_of_ble_eq_true rfl) ?_
  rw [f_Mo_hasCome] at h
  show RN xs L al (Ev xs L al d) 173 0 [(0, .long x0), (2, .int x2)] [] w (some (.int r0)) w
  refine rsn 9 (t := (10, [(0, .long x0), (2, .int x2)], [.int ((lg_cmp ((((lsr x0 ((36 + x2)))) &&& 1)) 1))])) rfl ?_
  by_cases c1 : ((((lsr x0 ((36 + x2)))) &&& 1)) = 1
  · rw [if_pos c1] at h
    refine rjf (a := (17, [(0, .long x0), (2, .int x2)], [])) (b := (13, [(0, .long x0), (2, .int x2)], [])) rfl rfl (fun q => q (lgc_eq.mpr c1)) ?_
    refine rsn 2 (t := (18, [(0, .long x0), (2, .int x2)], [.int 1])) rfl ?_
    cases h
    exact rret rfl ⟨rfl, rfl, _, _, rfl, rfl, rfl, rfl⟩
  · rw [if_neg c1] at h
    refine rjt (a := (17, [(0, .long x0), (2, .int x2)], [])) (b := (13, [(0, .long x0), (2, .int x2)], [])) rfl rfl (fun q => c1 (lgc_eq.mp q)) ?_
    refine rsn 1 (t := (18, [(0, .long x0), (2, .int x2)], [.int 0])) rfl ?_
    cases h
    exact rret rfl ⟨rfl, rfl, _, _, rfl, rfl, rfl, rfl⟩
def f_Mo_things (N : Nat) (x0 : Int64) (x2 : Int32) (x3 : Int32) : Option (Int32) := some (((((lsr x0 ((3 * ((((3 * x2)) + x3)))))).toInt32) &&& 7))
set_option maxRecDepth 20000 in
set_option maxHeartbeats 4000000 in
theorem e_Mo_things {xs : Nat → Int32} {L : Nat} {al : Bool} (N : Nat) {d : Nat} (hd : 1 ≤ d) {w : Wd} {x0 : Int64} {x2 : Int32} {x3 : Int32} {r0 : Int32} (h : f_Mo_things N x0 x2 x3 = some r0) : Ev xs L al d 174 [.long x0, .int x2, .int x3] w (some (.int r0)) w := by
  obtain ⟨d, rfl⟩ : ∃ e, d = e + 1 := ⟨d - 1, by omega⟩
  refine ev_of (by decide) (Nat.le_of_ble_eq_true rfl) ?_
  rw [f_Mo_things] at h
  show RN xs L al (Ev xs L al d) 174 0 [(0, .long x0), (2, .int x2), (3, .int x3)] [] w (some (.int r0)) w
  refine rsn 12 (t := (13, [(0, .long x0), (2, .int x2), (3, .int x3)], [.int (((((lsr x0 ((3 * ((((3 * x2)) + x3)))))).toInt32) &&& 7))])) rfl ?_
  cases h
  exact rret rfl ⟨rfl, rfl, _, _, rfl, rfl, rfl, rfl⟩
def f_Mo_held (N : Nat) (x0 : Int64) : Option (Int32) := b1 (f_Mo_things N x0 3 0) fun r1 => b1 (f_Mo_things N x0 3 1) fun r2 => b1 (f_Mo_things N x0 3 2) fun r3 => some ((((r1 + r2)) + r3))
set_option maxRecDepth 20000 in
set_option maxHeartbeats 4000000 in
theorem e_Mo_held {xs : Nat → Int32} {L : Nat} {al : Bool} (N : Nat) {d : Nat} (hd : 2 ≤ d) {w : Wd} {x0 : Int64} {r0 : Int32} (h : f_Mo_held N x0 = some r0) : Ev xs L al d 181 [.long x0] w (some (.int r0)) w := by
  obtain ⟨d, rfl⟩ : ∃ e, d = e + 1 := ⟨d - 1, by omega⟩
  refine ev_of (by decide) (Nat.le_of_ble_eq_true rfl) ?_
  rw [f_Mo_held] at h
  show RN xs L al (Ev xs L al d) 181 0 [(0, .long x0)] [] w (some (.int r0)) w
  refine rsn 3 (t := (3, [(0, .long x0)], [.int 0, .int 3, .long x0])) rfl ?_
  obtain ⟨r1, g1, h⟩ := b1_some h
  refine rcS 174 [.long x0, .int 3, .int 0] rfl rfl rfl (Nat.le_of_ble_eq_true rfl) rfl (e_Mo_things N (by omega) g1) ?_
  show RN xs L al (Ev xs L al d) 181 6 [(0, .long x0)] [.int r1] w (some (.int r0)) w
  refine rsn 3 (t := (9, [(0, .long x0)], [.int 1, .int 3, .long x0, .int r1])) rfl ?_
  obtain ⟨r2, g2, h⟩ := b1_some h
  refine rcS 174 [.long x0, .int 3, .int 1] rfl rfl rfl (Nat.le_of_ble_eq_true rfl) rfl (e_Mo_things N (by omega) g2) ?_
  show RN xs L al (Ev xs L al d) 181 12 [(0, .long x0)] [.int r2, .int r1] w (some (.int r0)) w
  refine rsn 4 (t := (16, [(0, .long x0)], [.int 2, .int 3, .long x0, .int ((r1 + r2))])) rfl ?_
  obtain ⟨r3, g3, h⟩ := b1_some h
  refine rcS 174 [.long x0, .int 3, .int 2] rfl rfl rfl (Nat.le_of_ble_eq_true rfl) rfl (e_Mo_things N (by omega) g3) ?_
  show RN xs L al (Ev xs L al d) 181 19 [(0, .long x0)] [.int r3, .int ((r1 + r2))] w (some (.int r0)) w
  refine rsn 1 (t := (20, [(0, .long x0)], [.int ((((r1 + r2)) + r3))])) rfl ?_
  cases h
  exact rret rfl ⟨rfl, rfl, _, _, rfl, rfl, rfl, rfl⟩
def f_Mo_mayGive (N : Nat) (x0 : Int64) (x2 : Int32) (x3 : Int32) : Option (Int32) := (if x2 = 3 then b1 (f_Mo_held N x0) fun r6 => (if x3 ≤ r6 then some 0 else some 1) else b1 (f_Mo_in N x2 0 2) fun r2 => (if r2 = 0 then some 0 else b1 (f_Mo_hasCome N x0 x2) fun r4 => (if r4 = 0 then some 0 else some 1)))
set_option maxRecDepth 20000 in
set_option maxHeartbeats 4000000 in
theorem e_Mo_mayGive {xs : Nat → Int32} {L : Nat} {al : Bool} (N : Nat) {d : Nat} (hd : 3 ≤ d) {w : Wd} {x0 : Int64} {x2 : Int32} {x3 : Int32} {r0 : Int32} (h : f_Mo_mayGive N x0 x2 x3 = some r0) : Ev xs L al d 180 [.long x0, .int x2, .int x3] w (some (.int r0)) w := by
  obtain ⟨d, rfl⟩ : ∃ e, d = e + 1 := ⟨d - 1, by omega⟩
  refine ev_of (by decide) (Nat.le_of_ble_eq_true rfl) ?_
  rw [f_Mo_mayGive] at h
  show RN xs L al (Ev xs L al d) 180 0 [(0, .long x0), (2, .int x2), (3, .int x3)] [] w (some (.int r0)) w
  refine rsn 2 (t := (2, [(0, .long x0), (2, .int x2), (3, .int x3)], [.int 3, .int x2])) rfl ?_
  by_cases c1 : x2 = 3
  · rw [if_pos c1] at h
    refine rjf (a := (21, [(0, .long x0), (2, .int x2), (3, .int x3)], [])) (b := (5, [(0, .long x0), (2, .int x2), (3, .int x3)], [])) rfl rfl (fun q => q c1) ?_
    refine rsn 1 (t := (6, [(0, .long x0), (2, .int x2), (3, .int x3)], [.long x0])) rfl ?_
    obtain ⟨r6, g6, h⟩ := b1_some h
    refine rcS 181 [.long x0] rfl rfl rfl (Nat.le_of_ble_eq_true rfl) rfl (e_Mo_held N (by omega) g6) ?_
    show RN xs L al (Ev xs L al d) 180 9 [(0, .long x0), (2, .int x2), (3, .int x3)] [.int r6] w (some (.int r0)) w
    refine rsn 1 (t := (10, [(0, .long x0), (2, .int x2), (3, .int x3)], [.int x3, .int r6])) rfl ?_
    by_cases c7 : x3 ≤ r6
    · rw [if_pos c7] at h
      refine rjt (a := (17, [(0, .long x0), (2, .int x2), (3, .int x3)], [])) (b := (13, [(0, .long x0), (2, .int x2), (3, .int x3)], [])) rfl rfl c7 ?_
      refine rsn 2 (t := (43, [(0, .long x0), (2, .int x2), (3, .int x3)], [.int 0])) rfl ?_
      cases h
      exact rret rfl ⟨rfl, rfl, _, _, rfl, rfl, rfl, rfl⟩
    · rw [if_neg c7] at h
      refine rjf (a := (17, [(0, .long x0), (2, .int x2), (3, .int x3)], [])) (b := (13, [(0, .long x0), (2, .int x2), (3, .int x3)], [])) rfl rfl c7 ?_
      refine rsn 2 (t := (43, [(0, .long x0), (2, .int x2), (3, .int x3)], [.int 1])) rfl ?_
      cases h
      exact rret rfl ⟨rfl, rfl, _, _, rfl, rfl, rfl, rfl⟩
  · rw [if_neg c1] at h
    refine rjt (a := (21, [(0, .long x0), (2, .int x2), (3, .int x3)], [])) (b := (5, [(0, .long x0), (2, .int x2), (3, .int x3)], [])) rfl rfl c1 ?_
    refine rsn 3 (t := (24, [(0, .long x0), (2, .int x2), (3, .int x3)], [.int 2, .int 0, .int x2])) rfl ?_
    obtain ⟨r2, g2, h⟩ := b1_some h
    refine rcS 146 [.int x2, .int 0, .int 2] rfl rfl rfl (Nat.le_of_ble_eq_true rfl) rfl (e_Mo_in N (by omega) g2) ?_
    show RN xs L al (Ev xs L al d) 180 27 [(0, .long x0), (2, .int x2), (3, .int x3)] [.int r2] w (some (.int r0)) w
    by_cases c3 : r2 = 0
    · rw [if_pos c3] at h
      refine rjt (a := (42, [(0, .long x0), (2, .int x2), (3, .int x3)], [])) (b := (30, [(0, .long x0), (2, .int x2), (3, .int x3)], [])) rfl rfl c3 ?_
      refine rsn 1 (t := (43, [(0, .long x0), (2, .int x2), (3, .int x3)], [.int 0])) rfl ?_
      cases h
      exact rret rfl ⟨rfl, rfl, _, _, rfl, rfl, rfl, rfl⟩
    · rw [if_neg c3] at h
      refine rjf (a := (42, [(0, .long x0), (2, .int x2), (3, .int x3)], [])) (b := (30, [(0, .long x0), (2, .int x2), (3, .int x3)], [])) rfl rfl c3 ?_
      refine rsn 2 (t := (32, [(0, .long x0), (2, .int x2), (3, .int x3)], [.int x2, .long x0])) rfl ?_
      obtain ⟨r4, g4, h⟩ := b1_some h
      refine rcS 173 [.long x0, .int x2] rfl rfl rfl (Nat.le_of_ble_eq_true rfl) rfl (e_Mo_hasCome N (by omega) g4) ?_
      show RN xs L al (Ev xs L al d) 180 35 [(0, .long x0), (2, .int x2), (3, .int x3)] [.int r4] w (some (.int r0)) w
      by_cases c5 : r4 = 0
      · rw [if_pos c5] at h
        refine rjt (a := (42, [(0, .long x0), (2, .int x2), (3, .int x3)], [])) (b := (38, [(0, .long x0), (2, .int x2), (3, .int x3)], [])) rfl rfl c5 ?_
        refine rsn 1 (t := (43, [(0, .long x0), (2, .int x2), (3, .int x3)], [.int 0])) rfl ?_
        cases h
        exact rret rfl ⟨rfl, rfl, _, _, rfl, rfl, rfl, rfl⟩
      · rw [if_neg c5] at h
        refine rjf (a := (42, [(0, .long x0), (2, .int x2), (3, .int x3)], [])) (b := (38, [(0, .long x0), (2, .int x2), (3, .int x3)], [])) rfl rfl c5 ?_
        refine rsn 2 (t := (43, [(0, .long x0), (2, .int x2), (3, .int x3)], [.int 1])) rfl ?_
        cases h
        exact rret rfl ⟨rfl, rfl, _, _, rfl, rfl, rfl, rfl⟩
def f_Mo_one (N : Nat) (x0 : Int32) (x1 : Int32) : Option (Int64) := some ((lsl 1 ((3 * ((((3 * x0)) + x1))))))
set_option maxRecDepth 20000 in
set_option maxHeartbeats 4000000 in
theorem e_Mo_one {xs : Nat → Int32} {L : Nat} {al : Bool} (N : Nat) {d : Nat} (hd : 1 ≤ d) {w : Wd} {x0 : Int32} {x1 : Int32} {r0 : Int64} (h : f_Mo_one N x0 x1 = some r0) : Ev xs L al d 182 [.int x0, .int x1] w (some (.long r0)) w := by
  obtain ⟨d, rfl⟩ : ∃ e, d = e + 1 := ⟨d - 1, by omega⟩
  refine ev_of (by decide) (Nat.le_of_ble_eq_true rfl) ?_
  rw [f_Mo_one] at h
  show RN xs L al (Ev xs L al d) 182 0 [(0, .int x0), (1, .int x1)] [] w (some (.long r0)) w
  refine rsn 9 (t := (9, [(0, .int x0), (1, .int x1)], [.long ((lsl 1 ((3 * ((((3 * x0)) + x1))))))])) rfl ?_
  cases h
  exact rret rfl ⟨rfl, rfl, _, rfl, rfl, rfl⟩
def f_Mo_isGoal (N : Nat) (x0 : Int32) : Option (Int32) := b1 (f_Mo_in N x0 0 2) fun r1 => ck (r1 = 0 ∨ r1 = 1) (some r1)
set_option maxRecDepth 20000 in
set_option maxHeartbeats 4000000 in
theorem e_Mo_isGoal {xs : Nat → Int32} {L : Nat} {al : Bool} (N : Nat) {d : Nat} (hd : 2 ≤ d) {w : Wd} {x0 : Int32} {r0 : Int32} (h : f_Mo_isGoal N x0 = some r0) : Ev xs L al d 184 [.int x0] w (some (.int r0)) w := by
  obtain ⟨d, rfl⟩ : ∃ e, d = e + 1 := ⟨d - 1, by omega⟩
  refine ev_of (by decide) (Nat.le_of_ble_eq_true rfl) ?_
  rw [f_Mo_isGoal] at h
  show RN xs L al (Ev xs L al d) 184 0 [(0, .int x0)] [] w (some (.int r0)) w
  refine rsn 3 (t := (3, [(0, .int x0)], [.int 2, .int 0, .int x0])) rfl ?_
  obtain ⟨r1, g1, h⟩ := b1_some h
  refine rcS 146 [.int x0, .int 0, .int 2] rfl rfl rfl (Nat.le_of_ble_eq_true rfl) rfl (e_Mo_in N (by omega) g1) ?_
  show RN xs L al (Ev xs L al d) 184 6 [(0, .int x0)] [.int r1] w (some (.int r0)) w
  obtain ⟨c2, h⟩ := ck_some h
  cases h
  exact rret rfl ⟨rfl, rfl, _, _, rfl, rfl, rfl, nz_of c2⟩
def f_Mo_manyCame_L5 (N : Nat) (x1 : Int64) (k5 : Int32 → Int32 → Option (Int32)) : Nat → Int32 → Int32 → Option (Int32)
  | 0, _, _ => none
  | n5 + 1, x3, x4 => f_Mo_manyCame_L5 N x1 k5 n5 x3 x4
def f_Mo_manyCame (N : Nat) (x1 : Int64) : Option (Int32) := f_Mo_manyCame_L5 N x1 (fun (z1_3 : Int32) (z1_4 : Int32) => some z1_3) N 0 0
set_option maxRecDepth 20000 in
set_option maxHeartbeats 4000000 in
theorem e_Mo_manyCame {xs : Nat → Int32} {L : Nat} {al : Bool} (N : Nat) {d : Nat} (hd : 2 ≤ d) {w : Wd} {x1 : Int64} {r0 : Int32} (h : f_Mo_manyCame N x1 = some r0) : Ev xs L al d 189 [.ref 0, .long x1] w (some (.int r0)) w := by
  obtain ⟨d, rfl⟩ : ∃ e, d = e + 1 := ⟨d - 1, by omega⟩
  refine ev_of (by decide) (Nat.le_of_ble_eq_true rfl) ?_
  rw [f_Mo_manyCame] at h
  show RN xs L al (Ev xs L al d) 189 0 [(0, .ref 0), (1, .long x1)] [] w (some (.int r0)) w
  refine rsn 4 (t := (5, [(4, .int 0), (3, .int 0), (0, .ref 0), (1, .long x1)], [])) rfl ?_
  have ex5 : ∀ (z1_3 : Int32) (z1_4 : Int32), (some z1_3) = some r0 → RN xs L al (Ev xs L al d) 189 34 [(3, .int z1_3)] [] w (some (.int r0)) w := by
    intro z1_3 z1_4 h
    refine rsn 1 (t := (35, [(3, .int z1_3)], [.int z1_3])) rfl ?_
    cases h
    exact rret rfl ⟨rfl, rfl, _, _, rfl, rfl, rfl, rfl⟩
  have lp5 : ∀ (n : Nat) (y2_3 : Int32) (y2_4 : Int32), f_Mo_manyCame_L5 N x1 (fun (z1_3 : Int32) (z1_4 : Int32) => some z1_3) n y2_3 y2_4 = some r0 → RN xs L al (Ev xs L al d) 189 5 [(1, .long x1), (3, .int y2_3), (4, .int y2_4)] [] w (some (.int r0)) w := by
    intro n
    induction n with
    | zero => intro y2_3 y2_4 h; cases h
    | succ n5 ih5 =>
      intro y2_3 y2_4 h
      rw [f_Mo_manyCame_L5] at h
      try dsimp only at h
      exact rsub [(1, .long x1), (3, .int y2_3), (4, .int y2_4)] ⟨rfl, ⟨rfl, ⟨rfl, trivial⟩⟩⟩ ⟨rfl, ⟨rfl, ⟨rfl, trivial⟩⟩⟩ (ih5 y2_3 y2_4 h)
  exact rsub [(1, .long x1), (3, .int 0), (4, .int 0)] ⟨rfl, ⟨rfl, ⟨rfl, trivial⟩⟩⟩ ⟨rfl, ⟨rfl, ⟨rfl, trivial⟩⟩⟩ (lp5 N 0 0 h)
def f_Mo_manyOf (N : Nat) (x0 : Int64) (x2 : Int32) : Option (Int32) := b1 (f_Mo_things N x0 x2 0) fun r1 => b1 (f_Mo_things N x0 x2 1) fun r2 => b1 (f_Mo_things N x0 x2 2) fun r3 => some ((((r1 + r2)) + r3))
set_option maxRecDepth 20000 in
set_option maxHeartbeats 4000000 in
theorem e_Mo_manyOf {xs : Nat → Int32} {L : Nat} {al : Bool} (N : Nat) {d : Nat} (hd : 2 ≤ d) {w : Wd} {x0 : Int64} {x2 : Int32} {r0 : Int32} (h : f_Mo_manyOf N x0 x2 = some r0) : Ev xs L al d 211 [.long x0, .int x2] w (some (.int r0)) w := by
  obtain ⟨d, rfl⟩ : ∃ e, d = e + 1 := ⟨d - 1, by omega⟩
  refine ev_of (by decide) (Nat.le_of_ble_eq_true rfl) ?_
  rw [f_Mo_manyOf] at h
  show RN xs L al (Ev xs L al d) 211 0 [(0, .long x0), (2, .int x2)] [] w (some (.int r0)) w
  refine rsn 3 (t := (3, [(0, .long x0), (2, .int x2)], [.int 0, .int x2, .long x0])) rfl ?_
  obtain ⟨r1, g1, h⟩ := b1_some h
  refine rcS 174 [.long x0, .int x2, .int 0] rfl rfl rfl (Nat.le_of_ble_eq_true rfl) rfl (e_Mo_things N (by omega) g1) ?_
  show RN xs L al (Ev xs L al d) 211 6 [(0, .long x0), (2, .int x2)] [.int r1] w (some (.int r0)) w
  refine rsn 3 (t := (9, [(0, .long x0), (2, .int x2)], [.int 1, .int x2, .long x0, .int r1])) rfl ?_
  obtain ⟨r2, g2, h⟩ := b1_some h
  refine rcS 174 [.long x0, .int x2, .int 1] rfl rfl rfl (Nat.le_of_ble_eq_true rfl) rfl (e_Mo_things N (by omega) g2) ?_
  show RN xs L al (Ev xs L al d) 211 12 [(0, .long x0), (2, .int x2)] [.int r2, .int r1] w (some (.int r0)) w
  refine rsn 4 (t := (16, [(0, .long x0), (2, .int x2)], [.int 2, .int x2, .long x0, .int ((r1 + r2))])) rfl ?_
  obtain ⟨r3, g3, h⟩ := b1_some h
  refine rcS 174 [.long x0, .int x2, .int 2] rfl rfl rfl (Nat.le_of_ble_eq_true rfl) rfl (e_Mo_things N (by omega) g3) ?_
  show RN xs L al (Ev xs L al d) 211 19 [(0, .long x0), (2, .int x2)] [.int r3, .int ((r1 + r2))] w (some (.int r0)) w
  refine rsn 1 (t := (20, [(0, .long x0), (2, .int x2)], [.int ((((r1 + r2)) + r3))])) rfl ?_
  cases h
  exact rret rfl ⟨rfl, rfl, _, _, rfl, rfl, rfl, rfl⟩
end
