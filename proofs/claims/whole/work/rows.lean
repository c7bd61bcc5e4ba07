section
-- ===== PART A: goes FIRST, ahead of the names: the tables' words, and 'selects' of the private methods out of them =====
/-- a private method of a class that the tables say can be made, by its rows of tables_1 -/
def lw_okq (q : MethodName × Nat) : Prop := (q.1.cls ≠ "java/lang/invoke/MethodHandle" ∧ q.1.cls ≠ "java/lang/invoke/VarHandle") ∧ Cond.instantiable q.1.cls q.2 ∈ tables_1 ∧ Cond.privateMethod q.1 ∈ tables_1 ∧ Cond.instanceMethod q.1 ∈ tables_1
theorem lw_p0 : lw_okq (⟨"SharesComing", "addBytes", "(I)V"⟩, 12) := ⟨⟨by decide +kernel, by decide +kernel⟩, List.mem_of_getElem? (i := 22) (by decide +kernel), List.mem_of_getElem? (i := 360) (by decide +kernel), List.mem_of_getElem? (i := 361) (by decide +kernel)⟩
theorem lw_p1 : lw_okq (⟨"SharesComing$Reader", "step", "()V"⟩, 8) := ⟨⟨by decide +kernel, by decide +kernel⟩, List.mem_of_getElem? (i := 30) (by decide +kernel), List.mem_of_getElem? (i := 383) (by decide +kernel), List.mem_of_getElem? (i := 384) (by decide +kernel)⟩
theorem lw_p2 : lw_okq (⟨"SharesComing$Reader", "isLetterAt", "(I)Z"⟩, 8) := ⟨⟨by decide +kernel, by decide +kernel⟩, List.mem_of_getElem? (i := 30) (by decide +kernel), List.mem_of_getElem? (i := 387) (by decide +kernel), List.mem_of_getElem? (i := 388) (by decide +kernel)⟩
theorem lw_p3 : lw_okq (⟨"SharesComing$Reader", "readWord", "()V"⟩, 8) := ⟨⟨by decide +kernel, by decide +kernel⟩, List.mem_of_getElem? (i := 30) (by decide +kernel), List.mem_of_getElem? (i := 391) (by decide +kernel), List.mem_of_getElem? (i := 392) (by decide +kernel)⟩
theorem lw_p4 : lw_okq (⟨"SharesComing$Reader", "isDigitAt", "(I)Z"⟩, 8) := ⟨⟨by decide +kernel, by decide +kernel⟩, List.mem_of_getElem? (i := 30) (by decide +kernel), List.mem_of_getElem? (i := 395) (by decide +kernel), List.mem_of_getElem? (i := 396) (by decide +kernel)⟩
theorem lw_p5 : lw_okq (⟨"SharesComing$Reader", "readNumber", "()V"⟩, 8) := ⟨⟨by decide +kernel, by decide +kernel⟩, List.mem_of_getElem? (i := 30) (by decide +kernel), List.mem_of_getElem? (i := 399) (by decide +kernel), List.mem_of_getElem? (i := 400) (by decide +kernel)⟩
theorem lw_p6 : lw_okq (⟨"SharesComing$Reader", "readPart", "(LSharesComing$Will;)Z"⟩, 8) := ⟨⟨by decide +kernel, by decide +kernel⟩, List.mem_of_getElem? (i := 30) (by decide +kernel), List.mem_of_getElem? (i := 407) (by decide +kernel), List.mem_of_getElem? (i := 408) (by decide +kernel)⟩
theorem lw_p7 : lw_okq (⟨"SharesComing$Reader", "readHeir", "(LSharesComing$Will;Z)Z"⟩, 8) := ⟨⟨by decide +kernel, by decide +kernel⟩, List.mem_of_getElem? (i := 30) (by decide +kernel), List.mem_of_getElem? (i := 413) (by decide +kernel), List.mem_of_getElem? (i := 414) (by decide +kernel)⟩
theorem lw_p8 : lw_okq (⟨"SharesComing$Reader", "isName", "()Z"⟩, 8) := ⟨⟨by decide +kernel, by decide +kernel⟩, List.mem_of_getElem? (i := 30) (by decide +kernel), List.mem_of_getElem? (i := 421) (by decide +kernel), List.mem_of_getElem? (i := 422) (by decide +kernel)⟩
theorem lw_p9 : lw_okq (⟨"SharesComing$Reader", "isNumber", "(II)Z"⟩, 8) := ⟨⟨by decide +kernel, by decide +kernel⟩, List.mem_of_getElem? (i := 30) (by decide +kernel), List.mem_of_getElem? (i := 435) (by decide +kernel), List.mem_of_getElem? (i := 436) (by decide +kernel)⟩
theorem lw_p10 : lw_okq (⟨"SharesComing$Reader", "readDay", "(LSharesComing$Will;)Z"⟩, 8) := ⟨⟨by decide +kernel, by decide +kernel⟩, List.mem_of_getElem? (i := 30) (by decide +kernel), List.mem_of_getElem? (i := 448) (by decide +kernel), List.mem_of_getElem? (i := 449) (by decide +kernel)⟩
theorem lw_p11 : lw_okq (⟨"SharesComing$Reader", "readAlt", "(LSharesComing$Will;I)Z"⟩, 8) := ⟨⟨by decide +kernel, by decide +kernel⟩, List.mem_of_getElem? (i := 30) (by decide +kernel), List.mem_of_getElem? (i := 456) (by decide +kernel), List.mem_of_getElem? (i := 457) (by decide +kernel)⟩
theorem lw_p12 : lw_okq (⟨"SharesComing$Reader", "readHold", "(LSharesComing$Will;)Z"⟩, 8) := ⟨⟨by decide +kernel, by decide +kernel⟩, List.mem_of_getElem? (i := 30) (by decide +kernel), List.mem_of_getElem? (i := 473) (by decide +kernel), List.mem_of_getElem? (i := 474) (by decide +kernel)⟩
theorem lw_p13 : lw_okq (⟨"SharesComing$Reader", "passSemicolon", "()Z"⟩, 8) := ⟨⟨by decide +kernel, by decide +kernel⟩, List.mem_of_getElem? (i := 30) (by decide +kernel), List.mem_of_getElem? (i := 477) (by decide +kernel), List.mem_of_getElem? (i := 478) (by decide +kernel)⟩
theorem lw_p14 : lw_okq (⟨"SharesComing$Reader", "readBack", "(LSharesComing$Will;)Z"⟩, 8) := ⟨⟨by decide +kernel, by decide +kernel⟩, List.mem_of_getElem? (i := 30) (by decide +kernel), List.mem_of_getElem? (i := 481) (by decide +kernel), List.mem_of_getElem? (i := 482) (by decide +kernel)⟩
theorem lw_p15 : lw_okq (⟨"SharesComing", "canLookAhead", "(I)Z"⟩, 12) := ⟨⟨by decide +kernel, by decide +kernel⟩, List.mem_of_getElem? (i := 22) (by decide +kernel), List.mem_of_getElem? (i := 614) (by decide +kernel), List.mem_of_getElem? (i := 615) (by decide +kernel)⟩
def lw_privs_1 : List (MethodName × Nat) := [(⟨"SharesComing", "addBytes", "(I)V"⟩, 12), (⟨"SharesComing$Reader", "step", "()V"⟩, 8), (⟨"SharesComing$Reader", "isLetterAt", "(I)Z"⟩, 8), (⟨"SharesComing$Reader", "readWord", "()V"⟩, 8), (⟨"SharesComing$Reader", "isDigitAt", "(I)Z"⟩, 8), (⟨"SharesComing$Reader", "readNumber", "()V"⟩, 8), (⟨"SharesComing$Reader", "readPart", "(LSharesComing$Will;)Z"⟩, 8), (⟨"SharesComing$Reader", "readHeir", "(LSharesComing$Will;Z)Z"⟩, 8), (⟨"SharesComing$Reader", "isName", "()Z"⟩, 8), (⟨"SharesComing$Reader", "isNumber", "(II)Z"⟩, 8), (⟨"SharesComing$Reader", "readDay", "(LSharesComing$Will;)Z"⟩, 8), (⟨"SharesComing$Reader", "readAlt", "(LSharesComing$Will;I)Z"⟩, 8), (⟨"SharesComing$Reader", "readHold", "(LSharesComing$Will;)Z"⟩, 8), (⟨"SharesComing$Reader", "passSemicolon", "()Z"⟩, 8), (⟨"SharesComing$Reader", "readBack", "(LSharesComing$Will;)Z"⟩, 8), (⟨"SharesComing", "canLookAhead", "(I)Z"⟩, 12)]
theorem lw_r1 : ∀ q ∈ lw_privs_1, lw_okq q := List.forall_mem_cons.mpr ⟨lw_p0, List.forall_mem_cons.mpr ⟨lw_p1, List.forall_mem_cons.mpr ⟨lw_p2, List.forall_mem_cons.mpr ⟨lw_p3, List.forall_mem_cons.mpr ⟨lw_p4, List.forall_mem_cons.mpr ⟨lw_p5, List.forall_mem_cons.mpr ⟨lw_p6, List.forall_mem_cons.mpr ⟨lw_p7, List.forall_mem_cons.mpr ⟨lw_p8, List.forall_mem_cons.mpr ⟨lw_p9, List.forall_mem_cons.mpr ⟨lw_p10, List.forall_mem_cons.mpr ⟨lw_p11, List.forall_mem_cons.mpr ⟨lw_p12, List.forall_mem_cons.mpr ⟨lw_p13, List.forall_mem_cons.mpr ⟨lw_p14, List.forall_mem_cons.mpr ⟨lw_p15, fun _ h => absurd h List.not_mem_nil⟩⟩⟩⟩⟩⟩⟩⟩⟩⟩⟩⟩⟩⟩⟩⟩
theorem lw_p16 : lw_okq (⟨"SharesComing", "daysToCome", "()I"⟩, 12) := ⟨⟨by decide +kernel, by decide +kernel⟩, List.mem_of_getElem? (i := 22) (by decide +kernel), List.mem_of_getElem? (i := 621) (by decide +kernel), List.mem_of_getElem? (i := 622) (by decide +kernel)⟩
theorem lw_p17 : lw_okq (⟨"SharesComing$Ranks", "cellPlace", "(JI)I"⟩, 12) := ⟨⟨by decide +kernel, by decide +kernel⟩, List.mem_of_getElem? (i := 136) (by decide +kernel), List.mem_of_getElem? (i := 653) (by decide +kernel), List.mem_of_getElem? (i := 654) (by decide +kernel)⟩
theorem lw_p18 : lw_okq (⟨"SharesComing$Ends", "find", "(J)J"⟩, 5) := ⟨⟨by decide +kernel, by decide +kernel⟩, List.mem_of_getElem? (i := 214) (by decide +kernel), List.mem_of_getElem? (i := 667) (by decide +kernel), List.mem_of_getElem? (i := 668) (by decide +kernel)⟩
theorem lw_p19 : lw_okq (⟨"SharesComing$Ends", "bestHandedOut", "(JI)J"⟩, 5) := ⟨⟨by decide +kernel, by decide +kernel⟩, List.mem_of_getElem? (i := 214) (by decide +kernel), List.mem_of_getElem? (i := 674) (by decide +kernel), List.mem_of_getElem? (i := 675) (by decide +kernel)⟩
theorem lw_p20 : lw_okq (⟨"SharesComing$Ends", "bestTakenBack", "(JLSharesComing$Ends;)J"⟩, 5) := ⟨⟨by decide +kernel, by decide +kernel⟩, List.mem_of_getElem? (i := 214) (by decide +kernel), List.mem_of_getElem? (i := 685) (by decide +kernel), List.mem_of_getElem? (i := 686) (by decide +kernel)⟩
theorem lw_p21 : lw_okq (⟨"SharesComing$Ends", "bestMoved", "(JIILSharesComing$Ends;)J"⟩, 5) := ⟨⟨by decide +kernel, by decide +kernel⟩, List.mem_of_getElem? (i := 214) (by decide +kernel), List.mem_of_getElem? (i := 690) (by decide +kernel), List.mem_of_getElem? (i := 691) (by decide +kernel)⟩
theorem lw_p22 : lw_okq (⟨"SharesComing", "worthNow", "(II)J"⟩, 12) := ⟨⟨by decide +kernel, by decide +kernel⟩, List.mem_of_getElem? (i := 22) (by decide +kernel), List.mem_of_getElem? (i := 728) (by decide +kernel), List.mem_of_getElem? (i := 729) (by decide +kernel)⟩
theorem lw_p23 : lw_okq (⟨"SharesComing$Sight", "weighed", "(JI)J"⟩, 5) := ⟨⟨by decide +kernel, by decide +kernel⟩, List.mem_of_getElem? (i := 251) (by decide +kernel), List.mem_of_getElem? (i := 759) (by decide +kernel), List.mem_of_getElem? (i := 760) (by decide +kernel)⟩
theorem lw_p24 : lw_okq (⟨"SharesComing$Sight", "afterAlt", "(JII)J"⟩, 5) := ⟨⟨by decide +kernel, by decide +kernel⟩, List.mem_of_getElem? (i := 251) (by decide +kernel), List.mem_of_getElem? (i := 765) (by decide +kernel), List.mem_of_getElem? (i := 766) (by decide +kernel)⟩
theorem lw_p25 : lw_okq (⟨"SharesComing$Sight", "holdable", "()I"⟩, 5) := ⟨⟨by decide +kernel, by decide +kernel⟩, List.mem_of_getElem? (i := 251) (by decide +kernel), List.mem_of_getElem? (i := 776) (by decide +kernel), List.mem_of_getElem? (i := 777) (by decide +kernel)⟩
theorem lw_p26 : lw_okq (⟨"SharesComing$Sight", "least", "(JI)J"⟩, 5) := ⟨⟨by decide +kernel, by decide +kernel⟩, List.mem_of_getElem? (i := 251) (by decide +kernel), List.mem_of_getElem? (i := 783) (by decide +kernel), List.mem_of_getElem? (i := 784) (by decide +kernel)⟩
theorem lw_p27 : lw_okq (⟨"SharesComing", "thousandths", "(J)I"⟩, 12) := ⟨⟨by decide +kernel, by decide +kernel⟩, List.mem_of_getElem? (i := 22) (by decide +kernel), List.mem_of_getElem? (i := 793) (by decide +kernel), List.mem_of_getElem? (i := 794) (by decide +kernel)⟩
theorem lw_p28 : lw_okq (⟨"SharesComing$Rows", "traced", "(JII)J"⟩, 6) := ⟨⟨by decide +kernel, by decide +kernel⟩, List.mem_of_getElem? (i := 188) (by decide +kernel), List.mem_of_getElem? (i := 837) (by decide +kernel), List.mem_of_getElem? (i := 838) (by decide +kernel)⟩
theorem lw_p29 : lw_okq (⟨"SharesComing$Rows", "spread", "(JJIILSharesComing$Ends;)J"⟩, 6) := ⟨⟨by decide +kernel, by decide +kernel⟩, List.mem_of_getElem? (i := 188) (by decide +kernel), List.mem_of_getElem? (i := 849) (by decide +kernel), List.mem_of_getElem? (i := 850) (by decide +kernel)⟩
theorem lw_p30 : lw_okq (⟨"SharesComing$Rows", "walkOn", "(JJLSharesComing$Ends;)V"⟩, 6) := ⟨⟨by decide +kernel, by decide +kernel⟩, List.mem_of_getElem? (i := 188) (by decide +kernel), List.mem_of_getElem? (i := 878) (by decide +kernel), List.mem_of_getElem? (i := 879) (by decide +kernel)⟩
theorem lw_p31 : lw_okq (⟨"SharesComing$Rows", "wasWalked", "(I)Z"⟩, 6) := ⟨⟨by decide +kernel, by decide +kernel⟩, List.mem_of_getElem? (i := 188) (by decide +kernel), List.mem_of_getElem? (i := 883) (by decide +kernel), List.mem_of_getElem? (i := 884) (by decide +kernel)⟩
def lw_privs_2 : List (MethodName × Nat) := [(⟨"SharesComing", "daysToCome", "()I"⟩, 12), (⟨"SharesComing$Ranks", "cellPlace", "(JI)I"⟩, 12), (⟨"SharesComing$Ends", "find", "(J)J"⟩, 5), (⟨"SharesComing$Ends", "bestHandedOut", "(JI)J"⟩, 5), (⟨"SharesComing$Ends", "bestTakenBack", "(JLSharesComing$Ends;)J"⟩, 5), (⟨"SharesComing$Ends", "bestMoved", "(JIILSharesComing$Ends;)J"⟩, 5), (⟨"SharesComing", "worthNow", "(II)J"⟩, 12), (⟨"SharesComing$Sight", "weighed", "(JI)J"⟩, 5), (⟨"SharesComing$Sight", "afterAlt", "(JII)J"⟩, 5), (⟨"SharesComing$Sight", "holdable", "()I"⟩, 5), (⟨"SharesComing$Sight", "least", "(JI)J"⟩, 5), (⟨"SharesComing", "thousandths", "(J)I"⟩, 12), (⟨"SharesComing$Rows", "traced", "(JII)J"⟩, 6), (⟨"SharesComing$Rows", "spread", "(JJIILSharesComing$Ends;)J"⟩, 6), (⟨"SharesComing$Rows", "walkOn", "(JJLSharesComing$Ends;)V"⟩, 6), (⟨"SharesComing$Rows", "wasWalked", "(I)Z"⟩, 6)]
theorem lw_r2 : ∀ q ∈ lw_privs_2, lw_okq q := List.forall_mem_cons.mpr ⟨lw_p16, List.forall_mem_cons.mpr ⟨lw_p17, List.forall_mem_cons.mpr ⟨lw_p18, List.forall_mem_cons.mpr ⟨lw_p19, List.forall_mem_cons.mpr ⟨lw_p20, List.forall_mem_cons.mpr ⟨lw_p21, List.forall_mem_cons.mpr ⟨lw_p22, List.forall_mem_cons.mpr ⟨lw_p23, List.forall_mem_cons.mpr ⟨lw_p24, List.forall_mem_cons.mpr ⟨lw_p25, List.forall_mem_cons.mpr ⟨lw_p26, List.forall_mem_cons.mpr ⟨lw_p27, List.forall_mem_cons.mpr ⟨lw_p28, List.forall_mem_cons.mpr ⟨lw_p29, List.forall_mem_cons.mpr ⟨lw_p30, List.forall_mem_cons.mpr ⟨lw_p31, fun _ h => absurd h List.not_mem_nil⟩⟩⟩⟩⟩⟩⟩⟩⟩⟩⟩⟩⟩⟩⟩⟩
theorem lw_p32 : lw_okq (⟨"SharesComing$Ways", "gift", "(JI)I"⟩, 5) := ⟨⟨by decide +kernel, by decide +kernel⟩, List.mem_of_getElem? (i := 276) (by decide +kernel), List.mem_of_getElem? (i := 913) (by decide +kernel), List.mem_of_getElem? (i := 914) (by decide +kernel)⟩
theorem lw_p33 : lw_okq (⟨"SharesComing$Ways", "claim", "(JII)I"⟩, 5) := ⟨⟨by decide +kernel, by decide +kernel⟩, List.mem_of_getElem? (i := 276) (by decide +kernel), List.mem_of_getElem? (i := 919) (by decide +kernel), List.mem_of_getElem? (i := 920) (by decide +kernel)⟩
theorem lw_p34 : lw_okq (⟨"SharesComingModel", "next", "()V"⟩, 47) := ⟨⟨by decide +kernel, by decide +kernel⟩, List.mem_of_getElem? (i := 977) (by decide +kernel), List.mem_of_getElem? (i := 1143) (by decide +kernel), List.mem_of_getElem? (i := 1144) (by decide +kernel)⟩
theorem lw_p35 : lw_okq (⟨"SharesComingModel", "line", "()Z"⟩, 47) := ⟨⟨by decide +kernel, by decide +kernel⟩, List.mem_of_getElem? (i := 977) (by decide +kernel), List.mem_of_getElem? (i := 1156) (by decide +kernel), List.mem_of_getElem? (i := 1157) (by decide +kernel)⟩
theorem lw_p36 : lw_okq (⟨"SharesComingModel", "isWord", "(Ljava/lang/String;)Z"⟩, 47) := ⟨⟨by decide +kernel, by decide +kernel⟩, List.mem_of_getElem? (i := 977) (by decide +kernel), List.mem_of_getElem? (i := 1161) (by decide +kernel), List.mem_of_getElem? (i := 1162) (by decide +kernel)⟩
theorem lw_p37 : lw_okq (⟨"SharesComingModel", "heirLine", "(Z)Z"⟩, 47) := ⟨⟨by decide +kernel, by decide +kernel⟩, List.mem_of_getElem? (i := 977) (by decide +kernel), List.mem_of_getElem? (i := 1217) (by decide +kernel), List.mem_of_getElem? (i := 1218) (by decide +kernel)⟩
theorem lw_p38 : lw_okq (⟨"SharesComingModel", "isName", "()Z"⟩, 47) := ⟨⟨by decide +kernel, by decide +kernel⟩, List.mem_of_getElem? (i := 977) (by decide +kernel), List.mem_of_getElem? (i := 1221) (by decide +kernel), List.mem_of_getElem? (i := 1222) (by decide +kernel)⟩
theorem lw_p39 : lw_okq (⟨"SharesComingModel", "named", "(J)I"⟩, 47) := ⟨⟨by decide +kernel, by decide +kernel⟩, List.mem_of_getElem? (i := 977) (by decide +kernel), List.mem_of_getElem? (i := 1231) (by decide +kernel), List.mem_of_getElem? (i := 1232) (by decide +kernel)⟩
theorem lw_p40 : lw_okq (⟨"SharesComingModel", "isNumber", "(II)Z"⟩, 47) := ⟨⟨by decide +kernel, by decide +kernel⟩, List.mem_of_getElem? (i := 977) (by decide +kernel), List.mem_of_getElem? (i := 1235) (by decide +kernel), List.mem_of_getElem? (i := 1236) (by decide +kernel)⟩
theorem lw_p41 : lw_okq (⟨"SharesComingModel", "closes", "()Z"⟩, 47) := ⟨⟨by decide +kernel, by decide +kernel⟩, List.mem_of_getElem? (i := 977) (by decide +kernel), List.mem_of_getElem? (i := 1239) (by decide +kernel), List.mem_of_getElem? (i := 1240) (by decide +kernel)⟩
theorem lw_p42 : lw_okq (⟨"SharesComingModel", "isSign", "(I)Z"⟩, 47) := ⟨⟨by decide +kernel, by decide +kernel⟩, List.mem_of_getElem? (i := 977) (by decide +kernel), List.mem_of_getElem? (i := 1243) (by decide +kernel), List.mem_of_getElem? (i := 1244) (by decide +kernel)⟩
theorem lw_p43 : lw_okq (⟨"SharesComingModel", "dayLine", "()Z"⟩, 47) := ⟨⟨by decide +kernel, by decide +kernel⟩, List.mem_of_getElem? (i := 977) (by decide +kernel), List.mem_of_getElem? (i := 1247) (by decide +kernel), List.mem_of_getElem? (i := 1248) (by decide +kernel)⟩
theorem lw_p44 : lw_okq (⟨"SharesComingModel", "altHere", "()Z"⟩, 47) := ⟨⟨by decide +kernel, by decide +kernel⟩, List.mem_of_getElem? (i := 977) (by decide +kernel), List.mem_of_getElem? (i := 1251) (by decide +kernel), List.mem_of_getElem? (i := 1252) (by decide +kernel)⟩
theorem lw_p45 : lw_okq (⟨"SharesComingModel", "forgets", "()V"⟩, 47) := ⟨⟨by decide +kernel, by decide +kernel⟩, List.mem_of_getElem? (i := 977) (by decide +kernel), List.mem_of_getElem? (i := 1260) (by decide +kernel), List.mem_of_getElem? (i := 1261) (by decide +kernel)⟩
theorem lw_p46 : lw_okq (⟨"SharesComingModel", "isHeir", "(I)Z"⟩, 47) := ⟨⟨by decide +kernel, by decide +kernel⟩, List.mem_of_getElem? (i := 977) (by decide +kernel), List.mem_of_getElem? (i := 1268) (by decide +kernel), List.mem_of_getElem? (i := 1269) (by decide +kernel)⟩
theorem lw_p47 : lw_okq (⟨"SharesComingModel", "worthTo", "(JII)I"⟩, 47) := ⟨⟨by decide +kernel, by decide +kernel⟩, List.mem_of_getElem? (i := 977) (by decide +kernel), List.mem_of_getElem? (i := 1278) (by decide +kernel), List.mem_of_getElem? (i := 1279) (by decide +kernel)⟩
def lw_privs_3 : List (MethodName × Nat) := [(⟨"SharesComing$Ways", "gift", "(JI)I"⟩, 5), (⟨"SharesComing$Ways", "claim", "(JII)I"⟩, 5), (⟨"SharesComingModel", "next", "()V"⟩, 47), (⟨"SharesComingModel", "line", "()Z"⟩, 47), (⟨"SharesComingModel", "isWord", "(Ljava/lang/String;)Z"⟩, 47), (⟨"SharesComingModel", "heirLine", "(Z)Z"⟩, 47), (⟨"SharesComingModel", "isName", "()Z"⟩, 47), (⟨"SharesComingModel", "named", "(J)I"⟩, 47), (⟨"SharesComingModel", "isNumber", "(II)Z"⟩, 47), (⟨"SharesComingModel", "closes", "()Z"⟩, 47), (⟨"SharesComingModel", "isSign", "(I)Z"⟩, 47), (⟨"SharesComingModel", "dayLine", "()Z"⟩, 47), (⟨"SharesComingModel", "altHere", "()Z"⟩, 47), (⟨"SharesComingModel", "forgets", "()V"⟩, 47), (⟨"SharesComingModel", "isHeir", "(I)Z"⟩, 47), (⟨"SharesComingModel", "worthTo", "(JII)I"⟩, 47)]
theorem lw_r3 : ∀ q ∈ lw_privs_3, lw_okq q := List.forall_mem_cons.mpr ⟨lw_p32, List.forall_mem_cons.mpr ⟨lw_p33, List.forall_mem_cons.mpr ⟨lw_p34, List.forall_mem_cons.mpr ⟨lw_p35, List.forall_mem_cons.mpr ⟨lw_p36, List.forall_mem_cons.mpr ⟨lw_p37, List.forall_mem_cons.mpr ⟨lw_p38, List.forall_mem_cons.mpr ⟨lw_p39, List.forall_mem_cons.mpr ⟨lw_p40, List.forall_mem_cons.mpr ⟨lw_p41, List.forall_mem_cons.mpr ⟨lw_p42, List.forall_mem_cons.mpr ⟨lw_p43, List.forall_mem_cons.mpr ⟨lw_p44, List.forall_mem_cons.mpr ⟨lw_p45, List.forall_mem_cons.mpr ⟨lw_p46, List.forall_mem_cons.mpr ⟨lw_p47, fun _ h => absurd h List.not_mem_nil⟩⟩⟩⟩⟩⟩⟩⟩⟩⟩⟩⟩⟩⟩⟩⟩
theorem lw_p48 : lw_okq (⟨"SharesComingModel", "altOf", "(III)I"⟩, 47) := ⟨⟨by decide +kernel, by decide +kernel⟩, List.mem_of_getElem? (i := 977) (by decide +kernel), List.mem_of_getElem? (i := 1286) (by decide +kernel), List.mem_of_getElem? (i := 1287) (by decide +kernel)⟩
theorem lw_p49 : lw_okq (⟨"SharesComingModel", "ends", "(JII)I"⟩, 47) := ⟨⟨by decide +kernel, by decide +kernel⟩, List.mem_of_getElem? (i := 977) (by decide +kernel), List.mem_of_getElem? (i := 1314) (by decide +kernel), List.mem_of_getElem? (i := 1315) (by decide +kernel)⟩
theorem lw_p50 : lw_okq (⟨"SharesComingModel", "backed", "(JII)I"⟩, 47) := ⟨⟨by decide +kernel, by decide +kernel⟩, List.mem_of_getElem? (i := 977) (by decide +kernel), List.mem_of_getElem? (i := 1322) (by decide +kernel), List.mem_of_getElem? (i := 1323) (by decide +kernel)⟩
theorem lw_p51 : lw_okq (⟨"SharesComingModel", "goalOf", "(JI)I"⟩, 47) := ⟨⟨by decide +kernel, by decide +kernel⟩, List.mem_of_getElem? (i := 977) (by decide +kernel), List.mem_of_getElem? (i := 1326) (by decide +kernel), List.mem_of_getElem? (i := 1327) (by decide +kernel)⟩
theorem lw_p52 : lw_okq (⟨"SharesComingModel", "share", "(J)I"⟩, 47) := ⟨⟨by decide +kernel, by decide +kernel⟩, List.mem_of_getElem? (i := 977) (by decide +kernel), List.mem_of_getElem? (i := 1330) (by decide +kernel), List.mem_of_getElem? (i := 1331) (by decide +kernel)⟩
theorem lw_p53 : lw_okq (⟨"SharesComingModel", "manyCame", "(J)I"⟩, 47) := ⟨⟨by decide +kernel, by decide +kernel⟩, List.mem_of_getElem? (i := 977) (by decide +kernel), List.mem_of_getElem? (i := 1334) (by decide +kernel), List.mem_of_getElem? (i := 1335) (by decide +kernel)⟩
theorem lw_p54 : lw_okq (⟨"SharesComingModel", "leftOut", "(JII)I"⟩, 47) := ⟨⟨by decide +kernel, by decide +kernel⟩, List.mem_of_getElem? (i := 977) (by decide +kernel), List.mem_of_getElem? (i := 1338) (by decide +kernel), List.mem_of_getElem? (i := 1339) (by decide +kernel)⟩
theorem lw_p55 : lw_okq (⟨"SharesComingModel", "twice", "(JI)I"⟩, 47) := ⟨⟨by decide +kernel, by decide +kernel⟩, List.mem_of_getElem? (i := 977) (by decide +kernel), List.mem_of_getElem? (i := 1342) (by decide +kernel), List.mem_of_getElem? (i := 1343) (by decide +kernel)⟩
theorem lw_p56 : lw_okq (⟨"SharesComingModel", "solved", "(IZII)J"⟩, 47) := ⟨⟨by decide +kernel, by decide +kernel⟩, List.mem_of_getElem? (i := 977) (by decide +kernel), List.mem_of_getElem? (i := 1351) (by decide +kernel), List.mem_of_getElem? (i := 1352) (by decide +kernel)⟩
theorem lw_p57 : lw_okq (⟨"SharesComingModel", "laysAll", "(I)V"⟩, 47) := ⟨⟨by decide +kernel, by decide +kernel⟩, List.mem_of_getElem? (i := 977) (by decide +kernel), List.mem_of_getElem? (i := 1355) (by decide +kernel), List.mem_of_getElem? (i := 1356) (by decide +kernel)⟩
theorem lw_p58 : lw_okq (⟨"SharesComingModel", "lays", "(JI)V"⟩, 47) := ⟨⟨by decide +kernel, by decide +kernel⟩, List.mem_of_getElem? (i := 977) (by decide +kernel), List.mem_of_getElem? (i := 1359) (by decide +kernel), List.mem_of_getElem? (i := 1360) (by decide +kernel)⟩
theorem lw_p59 : lw_okq (⟨"SharesComingModel", "placeOf", "(JII)I"⟩, 47) := ⟨⟨by decide +kernel, by decide +kernel⟩, List.mem_of_getElem? (i := 977) (by decide +kernel), List.mem_of_getElem? (i := 1363) (by decide +kernel), List.mem_of_getElem? (i := 1364) (by decide +kernel)⟩
theorem lw_p60 : lw_okq (⟨"SharesComingModel", "after", "(JIII)J"⟩, 47) := ⟨⟨by decide +kernel, by decide +kernel⟩, List.mem_of_getElem? (i := 977) (by decide +kernel), List.mem_of_getElem? (i := 1369) (by decide +kernel), List.mem_of_getElem? (i := 1370) (by decide +kernel)⟩
theorem lw_p61 : lw_okq (⟨"SharesComingModel", "valueOf", "(JI)J"⟩, 47) := ⟨⟨by decide +kernel, by decide +kernel⟩, List.mem_of_getElem? (i := 977) (by decide +kernel), List.mem_of_getElem? (i := 1373) (by decide +kernel), List.mem_of_getElem? (i := 1374) (by decide +kernel)⟩
theorem lw_p62 : lw_okq (⟨"SharesComingModel", "given", "(JIII)J"⟩, 47) := ⟨⟨by decide +kernel, by decide +kernel⟩, List.mem_of_getElem? (i := 977) (by decide +kernel), List.mem_of_getElem? (i := 1377) (by decide +kernel), List.mem_of_getElem? (i := 1378) (by decide +kernel)⟩
theorem lw_p63 : lw_okq (⟨"SharesComingModel", "told", "(JZ)I"⟩, 47) := ⟨⟨by decide +kernel, by decide +kernel⟩, List.mem_of_getElem? (i := 977) (by decide +kernel), List.mem_of_getElem? (i := 1382) (by decide +kernel), List.mem_of_getElem? (i := 1383) (by decide +kernel)⟩
def lw_privs_4 : List (MethodName × Nat) := [(⟨"SharesComingModel", "altOf", "(III)I"⟩, 47), (⟨"SharesComingModel", "ends", "(JII)I"⟩, 47), (⟨"SharesComingModel", "backed", "(JII)I"⟩, 47), (⟨"SharesComingModel", "goalOf", "(JI)I"⟩, 47), (⟨"SharesComingModel", "share", "(J)I"⟩, 47), (⟨"SharesComingModel", "manyCame", "(J)I"⟩, 47), (⟨"SharesComingModel", "leftOut", "(JII)I"⟩, 47), (⟨"SharesComingModel", "twice", "(JI)I"⟩, 47), (⟨"SharesComingModel", "solved", "(IZII)J"⟩, 47), (⟨"SharesComingModel", "laysAll", "(I)V"⟩, 47), (⟨"SharesComingModel", "lays", "(JI)V"⟩, 47), (⟨"SharesComingModel", "placeOf", "(JII)I"⟩, 47), (⟨"SharesComingModel", "after", "(JIII)J"⟩, 47), (⟨"SharesComingModel", "valueOf", "(JI)J"⟩, 47), (⟨"SharesComingModel", "given", "(JIII)J"⟩, 47), (⟨"SharesComingModel", "told", "(JZ)I"⟩, 47)]
theorem lw_r4 : ∀ q ∈ lw_privs_4, lw_okq q := List.forall_mem_cons.mpr ⟨lw_p48, List.forall_mem_cons.mpr ⟨lw_p49, List.forall_mem_cons.mpr ⟨lw_p50, List.forall_mem_cons.mpr ⟨lw_p51, List.forall_mem_cons.mpr ⟨lw_p52, List.forall_mem_cons.mpr ⟨lw_p53, List.forall_mem_cons.mpr ⟨lw_p54, List.forall_mem_cons.mpr ⟨lw_p55, List.forall_mem_cons.mpr ⟨lw_p56, List.forall_mem_cons.mpr ⟨lw_p57, List.forall_mem_cons.mpr ⟨lw_p58, List.forall_mem_cons.mpr ⟨lw_p59, List.forall_mem_cons.mpr ⟨lw_p60, List.forall_mem_cons.mpr ⟨lw_p61, List.forall_mem_cons.mpr ⟨lw_p62, List.forall_mem_cons.mpr ⟨lw_p63, fun _ h => absurd h List.not_mem_nil⟩⟩⟩⟩⟩⟩⟩⟩⟩⟩⟩⟩⟩⟩⟩⟩
theorem lw_p64 : lw_okq (⟨"SharesComingModel", "isAltRow", "(I)Z"⟩, 47) := ⟨⟨by decide +kernel, by decide +kernel⟩, List.mem_of_getElem? (i := 977) (by decide +kernel), List.mem_of_getElem? (i := 1400) (by decide +kernel), List.mem_of_getElem? (i := 1401) (by decide +kernel)⟩
theorem lw_p65 : lw_okq (⟨"SharesComingModel", "isRow", "(I)Z"⟩, 47) := ⟨⟨by decide +kernel, by decide +kernel⟩, List.mem_of_getElem? (i := 977) (by decide +kernel), List.mem_of_getElem? (i := 1404) (by decide +kernel), List.mem_of_getElem? (i := 1405) (by decide +kernel)⟩
theorem lw_p66 : lw_okq (⟨"SharesComingModel", "knownBy", "(I)I"⟩, 47) := ⟨⟨by decide +kernel, by decide +kernel⟩, List.mem_of_getElem? (i := 977) (by decide +kernel), List.mem_of_getElem? (i := 1408) (by decide +kernel), List.mem_of_getElem? (i := 1409) (by decide +kernel)⟩
theorem lw_p67 : lw_okq (⟨"SharesComingModel", "goesTo", "(JIII)I"⟩, 47) := ⟨⟨by decide +kernel, by decide +kernel⟩, List.mem_of_getElem? (i := 977) (by decide +kernel), List.mem_of_getElem? (i := 1420) (by decide +kernel), List.mem_of_getElem? (i := 1421) (by decide +kernel)⟩
theorem lw_p68 : lw_okq (⟨"SharesComingModel", "isBefore", "(JIIII)Z"⟩, 47) := ⟨⟨by decide +kernel, by decide +kernel⟩, List.mem_of_getElem? (i := 977) (by decide +kernel), List.mem_of_getElem? (i := 1424) (by decide +kernel), List.mem_of_getElem? (i := 1425) (by decide +kernel)⟩
def lw_privs_5 : List (MethodName × Nat) := [(⟨"SharesComingModel", "isAltRow", "(I)Z"⟩, 47), (⟨"SharesComingModel", "isRow", "(I)Z"⟩, 47), (⟨"SharesComingModel", "knownBy", "(I)I"⟩, 47), (⟨"SharesComingModel", "goesTo", "(JIII)I"⟩, 47), (⟨"SharesComingModel", "isBefore", "(JIIII)Z"⟩, 47)]
theorem lw_r5 : ∀ q ∈ lw_privs_5, lw_okq q := List.forall_mem_cons.mpr ⟨lw_p64, List.forall_mem_cons.mpr ⟨lw_p65, List.forall_mem_cons.mpr ⟨lw_p66, List.forall_mem_cons.mpr ⟨lw_p67, List.forall_mem_cons.mpr ⟨lw_p68, fun _ h => absurd h List.not_mem_nil⟩⟩⟩⟩⟩
def lw_privs : List (MethodName × Nat) := lw_privs_1 ++ (lw_privs_2 ++ (lw_privs_3 ++ (lw_privs_4 ++ (lw_privs_5))))
def lw_tbl : List Cond := k2_sels lw_privs ++ tables_1
theorem lw_privs_ok : ∀ q ∈ lw_privs, lw_okq q := by
  show ∀ q ∈ lw_privs_1 ++ (lw_privs_2 ++ (lw_privs_3 ++ (lw_privs_4 ++ (lw_privs_5)))), lw_okq q
  exact List.forall_mem_append.mpr ⟨lw_r1, List.forall_mem_append.mpr ⟨lw_r2, List.forall_mem_append.mpr ⟨lw_r3, List.forall_mem_append.mpr ⟨lw_r4, lw_r5⟩⟩⟩⟩
end
section
/-! MEMORY: the objects and arrays that the claim's own classes make, by keys (numbers in the order of making); what each holds. -/
abbrev Wd : Type := ((Nat → Nat → Int32) × (Nat → Nat → Int64) × (Nat → Nat → Int32) × (Nat → Nat → Int64)) × ((Nat → Nat → Option Nat) × (Nat → Nat) × (Nat → Nat) × (Nat → Nat → Option Nat) × Nat × Nat)
/-- int field k of key a; long field; int array's place; long array's place; reference field; kind; length; reference array's place; how many keys; how many slots -/
def wI (w : Wd) (a k : Nat) : Int32 := w.1.1 a k
def wJ (w : Wd) (a k : Nat) : Int64 := w.1.2.1 a k
def wX (w : Wd) (a k : Nat) : Int32 := w.1.2.2.1 a k
def wY (w : Wd) (a k : Nat) : Int64 := w.1.2.2.2 a k
def wR (w : Wd) (a k : Nat) : Option Nat := w.2.1 a k
def wK (w : Wd) (a : Nat) : Nat := w.2.2.1 a
def wL (w : Wd) (a : Nat) : Nat := w.2.2.2.1 a
def wZ (w : Wd) (a k : Nat) : Option Nat := w.2.2.2.2.1 a k
def wN (w : Wd) : Nat := w.2.2.2.2.2.1
def wS (w : Wd) : Nat := w.2.2.2.2.2.2
def u2 {α : Type} (f : Nat → Nat → α) (a k : Nat) (v : α) : Nat → Nat → α := fun b j => if b = a ∧ j = k then v else f b j
def u1 {α : Type} (f : Nat → α) (a : Nat) (v : α) : Nat → α := fun b => if b = a then v else f b
/-- a whole row -/
def ur {α : Type} (f : Nat → Nat → α) (a : Nat) (v : Nat → α) : Nat → Nat → α := fun b j => if b = a then v j else f b j
def uI (w : Wd) (a k : Nat) (v : Int32) : Wd := ((u2 w.1.1 a k v, w.1.2), w.2)
def uJ (w : Wd) (a k : Nat) (v : Int64) : Wd := ((w.1.1, u2 w.1.2.1 a k v, w.1.2.2), w.2)
def uX (w : Wd) (a k : Nat) (v : Int32) : Wd := ((w.1.1, w.1.2.1, u2 w.1.2.2.1 a k v, w.1.2.2.2), w.2)
def uY (w : Wd) (a k : Nat) (v : Int64) : Wd := ((w.1.1, w.1.2.1, w.1.2.2.1, u2 w.1.2.2.2 a k v), w.2)
def uR (w : Wd) (a k : Nat) (v : Option Nat) : Wd := (w.1, u2 w.2.1 a k v, w.2.2)
def uZ (w : Wd) (a k : Nat) (v : Option Nat) : Wd := (w.1, w.2.1, w.2.2.1, w.2.2.2.1, u2 w.2.2.2.2.1 a k v, w.2.2.2.2.2)
/-- a new object of class c with n fields; its key is the next -/
def nO (w : Wd) (c n : Nat) : Wd := ((ur w.1.1 (wN w) (fun _ => 0), ur w.1.2.1 (wN w) (fun _ => 0), w.1.2.2), (ur w.2.1 (wN w) (fun _ => none), u1 w.2.2.1 (wN w) c, w.2.2.2.1, w.2.2.2.2.1, wN w + 1, wS w + n))
/-- a new array of kind t and length n -/
def nA (w : Wd) (t n : Nat) : Wd := ((w.1.1, w.1.2.1, ur w.1.2.2.1 (wN w) (fun _ => 0), ur w.1.2.2.2 (wN w) (fun _ => 0)), (w.2.1, u1 w.2.2.1 (wN w) t, u1 w.2.2.2.1 (wN w) n, ur w.2.2.2.2.1 (wN w) (fun _ => none), wN w + 1, wS w + n))
theorem u2_s {α : Type} (f : Nat → Nat → α) (a k : Nat) (v : α) : u2 f a k v a k = v := by simp [u2]
theorem u2_a {α : Type} (f : Nat → Nat → α) {a b : Nat} (k j : Nat) (v : α) (h : b ≠ a) : u2 f a k v b j = f b j := by simp [u2, h]
theorem u2_k {α : Type} (f : Nat → Nat → α) (a b : Nat) {k j : Nat} (v : α) (h : j ≠ k) : u2 f a k v b j = f b j := by simp [u2, h]
/-- key a is there, and of kind c -/
def Kd (w : Wd) (a c : Nat) : Prop := a < wN w ∧ wK w a = c
/-- abstract values: .ref a is a key; .retAddr i below 100 the i-th String constant, 100 + i its bytes, 1000 the script, 2000 a reference that nobody asks of -/
abbrev Lc : Type := List (Nat × Value)
/-- the context: addresses of the keys; of the Strings, of their bytes; of the script; classes; array classes -/
abbrev Gc : Type := (Nat → Nat) × (Nat → Nat) × (Nat → Nat) × Nat × Option Nat × va_G × (Nat → ClassId)
def gad (G : Gc) : Nat → Nat := G.1
def gsk (G : Gc) : Nat → Nat := G.2.1
def gsv (G : Gc) : Nat → Nat := G.2.2.1
def gsc (G : Gc) : Nat := G.2.2.2.1
def gfm (G : Gc) : Option Nat := G.2.2.2.2.1
def gD (G : Gc) : va_G := G.2.2.2.2.2.1
def gA (G : Gc) : Nat → ClassId := G.2.2.2.2.2.2
def cv (G : Gc) (v : Value) : Value := match v with
  | .ref a => .ref (gad G a)
  | .retAddr i => if i < 2000 then .ref (if i < 100 then gsk G i else if i < 1000 then gsv G (i - 100) else gsc G) else va_rf (gfm G)
  | v => v
theorem va_rf_cat (r : Option Nat) : (va_rf r).category = 1 := by cases r <;> rfl
theorem cv_cat (G : Gc) (v : Value) : (cv G v).category = v.category := by
  cases v <;> first | rfl | skip
  simp only [cv]
  split
  · rfl
  · exact va_rf_cat _
theorem cv_ret (G : Gc) {i : Nat} (h : i < 2000) : cv G (.retAddr i) = .ref (if i < 100 then gsk G i else if i < 1000 then gsv G (i - 100) else gsc G) := by simp only [cv, h, if_true]
def cvl (G : Gc) (l : Lc) : Lc := l.map (fun q => (q.1, cv G q.2))
def rfv (r : Option Nat) : Value := match r with
  | none => .null
  | some t => .ref t
theorem cv_rfv (G : Gc) (r : Option Nat) : cv G (rfv r) = va_rf (r.map (gad G)) := by cases r <;> rfl
theorem cvl_args (G : Gc) : ∀ (vs : List Value) (i : Nat), lv_args i (vs.map (cv G)) = cvl G (lv_args i vs)
  | [], _ => rfl
  | v :: vs, i => by
    simp only [List.map_cons, lv_args, cvl, cv_cat]
    congr 1
    exact cvl_args G vs _
theorem cvl_filter (G : Gc) (p : Nat × Value → Bool) (hp : ∀ i v v', v.category = v'.category → p (i, v) = p (i, v')) (l : Lc) : (cvl G l).filter p = cvl G (l.filter p) := by
  induction l with
  | nil => rfl
  | cons q l ih =>
    have h : p (q.1, cv G q.2) = p q := hp q.1 _ _ (cv_cat G q.2)
    simp only [cvl, List.map_cons, List.filter_cons] at ih ⊢
    rw [h]
    cases p q
    · simpa using ih
    · simpa using ih
/-- the local i, if it is listed -/
def lcg : Lc → Nat → Option Value
  | [], _ => none
  | q :: l, i => if q.1 = i then some q.2 else lcg l i
theorem lcg_mem : ∀ {l : Lc} {i : Nat} {v : Value}, lcg l i = some v → (i, v) ∈ l
  | [], _, _, h => by cases h
  | q :: l, i, v, h => by
    unfold lcg at h
    by_cases hq : q.1 = i
    · rw [if_pos hq] at h
      cases h
      rw [← hq]
      exact List.mem_cons_self
    · rw [if_neg hq] at h
      exact List.mem_cons_of_mem _ (lcg_mem h)
theorem lcg_ls {G : Gc} {l : Lc} {i nL : Nat} {v : Value} {ls : Array Slot} (h : lv_has ls nL (cvl G l)) (hg : lcg l i = some v) : ls[i]? = some (.val (cv G v)) := h.2.2 (i, cv G v) (List.mem_map.mpr ⟨(i, v), lcg_mem hg, rfl⟩)
/-- a store of one word, and of two -/
def lc1 (l : Lc) (i : Nat) (v : Value) : Lc := (i, v) :: l.filter (fun q => !(q.1 == i) && !(q.1 + 1 == i && q.2.category == 2))
def lc2 (l : Lc) (i : Nat) (v : Value) : Lc := (i, v) :: l.filter (fun q => !(q.1 == i) && (!(q.1 == i + 1) && !(q.1 + 1 == i && q.2.category == 2)))
theorem lc1_cv (G : Gc) (l : Lc) (i : Nat) (v : Value) : (i, cv G v) :: (cvl G l).filter (fun q => !(q.1 == i) && !(q.1 + 1 == i && q.2.category == 2)) = cvl G (lc1 l i v) := by
  rw [cvl_filter G _ (fun i v v' h => by simp [h])]
  rfl
theorem lc2_cv (G : Gc) (l : Lc) (i : Nat) (v : Value) : (i, cv G v) :: (cvl G l).filter (fun q => !(q.1 == i) && (!(q.1 == i + 1) && !(q.1 + 1 == i && q.2.category == 2))) = cvl G (lc2 l i v) := by
  rw [cvl_filter G _ (fun i v v' h => by simp [h])]
  rfl
end
section
/-! STEPS that touch no memory: the next pc, locals and stack. -/
abbrev Nx : Type := Nat × Lc × List Value
def bI (st : List Value) (f : Int32 → Int32 → Int32) : Option (List Value) := match st with
  | .int y :: .int x :: r => some (.int (f x y) :: r)
  | _ => none
def bJ (st : List Value) (f : Int64 → Int64 → Int64) : Option (List Value) := match st with
  | .long y :: .long x :: r => some (.long (f x y) :: r)
  | _ => none
def bS (st : List Value) (f : Int64 → Int32 → Int64) : Option (List Value) := match st with
  | .int y :: .long x :: r => some (.long (f x y) :: r)
  | _ => none
def bC (st : List Value) : Option (List Value) := match st with
  | .long y :: .long x :: r => some (.int (lg_cmp x y) :: r)
  | _ => none
def oI (st : List Value) (f : Int32 → Int32) : Option (List Value) := match st with
  | .int x :: r => some (.int (f x) :: r)
  | _ => none
def oJ (st : List Value) (f : Int64 → Int64) : Option (List Value) := match st with
  | .long x :: r => some (.long (f x) :: r)
  | _ => none
def oIJ (st : List Value) : Option (List Value) := match st with
  | .int x :: r => some (.long x.toInt64 :: r)
  | _ => none
def oJI (st : List Value) : Option (List Value) := match st with
  | .long x :: r => some (.int x.toInt32 :: r)
  | _ => none
/-- division: by what isn't 0 -/
def dI (st : List Value) (f : Int32 → Int32 → Int32) : Option (List Value) := match st with
  | .int y :: .int x :: r => if y = 0 then none else some (.int (f x y) :: r)
  | _ => none
def dJ (st : List Value) (f : Int64 → Int64 → Int64) : Option (List Value) := match st with
  | .long y :: .long x :: r => if y = 0 then none else some (.long (f x y) :: r)
  | _ => none
theorem bI_some {st st' : List Value} {f : Int32 → Int32 → Int32} (h : bI st f = some st') : ∃ x y r, st = .int y :: .int x :: r ∧ st' = .int (f x y) :: r := by
  unfold bI at h; split at h
  · cases h; exact ⟨_, _, _, rfl, rfl⟩
  · cases h
theorem bJ_some {st st' : List Value} {f : Int64 → Int64 → Int64} (h : bJ st f = some st') : ∃ x y r, st = .long y :: .long x :: r ∧ st' = .long (f x y) :: r := by
  unfold bJ at h; split at h
  · cases h; exact ⟨_, _, _, rfl, rfl⟩
  · cases h
theorem bS_some {st st' : List Value} {f : Int64 → Int32 → Int64} (h : bS st f = some st') : ∃ x y r, st = .int y :: .long x :: r ∧ st' = .long (f x y) :: r := by
  unfold bS at h; split at h
  · cases h; exact ⟨_, _, _, rfl, rfl⟩
  · cases h
theorem bC_some {st st' : List Value} (h : bC st = some st') : ∃ x y r, st = .long y :: .long x :: r ∧ st' = .int (lg_cmp x y) :: r := by
  unfold bC at h; split at h
  · cases h; exact ⟨_, _, _, rfl, rfl⟩
  · cases h
theorem oI_some {st st' : List Value} {f : Int32 → Int32} (h : oI st f = some st') : ∃ x r, st = .int x :: r ∧ st' = .int (f x) :: r := by
  unfold oI at h; split at h
  · cases h; exact ⟨_, _, rfl, rfl⟩
  · cases h
theorem oJ_some {st st' : List Value} {f : Int64 → Int64} (h : oJ st f = some st') : ∃ x r, st = .long x :: r ∧ st' = .long (f x) :: r := by
  unfold oJ at h; split at h
  · cases h; exact ⟨_, _, rfl, rfl⟩
  · cases h
theorem oIJ_some {st st' : List Value} (h : oIJ st = some st') : ∃ x r, st = .int x :: r ∧ st' = .long x.toInt64 :: r := by
  unfold oIJ at h; split at h
  · cases h; exact ⟨_, _, rfl, rfl⟩
  · cases h
theorem oJI_some {st st' : List Value} (h : oJI st = some st') : ∃ x r, st = .long x :: r ∧ st' = .int x.toInt32 :: r := by
  unfold oJI at h; split at h
  · cases h; exact ⟨_, _, rfl, rfl⟩
  · cases h
theorem dI_some {st st' : List Value} {f : Int32 → Int32 → Int32} (h : dI st f = some st') : ∃ x y r, st = .int y :: .int x :: r ∧ ¬ y = 0 ∧ st' = .int (f x y) :: r := by
  unfold dI at h; split at h
  · split at h
    · cases h
    · cases h; exact ⟨_, _, _, rfl, by assumption, rfl⟩
  · cases h
theorem dJ_some {st st' : List Value} {f : Int64 → Int64 → Int64} (h : dJ st f = some st') : ∃ x y r, st = .long y :: .long x :: r ∧ ¬ y = 0 ∧ st' = .long (f x y) :: r := by
  unfold dJ at h; split at h
  · split at h
    · cases h
    · cases h; exact ⟨_, _, _, rfl, by assumption, rfl⟩
  · cases h
/-- behind an instruction of length n -/
def nxt (len n pc : Nat) (lv : Lc) (st : Option (List Value)) : Option Nx := if len = n then st.map (fun t => (pc + n, lv, t)) else none
theorem nxt_some {len n pc : Nat} {lv : Lc} {st : Option (List Value)} {x : Nx} (h : nxt len n pc lv st = some x) : len = n ∧ ∃ t, st = some t ∧ x = (pc + n, lv, t) := by
  unfold nxt at h; split at h
  · cases st with
    | none => cases h
    | some t => cases h; exact ⟨by assumption, t, rfl, rfl⟩
  · cases h
def ldI (lv : Lc) (i : Nat) (st : List Value) : Option (List Value) := match lcg lv i with
  | some (.int x) => some (.int x :: st)
  | _ => none
def ldJ (lv : Lc) (i : Nat) (st : List Value) : Option (List Value) := match lcg lv i with
  | some (.long x) => some (.long x :: st)
  | _ => none
def ldA (lv : Lc) (i : Nat) (st : List Value) : Option (List Value) := match lcg lv i with
  | some (.ref x) => some (.ref x :: st)
  | some (.retAddr x) => if x < 2000 then some (.retAddr x :: st) else none
  | some .null => some (.null :: st)
  | _ => none
theorem ldI_some {lv : Lc} {i : Nat} {st t : List Value} (h : ldI lv i st = some t) : ∃ x, lcg lv i = some (.int x) ∧ t = .int x :: st := by
  unfold ldI at h; split at h
  · cases h; exact ⟨_, by assumption, rfl⟩
  · cases h
theorem ldJ_some {lv : Lc} {i : Nat} {st t : List Value} (h : ldJ lv i st = some t) : ∃ x, lcg lv i = some (.long x) ∧ t = .long x :: st := by
  unfold ldJ at h; split at h
  · cases h; exact ⟨_, by assumption, rfl⟩
  · cases h
theorem ldA_some {lv : Lc} {i : Nat} {st t : List Value} (h : ldA lv i st = some t) : ∃ v, lcg lv i = some v ∧ t = v :: st ∧ (v = .null ∨ (∃ x, v = .ref x) ∨ ∃ x, x < 2000 ∧ v = .retAddr x) := by
  unfold ldA at h; split at h
  · cases h; exact ⟨_, by assumption, rfl, Or.inr (Or.inl ⟨_, rfl⟩)⟩
  · split at h
    · cases h; exact ⟨_, by assumption, rfl, Or.inr (Or.inr ⟨_, by assumption, rfl⟩)⟩
    · cases h
  · cases h; exact ⟨_, by assumption, rfl, Or.inl rfl⟩
  · cases h
/-- stores: the place must be within nL -/
def stI (nL len n pc : Nat) (lv : Lc) (i : Nat) (st : List Value) : Option Nx := match st with
  | .int x :: r => if len = n ∧ i < nL then some (pc + n, lc1 lv i (.int x), r) else none
  | _ => none
def stJ (nL len n pc : Nat) (lv : Lc) (i : Nat) (st : List Value) : Option Nx := match st with
  | .long x :: r => if len = n ∧ i + 1 < nL then some (pc + n, lc2 lv i (.long x), r) else none
  | _ => none
def stA (nL len n pc : Nat) (lv : Lc) (i : Nat) (st : List Value) : Option Nx := match st with
  | .ref x :: r => if len = n ∧ i < nL then some (pc + n, lc1 lv i (.ref x), r) else none
  | .null :: r => if len = n ∧ i < nL then some (pc + n, lc1 lv i .null, r) else none
  | _ => none
theorem stI_some {nL len n pc : Nat} {lv : Lc} {i : Nat} {st : List Value} {t : Nx} (h : stI nL len n pc lv i st = some t) : ∃ x r, st = .int x :: r ∧ len = n ∧ i < nL ∧ t = (pc + n, lc1 lv i (.int x), r) := by
  unfold stI at h; split at h
  · split at h
    · next hc => cases h; exact ⟨_, _, rfl, hc.1, hc.2, rfl⟩
    · cases h
  · cases h
theorem stJ_some {nL len n pc : Nat} {lv : Lc} {i : Nat} {st : List Value} {t : Nx} (h : stJ nL len n pc lv i st = some t) : ∃ x r, st = .long x :: r ∧ len = n ∧ i + 1 < nL ∧ t = (pc + n, lc2 lv i (.long x), r) := by
  unfold stJ at h; split at h
  · split at h
    · next hc => cases h; exact ⟨_, _, rfl, hc.1, hc.2, rfl⟩
    · cases h
  · cases h
theorem stA_some {nL len n pc : Nat} {lv : Lc} {i : Nat} {st : List Value} {t : Nx} (h : stA nL len n pc lv i st = some t) : ∃ v r, st = v :: r ∧ len = n ∧ i < nL ∧ t = (pc + n, lc1 lv i v, r) ∧ (v = .null ∨ ∃ x, v = .ref x) := by
  unfold stA at h; split at h
  · split at h
    · next hc => cases h; exact ⟨_, _, rfl, hc.1, hc.2, rfl, Or.inr ⟨_, rfl⟩⟩
    · cases h
  · split at h
    · next hc => cases h; exact ⟨_, _, rfl, hc.1, hc.2, rfl, Or.inl rfl⟩
    · cases h
  · cases h
/-- where a jump goes -/
def tgt (pc : Nat) (off : Int) : Nat := ((pc : Int) + off).toNat
theorem tgt_ok {pc : Nat} {off : Int} (h : 0 ≤ (pc : Int) + off) : (pc : Int) + off = ((tgt pc off : Nat) : Int) := (Int.toNat_of_nonneg h).symm
def jmp (len pc : Nat) (off : Int) (lv : Lc) (c : Prop) [Decidable c] (r : List Value) : Option Nx := if len = 3 ∧ 0 ≤ (pc : Int) + off then (if c then some (tgt pc off, lv, r) else some (pc + 3, lv, r)) else none
theorem jmp_some {len pc : Nat} {off : Int} {lv : Lc} {c : Prop} [Decidable c] {r : List Value} {t : Nx} (h : jmp len pc off lv c r = some t) : len = 3 ∧ (pc : Int) + off = ((tgt pc off : Nat) : Int) ∧ ((c ∧ t = (tgt pc off, lv, r)) ∨ (¬ c ∧ t = (pc + 3, lv, r))) := by
  unfold jmp at h; split at h
  · next hl =>
    refine ⟨hl.1, tgt_ok hl.2, ?_⟩
    split at h
    · cases h; exact Or.inl ⟨by assumption, rfl⟩
    · cases h; exact Or.inr ⟨by assumption, rfl⟩
  · cases h
def ifZ (cd : Jvm.ClassFile.Cond) (len pc : Nat) (off : Int) (lv : Lc) (st : List Value) : Option Nx := match st with
  | .int x :: r => match cd with
    | .eq => jmp len pc off lv (x = 0) r
    | .ne => jmp len pc off lv (¬ x = 0) r
    | .lt => jmp len pc off lv (x < 0) r
    | .ge => jmp len pc off lv (0 ≤ x) r
    | .gt => jmp len pc off lv (0 < x) r
    | .le => jmp len pc off lv (x ≤ 0) r
  | _ => none
def ifC (cd : Jvm.ClassFile.Cond) (len pc : Nat) (off : Int) (lv : Lc) (st : List Value) : Option Nx := match st with
  | .int y :: .int x :: r => match cd with
    | .eq => jmp len pc off lv (x = y) r
    | .ne => jmp len pc off lv (¬ x = y) r
    | .lt => jmp len pc off lv (x < y) r
    | .ge => jmp len pc off lv (y ≤ x) r
    | .gt => jmp len pc off lv (y < x) r
    | .le => jmp len pc off lv (x ≤ y) r
  | _ => none
def ifN (len pc : Nat) (off : Int) (lv : Lc) (st : List Value) : Option Nx := match st with
  | .ref _ :: r => if len = 3 then some (pc + 3, lv, r) else none
  | .null :: r => if len = 3 ∧ 0 ≤ (pc : Int) + off then some (tgt pc off, lv, r) else none
  | _ => none
def dup1 (st : List Value) : Option (List Value) := match st with
  | v :: r => if v.category = 1 then some (v :: v :: r) else none
  | _ => none
def dup2c (st : List Value) : Option (List Value) := match st with
  | va :: vb :: r => if va.category = 1 ∧ vb.category = 1 then some (va :: vb :: va :: vb :: r) else none
  | _ => none
def pop1 (st : List Value) : Option (List Value) := match st with
  | v :: r => if v.category = 1 then some r else none
  | _ => none
def pop2c (st : List Value) : Option (List Value) := match st with
  | v :: r => if v.category = 2 then some r else none
  | _ => none
theorem dup1_some {st t : List Value} (h : dup1 st = some t) : ∃ v r, st = v :: r ∧ v.category = 1 ∧ t = v :: v :: r := by
  unfold dup1 at h; split at h
  · split at h
    · cases h; exact ⟨_, _, rfl, by assumption, rfl⟩
    · cases h
  · cases h
theorem dup2c_some {st t : List Value} (h : dup2c st = some t) : ∃ va vb r, st = va :: vb :: r ∧ va.category = 1 ∧ vb.category = 1 ∧ t = va :: vb :: va :: vb :: r := by
  unfold dup2c at h; split at h
  · split at h
    · next hc => cases h; exact ⟨_, _, _, rfl, hc.1, hc.2, rfl⟩
    · cases h
  · cases h
theorem pop1_some {st t : List Value} (h : pop1 st = some t) : ∃ v, st = v :: t ∧ v.category = 1 := by
  unfold pop1 at h; split at h
  · split at h
    · cases h; exact ⟨_, rfl, by assumption⟩
    · cases h
  · cases h
theorem pop2c_some {st t : List Value} (h : pop2c st = some t) : ∃ v, st = v :: t ∧ v.category = 2 := by
  unfold pop2c at h; split at h
  · split at h
    · cases h; exact ⟨_, rfl, by assumption⟩
    · cases h
  · cases h
def iincr (nL len pc : Nat) (lv : Lc) (i : Nat) (n : Int) (st : List Value) : Option Nx := match lcg lv i with
  | some (.int x) => if len = 3 ∧ i < nL then some (pc + 3, lc1 lv i (.int (x + Int32.ofInt n)), st) else none
  | _ => none
/-- one instruction that touches no memory; cI, cJ: the class's constants -/
def stp (nL : Nat) (cI : Nat → Option Int32) (cJ : Nat → Option Int64) (ins : Instr) (len pc : Nat) (lv : Lc) (st : List Value) : Option Nx := match ins with
  | .iconst n => nxt len 1 pc lv (some (.int (Int32.ofInt n) :: st))
  | .bipush n => nxt len 2 pc lv (some (.int (Int8.ofInt n).toInt32 :: st))
  | .sipush n => nxt len 3 pc lv (some (.int (Int16.ofInt n).toInt32 :: st))
  | .lconst n => nxt len 1 pc lv (some (.long (Int64.ofNat n) :: st))
  | .ldc i => nxt len 2 pc lv ((cI i).map (fun v => .int v :: st))
  | .ldc_w i => nxt len 3 pc lv ((cI i).map (fun v => .int v :: st))
  | .ldc2_w i => nxt len 3 pc lv ((cJ i).map (fun v => .long v :: st))
  | .aconst_null => nxt len 1 pc lv (some (.null :: st))
  | .iload_n k => nxt len 1 pc lv (ldI lv k st)
  | .iload i => nxt len 2 pc lv (ldI lv i st)
  | .lload_n k => nxt len 1 pc lv (ldJ lv k st)
  | .lload i => nxt len 2 pc lv (ldJ lv i st)
  | .aload_n k => nxt len 1 pc lv (ldA lv k st)
  | .aload i => nxt len 2 pc lv (ldA lv i st)
  | .istore_n k => stI nL len 1 pc lv k st
  | .istore i => stI nL len 2 pc lv i st
  | .lstore_n k => stJ nL len 1 pc lv k st
  | .lstore i => stJ nL len 2 pc lv i st
  | .astore_n k => stA nL len 1 pc lv k st
  | .astore i => stA nL len 2 pc lv i st
  | .iinc i n => iincr nL len pc lv i n st
  | .iadd => nxt len 1 pc lv (bI st (fun x y => x + y))
  | .isub => nxt len 1 pc lv (bI st (fun x y => x - y))
  | .imul => nxt len 1 pc lv (bI st (fun x y => x * y))
  | .iand => nxt len 1 pc lv (bI st (fun x y => x &&& y))
  | .ior => nxt len 1 pc lv (bI st (fun x y => x ||| y))
  | .ixor => nxt len 1 pc lv (bI st (fun x y => x ^^^ y))
  | .idiv => nxt len 1 pc lv (dI st (fun x y => x / y))
  | .irem => nxt len 1 pc lv (dI st (fun x y => x - x / y * y))
  | .ineg => nxt len 1 pc lv (oI st (fun x => -x))
  | .ladd => nxt len 1 pc lv (bJ st (fun x y => x + y))
  | .lsub => nxt len 1 pc lv (bJ st (fun x y => x - y))
  | .lmul => nxt len 1 pc lv (bJ st (fun x y => x * y))
  | .land => nxt len 1 pc lv (bJ st (fun x y => x &&& y))
  | .lor => nxt len 1 pc lv (bJ st (fun x y => x ||| y))
  | .lxor => nxt len 1 pc lv (bJ st (fun x y => x ^^^ y))
  | .ldiv => nxt len 1 pc lv (dJ st (fun x y => x / y))
  | .lrem => nxt len 1 pc lv (dJ st (fun x y => x - x / y * y))
  | .lneg => nxt len 1 pc lv (oJ st (fun x => -x))
  | .ishl => nxt len 1 pc lv (bI st (fun x y => x <<< (y &&& 31)))
  | .ishr => nxt len 1 pc lv (bI st (fun x y => x >>> (y &&& 31)))
  | .iushr => nxt len 1 pc lv (bI st (fun x y => (x.toUInt32 >>> (y.toUInt32 &&& Int32.toUInt32 31)).toInt32))
  | .lshl => nxt len 1 pc lv (bS st (fun x y => x <<< (y.toInt64 &&& 63)))
  | .lshr => nxt len 1 pc lv (bS st (fun x y => x >>> (y.toInt64 &&& 63)))
  | .lushr => nxt len 1 pc lv (bS st (fun x y => (x.toUInt64 >>> (y.toInt64.toUInt64 &&& Int64.toUInt64 63)).toInt64))
  | .lcmp => nxt len 1 pc lv (bC st)
  | .i2l => nxt len 1 pc lv (oIJ st)
  | .l2i => nxt len 1 pc lv (oJI st)
  | .i2b => nxt len 1 pc lv (oI st (fun x => x.toInt8.toInt32))
  | .i2c => nxt len 1 pc lv (oI st (fun x => (x.toUInt32 % 65536).toInt32))
  | .dup => nxt len 1 pc lv (dup1 st)
  | .dup2 => nxt len 1 pc lv (dup2c st)
  | .pop => nxt len 1 pc lv (pop1 st)
  | .pop2 => nxt len 1 pc lv (pop2c st)
  | .goto off => jmp len pc off lv True st
  | .ifCond cd off => ifZ cd len pc off lv st
  | .if_icmp cd off => ifC cd len pc off lv st
  | .ifnull off => ifN len pc off lv st
  | .tableswitch dflt lo hi offs => match st with
    | .int x :: r => if 0 ≤ (pc : Int) + dflt ∧ (offs.all fun o => decide (0 ≤ (pc : Int) + o)) = true then (if x.toInt < lo ∨ hi < x.toInt then some (tgt pc dflt, lv, r) else (offs[(x.toInt - lo).toNat]?).map (fun o => (tgt pc o, lv, r))) else none
    | _ => none
  | .lookupswitch dflt ps => match st with
    | .int x :: r => if (ps.toList.zip (ps.toList.drop 1)).all (fun (a, next) => a.1 < next.1) = true ∧ 0 ≤ (pc : Int) + Op.lookupswitch.offset ps.toList dflt x.toInt then some (tgt pc (Op.lookupswitch.offset ps.toList dflt x.toInt), lv, r) else none
    | _ => none
  | _ => none
end
section
/-! STEPS that touch no memory, on the machine. -/
section SNDP
variable {p : Program} {l : Launch} {e : Env} {R : Room} {s : State} {m : MethodId} {args : Array Value} {below : List Frame} {meth : Method} {c : Code} {H : Heap} {locs : List Loc} {cells slots : Nat} {Q : State → Prop}
variable {cc : ByteArray} {G : Gc}
theorem snd_ldA (hx : p.tables.exec = Jvm.exec) (hb : c.code = cc) {v : Value} {i pc n : Nat} {ls : Array Slot} {rest : List Value} (hv : v = .null ∨ (∃ x, v = .ref x) ∨ ∃ x, x < 2000 ∧ v = .retAddr x) (hl : ls[i]? = some (.val (cv G v)))
    (hd : (∃ k : Fin 4, (k : Nat) = i ∧ n = 1 ∧ decode cc pc = .ok (.aload_n k, 1)) ∨ (n = 2 ∧ decode cc pc = .ok (.aload i, 2)))
    (k : W p l e R s m args below meth c H locs cells slots Q (F0 m (pc + n) ls (cv G v :: rest))) : W p l e R s m args below meth c H locs cells slots Q (F0 m pc ls rest) := by
  rcases hd with ⟨kk, hk, rfl, hd⟩ | ⟨rfl, hd⟩
  · rcases hv with rfl | ⟨x, rfl⟩ | ⟨x, hx2, rfl⟩
    · exact lv_aload_nN hx hb hd hk hl k
    · exact lv_aload_n hx hb hd hk hl k
    · rw [cv_ret G hx2] at hl k
      exact lv_aload_n hx hb hd hk hl k
  · rcases hv with rfl | ⟨x, rfl⟩ | ⟨x, hx2, rfl⟩
    · exact lv_aloadN hx hb hd hl k
    · exact lv_aload hx hb hd hl k
    · rw [cv_ret G hx2] at hl k
      exact lv_aload hx hb hd hl k
theorem snd_stp (hx : p.tables.exec = Jvm.exec) (hb : c.code = cc) {own : String} (hown : s.vm.findClass own = some m.cls) {cI : Nat → Option Int32} {cJ : Nat → Option Int64} (hcI : ∀ i v, cI i = some v → (Jvm.Cond.constant own i v).before args s = true) (hcJ : ∀ i v, cJ i = some v → (Jvm.Cond.constantLong own i v).before args s = true)
    {nL : Nat} {ins : Instr} {len pc : Nat} {lv : Lc} {st : List Value} {t : Nx} (hdg : decode cc pc = .ok (ins, len)) (hs : stp nL cI cJ ins len pc lv st = some t) {ls : Array Slot} (hl : lv_has ls nL (cvl G lv))
    (kk : ∀ ls', lv_has ls' nL (cvl G t.2.1) → W p l e R s m args below meth c H locs cells slots Q (F0 m t.1 ls' (t.2.2.map (cv G)))) : W p l e R s m args below meth c H locs cells slots Q (F0 m pc ls (st.map (cv G))) := by
  have one : ∀ {n : Nat} {o : Option (List Value)}, nxt len n pc lv o = some t → len = n ∧ ∃ t', o = some t' ∧ W p l e R s m args below meth c H locs cells slots Q (F0 m (pc + n) ls (t'.map (cv G))) := by
    intro n o h
    obtain ⟨h1, t', h2, rfl⟩ := nxt_some h
    exact ⟨h1, t', h2, kk ls hl⟩
  have jp : ∀ {off : Int} {cd : Prop} {_ : Decidable cd} {r : List Value}, jmp len pc off lv cd r = some t → len = 3 ∧ (pc : Int) + off = ((tgt pc off : Nat) : Int) ∧ (cd → W p l e R s m args below meth c H locs cells slots Q (F0 m (tgt pc off) ls (r.map (cv G)))) ∧ (¬ cd → W p l e R s m args below meth c H locs cells slots Q (F0 m (pc + 3) ls (r.map (cv G)))) := by
    intro off cd _ r h
    obtain ⟨h1, h2, h3⟩ := jmp_some h
    refine ⟨h1, h2, fun hc => ?_, fun hc => ?_⟩
    · rcases h3 with ⟨_, rfl⟩ | ⟨h, _⟩
      · exact kk ls hl
      · exact absurd hc h
    · rcases h3 with ⟨h, _⟩ | ⟨_, rfl⟩
      · exact absurd h hc
      · exact kk ls hl
  cases ins <;> simp only [stp] at hs <;> try (cases hs; done)
  case iconst n => obtain ⟨rfl, t', h2, k⟩ := one hs; cases h2; exact lv_iconst hx hb hdg rfl k
  case bipush n => obtain ⟨rfl, t', h2, k⟩ := one hs; cases h2; exact lv_bipush hx hb hdg rfl k
  case sipush n => obtain ⟨rfl, t', h2, k⟩ := one hs; cases h2; exact lv_sipush hx hb hdg rfl k
  case lconst n => obtain ⟨rfl, t', h2, k⟩ := one hs; cases h2; exact lv_lconst hx hb hdg rfl k
  case aconst_null => obtain ⟨rfl, t', h2, k⟩ := one hs; cases h2; exact lv_null hx hb hdg k
  case ldc i =>
    obtain ⟨rfl, t', h2, k⟩ := one hs
    obtain ⟨v, hv, rfl⟩ := Option.map_eq_some_iff.mp h2
    exact lv_ldc hx hb hown (hcI _ _ hv) hdg k
  case ldc_w i =>
    obtain ⟨rfl, t', h2, k⟩ := one hs
    obtain ⟨v, hv, rfl⟩ := Option.map_eq_some_iff.mp h2
    exact lv_ldcw hx hb hown (hcI _ _ hv) hdg k
  case ldc2_w i =>
    obtain ⟨rfl, t', h2, k⟩ := one hs
    obtain ⟨v, hv, rfl⟩ := Option.map_eq_some_iff.mp h2
    exact lv_ldc2 hx hb hown (hcJ _ _ hv) hdg k
  case iload_n i => obtain ⟨rfl, t', h2, k⟩ := one hs; obtain ⟨x, h3, rfl⟩ := ldI_some h2; exact lv_iload_n hx hb hdg rfl (lcg_ls hl h3) k
  case iload i => obtain ⟨rfl, t', h2, k⟩ := one hs; obtain ⟨x, h3, rfl⟩ := ldI_some h2; exact lv_iload hx hb hdg (lcg_ls hl h3) k
  case lload_n i => obtain ⟨rfl, t', h2, k⟩ := one hs; obtain ⟨x, h3, rfl⟩ := ldJ_some h2; exact lv_lload_n hx hb hdg rfl (lcg_ls hl h3) k
  case lload i => obtain ⟨rfl, t', h2, k⟩ := one hs; obtain ⟨x, h3, rfl⟩ := ldJ_some h2; exact lv_lload hx hb hdg (lcg_ls hl h3) k
  case aload_n i => obtain ⟨rfl, t', h2, k⟩ := one hs; obtain ⟨v, h3, rfl, h4⟩ := ldA_some h2; exact snd_ldA hx hb h4 (lcg_ls hl h3) (Or.inl ⟨_, rfl, rfl, hdg⟩) k
  case aload i => obtain ⟨rfl, t', h2, k⟩ := one hs; obtain ⟨v, h3, rfl, h4⟩ := ldA_some h2; exact snd_ldA hx hb h4 (lcg_ls hl h3) (Or.inr ⟨rfl, hdg⟩) k
  case istore_n i => obtain ⟨x, r, rfl, rfl, hn, rfl⟩ := stI_some hs; exact lv_istore_n hx hb hdg rfl hl hn (lc1_cv G lv _ (.int x)) (fun ls' h => kk ls' h)
  case istore i => obtain ⟨x, r, rfl, rfl, hn, rfl⟩ := stI_some hs; exact lv_istore hx hb hdg hl hn (lc1_cv G lv _ (.int x)) (fun ls' h => kk ls' h)
  case lstore_n i => obtain ⟨x, r, rfl, rfl, hn, rfl⟩ := stJ_some hs; exact lv_lstore_n hx hb hdg rfl hl hn (lc2_cv G lv _ (.long x)) (fun ls' h => kk ls' h)
  case lstore i => obtain ⟨x, r, rfl, rfl, hn, rfl⟩ := stJ_some hs; exact lv_lstore hx hb hdg hl hn (lc2_cv G lv _ (.long x)) (fun ls' h => kk ls' h)
  case astore_n i =>
    obtain ⟨v, r, rfl, rfl, hn, rfl, rfl | ⟨x, rfl⟩⟩ := stA_some hs
    · exact lv_astore_nN hx hb hdg rfl hl hn (lc1_cv G lv _ .null) (fun ls' h => kk ls' h)
    · exact lv_astore_n hx hb hdg rfl hl hn (lc1_cv G lv _ (.ref x)) (fun ls' h => kk ls' h)
  case astore i =>
    obtain ⟨v, r, rfl, rfl, hn, rfl, rfl | ⟨x, rfl⟩⟩ := stA_some hs
    · exact lv_astoreN hx hb hdg hl hn (lc1_cv G lv _ .null) (fun ls' h => kk ls' h)
    · exact lv_astore hx hb hdg hl hn (lc1_cv G lv _ (.ref x)) (fun ls' h => kk ls' h)
  case iinc i n =>
    unfold iincr at hs
    split at hs
    · next x hg =>
      split at hs
      · next hc =>
        cases hs
        obtain ⟨rfl, hn⟩ := hc
        obtain ⟨k, hk⟩ := List.getElem?_of_mem (show (i, Value.int x) ∈ cvl G lv from List.mem_map.mpr ⟨(i, .int x), lcg_mem hg, rfl⟩)
        exact lv_iinc hx hb hdg hl hk rfl hn (lc1_cv G lv _ (.int (x + Int32.ofInt n))) (fun ls' h => kk ls' h)
      · cases hs
    · cases hs
  case iadd => obtain ⟨rfl, t', h2, k⟩ := one hs; obtain ⟨x, y, r, rfl, rfl⟩ := bI_some h2; exact lv_iadd hx hb hdg k
  case isub => obtain ⟨rfl, t', h2, k⟩ := one hs; obtain ⟨x, y, r, rfl, rfl⟩ := bI_some h2; exact lv_isub hx hb hdg k
  case imul => obtain ⟨rfl, t', h2, k⟩ := one hs; obtain ⟨x, y, r, rfl, rfl⟩ := bI_some h2; exact lv_imul hx hb hdg k
  case iand => obtain ⟨rfl, t', h2, k⟩ := one hs; obtain ⟨x, y, r, rfl, rfl⟩ := bI_some h2; exact lv_iand hx hb hdg k
  case ior => obtain ⟨rfl, t', h2, k⟩ := one hs; obtain ⟨x, y, r, rfl, rfl⟩ := bI_some h2; exact lv_ior hx hb hdg k
  case ixor => obtain ⟨rfl, t', h2, k⟩ := one hs; obtain ⟨x, y, r, rfl, rfl⟩ := bI_some h2; exact lv_ixor hx hb hdg k
  case idiv => obtain ⟨rfl, t', h2, k⟩ := one hs; obtain ⟨x, y, r, rfl, h0, rfl⟩ := dI_some h2; exact lv_idiv hx hb hdg h0 k
  case irem => obtain ⟨rfl, t', h2, k⟩ := one hs; obtain ⟨x, y, r, rfl, h0, rfl⟩ := dI_some h2; exact lv_irem hx hb hdg h0 k
  case ineg => obtain ⟨rfl, t', h2, k⟩ := one hs; obtain ⟨x, r, rfl, rfl⟩ := oI_some h2; exact lv_ineg hx hb hdg k
  case ladd => obtain ⟨rfl, t', h2, k⟩ := one hs; obtain ⟨x, y, r, rfl, rfl⟩ := bJ_some h2; exact lv_ladd hx hb hdg k
  case lsub => obtain ⟨rfl, t', h2, k⟩ := one hs; obtain ⟨x, y, r, rfl, rfl⟩ := bJ_some h2; exact lv_lsub hx hb hdg k
  case lmul => obtain ⟨rfl, t', h2, k⟩ := one hs; obtain ⟨x, y, r, rfl, rfl⟩ := bJ_some h2; exact lv_lmul hx hb hdg k
  case land => obtain ⟨rfl, t', h2, k⟩ := one hs; obtain ⟨x, y, r, rfl, rfl⟩ := bJ_some h2; exact lv_land hx hb hdg k
  case lor => obtain ⟨rfl, t', h2, k⟩ := one hs; obtain ⟨x, y, r, rfl, rfl⟩ := bJ_some h2; exact lv_lor hx hb hdg k
  case lxor => obtain ⟨rfl, t', h2, k⟩ := one hs; obtain ⟨x, y, r, rfl, rfl⟩ := bJ_some h2; exact lv_lxor hx hb hdg k
  case ldiv => obtain ⟨rfl, t', h2, k⟩ := one hs; obtain ⟨x, y, r, rfl, h0, rfl⟩ := dJ_some h2; exact lv_ldiv hx hb hdg h0 k
  case lrem => obtain ⟨rfl, t', h2, k⟩ := one hs; obtain ⟨x, y, r, rfl, h0, rfl⟩ := dJ_some h2; exact lv_lrem hx hb hdg h0 k
  case lneg => obtain ⟨rfl, t', h2, k⟩ := one hs; obtain ⟨x, r, rfl, rfl⟩ := oJ_some h2; exact lv_lneg hx hb hdg k
  case ishl => obtain ⟨rfl, t', h2, k⟩ := one hs; obtain ⟨x, y, r, rfl, rfl⟩ := bI_some h2; exact lv_ishl hx hb hdg k
  case ishr => obtain ⟨rfl, t', h2, k⟩ := one hs; obtain ⟨x, y, r, rfl, rfl⟩ := bI_some h2; exact lv_ishr hx hb hdg k
  case iushr => obtain ⟨rfl, t', h2, k⟩ := one hs; obtain ⟨x, y, r, rfl, rfl⟩ := bI_some h2; exact lv_iushr hx hb hdg rfl k
  case lshl => obtain ⟨rfl, t', h2, k⟩ := one hs; obtain ⟨x, y, r, rfl, rfl⟩ := bS_some h2; exact lv_lshl hx hb hdg rfl k
  case lshr => obtain ⟨rfl, t', h2, k⟩ := one hs; obtain ⟨x, y, r, rfl, rfl⟩ := bS_some h2; exact lv_lshr hx hb hdg rfl k
  case lushr => obtain ⟨rfl, t', h2, k⟩ := one hs; obtain ⟨x, y, r, rfl, rfl⟩ := bS_some h2; exact lv_lushr hx hb hdg rfl k
  case lcmp => obtain ⟨rfl, t', h2, k⟩ := one hs; obtain ⟨x, y, r, rfl, rfl⟩ := bC_some h2; exact W.lcmp hx hb hdg k
  case i2l => obtain ⟨rfl, t', h2, k⟩ := one hs; obtain ⟨x, r, rfl, rfl⟩ := oIJ_some h2; exact lv_i2l hx hb hdg rfl k
  case l2i => obtain ⟨rfl, t', h2, k⟩ := one hs; obtain ⟨x, r, rfl, rfl⟩ := oJI_some h2; exact lv_l2i hx hb hdg rfl k
  case i2b => obtain ⟨rfl, t', h2, k⟩ := one hs; obtain ⟨x, r, rfl, rfl⟩ := oI_some h2; exact lv_i2b hx hb hdg rfl k
  case i2c => obtain ⟨rfl, t', h2, k⟩ := one hs; obtain ⟨x, r, rfl, rfl⟩ := oI_some h2; exact lv_i2c hx hb hdg rfl k
  case dup => obtain ⟨rfl, t', h2, k⟩ := one hs; obtain ⟨v, r, rfl, hc, rfl⟩ := dup1_some h2; exact lv_dup hx hb hdg (by rw [cv_cat]; exact hc) k
  case dup2 => obtain ⟨rfl, t', h2, k⟩ := one hs; obtain ⟨va, vb, r, rfl, h3, h4, rfl⟩ := dup2c_some h2; exact lv_dup2_11 hx hb hdg (by rw [cv_cat]; exact h3) (by rw [cv_cat]; exact h4) k
  case pop => obtain ⟨rfl, t', h2, k⟩ := one hs; obtain ⟨v, rfl, hc⟩ := pop1_some h2; exact lv_pop hx hb hdg (by rw [cv_cat]; exact hc) k
  case pop2 => obtain ⟨rfl, t', h2, k⟩ := one hs; obtain ⟨v, rfl, hc⟩ := pop2c_some h2; exact lv_pop2_2 hx hb hdg (by rw [cv_cat]; exact hc) k
  case goto off => obtain ⟨rfl, h2, k1, _⟩ := jp hs; exact lv_goto hx hb hdg h2 (k1 trivial)
  case ifCond cd off =>
    unfold ifZ at hs
    split at hs
    · cases cd <;> (obtain ⟨rfl, h2, k1, k2⟩ := jp hs)
      · exact lv_if_eq hx hb hdg h2 k1 k2
      · exact lv_if_ne hx hb hdg h2 k1 (fun h => k2 (fun h' => h' h))
      · exact lv_if_lt hx hb hdg h2 k1 k2
      · exact lv_if_ge hx hb hdg h2 k1 k2
      · exact lv_if_gt hx hb hdg h2 k1 k2
      · exact lv_if_le hx hb hdg h2 k1 k2
    · cases hs
  case if_icmp cd off =>
    unfold ifC at hs
    split at hs
    · cases cd <;> (obtain ⟨rfl, h2, k1, k2⟩ := jp hs)
      · exact lv_icmp_eq hx hb hdg h2 k1 k2
      · exact lv_icmp_ne hx hb hdg h2 k1 (fun h => k2 (fun h' => h' h))
      · exact lv_icmp_lt hx hb hdg h2 k1 k2
      · exact lv_icmp_ge hx hb hdg h2 k1 k2
      · exact lv_icmp_gt hx hb hdg h2 k1 k2
      · exact lv_icmp_le hx hb hdg h2 k1 k2
    · cases hs
  case ifnull off =>
    unfold ifN at hs
    split at hs
    · split at hs
      · next hc => cases hs; subst hc; exact lv_ifnull hx hb hdg (kk ls hl)
      · cases hs
    · split at hs
      · next hc => cases hs; obtain ⟨rfl, h0⟩ := hc; exact lv_ifnullN hx hb hdg (tgt_ok h0) (kk ls hl)
      · cases hs
    · cases hs
  case tableswitch dflt lo hi offs =>
    split at hs
    · next x r =>
      split at hs
      · next hc =>
        split at hs
        · next h1 => cases hs; exact lv_tableOut hx hb hdg h1 (tgt_ok hc.1) (kk ls hl)
        · next h1 =>
          obtain ⟨o, ho, rfl⟩ := Option.map_eq_some_iff.mp hs
          have h0 : 0 ≤ (pc : Int) + o := by
            have := Array.all_eq_true_iff_forall_mem.mp hc.2 o (Array.mem_of_getElem? ho)
            exact of_decide_eq_true this
          exact lv_tableIn hx hb hdg (fun q => h1 (Or.inl q)) (fun q => h1 (Or.inr q)) ho (tgt_ok h0) (kk ls hl)
      · cases hs
    · cases hs
  case lookupswitch dflt ps =>
    split at hs
    · next x r =>
      split at hs
      · next hc => cases hs; exact lv_lookup hx hb hdg hc.1 rfl (tgt_ok hc.2) (kk ls hl)
      · cases hs
    · cases hs
end SNDP
end
section
/-! NAMES: classes and their fields, as printed of the program. -/
def RX0 : String := "SharesComing$Book"
def TX0 : u_T := fun k => match k with
  | 0 => ("SharesComing$Book", "rows", "LSharesComing$Rows;", true)
  | 1 => ("SharesComing$Book", "will", "LSharesComing$Will;", true)
  | 2 => ("SharesComing$Book", "ranks", "LSharesComing$Ranks;", true)
  | 3 => ("SharesComing$Book", "ways", "LSharesComing$Ways;", true)
  | 4 => ("SharesComing$Book", "ends", "[LSharesComing$Ends;", true)
  | _ => ("SharesComing$Book", "sights", "[LSharesComing$Sight;", true)
def tyX0 : Nat → FieldType := fun k => match k with
  | 0 => .object "SharesComing$Rows"
  | 1 => .object "SharesComing$Will"
  | 2 => .object "SharesComing$Ranks"
  | 3 => .object "SharesComing$Ways"
  | 4 => .array (.object "SharesComing$Ends")
  | _ => .array (.object "SharesComing$Sight")
abbrev wsX00 : List Cond := u_ws RX0 TX0 6
theorem nmX0 : ∀ a, a < 6 → ∀ b, b < 6 → a ≠ b → (TX0 a).2.1 ≠ (TX0 b).2.1 := by decide +kernel
theorem tyX0_ok : ∀ k, k < 6 → parseFieldDescriptor (TX0 k).2.2.1 = some (tyX0 k) := by decide +kernel
def RX1 : String := "SharesComing$Ends"
def TX1 : u_T := fun k => match k with
  | 0 => ("SharesComing$Ends", "table", "LSharesComing$Table;", true)
  | 1 => ("SharesComing$Ends", "will", "LSharesComing$Will;", true)
  | 2 => ("SharesComing$Ends", "ranks", "LSharesComing$Ranks;", true)
  | 3 => ("SharesComing$Ends", "goal", "I", true)
  | _ => ("SharesComing$Ends", "oneBackLess", "LSharesComing$Ends;", true)
def tyX1 : Nat → FieldType := fun k => match k with
  | 0 => .object "SharesComing$Table"
  | 1 => .object "SharesComing$Will"
  | 2 => .object "SharesComing$Ranks"
  | 3 => .int
  | _ => .object "SharesComing$Ends"
abbrev wsX10 : List Cond := u_ws RX1 TX1 5
theorem nmX1 : ∀ a, a < 5 → ∀ b, b < 5 → a ≠ b → (TX1 a).2.1 ≠ (TX1 b).2.1 := by decide +kernel
theorem tyX1_ok : ∀ k, k < 5 → parseFieldDescriptor (TX1 k).2.2.1 = some (tyX1 k) := by decide +kernel
def RX2 : String := "SharesComing$Goals"
def TX2 : u_T := fun k => match k with
  | _ => ("", "", "", false)
def tyX2 : Nat → FieldType := fun k => match k with
  | _ => .int
abbrev wsX20 : List Cond := u_ws RX2 TX2 0
theorem nmX2 : ∀ a, a < 0 → ∀ b, b < 0 → a ≠ b → (TX2 a).2.1 ≠ (TX2 b).2.1 := by decide +kernel
theorem tyX2_ok : ∀ k, k < 0 → parseFieldDescriptor (TX2 k).2.2.1 = some (tyX2 k) := by decide +kernel
def RX3 : String := "SharesComing$Ranks"
def TX3 : u_T := fun k => match k with
  | 0 => ("SharesComing$Ranks", "numberOf", "[I", true)
  | 1 => ("SharesComing$Ranks", "sumOf", "[I", true)
  | 2 => ("SharesComing$Ranks", "upTo", "[I", true)
  | 3 => ("SharesComing$Ranks", "middle", "[I", true)
  | 4 => ("SharesComing$Ranks", "first", "[I", true)
  | 5 => ("SharesComing$Ranks", "size", "[I", true)
  | 6 => ("SharesComing$Ranks", "limit", "[I", true)
  | 7 => ("SharesComing$Ranks", "start", "[I", true)
  | 8 => ("SharesComing$Ranks", "lateMask", "[I", true)
  | 9 => ("SharesComing$Ranks", "cameBy", "[I", true)
  | 10 => ("SharesComing$Ranks", "masks", "I", false)
  | _ => ("SharesComing$Ranks", "days", "I", false)
def tyX3 : Nat → FieldType := fun k => match k with
  | 0 => .array .int
  | 1 => .array .int
  | 2 => .array .int
  | 3 => .array .int
  | 4 => .array .int
  | 5 => .array .int
  | 6 => .array .int
  | 7 => .array .int
  | 8 => .array .int
  | 9 => .array .int
  | 10 => .int
  | _ => .int
abbrev wsX30 : List Cond := u_ws RX3 TX3 12
theorem nmX3 : ∀ a, a < 12 → ∀ b, b < 12 → a ≠ b → (TX3 a).2.1 ≠ (TX3 b).2.1 := by decide +kernel
theorem tyX3_ok : ∀ k, k < 12 → parseFieldDescriptor (TX3 k).2.2.1 = some (tyX3 k) := by decide +kernel
def RX4 : String := "SharesComing$Reader"
def TX4 : u_T := fun k => match k with
  | 0 => ("SharesComing$Reader", "text", "[B", true)
  | 1 => ("SharesComing$Reader", "length", "I", false)
  | 2 => ("SharesComing$Reader", "at", "I", false)
  | 3 => ("SharesComing$Reader", "token", "I", false)
  | 4 => ("SharesComing$Reader", "place", "I", false)
  | 5 => ("SharesComing$Reader", "number", "I", false)
  | 6 => ("SharesComing$Reader", "word", "J", false)
  | _ => ("SharesComing$Reader", "parts", "I", false)
def tyX4 : Nat → FieldType := fun k => match k with
  | 0 => .array .byte
  | 1 => .int
  | 2 => .int
  | 3 => .int
  | 4 => .int
  | 5 => .int
  | 6 => .long
  | _ => .int
abbrev wsX40 : List Cond := u_ws RX4 TX4 8
theorem nmX4 : ∀ a, a < 8 → ∀ b, b < 8 → a ≠ b → (TX4 a).2.1 ≠ (TX4 b).2.1 := by decide +kernel
theorem tyX4_ok : ∀ k, k < 8 → parseFieldDescriptor (TX4 k).2.2.1 = some (tyX4 k) := by decide +kernel
def RX5 : String := "SharesComing$Rows"
def TX5 : u_T := fun k => match k with
  | 0 => ("SharesComing$Rows", "will", "LSharesComing$Will;", true)
  | 1 => ("SharesComing$Rows", "ranks", "LSharesComing$Ranks;", true)
  | 2 => ("SharesComing$Rows", "walked", "[I", false)
  | 3 => ("SharesComing$Rows", "walk", "I", false)
  | 4 => ("SharesComing$Rows", "least", "J", false)
  | _ => ("SharesComing$Rows", "floor", "J", false)
def tyX5 : Nat → FieldType := fun k => match k with
  | 0 => .object "SharesComing$Will"
  | 1 => .object "SharesComing$Ranks"
  | 2 => .array .int
  | 3 => .int
  | 4 => .long
  | _ => .long
abbrev wsX50 : List Cond := u_ws RX5 TX5 6
theorem nmX5 : ∀ a, a < 6 → ∀ b, b < 6 → a ≠ b → (TX5 a).2.1 ≠ (TX5 b).2.1 := by decide +kernel
theorem tyX5_ok : ∀ k, k < 6 → parseFieldDescriptor (TX5 k).2.2.1 = some (tyX5 k) := by decide +kernel
def RX6 : String := "SharesComing$Sight"
def TX6 : u_T := fun k => match k with
  | 0 => ("SharesComing$Sight", "table", "LSharesComing$Table;", true)
  | 1 => ("SharesComing$Sight", "will", "LSharesComing$Will;", true)
  | 2 => ("SharesComing$Sight", "ranks", "LSharesComing$Ranks;", true)
  | 3 => ("SharesComing$Sight", "kind", "I", true)
  | _ => ("SharesComing$Sight", "ends", "LSharesComing$Ends;", false)
def tyX6 : Nat → FieldType := fun k => match k with
  | 0 => .object "SharesComing$Table"
  | 1 => .object "SharesComing$Will"
  | 2 => .object "SharesComing$Ranks"
  | 3 => .int
  | _ => .object "SharesComing$Ends"
abbrev wsX60 : List Cond := u_ws RX6 TX6 5
theorem nmX6 : ∀ a, a < 5 → ∀ b, b < 5 → a ≠ b → (TX6 a).2.1 ≠ (TX6 b).2.1 := by decide +kernel
theorem tyX6_ok : ∀ k, k < 5 → parseFieldDescriptor (TX6 k).2.2.1 = some (tyX6 k) := by decide +kernel
def RX7 : String := "SharesComing$State"
def TX7 : u_T := fun k => match k with
  | _ => ("", "", "", false)
def tyX7 : Nat → FieldType := fun k => match k with
  | _ => .int
abbrev wsX70 : List Cond := u_ws RX7 TX7 0
theorem nmX7 : ∀ a, a < 0 → ∀ b, b < 0 → a ≠ b → (TX7 a).2.1 ≠ (TX7 b).2.1 := by decide +kernel
theorem tyX7_ok : ∀ k, k < 0 → parseFieldDescriptor (TX7 k).2.2.1 = some (tyX7 k) := by decide +kernel
def RX8 : String := "SharesComing$Table"
def TX8 : u_T := fun k => match k with
  | 0 => ("SharesComing$Table", "found", "[J", false)
  | _ => ("SharesComing$Table", "ready", "Z", false)
def tyX8 : Nat → FieldType := fun k => match k with
  | 0 => .array .long
  | _ => .boolean
abbrev wsX80 : List Cond := u_ws RX8 TX8 2
theorem nmX8 : ∀ a, a < 2 → ∀ b, b < 2 → a ≠ b → (TX8 a).2.1 ≠ (TX8 b).2.1 := by decide +kernel
theorem tyX8_ok : ∀ k, k < 2 → parseFieldDescriptor (TX8 k).2.2.1 = some (tyX8 k) := by decide +kernel
def RX9 : String := "SharesComing$Ways"
def TX9 : u_T := fun k => match k with
  | 0 => ("SharesComing$Ways", "will", "LSharesComing$Will;", true)
  | 1 => ("SharesComing$Ways", "share", "LSharesComing$Sight;", true)
  | 2 => ("SharesComing$Ways", "way", "I", false)
  | 3 => ("SharesComing$Ways", "mean", "Z", false)
  | _ => ("SharesComing$Ways", "ends", "LSharesComing$Ends;", false)
def tyX9 : Nat → FieldType := fun k => match k with
  | 0 => .object "SharesComing$Will"
  | 1 => .object "SharesComing$Sight"
  | 2 => .int
  | 3 => .boolean
  | _ => .object "SharesComing$Ends"
abbrev wsX90 : List Cond := u_ws RX9 TX9 5
theorem nmX9 : ∀ a, a < 5 → ∀ b, b < 5 → a ≠ b → (TX9 a).2.1 ≠ (TX9 b).2.1 := by decide +kernel
theorem tyX9_ok : ∀ k, k < 5 → parseFieldDescriptor (TX9 k).2.2.1 = some (tyX9 k) := by decide +kernel
def RX10 : String := "SharesComing$Will"
def TX10 : u_T := fun k => match k with
  | 0 => ("SharesComing$Will", "heirs", "I", false)
  | 1 => ("SharesComing$Will", "days", "I", false)
  | 2 => ("SharesComing$Will", "hold", "I", false)
  | 3 => ("SharesComing$Will", "back", "I", false)
  | 4 => ("SharesComing$Will", "holdTold", "Z", false)
  | 5 => ("SharesComing$Will", "backTold", "Z", false)
  | 6 => ("SharesComing$Will", "late", "I", false)
  | 7 => ("SharesComing$Will", "names", "[J", true)
  | 8 => ("SharesComing$Will", "worths", "[I", true)
  | 9 => ("SharesComing$Will", "altCounts", "[I", true)
  | 10 => ("SharesComing$Will", "chances", "[I", true)
  | 11 => ("SharesComing$Will", "kinds", "[I", true)
  | _ => ("SharesComing$Will", "targets", "[I", true)
def tyX10 : Nat → FieldType := fun k => match k with
  | 0 => .int
  | 1 => .int
  | 2 => .int
  | 3 => .int
  | 4 => .boolean
  | 5 => .boolean
  | 6 => .int
  | 7 => .array .long
  | 8 => .array .int
  | 9 => .array .int
  | 10 => .array .int
  | 11 => .array .int
  | _ => .array .int
abbrev wsX100 : List Cond := u_ws RX10 TX10 13
theorem nmX10 : ∀ a, a < 13 → ∀ b, b < 13 → a ≠ b → (TX10 a).2.1 ≠ (TX10 b).2.1 := by decide +kernel
theorem tyX10_ok : ∀ k, k < 13 → parseFieldDescriptor (TX10 k).2.2.1 = some (tyX10 k) := by decide +kernel
def RX11 : String := "SharesComing"
def TX11 : u_T := fun k => match k with
  | 0 => ("SharesComing", "text", "[B", true)
  | 1 => ("SharesComing", "length", "I", false)
  | 2 => ("SharesComing", "reader", "LSharesComing$Reader;", true)
  | 3 => ("SharesComing", "draft", "LSharesComing$Will;", true)
  | 4 => ("SharesComing", "will", "LSharesComing$Will;", true)
  | 5 => ("SharesComing", "book", "LSharesComing$Book;", true)
  | 6 => ("SharesComing", "told", "Z", false)
  | 7 => ("SharesComing", "now", "J", false)
  | 8 => ("SharesComing", "waits", "I", false)
  | 9 => ("SharesComing", "imageKept", "[Z", true)
  | 10 => ("SharesComing", "imageState", "[J", true)
  | _ => ("SharesComing", "imageWaits", "[I", true)
def tyX11 : Nat → FieldType := fun k => match k with
  | 0 => .array .byte
  | 1 => .int
  | 2 => .object "SharesComing$Reader"
  | 3 => .object "SharesComing$Will"
  | 4 => .object "SharesComing$Will"
  | 5 => .object "SharesComing$Book"
  | 6 => .boolean
  | 7 => .long
  | 8 => .int
  | 9 => .array .boolean
  | 10 => .array .long
  | _ => .array .int
abbrev wsX110 : List Cond := u_ws RX11 TX11 12
theorem nmX11 : ∀ a, a < 12 → ∀ b, b < 12 → a ≠ b → (TX11 a).2.1 ≠ (TX11 b).2.1 := by decide +kernel
theorem tyX11_ok : ∀ k, k < 12 → parseFieldDescriptor (TX11 k).2.2.1 = some (tyX11 k) := by decide +kernel
def RX12 : String := "SharesComingModel"
def TX12 : u_T := fun k => match k with
  | 0 => ("SharesComingModel", "text", "[B", true)
  | 1 => ("SharesComingModel", "size", "I", false)
  | 2 => ("SharesComingModel", "at", "I", false)
  | 3 => ("SharesComingModel", "kind", "I", false)
  | 4 => ("SharesComingModel", "tokenAt", "I", false)
  | 5 => ("SharesComingModel", "value", "J", false)
  | 6 => ("SharesComingModel", "readHeirs", "I", false)
  | 7 => ("SharesComingModel", "readName", "[J", true)
  | 8 => ("SharesComingModel", "isLate", "[Z", true)
  | 9 => ("SharesComingModel", "readWorth", "[I", true)
  | 10 => ("SharesComingModel", "readDays", "I", false)
  | 11 => ("SharesComingModel", "readAlts", "[I", true)
  | 12 => ("SharesComingModel", "readAlt", "[I", true)
  | 13 => ("SharesComingModel", "readHold", "I", false)
  | 14 => ("SharesComingModel", "readBack", "I", false)
  | 15 => ("SharesComingModel", "isMatter", "Z", false)
  | 16 => ("SharesComingModel", "heirs", "I", false)
  | 17 => ("SharesComingModel", "worth", "[I", true)
  | 18 => ("SharesComingModel", "days", "I", false)
  | 19 => ("SharesComingModel", "alts", "[I", true)
  | 20 => ("SharesComingModel", "altRow", "[I", true)
  | 21 => ("SharesComingModel", "hold", "I", false)
  | 22 => ("SharesComingModel", "back", "I", false)
  | 23 => ("SharesComingModel", "now", "J", false)
  | 24 => ("SharesComingModel", "over", "I", false)
  | 25 => ("SharesComingModel", "waits", "I", false)
  | 26 => ("SharesComingModel", "imageNow", "[J", true)
  | 27 => ("SharesComingModel", "imageOver", "[I", true)
  | 28 => ("SharesComingModel", "imageWaits", "[I", true)
  | 29 => ("SharesComingModel", "isImage", "[Z", true)
  | 30 => ("SharesComingModel", "readSum", "I", false)
  | 31 => ("SharesComingModel", "endKey", "[J", true)
  | 32 => ("SharesComingModel", "endIs", "[I", true)
  | 33 => ("SharesComingModel", "endMany", "I", false)
  | 34 => ("SharesComingModel", "heldSort", "[I", true)
  | 35 => ("SharesComingModel", "state", "[J", true)
  | 36 => ("SharesComingModel", "worked", "[J", true)
  | 37 => ("SharesComingModel", "layer", "[I", true)
  | 38 => ("SharesComingModel", "table", "[I", true)
  | 39 => ("SharesComingModel", "layers", "I", false)
  | 40 => ("SharesComingModel", "states", "I", false)
  | 41 => ("SharesComingModel", "digit", "[I", true)
  | 42 => ("SharesComingModel", "wayState", "[J", true)
  | 43 => ("SharesComingModel", "wayNext", "[J", true)
  | 44 => ("SharesComingModel", "wayShare", "[J", true)
  | 45 => ("SharesComingModel", "wayShareNext", "[J", true)
  | _ => ("SharesComingModel", "judgedEnd", "J", false)
def tyX12 : Nat → FieldType := fun k => match k with
  | 0 => .array .byte
  | 1 => .int
  | 2 => .int
  | 3 => .int
  | 4 => .int
  | 5 => .long
  | 6 => .int
  | 7 => .array .long
  | 8 => .array .boolean
  | 9 => .array .int
  | 10 => .int
  | 11 => .array .int
  | 12 => .array .int
  | 13 => .int
  | 14 => .int
  | 15 => .boolean
  | 16 => .int
  | 17 => .array .int
  | 18 => .int
  | 19 => .array .int
  | 20 => .array .int
  | 21 => .int
  | 22 => .int
  | 23 => .long
  | 24 => .int
  | 25 => .int
  | 26 => .array .long
  | 27 => .array .int
  | 28 => .array .int
  | 29 => .array .boolean
  | 30 => .int
  | 31 => .array .long
  | 32 => .array .int
  | 33 => .int
  | 34 => .array .int
  | 35 => .array .long
  | 36 => .array .long
  | 37 => .array .int
  | 38 => .array .int
  | 39 => .int
  | 40 => .int
  | 41 => .array .int
  | 42 => .array .long
  | 43 => .array .long
  | 44 => .array .long
  | 45 => .array .long
  | _ => .long
abbrev wsX120 : List Cond := u_ws RX12 TX12 47
theorem nmX12 : ∀ a, a < 47 → ∀ b, b < 47 → a ≠ b → (TX12 a).2.1 ≠ (TX12 b).2.1 := by decide +kernel
theorem tyX12_ok : ∀ k, k < 47 → parseFieldDescriptor (TX12 k).2.2.1 = some (tyX12 k) := by decide +kernel
abbrev vwCl : List vw_C := [(RX0, TX0, 6), (RX1, TX1, 5), (RX3, TX3, 12), (RX4, TX4, 8), (RX5, TX5, 6), (RX6, TX6, 5), (RX8, TX8, 2), (RX9, TX9, 5), (RX10, TX10, 13), (RX11, TX11, 12), (RX12, TX12, 47)]
def tyc (c : Nat) : Nat → FieldType := match c with
  | 0 => tyX0
  | 1 => tyX1
  | 2 => tyX3
  | 3 => tyX4
  | 4 => tyX5
  | 5 => tyX6
  | 6 => tyX8
  | 7 => tyX9
  | 8 => tyX10
  | 9 => tyX11
  | 10 => tyX12
  | _ => fun _ => .int
/-- of a field: 1 a long, 2 a reference, 3 a boolean, 0 an int -/
def fty (c k : Nat) : Nat := match tyc c k with
  | .long => 1
  | .object _ => 2
  | .array _ => 2
  | .boolean => 3
  | .int => 0
  | _ => 4
end
section
/-! THE HEAP holds the memory. -/
theorem cl_ty : ∀ (c : Nat) (r : vw_C), vwCl[c]? = some r → (∀ k, k < r.2.2 → parseFieldDescriptor (r.2.1 k).2.2.1 = some (tyc c k)) ∧ (∀ a, a < r.2.2 → ∀ b, b < r.2.2 → a ≠ b → (r.2.1 a).2.1 ≠ (r.2.1 b).2.1) := by
  intro c r h
  match c, h with
  | 0, h => cases h; exact ⟨tyX0_ok, nmX0⟩
  | 1, h => cases h; exact ⟨tyX1_ok, nmX1⟩
  | 2, h => cases h; exact ⟨tyX3_ok, nmX3⟩
  | 3, h => cases h; exact ⟨tyX4_ok, nmX4⟩
  | 4, h => cases h; exact ⟨tyX5_ok, nmX5⟩
  | 5, h => cases h; exact ⟨tyX6_ok, nmX6⟩
  | 6, h => cases h; exact ⟨tyX8_ok, nmX8⟩
  | 7, h => cases h; exact ⟨tyX9_ok, nmX9⟩
  | 8, h => cases h; exact ⟨tyX10_ok, nmX10⟩
  | 9, h => cases h; exact ⟨tyX11_ok, nmX11⟩
  | 10, h => cases h; exact ⟨tyX12_ok, nmX12⟩
  | c + 11, h => simp [vwCl] at h
theorem cl_lt {c : Nat} {r : vw_C} (h : vwCl[c]? = some r) : c < 11 := (List.getElem?_eq_some_iff.mp h).1
/-- what field k of key a, an object of class c, holds -/
def gV (w : Wd) (a c k : Nat) : Value := if fty c k = 1 then .long (wJ w a k) else if fty c k = 2 then rfv (wR w a k) else .int (wI w a k)
def fV (G : Gc) (w : Wd) (a c k : Nat) : Value := cv G (gV w a c k)
/-- the array at key a -/
def arW (G : Gc) (w : Wd) (a : Nat) : Cell := if wK w a = 13 then arrV (gA G 2) (wL w a) (fun j => .long (wY w a j)) else if 15 ≤ wK w a then arrV (gA G (wK w a - 11)) (wL w a) (fun j => cv G (rfv (wZ w a j))) else arrV (gA G (wK w a - 11)) (wL w a) (fun j => .int (wX w a j))
def atW (G : Gc) (w : Wd) (a : Nat) (H : Heap) : Prop := (∃ r, vwCl[wK w a]? = some r ∧ t_OB (gad G a) ((gD G).1 (wK w a)) r.2.2 ((gD G).2 (wK w a)) H (fV G w a (wK w a))) ∨ (11 ≤ wK w a ∧ wK w a < 17 ∧ H[gad G a]? = some (arW G w a))
/-- al: new cells may be made -/
def HW (al : Bool) (G : Gc) (A : Nat → Prop) (w : Wd) (H : Heap) : Prop := (∀ a, a < wN w → atW G w a H ∧ A (gad G a)) ∧ (∀ a b, gad G a = gad G b → a = b) ∧ (al = true → H.size = gad G (wN w) ∧ (∀ n, wN w ≤ n → gad G (n + 1) = gad G n + 1) ∧ ∀ q, H.size ≤ q → A q)
def arty (t : Nat) : FieldType := match t with
  | 0 => .byte
  | 1 => .int
  | 2 => .long
  | 3 => .boolean
  | 4 => .object "SharesComing$Ends"
  | _ => .object "SharesComing$Sight"
abbrev tysG (G : Gc) : List (ClassId × FieldType) := [(gA G 0, .byte), (gA G 1, .int), (gA G 2, .long), (gA G 3, .boolean), (gA G 4, .object "SharesComing$Ends"), (gA G 5, .object "SharesComing$Sight")]
def KW (G : Gc) (U : State) : Prop := va_K (gD G) vwCl (tysG G) U
theorem KW.moved {G : Gc} {u U : State} (hvm : u.vm.Alike U.vm) (h : KW G u) : KW G U := va_K.moved hvm h
theorem KW.arr {G : Gc} {U : State} (h : KW G U) {t : Nat} (ht : t < 6) : ArrOfT U (gA G t) (arty t) := by
  rcases (show t = 0 ∨ t = 1 ∨ t = 2 ∨ t = 3 ∨ t = 4 ∨ t = 5 by omega) with rfl | rfl | rfl | rfl | rfl | rfl
  · exact (h.2 0 _ rfl).1
  · exact (h.2 1 _ rfl).1
  · exact (h.2 2 _ rfl).1
  · exact (h.2 3 _ rfl).1
  · exact (h.2 4 _ rfl).1
  · exact (h.2 5 _ rfl).1
/-- the same cells, but for key a -/
theorem HW.upd {al : Bool} {G : Gc} {A : Nat → Prop} {w w' : Wd} {H H1 : Heap} {a : Nat} (h : HW al G A w H) (hN : wN w' = wN w) (z : H1.size = H.size) (oq : ∀ q, q ≠ gad G a → H1[q]? = H[q]?) (hat : atW G w' a H1) (hK : ∀ b, b < wN w → b ≠ a → wK w' b = wK w b) (hf : ∀ b, b < wN w → b ≠ a → ∀ c k, fV G w' b c k = fV G w b c k) (hr : ∀ b, b < wN w → b ≠ a → arW G w' b = arW G w b) : HW al G A w' H1 := by
  refine ⟨fun b hb => ?_, h.2.1, fun hal => ?_⟩
  · rw [hN] at hb
    by_cases hba : b = a
    · subst hba
      exact ⟨hat, (h.1 b hb).2⟩
    · refine ⟨?_, (h.1 b hb).2⟩
      have hq : H1[gad G b]? = H[gad G b]? := oq _ (fun e => hba (h.2.1 _ _ e))
      rcases (h.1 b hb).1 with ⟨r, h1, h2⟩ | ⟨h1, h2, h3⟩
      · left
        refine ⟨r, by rw [hK b hb hba]; exact h1, ?_⟩
        rw [hK b hb hba]
        exact (h2.kept hq).to (fun k _ => (hf b hb hba _ k).symm)
      · right
        rw [hK b hb hba, hr b hb hba]
        exact ⟨h1, h2, hq.trans h3⟩
  · obtain ⟨h1, h2, h3⟩ := h.2.2 hal
    rw [hN, z]
    exact ⟨h1, h2, h3⟩
theorem fV_uI {G : Gc} {w : Wd} {a b k j c : Nat} {x : Int32} (h : b ≠ a) : fV G (uI w a k x) b c j = fV G w b c j := by
  simp only [fV, gV, wJ, wR, wI, uI, u2, h, false_and, if_false]
theorem arW_uI {G : Gc} {w : Wd} {a b k : Nat} {x : Int32} : arW G (uI w a k x) b = arW G w b := rfl
theorem fV_uJ {G : Gc} {w : Wd} {a b k j c : Nat} {x : Int64} (h : b ≠ a) : fV G (uJ w a k x) b c j = fV G w b c j := by
  simp only [fV, gV, wJ, wR, wI, uJ, u2, h, false_and, if_false]
theorem arW_uJ {G : Gc} {w : Wd} {a b k : Nat} {x : Int64} : arW G (uJ w a k x) b = arW G w b := rfl
theorem fV_uR {G : Gc} {w : Wd} {a b k j c : Nat} {x : Option Nat} (h : b ≠ a) : fV G (uR w a k x) b c j = fV G w b c j := by
  simp only [fV, gV, wJ, wR, wI, uR, u2, h, false_and, if_false]
theorem arW_uR {G : Gc} {w : Wd} {a b k : Nat} {x : Option Nat} : arW G (uR w a k x) b = arW G w b := rfl
theorem fV_uX {G : Gc} {w : Wd} {a b k j c : Nat} {x : Int32} : fV G (uX w a k x) b c j = fV G w b c j := rfl
theorem fV_uY {G : Gc} {w : Wd} {a b k j c : Nat} {x : Int64} : fV G (uY w a k x) b c j = fV G w b c j := rfl
theorem fV_uZ {G : Gc} {w : Wd} {a b k j c : Nat} {x : Option Nat} : fV G (uZ w a k x) b c j = fV G w b c j := rfl
theorem arW_uX {G : Gc} {w : Wd} {a b k : Nat} {x : Int32} (h : b ≠ a) : arW G (uX w a k x) b = arW G w b := by
  simp only [arW, wK, wL, wX, wY, wZ, uX, u2, h, false_and, if_false]
  rfl
theorem arW_uY {G : Gc} {w : Wd} {a b k : Nat} {x : Int64} (h : b ≠ a) : arW G (uY w a k x) b = arW G w b := by
  simp only [arW, wK, wL, wX, wY, wZ, uY, u2, h, false_and, if_false]
  rfl
theorem arW_uZ {G : Gc} {w : Wd} {a b k : Nat} {x : Option Nat} (h : b ≠ a) : arW G (uZ w a k x) b = arW G w b := by
  simp only [arW, wK, wL, wX, wY, wZ, uZ, u2, h, false_and, if_false]
  rfl
/-- a field is put -/
def pV (w : Wd) (a c k : Nat) (v : Value) : Option Wd := match v with
  | .int x => if fty c k = 0 ∨ (fty c k = 3 ∧ (x = 0 ∨ x = 1)) then some (uI w a k x) else none
  | .long x => if fty c k = 1 then some (uJ w a k x) else none
  | .ref t => if fty c k = 2 then some (uR w a k (some t)) else none
  | .null => if fty c k = 2 then some (uR w a k none) else none
  | _ => none
/-- what it needs and does -/
theorem pV_ok {w w' : Wd} {a c k : Nat} {v : Value} (h : pV w a c k v = some w') (G : Gc) : wN w' = wN w ∧ wS w' = wS w ∧ (∀ b, wK w' b = wK w b) ∧ (∀ b, b ≠ a → ∀ c j, fV G w' b c j = fV G w b c j) ∧ (∀ b, arW G w' b = arW G w b) ∧ fV G w' a c k = cv G v ∧ (∀ j, j ≠ k → fV G w' a c j = fV G w a c j) ∧ narrow (tyc c k) (cv G v) = cv G v ∧ fits (tyc c k) (cv G v) = true := by
  cases v with
  | int x =>
    simp only [pV] at h
    split at h
    · next hc =>
      cases h
      refine ⟨rfl, rfl, fun _ => rfl, fun b hb c j => fV_uI hb, fun _ => rfl, ?_, fun j hj => ?_, ?_⟩
      · have h1 : fty c k ≠ 1 := by rcases hc with h | h <;> omega
        have h2 : fty c k ≠ 2 := by rcases hc with h | h <;> omega
        simp only [fV, gV, h1, h2, if_false, wI, uI, u2_s]
      · simp only [fV, gV, wJ, wR, wI, uI, u2, hj, and_false, if_false]
      · unfold fty at hc
        show narrow (tyc c k) (.int x) = .int x ∧ fits (tyc c k) (.int x) = true
        cases hty : tyc c k <;> rw [hty] at hc <;> simp at hc
        · exact ⟨rfl, rfl⟩
        · rcases hc with rfl | rfl <;> exact ⟨rfl, rfl⟩
    · cases h
  | long x =>
    simp only [pV] at h
    split at h
    · next hc =>
      cases h
      refine ⟨rfl, rfl, fun _ => rfl, fun b hb c j => fV_uJ hb, fun _ => rfl, ?_, fun j hj => ?_, ?_⟩
      · simp only [fV, gV, hc, if_true, wJ, uJ, u2_s]
      · simp only [fV, gV, wJ, wR, wI, uJ, u2, hj, and_false, if_false]
      · unfold fty at hc
        show narrow (tyc c k) (.long x) = .long x ∧ fits (tyc c k) (.long x) = true
        cases hty : tyc c k <;> rw [hty] at hc <;> simp at hc <;> exact ⟨rfl, rfl⟩
    · cases h
  | ref t =>
    simp only [pV] at h
    split at h
    · next hc =>
      cases h
      refine ⟨rfl, rfl, fun _ => rfl, fun b hb c j => fV_uR hb, fun _ => rfl, ?_, fun j hj => ?_, ?_⟩
      · simp only [fV, gV, hc, wR, uR, u2_s]; rfl
      · simp only [fV, gV, wJ, wR, wI, uR, u2, hj, and_false, if_false]
      · unfold fty at hc
        show narrow (tyc c k) (.ref _) = .ref _ ∧ fits (tyc c k) (.ref _) = true
        cases hty : tyc c k <;> rw [hty] at hc <;> simp at hc <;> exact ⟨rfl, rfl⟩
    · cases h
  | null =>
    simp only [pV] at h
    split at h
    · next hc =>
      cases h
      refine ⟨rfl, rfl, fun _ => rfl, fun b hb c j => fV_uR hb, fun _ => rfl, ?_, fun j hj => ?_, ?_⟩
      · simp only [fV, gV, hc, wR, uR, u2_s]; rfl
      · simp only [fV, gV, wJ, wR, wI, uR, u2, hj, and_false, if_false]
      · unfold fty at hc
        show narrow (tyc c k) .null = .null ∧ fits (tyc c k) .null = true
        cases hty : tyc c k <;> rw [hty] at hc <;> simp at hc <;> exact ⟨rfl, rfl⟩
    · cases h
  | float _ => cases h
  | double _ => cases h
  | retAddr _ => cases h
end
section
/-! INSTRUCTIONS that touch memory, on the machine. -/
/-- what the fields' words need of a list of words -/
def inCl (Ts : List Cond) : Prop := ∀ (c : Nat) (r : vw_C), vwCl[c]? = some r → ∀ w ∈ u_ws r.1 r.2.1 r.2.2, w ∈ Ts
theorem HW.obj {al : Bool} {G : Gc} {A : Nat → Prop} {w : Wd} {H : Heap} {a c : Nat} {r : vw_C} (h : HW al G A w H) (hk : Kd w a c) (hc : vwCl[c]? = some r) : t_OB (gad G a) ((gD G).1 c) r.2.2 ((gD G).2 c) H (fV G w a c) := by
  obtain ⟨h1, h2⟩ := hk
  rcases (h.1 a h1).1 with ⟨r', e1, e2⟩ | ⟨e1, -⟩
  · rw [h2] at e1 e2
    cases e1.symm.trans hc
    exact e2
  · have := cl_lt hc
    omega
theorem HW.arr {al : Bool} {G : Gc} {A : Nat → Prop} {w : Wd} {H : Heap} {a c : Nat} (h : HW al G A w H) (hk : Kd w a c) (hc : 11 ≤ c) : c < 17 ∧ H[gad G a]? = some (arW G w a) := by
  obtain ⟨h1, h2⟩ := hk
  rcases (h.1 a h1).1 with ⟨r', e1, e2⟩ | ⟨e1, e2, e3⟩
  · have := cl_lt e1
    omega
  · exact ⟨by omega, e3⟩
section MROW
variable {p : Program} {l : Launch} {e : Env} {R : Room} {s : State} {m : MethodId} {args : Array Value} {below : List Frame} {meth : Method} {c0 : Code} {H : Heap} {locs : List Loc} {cells slots : Nat} {Q : State → Prop}
variable {cc : ByteArray} {G : Gc} {pc : Nat} {ls : Array Slot} {rest : List Value} {A : Nat → Prop} {al : Bool} {w : Wd} {H0 : Heap} {Ts : List Cond} {own : String}
theorem x_get (hx : p.tables.exec = Jvm.exec) (hb : c0.code = cc) (hts : ∀ w ∈ Ts, w.before args s = true) (hin : inCl Ts) (hown : s.vm.findClass own = some m.cls) (hK : KW G s) (hH : HW al G A w H) {a c k i : Nat} {r : vw_C} (hc : vwCl[c]? = some r) (hk : k < r.2.2) (hkd : Kd w a c)
    (hlink : (Cond.fieldLink own i (r.2.1 k).1 (r.2.1 k).2.1 (r.2.1 k).2.2.1).before args s = true) (hdg : decode cc pc = .ok (.getfield i, 3))
    (kk : W p l e R s m args below meth c0 H locs cells slots Q (F0 m (pc + 3) ls (cv G (gV w a c k) :: rest))) : W p l e R s m args below meth c0 H locs cells slots Q (F0 m pc ls (.ref (gad G a) :: rest)) := by
  obtain ⟨cell, q1, q2, q3, q4⟩ := hH.obj hkd hc
  obtain ⟨hS, hfc, kC, hkC, hkind⟩ := hK.1 c _ hc
  obtain ⟨cf, kf, fi, f, hi, hsl⟩ := hS k hk
  refine W.getf hx hb hown hlink hi (u_facts hfc hkC (u_lays hts (hin c r hc) hk) hi).1 q1 (by rw [q3]; exact fun h => by cases h) (v := cv G (gV w a c k)) ?_ rfl rfl hdg kk
  rw [hsl, q4 k hk]
  rfl
theorem x_put (hx : p.tables.exec = Jvm.exec) (hb : c0.code = cc) (hts : ∀ w ∈ Ts, w.before args s = true) (hin : inCl Ts) (hown : s.vm.findClass own = some m.cls) (hK : KW G s) (hH : HW al G A w H) (hS0 : va_S A H0 H locs) {a c k i : Nat} {r : vw_C} (hc : vwCl[c]? = some r) (hk : k < r.2.2) (hkd : Kd w a c)
    (hlink : (Cond.fieldLink own i (r.2.1 k).1 (r.2.1 k).2.1 (r.2.1 k).2.2.1).before args s = true) (hfin : (r.2.1 k).2.2.2 = false ∨ ((r.2.1 k).2.2.2 = true ∧ meth.name = "<init>" ∧ (r.2.1 k).1 = own)) {v : Value} {w' : Wd} (hv : pV w a c k v = some w') (hdg : decode cc pc = .ok (.putfield i, 3))
    (kk : ∀ (H1 : Heap) (locs1 : List Loc), HW al G A w' H1 → va_S A H0 H1 locs1 → W p l e R s m args below meth c0 H1 locs1 cells slots Q (F0 m (pc + 3) ls rest)) : W p l e R s m args below meth c0 H locs cells slots Q (F0 m pc ls (cv G v :: .ref (gad G a) :: rest)) := by
  obtain ⟨hty, hnm⟩ := cl_ty c r hc
  have hap := va_apart (own := own) hts (hin c r hc) (tyc c) hty hnm hK hc
  obtain ⟨cell, q1, q2, q3, q4⟩ := hH.obj hkd hc
  obtain ⟨hS, hfc, kC, hkC, hkind⟩ := hK.1 c _ hc
  obtain ⟨cf, kf, fi, f, hi, hsl⟩ := hS k hk
  obtain ⟨pN, pS, pK, pf, pr, pk, pj, pn, pt⟩ := pV_ok hv G
  have hst := (u_facts hfc hkC (u_lays hts (hin c r hc) hk) hi).1
  have fin : ∀ (H' : Heap) (locs' : List Loc), H'[gad G a]? = some (cell.setSlot f.slot (cv G v)) → H'.size = H.size → (∀ q, q ≠ gad G a → H'[q]? = H[q]?) → va_S A H0 H' locs' → W p l e R s m args below meth c0 H' locs' cells slots Q (F0 m (pc + 3) ls rest) := by
    intro H' locs' e1 e2 e3 hS'
    refine kk H' locs' (hH.upd (a := a) pN e2 e3 ?_ (fun b _ _ => pK b) (fun b _ hb => pf b hb) (fun b _ _ => pr b)) hS'
    left
    have e0 : wK w' a = c := (pK a).trans hkd.2
    rw [hsl] at e1
    refine ⟨r, by rw [e0]; exact hc, ?_⟩
    rw [e0]
    refine t_OB.to (V := updV (fV G w a c) k (cv G v)) ⟨_, e1, q2, q3, t_set q4 hap hk _⟩ (fun j hj => ?_)
    by_cases hjk : j = k
    · subst hjk
      rw [pk]
      simp [updV]
    · rw [pj j hjk]
      simp [updV, hjk]
  rcases hfin with hfin | ⟨hfin, hin2, hdecl⟩
  · have hlay := hts _ (hin c r hc _ (u_in_lay hk))
    unfold u_lay at hlay
    rw [if_neg (by rw [hfin]; decide)] at hlay
    have h6 := u_store hfc hkC hkind hlay hi (hty k hk) pn pt
    refine W.putK hx hb (f := f) ⟨hown, hlink, ⟨_, _, _, hi⟩, hst⟩ (by rw [q2]; exact h6) q1 q3 (by rw [hsl]; exact k2_hasslot (q4 k hk)) rfl rfl hdg fun H' e1 e2 e3 => ?_
    exact fin H' _ e1 e2 e3 (hS0.put e2 e3 (hH.1 a hkd.1).2)
  · have hlay := hts _ (hin c r hc _ (u_in_lay hk))
    unfold u_lay at hlay
    rw [if_pos hfin] at hlay
    have hcf : m.cls = cf := by
      obtain ⟨_, _, c', _, _, _, -, -, hf', -, -, -, hown2, -⟩ := Cond.laysFinal_spec hlay
      have e1 : c' = cf := by have := hi.symm.trans hf'; simp at this; exact this.1.symm
      rw [hdecl] at hown2
      rw [← e1]; exact Option.some.inj (hown.symm.trans hown2)
    have h6 := u_fits hfc hkC hkind (Or.inr hlay) hi (hty k hk) pn pt
    refine W.putFinK hx hb hown hlink hi hst hcf hin2 (by rw [q2]; exact h6) q1 q3 (by rw [hsl]; exact k2_hasslot (q4 k hk)) rfl rfl hdg fun H' e1 e2 e3 => ?_
    exact fin H' _ e1 e2 e3 (hS0.put e2 e3 (hH.1 a hkd.1).2)
/-- reading from arrays -/
theorem x_iald (hx : p.tables.exec = Jvm.exec) (hb : c0.code = cc) (hK : KW G s) (hH : HW al G A w H) {a : Nat} (hkd : Kd w a 12) {i : Int32} (hin : vp_in i (wL w a)) (hdg : decode cc pc = .ok (.iaload, 1))
    (kk : W p l e R s m args below meth c0 H locs cells slots Q (F0 m (pc + 1) ls (.int (wX w a i.toNatClampNeg) :: rest))) : W p l e R s m args below meth c0 H locs cells slots Q (F0 m pc ls (.int i :: .ref (gad G a) :: rest)) := by
  have hc := (hH.arr hkd (by omega)).2
  have hr : arW G w a = arrV (gA G 1) (wL w a) (fun j => .int (wX w a j)) := by simp [arW, hkd.2]
  rw [hr] at hc
  have hlt : i.toNatClampNeg < wL w a := Nat.not_le.mp fun q => hin (Or.inr q)
  exact W.iald (v := .int (wX w a i.toNatClampNeg)) hx hb hc (hK.arr (t := 1) (by omega) _ _) (fun q => by cases q) (by rw [arrV_size]; exact hin) (by rw [arrV_read _ _ hlt]) rfl rfl hdg kk
theorem x_lald (hx : p.tables.exec = Jvm.exec) (hb : c0.code = cc) (hK : KW G s) (hH : HW al G A w H) {a : Nat} (hkd : Kd w a 13) {i : Int32} (hin : vp_in i (wL w a)) (hdg : decode cc pc = .ok (.laload, 1))
    (kk : W p l e R s m args below meth c0 H locs cells slots Q (F0 m (pc + 1) ls (.long (wY w a i.toNatClampNeg) :: rest))) : W p l e R s m args below meth c0 H locs cells slots Q (F0 m pc ls (.int i :: .ref (gad G a) :: rest)) := by
  have hc := (hH.arr hkd (by omega)).2
  have hr : arW G w a = arrV (gA G 2) (wL w a) (fun j => .long (wY w a j)) := by simp [arW, hkd.2]
  rw [hr] at hc
  have hlt : i.toNatClampNeg < wL w a := Nat.not_le.mp fun q => hin (Or.inr q)
  exact W.lald (v := .long (wY w a i.toNatClampNeg)) hx hb hc (hK.arr (t := 2) (by omega) _ _) (fun q => by cases q) (by rw [arrV_size]; exact hin) (by rw [arrV_read _ _ hlt]) rfl rfl hdg kk
theorem x_bald (hx : p.tables.exec = Jvm.exec) (hb : c0.code = cc) (hK : KW G s) (hH : HW al G A w H) {a : Nat} (hkd : Kd w a 11 ∨ Kd w a 14) {i : Int32} (hin : vp_in i (wL w a)) (hdg : decode cc pc = .ok (.baload, 1))
    (kk : W p l e R s m args below meth c0 H locs cells slots Q (F0 m (pc + 1) ls (.int (wX w a i.toNatClampNeg) :: rest))) : W p l e R s m args below meth c0 H locs cells slots Q (F0 m pc ls (.int i :: .ref (gad G a) :: rest)) := by
  have hlt : i.toNatClampNeg < wL w a := Nat.not_le.mp fun q => hin (Or.inr q)
  rcases hkd with hkd | hkd
  · have hc := (hH.arr hkd (by omega)).2
    have hr : arW G w a = arrV (gA G 0) (wL w a) (fun j => .int (wX w a j)) := by simp [arW, hkd.2]
    rw [hr] at hc
    exact W.bald (v := .int (wX w a i.toNatClampNeg)) hx hb hc (hK.arr (t := 0) (by omega) _ _) (fun q => by cases q) (by rw [arrV_size]; exact hin) (by rw [arrV_read _ _ hlt]) rfl rfl hdg kk
  · have hc := (hH.arr hkd (by omega)).2
    have hr : arW G w a = arrV (gA G 3) (wL w a) (fun j => .int (wX w a j)) := by simp [arW, hkd.2]
    rw [hr] at hc
    exact W.zald (v := .int (wX w a i.toNatClampNeg)) hx hb hc (hK.arr (t := 3) (by omega) _ _) (fun q => by cases q) (by rw [arrV_size]; exact hin) (by rw [arrV_read _ _ hlt]) rfl rfl hdg kk
theorem x_aald (hx : p.tables.exec = Jvm.exec) (hb : c0.code = cc) (hK : KW G s) (hH : HW al G A w H) {a : Nat} (hkd : Kd w a 15 ∨ Kd w a 16) {i : Int32} (hin : vp_in i (wL w a)) (hdg : decode cc pc = .ok (.aaload, 1))
    (kk : W p l e R s m args below meth c0 H locs cells slots Q (F0 m (pc + 1) ls (cv G (rfv (wZ w a i.toNatClampNeg)) :: rest))) : W p l e R s m args below meth c0 H locs cells slots Q (F0 m pc ls (.int i :: .ref (gad G a) :: rest)) := by
  have hlt : i.toNatClampNeg < wL w a := Nat.not_le.mp fun q => hin (Or.inr q)
  rcases hkd with hkd | hkd
  · have hc := (hH.arr hkd (by omega)).2
    have hr : arW G w a = arrV (gA G 4) (wL w a) (fun j => cv G (rfv (wZ w a j))) := by simp [arW, hkd.2]
    rw [hr] at hc
    exact W.aald (v := cv G (rfv (wZ w a i.toNatClampNeg))) (ty := .object "SharesComing$Ends") hx hb hc (hK.arr (t := 4) (by omega) _ _) rfl (fun q => by cases q) (by rw [arrV_size]; exact hin) (by rw [arrV_read _ _ hlt]) rfl rfl hdg kk
  · have hc := (hH.arr hkd (by omega)).2
    have hr : arW G w a = arrV (gA G 5) (wL w a) (fun j => cv G (rfv (wZ w a j))) := by simp [arW, hkd.2]
    rw [hr] at hc
    exact W.aald (v := cv G (rfv (wZ w a i.toNatClampNeg))) (ty := .object "SharesComing$Sight") hx hb hc (hK.arr (t := 5) (by omega) _ _) rfl (fun q => by cases q) (by rw [arrV_size]; exact hin) (by rw [arrV_read _ _ hlt]) rfl rfl hdg kk
theorem x_alen (hx : p.tables.exec = Jvm.exec) (hb : c0.code = cc) (hK : KW G s) (hH : HW al G A w H) {a c : Nat} (hkd : Kd w a c) (h11 : 11 ≤ c) (hdg : decode cc pc = .ok (.arraylength, 1))
    (kk : W p l e R s m args below meth c0 H locs cells slots Q (F0 m (pc + 1) ls (.int (Int32.ofNat (wL w a)) :: rest))) : W p l e R s m args below meth c0 H locs cells slots Q (F0 m pc ls (.ref (gad G a) :: rest)) := by
  obtain ⟨h17, hc⟩ := hH.arr hkd h11
  have hr : ∃ (t : Nat) (f : Nat → Value), t < 6 ∧ arW G w a = arrV (gA G t) (wL w a) f := by
    unfold arW
    split
    · exact ⟨2, _, by omega, rfl⟩
    · split
      · exact ⟨_, _, by rw [hkd.2]; omega, rfl⟩
      · exact ⟨_, _, by rw [hkd.2]; omega, rfl⟩
  obtain ⟨t, f, ht, hr⟩ := hr
  rw [hr] at hc
  exact W.alen (n := Int32.ofNat (wL w a)) hx hb hc (hK.arr (t := t) ht _ _) (by rw [arrV_size]) rfl rfl hdg kk
/-- writing into arrays -/
theorem x_iast (hx : p.tables.exec = Jvm.exec) (hb : c0.code = cc) (hK : KW G s) (hH : HW al G A w H) (hS : va_S A H0 H locs) {a : Nat} (hkd : Kd w a 12) {i x : Int32} (hin : vp_in i (wL w a)) (hdg : decode cc pc = .ok (.iastore, 1))
    (kk : ∀ (H1 : Heap) (locs1 : List Loc), HW al G A (uX w a i.toNatClampNeg x) H1 → va_S A H0 H1 locs1 → W p l e R s m args below meth c0 H1 locs1 cells slots Q (F0 m (pc + 1) ls rest)) : W p l e R s m args below meth c0 H locs cells slots Q (F0 m pc ls (.int x :: .int i :: .ref (gad G a) :: rest)) := by
  have hc := (hH.arr hkd (by omega)).2
  have hr : arW G w a = arrV (gA G 1) (wL w a) (fun j => .int (wX w a j)) := by simp [arW, hkd.2]
  rw [hr] at hc
  refine W.iast hx hb hc (hK.arr (t := 1) (by omega) _ _) (fun q => by cases q) (by rw [arrV_size]; exact hin) rfl rfl hdg fun H1 e1 z oq => ?_
  refine kk H1 _ (hH.upd (a := a) rfl z oq (Or.inr ⟨by show 11 ≤ wK w a; rw [hkd.2]; omega, by show wK w a < 17; rw [hkd.2]; omega, ?_⟩) (fun _ _ _ => rfl) (fun _ _ _ _ _ => rfl) (fun b _ hb => arW_uX hb)) (hS.put z oq (hH.1 a hkd.1).2)
  rw [e1, arrV_store]
  have hr2 : arW G (uX w a i.toNatClampNeg x) a = arrV (gA G 1) (wL w a) (fun j => .int (wX (uX w a i.toNatClampNeg x) a j)) := by
    have : wK (uX w a i.toNatClampNeg x) a = 12 := hkd.2
    simp only [arW, this]
    rfl
  rw [hr2]
  congr 2
  funext q
  by_cases hq : q = i.toNatClampNeg
  · subst hq
    simp [updV, wX, uX, u2]
  · simp [updV, wX, uX, u2, hq]
theorem x_last (hx : p.tables.exec = Jvm.exec) (hb : c0.code = cc) (hK : KW G s) (hH : HW al G A w H) (hS : va_S A H0 H locs) {a : Nat} (hkd : Kd w a 13) {i : Int32} {x : Int64} (hin : vp_in i (wL w a)) (hdg : decode cc pc = .ok (.lastore, 1))
    (kk : ∀ (H1 : Heap) (locs1 : List Loc), HW al G A (uY w a i.toNatClampNeg x) H1 → va_S A H0 H1 locs1 → W p l e R s m args below meth c0 H1 locs1 cells slots Q (F0 m (pc + 1) ls rest)) : W p l e R s m args below meth c0 H locs cells slots Q (F0 m pc ls (.long x :: .int i :: .ref (gad G a) :: rest)) := by
  have hc := (hH.arr hkd (by omega)).2
  have hr : arW G w a = arrV (gA G 2) (wL w a) (fun j => .long (wY w a j)) := by simp [arW, hkd.2]
  rw [hr] at hc
  refine W.last hx hb hc (hK.arr (t := 2) (by omega) _ _) (fun q => by cases q) (by rw [arrV_size]; exact hin) rfl rfl hdg fun H1 e1 z oq => ?_
  refine kk H1 _ (hH.upd (a := a) rfl z oq (Or.inr ⟨by show 11 ≤ wK w a; rw [hkd.2]; omega, by show wK w a < 17; rw [hkd.2]; omega, ?_⟩) (fun _ _ _ => rfl) (fun _ _ _ _ _ => rfl) (fun b _ hb => arW_uY hb)) (hS.put z oq (hH.1 a hkd.1).2)
  rw [e1, arrV_store]
  have hr2 : arW G (uY w a i.toNatClampNeg x) a = arrV (gA G 2) (wL w a) (fun j => .long (wY (uY w a i.toNatClampNeg x) a j)) := by
    have : wK (uY w a i.toNatClampNeg x) a = 13 := hkd.2
    simp only [arW, this]
    rfl
  rw [hr2]
  congr 2
  funext q
  by_cases hq : q = i.toNatClampNeg
  · subst hq
    simp [updV, wY, uY, u2]
  · simp [updV, wY, uY, u2, hq]
theorem x_bast (hx : p.tables.exec = Jvm.exec) (hb : c0.code = cc) (hK : KW G s) (hH : HW al G A w H) (hS : va_S A H0 H locs) {a : Nat} {ty : FieldType} (hkd : (Kd w a 11 ∧ ty = .byte) ∨ (Kd w a 14 ∧ ty = .boolean)) {i x : Int32} (hin : vp_in i (wL w a)) (hdg : decode cc pc = .ok (.bastore, 1))
    (kk : ∀ (H1 : Heap) (locs1 : List Loc), HW al G A (uX w a i.toNatClampNeg (vp_nar ty x)) H1 → va_S A H0 H1 locs1 → W p l e R s m args below meth c0 H1 locs1 cells slots Q (F0 m (pc + 1) ls rest)) : W p l e R s m args below meth c0 H locs cells slots Q (F0 m pc ls (.int x :: .int i :: .ref (gad G a) :: rest)) := by
  rcases hkd with ⟨hkd, rfl⟩ | ⟨hkd, rfl⟩
  · have hc := (hH.arr hkd (by omega)).2
    have hr : arW G w a = arrV (gA G 0) (wL w a) (fun j => .int (wX w a j)) := by simp [arW, hkd.2]
    rw [hr] at hc
    refine W.bast hx hb hc (hK.arr (t := 0) (by omega) _ _) (fun q => by cases q) (by rw [arrV_size]; exact hin) rfl rfl hdg fun H1 e1 z oq => ?_
    refine kk H1 _ (hH.upd (a := a) rfl z oq (Or.inr ⟨by show 11 ≤ wK w a; rw [hkd.2]; omega, by show wK w a < 17; rw [hkd.2]; omega, ?_⟩) (fun _ _ _ => rfl) (fun _ _ _ _ _ => rfl) (fun b _ hb => arW_uX hb)) (hS.put z oq (hH.1 a hkd.1).2)
    rw [e1, arrV_store]
    have hr2 : arW G (uX w a i.toNatClampNeg (vp_nar .byte x)) a = arrV (gA G 0) (wL w a) (fun j => .int (wX (uX w a i.toNatClampNeg (vp_nar .byte x)) a j)) := by
      have : wK (uX w a i.toNatClampNeg (vp_nar .byte x)) a = 11 := hkd.2
      simp only [arW, this]
      rfl
    rw [hr2]
    congr 2
    funext q
    by_cases hq : q = i.toNatClampNeg
    · subst hq
      simp [updV, wX, uX, u2, vp_nar, narrow]
    · simp [updV, wX, uX, u2, hq]
  · have hc := (hH.arr hkd (by omega)).2
    have hr : arW G w a = arrV (gA G 3) (wL w a) (fun j => .int (wX w a j)) := by simp [arW, hkd.2]
    rw [hr] at hc
    refine W.zast hx hb hc (hK.arr (t := 3) (by omega) _ _) (fun q => by cases q) (by rw [arrV_size]; exact hin) rfl rfl hdg fun H1 e1 z oq => ?_
    refine kk H1 _ (hH.upd (a := a) rfl z oq (Or.inr ⟨by show 11 ≤ wK w a; rw [hkd.2]; omega, by show wK w a < 17; rw [hkd.2]; omega, ?_⟩) (fun _ _ _ => rfl) (fun _ _ _ _ _ => rfl) (fun b _ hb => arW_uX hb)) (hS.put z oq (hH.1 a hkd.1).2)
    rw [e1, arrV_store]
    have hr2 : arW G (uX w a i.toNatClampNeg (vp_nar .boolean x)) a = arrV (gA G 3) (wL w a) (fun j => .int (wX (uX w a i.toNatClampNeg (vp_nar .boolean x)) a j)) := by
      have : wK (uX w a i.toNatClampNeg (vp_nar .boolean x)) a = 14 := hkd.2
      simp only [arW, this]
      rfl
    rw [hr2]
    congr 2
    funext q
    by_cases hq : q = i.toNatClampNeg
    · subst hq
      simp [updV, wX, uX, u2, vp_nar, narrow]
    · simp [updV, wX, uX, u2, hq]
end MROW
end
section
/-! NEW objects and arrays, on the machine. -/
theorem cl_n4 : ∀ (c : Nat) (r : vw_C), vwCl[c]? = some r → ∀ k, k < r.2.2 → fty c k ≠ 4 := by
  intro c r h
  match c, h with
  | 0, h => cases h; decide
  | 1, h => cases h; decide
  | 2, h => cases h; decide
  | 3, h => cases h; decide
  | 4, h => cases h; decide
  | 5, h => cases h; decide
  | 6, h => cases h; decide
  | 7, h => cases h; decide
  | 8, h => cases h; decide
  | 9, h => cases h; decide
  | 10, h => cases h; decide
  | c + 11, h => simp [vwCl] at h
theorem nO_def {G : Gc} {w : Wd} {c n k : Nat} (h : fty c k ≠ 4) : fV G (nO w c n) (wN w) c k = defaultValue (tyc c k) := by
  have e1 : wJ (nO w c n) (wN w) k = 0 := by simp [wJ, nO, ur]
  have e2 : wR (nO w c n) (wN w) k = none := by simp [wR, nO, ur]
  have e3 : wI (nO w c n) (wN w) k = 0 := by simp [wI, nO, ur]
  simp only [fV, gV, e1, e2, e3]
  unfold fty at h ⊢
  cases ht : tyc c k <;> rw [ht] at h <;> simp at h <;> rfl
theorem HW.fresh {al : Bool} {G : Gc} {A : Nat → Prop} {w w' : Wd} {H H1 : Heap} (h : HW al G A w H) (hal : al = true) (hN : wN w' = wN w + 1) (z : H1.size = H.size + 1) (oq : ∀ q, q < H.size → H1[q]? = H[q]?) (hat : atW G w' (wN w) H1) (hK : ∀ b, b < wN w → wK w' b = wK w b) (hf : ∀ b, b < wN w → ∀ c k, fV G w' b c k = fV G w b c k) (hr : ∀ b, b < wN w → arW G w' b = arW G w b) : HW al G A w' H1 := by
  obtain ⟨h1, h2, h3⟩ := h.2.2 hal
  refine ⟨fun b hb => ?_, h.2.1, fun _ => ⟨?_, fun n hn => h2 n (by omega), fun q hq => h3 q (by omega)⟩⟩
  · rw [hN] at hb
    by_cases hba : b = wN w
    · subst hba
      exact ⟨hat, h3 _ (by rw [h1]; exact Nat.le_refl _)⟩
    · have hb' : b < wN w := by omega
      refine ⟨?_, (h.1 b hb').2⟩
      have lt : gad G b < H.size := by
        rcases (h.1 b hb').1 with ⟨r, -, cell, g1, -⟩ | ⟨-, -, g1⟩
        · exact (Array.getElem?_eq_some_iff.mp g1).1
        · exact (Array.getElem?_eq_some_iff.mp g1).1
      have hq : H1[gad G b]? = H[gad G b]? := oq _ lt
      rcases (h.1 b hb').1 with ⟨r, g1, g2⟩ | ⟨g1, g2, g3⟩
      · left
        refine ⟨r, by rw [hK b hb']; exact g1, ?_⟩
        rw [hK b hb']
        exact (g2.kept hq).to (fun k _ => (hf b hb' _ k).symm)
      · right
        rw [hK b hb', hr b hb']
        exact ⟨g1, g2, hq.trans g3⟩
  · rw [hN, h2 _ (Nat.le_refl _), z, h1]
theorem va_S.push {A : Nat → Prop} {H0 H H1 : Heap} {locs : List Loc} (hS : va_S A H0 H locs) (z : H1.size = H.size + 1) (oq : ∀ q, q < H.size → H1[q]? = H[q]?) : va_S A H0 H1 locs := ⟨Nat.le_trans hS.1 (by omega), fun x h1 h2 => (oq x (Nat.lt_of_lt_of_le h1 hS.1)).trans (hS.2.1 x h1 h2), hS.2.2⟩
theorem fV_nO {G : Gc} {w : Wd} {c n b : Nat} (h : b < wN w) (c' k : Nat) : fV G (nO w c n) b c' k = fV G w b c' k := by
  have hne : b ≠ wN w := Nat.ne_of_lt h
  simp only [fV, gV, wJ, wR, wI, nO, ur, hne, if_false]
theorem arW_nO {G : Gc} {w : Wd} {c n b : Nat} (h : b < wN w) : arW G (nO w c n) b = arW G w b := by
  have hne : b ≠ wN w := Nat.ne_of_lt h
  have e1 : wK (nO w c n) b = wK w b := by simp [wK, nO, u1, hne]
  unfold arW
  rw [e1]
  rfl
theorem fV_nA {G : Gc} {w : Wd} {t n b c k : Nat} : fV G (nA w t n) b c k = fV G w b c k := rfl
theorem arW_nA {G : Gc} {w : Wd} {t n b : Nat} (h : b < wN w) : arW G (nA w t n) b = arW G w b := by
  have hne : b ≠ wN w := Nat.ne_of_lt h
  have e1 : wK (nA w t n) b = wK w b := by simp [wK, nA, u1, hne]
  have e2 : wL (nA w t n) b = wL w b := by simp [wL, nA, u1, hne]
  have e3 : ∀ j, wX (nA w t n) b j = wX w b j := fun j => by simp [wX, nA, ur, hne]
  have e4 : ∀ j, wY (nA w t n) b j = wY w b j := fun j => by simp [wY, nA, ur, hne]
  have e5 : ∀ j, wZ (nA w t n) b j = wZ w b j := fun j => by simp [wZ, nA, ur, hne]
  unfold arW
  rw [e1, e2]
  simp only [e3, e4, e5]
/-- the kind of an array of numbers -/
def akd (t : ArrayType) : Option Nat := match t with
  | .byte => some 11
  | .int => some 12
  | .long => some 13
  | .boolean => some 14
  | _ => none
def abt (k : Nat) : Nat := if k = 12 then 4 else if k = 13 then 8 else 1
section MNEW
variable {p : Program} {l : Launch} {e : Env} {R : Room} {s : State} {m : MethodId} {args : Array Value} {below : List Frame} {meth : Method} {c0 : Code} {H : Heap} {locs : List Loc} {cells slots : Nat} {Q : State → Prop}
variable {cc : ByteArray} {G : Gc} {pc : Nat} {ls : Array Slot} {rest : List Value} {A : Nat → Prop} {w : Wd} {H0 : Heap} {Ts : List Cond} {own : String}
theorem x_new (hx : p.tables.exec = Jvm.exec) (hb : c0.code = cc) (hts : ∀ w ∈ Ts, w.before args s = true) (hin : inCl Ts) (hown : s.vm.findClass own = some m.cls) (hK : KW G s) (hH : HW true G A w H) (hS : va_S A H0 H locs) {c i : Nat} {r : vw_C} (hc : vwCl[c]? = some r)
    (hlink : (Cond.classLink own i r.1).before args s = true) (hinst : (Cond.instantiable r.1 r.2.2).before args s = true) (hini : (Cond.initialized r.1).before args s = true) (hcells : cells + 1 ≤ R.cells) (hslots : slots + r.2.2 ≤ R.slots) (hdg : decode cc pc = .ok (.new i, 3))
    (kk : ∀ H1 : Heap, HW true G A (nO w c r.2.2) H1 → va_S A H0 H1 locs → W p l e R s m args below meth c0 H1 locs (cells + 1) (slots + r.2.2) Q (F0 m (pc + 3) ls (.ref (gad G (wN w)) :: rest))) : W p l e R s m args below meth c0 H locs cells slots Q (F0 m pc ls rest) := by
  have hKn := hK.1 c _ hc
  obtain ⟨hty, -⟩ := cl_ty c r hc
  obtain ⟨s1, -, -⟩ := hH.2.2 rfl
  refine W.newcK hx hb hown hlink hinst hini rfl hdg hcells hslots hKn.2.1 s1 fun H1 kC hkC e1 z1 o1 => ?_
  rw [← s1] at z1 o1
  refine kk H1 (hH.fresh rfl rfl z1 o1 (Or.inl ⟨r, ?_, ?_⟩) (fun b hb' => ?_) (fun b hb' => fV_nO hb') (fun b hb' => arW_nO hb')) (hS.push z1 o1)
  · show vwCl[u1 w.2.2.1 (wN w) c (wN w)]? = some r
    rw [show u1 w.2.2.1 (wN w) c (wN w) = c by simp [u1]]
    exact hc
  · have e0 : wK (nO w c r.2.2) (wN w) = c := by simp [wK, nO, u1]
    rw [e0]
    exact (u_born (tyc c) hts (hin c r hc) hKn hkC e1 hty).to (fun k hk => (nO_def (cl_n4 c r hc k hk)).symm)
  · have hne : b ≠ wN w := Nat.ne_of_lt hb'
    simp [wK, nO, u1, hne]
theorem x_newa (hx : p.tables.exec = Jvm.exec) (hb : c0.code = cc) (hK : KW G s) (hH : HW true G A w H) (hS : va_S A H0 H locs) {t : ArrayType} {k : Nat} (ht : akd t = some k) (harr : (Cond.arrayClass (newarray.typeOf t)).before args s = true) {n : Int32} (hn : ¬ n < 0) (hbytes : n.toNatClampNeg * abt k ≤ 536870912) (hcells : cells + 1 ≤ R.cells) (hslots : slots + n.toNatClampNeg ≤ R.slots) (hdg : decode cc pc = .ok (.newarray t, 2))
    (kk : ∀ H1 : Heap, HW true G A (nA w k n.toNatClampNeg) H1 → va_S A H0 H1 locs → W p l e R s m args below meth c0 H1 locs (cells + 1) (slots + n.toNatClampNeg) Q (F0 m (pc + 2) ls (.ref (gad G (wN w)) :: rest))) : W p l e R s m args below meth c0 H locs cells slots Q (F0 m pc ls (.int n :: rest)) := by
  obtain ⟨s1, -, -⟩ := hH.2.2 rfl
  have hk : 11 ≤ k ∧ k < 15 := by cases t <;> cases ht <;> omega
  have hbt : componentBytes (newarray.typeOf t) = abt k := by cases t <;> cases ht <;> rfl
  refine va_newaK hx hb harr rfl hdg rfl hn rfl (by rw [hbt]; exact hbytes) hcells hslots s1 fun H1 cA e1 z1 o1 hAr hNm => ?_
  rw [← s1] at z1 o1
  have e0 : wK (nA w k n.toNatClampNeg) (wN w) = k := by simp [wK, nA, u1]
  have e2 : wL (nA w k n.toNatClampNeg) (wN w) = n.toNatClampNeg := by simp [wL, nA, u1]
  refine kk H1 (hH.fresh rfl rfl z1 o1 (Or.inr ⟨by rw [e0]; omega, by rw [e0]; omega, ?_⟩) (fun b hb' => ?_) (fun b hb' _ _ => rfl) (fun b hb' => arW_nA hb')) (hS.push z1 o1)
  · rw [e1]
    have e3 : ∀ j, wX (nA w k n.toNatClampNeg) (wN w) j = 0 := fun j => by simp [wX, nA, ur]
    have e4 : ∀ j, wY (nA w k n.toNatClampNeg) (wN w) j = 0 := fun j => by simp [wY, nA, ur]
    have key : cA = gA G (k - 11) ∧ arW G (nA w k n.toNatClampNeg) (wN w) = arrV (gA G (k - 11)) n.toNatClampNeg (fun _ => defaultValue (newarray.typeOf t)) := by
      unfold arW
      simp only [e0, e2, e3, e4]
      cases t <;> cases ht
      · exact ⟨Option.some.inj (hNm.symm.trans (hK.2 3 _ rfl).2), rfl⟩
      · exact ⟨Option.some.inj (hNm.symm.trans (hK.2 0 _ rfl).2), rfl⟩
      · exact ⟨Option.some.inj (hNm.symm.trans (hK.2 1 _ rfl).2), rfl⟩
      · exact ⟨Option.some.inj (hNm.symm.trans (hK.2 2 _ rfl).2), rfl⟩
    rw [key.2, key.1]
  · have hne : b ≠ wN w := Nat.ne_of_lt hb'
    simp [wK, nA, u1, hne]
/-- arrays of Ends (15) and of Sights (16) -/
theorem x_anew (hx : p.tables.exec = Jvm.exec) (hb : c0.code = cc) (hown : s.vm.findClass own = some m.cls) (hK : KW G s) (hH : HW true G A w H) (hS : va_S A H0 H locs) {i k : Nat} (hk : k = 15 ∨ k = 16) {C : String} (hC : arty (k - 11) = .object C) (hlink : (Cond.classLink own i C).before args s = true) (hover : (Cond.arrayOver (.object C)).before args s = true) {n : Int32} (hn : ¬ n < 0) (hbytes : n.toNatClampNeg * 4 ≤ 536870912) (hcells : cells + 1 ≤ R.cells) (hslots : slots + n.toNatClampNeg ≤ R.slots) (hdg : decode cc pc = .ok (.anewarray i, 3))
    (kk : ∀ H1 : Heap, HW true G A (nA w k n.toNatClampNeg) H1 → va_S A H0 H1 locs → W p l e R s m args below meth c0 H1 locs (cells + 1) (slots + n.toNatClampNeg) Q (F0 m (pc + 3) ls (.ref (gad G (wN w)) :: rest))) : W p l e R s m args below meth c0 H locs cells slots Q (F0 m pc ls (.int n :: rest)) := by
  obtain ⟨s1, -, -⟩ := hH.2.2 rfl
  refine W.anew hx hb hown hlink hover rfl hdg rfl hn hbytes hcells hslots fun cA kA comp f1 f2 f3 f4 => ?_
  generalize hH1 : H.push ({ cls := cA, slots := Array.replicate n.toNatClampNeg .null, vm := .none } : Cell) = H1
  have z1 : H1.size = H.size + 1 := by rw [← hH1, Array.size_push]
  have e1 : H1[H.size]? = some (arrV cA n.toNatClampNeg (fun _ => .null)) := by rw [← hH1, Array.getElem?_push_size, ← arrV_new]
  have o1 : ∀ q : Nat, q < H.size → H1[q]? = H[q]? := fun q hq => by rw [← hH1, Array.getElem?_push, if_neg (Nat.ne_of_lt hq)]
  have e0 : wK (nA w k n.toNatClampNeg) (wN w) = k := by simp [wK, nA, u1]
  have e2 : wL (nA w k n.toNatClampNeg) (wN w) = n.toNatClampNeg := by simp [wL, nA, u1]
  have e3 : ∀ j, wZ (nA w k n.toNatClampNeg) (wN w) j = none := fun j => by simp [wZ, nA, ur]
  have hcA : cA = gA G (k - 11) := by
    rcases hk with rfl | rfl
    · have hC' : C = "SharesComing$Ends" := by simpa [arty] using hC.symm
      subst hC'
      obtain ⟨_, _, -, -, -, h4⟩ := (hK.2 4 _ rfl).2
      exact Option.some.inj (f1.symm.trans h4)
    · have hC' : C = "SharesComing$Sight" := by simpa [arty] using hC.symm
      subst hC'
      obtain ⟨_, _, -, -, -, h4⟩ := (hK.2 5 _ rfl).2
      exact Option.some.inj (f1.symm.trans h4)
  rw [s1]
  refine kk H1 (hH.fresh rfl rfl z1 o1 (Or.inr ⟨by rw [e0]; omega, by rw [e0]; omega, ?_⟩) (fun b hb' => ?_) (fun b hb' _ _ => rfl) (fun b hb' => arW_nA hb')) (hS.push z1 o1)
  · rw [← s1, e1, hcA]
    unfold arW
    simp only [e0, e2, e3]
    rcases hk with rfl | rfl <;> rfl
  · have hne : b ≠ wN w := Nat.ne_of_lt hb'
    simp [wK, nA, u1, hne]
theorem x_aast {al : Bool} (hx : p.tables.exec = Jvm.exec) (hb : c0.code = cc) (hK : KW G s) (hH : HW al G A w H) (hS : va_S A H0 H locs) {a v : Nat} (hkd : (Kd w a 15 ∧ Kd w v 1) ∨ (Kd w a 16 ∧ Kd w v 5)) {i : Int32} (hin : vp_in i (wL w a)) (hdg : decode cc pc = .ok (.aastore, 1))
    (kk : ∀ (H1 : Heap) (locs1 : List Loc), HW al G A (uZ w a i.toNatClampNeg (some v)) H1 → va_S A H0 H1 locs1 → W p l e R s m args below meth c0 H1 locs1 cells slots Q (F0 m (pc + 1) ls rest)) : W p l e R s m args below meth c0 H locs cells slots Q (F0 m pc ls (.ref (gad G v) :: .int i :: .ref (gad G a) :: rest)) := by
  have hlt : i.toNatClampNeg < wL w a := Nat.not_le.mp fun q => hin (Or.inr q)
  have h0 : ¬ i < 0 := fun q => hin (Or.inl q)
  have go : ∀ (t cv0 : Nat) (C : String) (r : vw_C), t = 4 ∨ t = 5 → Kd w a (t + 11) → Kd w v cv0 → vwCl[cv0]? = some r → (tysG G)[t]? = some (gA G t, .object r.1) → W p l e R s m args below meth c0 H locs cells slots Q (F0 m pc ls (.ref (gad G v) :: .int i :: .ref (gad G a) :: rest)) := by
    intro t cv0 C r ht hka hkv hr htt
    have hc := (hH.arr hka (by omega)).2
    have hra : arW G w a = arrV (gA G t) (wL w a) (fun j => cv G (rfv (wZ w a j))) := by
      have := hka.2
      rcases ht with rfl | rfl <;> simp [arW, this]
    rw [hra] at hc
    obtain ⟨cellV, g1, g2, g3, -⟩ := hH.obj hkv hr
    have hcls := (hK.1 cv0 r hr).2
    obtain ⟨kA, comp, k1, k2, k3, -⟩ := (hK.2 t _ htt).2
    have hcomp : comp = (gD G).1 cv0 := Option.some.inj (k3.symm.trans hcls.1)
    subst hcomp
    obtain ⟨kC, hkC, -⟩ := hcls.2
    refine W.aast hx hb hc (fun q h => by cases h) (fun h => by cases h) k1 k2 rfl hkC ⟨h0, by rw [arrV_size]; exact hlt⟩ g1 (fun q h => by rw [g3] at h; cases h) (by rw [g2]; exact hkC) (by rw [g2]; exact va_assign hcls) rfl rfl hdg fun H1 e1 z oq => ?_
    refine kk H1 _ (hH.upd (a := a) rfl z oq (Or.inr ⟨by show 11 ≤ wK w a; rw [hka.2]; omega, by show wK w a < 17; rw [hka.2]; omega, ?_⟩) (fun _ _ _ => rfl) (fun _ _ _ _ _ => rfl) (fun b _ hb => arW_uZ hb)) (hS.put z oq (hH.1 a hka.1).2)
    rw [e1, arrV_store]
    have hr2 : arW G (uZ w a i.toNatClampNeg (some v)) a = arrV (gA G t) (wL w a) (fun j => cv G (rfv (wZ (uZ w a i.toNatClampNeg (some v)) a j))) := by
      have : wK (uZ w a i.toNatClampNeg (some v)) a = t + 11 := hka.2
      rcases ht with rfl | rfl <;> (simp only [arW, this]; rfl)
    rw [hr2]
    congr 2
    funext q
    by_cases hq : q = i.toNatClampNeg
    · subst hq
      simp [updV, wZ, uZ, u2, rfv, cv]
    · simp [updV, wZ, uZ, u2, hq]
  rcases hkd with ⟨h1, h2⟩ | ⟨h1, h2⟩
  · exact go 4 1 "" _ (Or.inl rfl) h1 h2 rfl rfl
  · exact go 5 5 "" _ (Or.inr rfl) h1 h2 rfl rfl
end MNEW
end
section
/-! TABLES of the program, by number: classes, methods, links, constants (printed of the program). -/
def lk {α : Type} : List (Nat × α) → Nat → Option α
  | [], _ => none
  | e :: l, i => if e.1 = i then some e.2 else lk l i
theorem lk_mem {α : Type} : ∀ {l : List (Nat × α)} {i : Nat} {v : α}, lk l i = some v → (i, v) ∈ l
  | [], _, _, h => by cases h
  | e :: l, i, v, h => by
    unfold lk at h
    by_cases hq : e.1 = i
    · rw [if_pos hq] at h
      cases h
      rw [← hq]
      exact List.mem_cons_self
    · rw [if_neg hq] at h
      exact List.mem_cons_of_mem _ (lk_mem h)
/-- tables with an owner and an index -/
def lo {α : Type} : List (Nat × Nat × α) → Nat → Nat → Option α
  | [], _, _ => none
  | e :: l, o, i => if e.1 = o then (if e.2.1 = i then some e.2.2 else lo l o i) else lo l o i
theorem lo_mem {α : Type} : ∀ {l : List (Nat × Nat × α)} {o i : Nat} {v : α}, lo l o i = some v → (o, i, v) ∈ l
  | [], _, _, _, h => by cases h
  | e :: l, o, i, v, h => by
    unfold lo at h
    by_cases ho : e.1 = o
    · rw [if_pos ho] at h
      by_cases hq : e.2.1 = i
      · rw [if_pos hq] at h
        cases h
        rw [← hq, ← ho]
        exact List.mem_cons_self
      · rw [if_neg hq] at h
        exact List.mem_cons_of_mem _ (lo_mem h)
    · rw [if_neg ho] at h
      exact List.mem_cons_of_mem _ (lo_mem h)
def allP {α : Type} (P : α → Prop) : List α → Prop
  | [] => True
  | a :: l => P a ∧ allP P l
theorem allP_mem {α : Type} {P : α → Prop} : ∀ {l : List α}, allP P l → ∀ a ∈ l, P a
  | [], _, a, h => absurd h List.not_mem_nil
  | b :: l, hp, a, h => by
    rcases List.mem_cons.mp h with rfl | h
    · exact hp.1
    · exact allP_mem hp.2 a h
theorem memP_app {α : Type} {P : α → Prop} {l1 l2 : List α} (h1 : ∀ a ∈ l1, P a) (h2 : ∀ a ∈ l2, P a) : ∀ a ∈ l1 ++ l2, P a := fun a h => (List.mem_append.mp h).elim (h1 a) (h2 a)
def tq (q : Nat) : List Cond := match q with
  | 0 => k2_sels lw_privs
  | 1 => tables_1_1
  | 2 => tables_1_2
  | 3 => tables_1_3
  | 4 => tables_1_4
  | 5 => tables_1_5
  | 6 => tables_1_6
  | 7 => tables_1_7
  | _ => []
theorem tq_in {q : Nat} {w : Cond} (h : w ∈ tq q) : w ∈ lw_tbl := by
  unfold lw_tbl tables_1
  match q, h with
  | 0, h => exact List.mem_append_left _ h
  | 1, h => exact List.mem_append_right _ (List.mem_append_left _ h)
  | 2, h => exact List.mem_append_right _ (List.mem_append_right _ (List.mem_append_left _ h))
  | 3, h => exact List.mem_append_right _ (List.mem_append_right _ (List.mem_append_right _ (List.mem_append_left _ h)))
  | 4, h => exact List.mem_append_right _ (List.mem_append_right _ (List.mem_append_right _ (List.mem_append_right _ (List.mem_append_left _ h))))
  | 5, h => exact List.mem_append_right _ (List.mem_append_right _ (List.mem_append_right _ (List.mem_append_right _ (List.mem_append_right _ (List.mem_append_left _ h)))))
  | 6, h => exact List.mem_append_right _ (List.mem_append_right _ (List.mem_append_right _ (List.mem_append_right _ (List.mem_append_right _ (List.mem_append_right _ (List.mem_append_left _ h))))))
  | 7, h => exact List.mem_append_right _ (List.mem_append_right _ (List.mem_append_right _ (List.mem_append_right _ (List.mem_append_right _ (List.mem_append_right _ (List.mem_append_right _ h))))))
  | q + 8, h => exact absurd h List.not_mem_nil
def WL : List Cond := lw_tbl.filter goodWord
theorem WL_of {q j : Nat} {w : Cond} (h : (tq q)[j]? = some w) (hg : goodWord w = true) : w ∈ WL := List.mem_filter.mpr ⟨tq_in (List.mem_of_getElem? h), hg⟩
theorem WL_good {w : Cond} (h : w ∈ WL) : goodWord w = true := (List.mem_filter.mp h).2
theorem WL_tbl {w : Cond} (h : w ∈ WL) : w ∈ lw_tbl := (List.mem_filter.mp h).1
def oN (i : Nat) : String := (["SharesComing$Book", "SharesComing$Ends", "SharesComing$Ranks", "SharesComing$Reader", "SharesComing$Rows", "SharesComing$Sight", "SharesComing$Table", "SharesComing$Ways", "SharesComing$Will", "SharesComing", "SharesComingModel", "SharesComing$Goals", "SharesComing$State", "SharesComingLaw", "java/lang/Integer", "java/lang/Math", "java/lang/String", "java/lang/StringLatin1", "java/util/Arrays", "jdk/internal/util/Preconditions", "java/lang/StringUTF16"] : List String).getD i ""
def mtab_0 : List (MethodName × ByteArray × Nat × Option FieldType × Nat × Nat × Nat) := [(⟨"SharesComing", "<init>", "()V"⟩, prog_1_method_1_code, 1, none, 9, 0, 2),
  (⟨"SharesComing$Reader", "<init>", "([B)V"⟩, prog_6_method_1_code, 2, none, 3, 1, 2),
  (⟨"SharesComing$Will", "<init>", "()V"⟩, prog_12_method_1_code, 1, none, 8, 0, 2),
  (⟨"SharesComing$Book", "<init>", "(LSharesComing$Will;)V"⟩, prog_2_method_1_code, 5, none, 0, 1, 2),
  (⟨"SharesComing$Ranks", "<init>", "()V"⟩, prog_5_method_1_code, 2, none, 2, 0, 2),
  (⟨"SharesComing$Ranks", "numberAmounts", "([I[I[I)V"⟩, prog_5_method_2_code, 9, none, 2, 3, 0),
  (⟨"java/util/Arrays", "fill", "([II)V"⟩, prog_20_method_103_code, 4, none, 18, 2, 0),
  (⟨"SharesComing$Ranks", "sumUp", "([I[I[I[I)V"⟩, prog_5_method_3_code, 7, none, 2, 4, 0),
  (⟨"SharesComing$Rows", "<init>", "(LSharesComing$Will;LSharesComing$Ranks;)V"⟩, prog_7_method_1_code, 3, none, 4, 2, 2),
  (⟨"SharesComing$Ends", "<init>", "(LSharesComing$Will;LSharesComing$Ranks;ILSharesComing$Ends;)V"⟩, prog_3_method_1_code, 5, none, 1, 4, 2),
  (⟨"SharesComing$Table", "<init>", "()V"⟩, prog_10_method_1_code, 1, none, 6, 0, 2),
  (⟨"SharesComing$Sight", "<init>", "(LSharesComing$Will;LSharesComing$Ranks;ILSharesComing$Ends;)V"⟩, prog_8_method_1_code, 5, none, 5, 4, 2),
  (⟨"SharesComing$Ways", "<init>", "(LSharesComing$Will;LSharesComing$Sight;LSharesComing$Ends;)V"⟩, prog_11_method_1_code, 4, none, 7, 3, 2),
  (⟨"SharesComing", "feed", "(IIIII)I"⟩, prog_1_method_2_code, 6, some FieldType.int, 9, 5, 1),
  (⟨"SharesComing", "addBytes", "(I)V"⟩, prog_1_method_3_code, 3, none, 9, 1, 1),
  (⟨"SharesComing", "end", "(I)Z"⟩, prog_1_method_4_code, 2, some FieldType.boolean, 9, 1, 1)]
def mtab_1 : List (MethodName × ByteArray × Nat × Option FieldType × Nat × Nat × Nat) := [(⟨"SharesComing", "fault", "()I"⟩, prog_1_method_5_code, 1, some FieldType.int, 9, 0, 1),
  (⟨"SharesComing$Reader", "read", "(ILSharesComing$Will;)I"⟩, prog_6_method_2_code, 4, some FieldType.int, 3, 2, 1),
  (⟨"SharesComing$Will", "clear", "()V"⟩, prog_12_method_2_code, 1, none, 8, 0, 1),
  (⟨"SharesComing$Reader", "step", "()V"⟩, prog_6_method_12_code, 1, none, 3, 0, 1),
  (⟨"SharesComing$Reader", "isLetterAt", "(I)Z"⟩, prog_6_method_15_code, 2, some FieldType.boolean, 3, 1, 1),
  (⟨"SharesComing$Reader", "readWord", "()V"⟩, prog_6_method_13_code, 1, none, 3, 0, 1),
  (⟨"SharesComing$Reader", "isDigitAt", "(I)Z"⟩, prog_6_method_16_code, 2, some FieldType.boolean, 3, 1, 1),
  (⟨"SharesComing$Reader", "readNumber", "()V"⟩, prog_6_method_14_code, 1, none, 3, 0, 1),
  (⟨"SharesComing$Will", "early", "()I"⟩, prog_12_method_10_code, 1, some FieldType.int, 8, 0, 1),
  (⟨"SharesComing$Reader", "readPart", "(LSharesComing$Will;)Z"⟩, prog_6_method_3_code, 2, some FieldType.boolean, 3, 1, 1),
  (⟨"SharesComing$Reader", "readHeir", "(LSharesComing$Will;Z)Z"⟩, prog_6_method_4_code, 6, some FieldType.boolean, 3, 2, 1),
  (⟨"SharesComing$Will", "hasRoomForHeir", "()Z"⟩, prog_12_method_3_code, 1, some FieldType.boolean, 8, 0, 1),
  (⟨"SharesComing$Reader", "isName", "()Z"⟩, prog_6_method_11_code, 1, some FieldType.boolean, 3, 0, 1),
  (⟨"SharesComing$Will", "heirNamed", "(J)I"⟩, prog_12_method_6_code, 4, some FieldType.int, 8, 1, 1),
  (⟨"SharesComing$Reader", "isNumber", "(II)Z"⟩, prog_6_method_10_code, 3, some FieldType.boolean, 3, 2, 1),
  (⟨"SharesComing$Will", "putWorth", "(II)V"⟩, prog_12_method_4_code, 3, none, 8, 2, 1)]
def mtab_2 : List (MethodName × ByteArray × Nat × Option FieldType × Nat × Nat × Nat) := [(⟨"SharesComing$Will", "addHeir", "(JZ)V"⟩, prog_12_method_5_code, 4, none, 8, 2, 1),
  (⟨"SharesComing$Reader", "readDay", "(LSharesComing$Will;)Z"⟩, prog_6_method_8_code, 3, some FieldType.boolean, 3, 1, 1),
  (⟨"SharesComing$Will", "hasRoomForDay", "()Z"⟩, prog_12_method_7_code, 1, some FieldType.boolean, 8, 0, 1),
  (⟨"SharesComing$Reader", "readAlt", "(LSharesComing$Will;I)Z"⟩, prog_6_method_9_code, 6, some FieldType.boolean, 3, 2, 1),
  (⟨"SharesComing$Will", "isLate", "(I)Z"⟩, prog_12_method_11_code, 2, some FieldType.boolean, 8, 1, 1),
  (⟨"SharesComing$Will", "putAlt", "(IIII)V"⟩, prog_12_method_8_code, 6, none, 8, 4, 1),
  (⟨"SharesComing$Will", "addDay", "(I)V"⟩, prog_12_method_9_code, 2, none, 8, 1, 1),
  (⟨"SharesComing$Reader", "readHold", "(LSharesComing$Will;)Z"⟩, prog_6_method_5_code, 2, some FieldType.boolean, 3, 1, 1),
  (⟨"SharesComing$Reader", "passSemicolon", "()Z"⟩, prog_6_method_7_code, 1, some FieldType.boolean, 3, 0, 1),
  (⟨"SharesComing$Reader", "readBack", "(LSharesComing$Will;)Z"⟩, prog_6_method_6_code, 2, some FieldType.boolean, 3, 1, 1),
  (⟨"SharesComing", "matter", "()I"⟩, prog_1_method_6_code, 2, some FieldType.int, 9, 0, 1),
  (⟨"SharesComing$Will", "firstState", "()J"⟩, prog_12_method_22_code, 1, some FieldType.long, 8, 0, 1),
  (⟨"SharesComing$Book", "startAnew", "()V"⟩, prog_2_method_2_code, 2, none, 0, 0, 1),
  (⟨"SharesComing$Ranks", "layOut", "(LSharesComing$Will;)V"⟩, prog_5_method_4_code, 5, none, 2, 1, 1),
  (⟨"SharesComing$Ranks", "maskOf", "(LSharesComing$Will;I)I"⟩, prog_5_method_5_code, 5, some FieldType.int, 2, 2, 0),
  (⟨"SharesComing$Will", "mayBringThing", "(I)Z"⟩, prog_12_method_20_code, 3, some FieldType.boolean, 8, 1, 1)]
def mtab_3 : List (MethodName × ByteArray × Nat × Option FieldType × Nat × Nat × Nat) := [(⟨"SharesComing$Will", "alts", "(I)I"⟩, prog_12_method_14_code, 2, some FieldType.int, 8, 1, 1),
  (⟨"SharesComing$Will", "kind", "(II)I"⟩, prog_12_method_17_code, 3, some FieldType.int, 8, 2, 1),
  (⟨"SharesComing$Will", "isAlt", "(II)Z"⟩, prog_12_method_13_code, 3, some FieldType.boolean, 8, 2, 1),
  (⟨"SharesComing$Table", "startAnew", "()V"⟩, prog_10_method_2_code, 1, none, 6, 0, 1),
  (⟨"SharesComing", "heir", "(II)I"⟩, prog_1_method_7_code, 3, some FieldType.int, 9, 2, 1),
  (⟨"SharesComing$Will", "isHeir", "(I)Z"⟩, prog_12_method_12_code, 2, some FieldType.boolean, 8, 1, 1),
  (⟨"SharesComing$State", "isThere", "(JI)Z"⟩, prog_9_method_9_code, 3, some FieldType.boolean, 12, 2, 0),
  (⟨"SharesComing$State", "cameOf", "(J)I"⟩, prog_9_method_8_code, 2, some FieldType.int, 12, 1, 0),
  (⟨"SharesComing$Will", "worth", "(II)I"⟩, prog_12_method_15_code, 3, some FieldType.int, 8, 2, 1),
  (⟨"SharesComing$State", "amount", "(JII)I"⟩, prog_9_method_4_code, 4, some FieldType.int, 12, 3, 0),
  (⟨"SharesComing$Will", "valueOf", "(IJI)I"⟩, prog_12_method_25_code, 10, some FieldType.int, 8, 3, 1),
  (⟨"SharesComing", "alt", "(III)I"⟩, prog_1_method_8_code, 4, some FieldType.int, 9, 3, 1),
  (⟨"SharesComing$Will", "chance", "(II)I"⟩, prog_12_method_16_code, 3, some FieldType.int, 8, 2, 1),
  (⟨"SharesComing$Will", "target", "(II)I"⟩, prog_12_method_18_code, 3, some FieldType.int, 8, 2, 1),
  (⟨"SharesComing", "come", "(I)I"⟩, prog_1_method_9_code, 3, some FieldType.int, 9, 1, 1),
  (⟨"SharesComing$State", "dayOf", "(J)I"⟩, prog_9_method_10_code, 2, some FieldType.int, 12, 1, 0)]
def mtab_4 : List (MethodName × ByteArray × Nat × Option FieldType × Nat × Nat × Nat) := [(⟨"SharesComing$Will", "thing", "(II)I"⟩, prog_12_method_19_code, 3, some FieldType.int, 8, 2, 1),
  (⟨"SharesComing$Will", "passed", "(JII)J"⟩, prog_12_method_23_code, 7, some FieldType.long, 8, 3, 1),
  (⟨"SharesComing", "give", "(I)Z"⟩, prog_1_method_10_code, 2, some FieldType.boolean, 9, 1, 1),
  (⟨"SharesComing$Will", "mayGive", "(JII)Z"⟩, prog_12_method_24_code, 5, some FieldType.boolean, 8, 3, 1),
  (⟨"SharesComing$State", "heldOf", "(J)I"⟩, prog_9_method_6_code, 2, some FieldType.int, 12, 1, 0),
  (⟨"SharesComing$State", "thingsOf", "(JI)I"⟩, prog_9_method_5_code, 3, some FieldType.int, 12, 2, 0),
  (⟨"SharesComing$State", "with", "(JII)J"⟩, prog_9_method_3_code, 4, some FieldType.long, 12, 3, 0),
  (⟨"SharesComing$State", "one", "(II)J"⟩, prog_9_method_2_code, 2, some FieldType.long, 12, 2, 0),
  (⟨"SharesComing", "reached", "(I)I"⟩, prog_1_method_11_code, 2, some FieldType.int, 9, 1, 1),
  (⟨"SharesComing", "canLookAhead", "(I)Z"⟩, prog_1_method_26_code, 2, some FieldType.boolean, 9, 1, 1),
  (⟨"SharesComing", "isGoal", "(I)Z"⟩, prog_1_method_25_code, 1, some FieldType.boolean, 9, 1, 0),
  (⟨"SharesComing", "daysToCome", "()I"⟩, prog_1_method_27_code, 1, some FieldType.int, 9, 0, 1),
  (⟨"SharesComing$Book", "ends", "(II)LSharesComing$Ends;"⟩, prog_2_method_3_code, 5, some (FieldType.object "SharesComing$Ends"), 0, 2, 1),
  (⟨"SharesComing$Ranks", "endPlaces", "()I"⟩, prog_5_method_9_code, 1, some FieldType.int, 2, 0, 1),
  (⟨"SharesComing$Table", "makeReady", "(II)V"⟩, prog_10_method_3_code, 3, none, 6, 2, 1),
  (⟨"java/util/Arrays", "fill", "([JJ)V"⟩, prog_20_method_101_code, 5, none, 18, 2, 0)]
def mtab_5 : List (MethodName × ByteArray × Nat × Option FieldType × Nat × Nat × Nat) := [(⟨"SharesComing$Ends", "value", "(J)J"⟩, prog_3_method_2_code, 6, some FieldType.long, 1, 1, 1),
  (⟨"SharesComing$Ranks", "endPlaceOf", "(J)I"⟩, prog_5_method_12_code, 4, some FieldType.int, 2, 1, 1),
  (⟨"SharesComing$Ranks", "cellPlace", "(JI)I"⟩, prog_5_method_13_code, 7, some FieldType.int, 2, 2, 1),
  (⟨"SharesComing$Ranks", "lateOf", "(J)I"⟩, prog_5_method_6_code, 3, some FieldType.int, 2, 1, 1),
  (⟨"SharesComing$Table", "at", "(I)J"⟩, prog_10_method_4_code, 2, some FieldType.long, 6, 1, 1),
  (⟨"SharesComing$Ends", "find", "(J)J"⟩, prog_3_method_3_code, 4, some FieldType.long, 1, 1, 1),
  (⟨"SharesComing$State", "firstHeld", "(J)I"⟩, prog_9_method_7_code, 3, some FieldType.int, 12, 1, 0),
  (⟨"SharesComing$Ends", "bestHandedOut", "(JI)J"⟩, prog_3_method_4_code, 9, some FieldType.long, 1, 2, 1),
  (⟨"SharesComing$Ends", "bestTakenBack", "(JLSharesComing$Ends;)J"⟩, prog_3_method_5_code, 8, some FieldType.long, 1, 2, 1),
  (⟨"SharesComing$Ends", "bestMoved", "(JIILSharesComing$Ends;)J"⟩, prog_3_method_6_code, 11, some FieldType.long, 1, 4, 1),
  (⟨"SharesComing$Goals", "leastShare", "(LSharesComing$Will;J)I"⟩, prog_4_method_2_code, 9, some FieldType.int, 11, 2, 0),
  (⟨"java/lang/Integer", "bitCount", "(I)I"⟩, prog_15_method_49_code, 1, some FieldType.int, 14, 1, 0),
  (⟨"SharesComing$Goals", "mostLeftOut", "(LSharesComing$Will;J)I"⟩, prog_4_method_3_code, 6, some FieldType.int, 11, 2, 0),
  (⟨"SharesComing$Goals", "leftOut", "(LSharesComing$Will;JII)I"⟩, prog_4_method_4_code, 11, some FieldType.int, 11, 4, 0),
  (⟨"SharesComing$Goals", "sum", "(LSharesComing$Will;J)I"⟩, prog_4_method_5_code, 5, some FieldType.int, 11, 2, 0),
  (⟨"SharesComing$Table", "put", "(IJ)V"⟩, prog_10_method_5_code, 4, none, 6, 2, 1)]
def mtab_6 : List (MethodName × ByteArray × Nat × Option FieldType × Nat × Nat × Nat) := [(⟨"SharesComing", "sure", "(IZ)I"⟩, prog_1_method_12_code, 5, some FieldType.int, 9, 2, 1),
  (⟨"SharesComing", "worthNow", "(II)J"⟩, prog_1_method_28_code, 4, some FieldType.long, 9, 2, 1),
  (⟨"SharesComing$Book", "sight", "(II)LSharesComing$Sight;"⟩, prog_2_method_4_code, 4, some (FieldType.object "SharesComing$Sight"), 0, 2, 1),
  (⟨"SharesComing$Ranks", "dayPlaces", "()I"⟩, prog_5_method_8_code, 1, some FieldType.int, 2, 0, 1),
  (⟨"SharesComing$Sight", "endsBy", "(LSharesComing$Ends;)V"⟩, prog_8_method_2_code, 2, none, 5, 1, 1),
  (⟨"SharesComing$Sight", "worth", "(J)J"⟩, prog_8_method_3_code, 7, some FieldType.long, 5, 1, 1),
  (⟨"SharesComing$Ranks", "placeOf", "(J)I"⟩, prog_5_method_11_code, 5, some FieldType.int, 2, 1, 1),
  (⟨"SharesComing$Sight", "weighed", "(JI)J"⟩, prog_8_method_4_code, 7, some FieldType.long, 5, 2, 1),
  (⟨"SharesComing$Sight", "afterAlt", "(JII)J"⟩, prog_8_method_6_code, 8, some FieldType.long, 5, 3, 1),
  (⟨"SharesComing$Sight", "given", "(JI)J"⟩, prog_8_method_7_code, 7, some FieldType.long, 5, 2, 1),
  (⟨"SharesComing$Sight", "holdable", "()I"⟩, prog_8_method_10_code, 1, some FieldType.int, 5, 0, 1),
  (⟨"SharesComing$Sight", "least", "(JI)J"⟩, prog_8_method_5_code, 7, some FieldType.long, 5, 2, 1),
  (⟨"SharesComing", "thousandths", "(J)I"⟩, prog_1_method_29_code, 6, some FieldType.int, 9, 1, 1),
  (⟨"SharesComing", "best", "(IZ)I"⟩, prog_1_method_13_code, 3, some FieldType.int, 9, 2, 1),
  (⟨"SharesComing$Sight", "bestGift", "(JI)I"⟩, prog_8_method_8_code, 7, some FieldType.int, 5, 2, 1),
  (⟨"SharesComing", "proof", "(II)I"⟩, prog_1_method_14_code, 12, some FieldType.int, 9, 2, 1)]
def mtab_7 : List (MethodName × ByteArray × Nat × Option FieldType × Nat × Nat × Nat) := [(⟨"SharesComing$Sight", "worstAlt", "(JI)I"⟩, prog_8_method_9_code, 7, some FieldType.int, 5, 2, 1),
  (⟨"SharesComing", "known", "(II)I"⟩, prog_1_method_15_code, 3, some FieldType.int, 9, 2, 1),
  (⟨"SharesComing$Rows", "canBe", "(IJ)Z"⟩, prog_7_method_3_code, 6, some FieldType.boolean, 4, 2, 1),
  (⟨"SharesComing$Rows", "digit", "(II)I"⟩, prog_7_method_2_code, 2, some FieldType.int, 4, 2, 0),
  (⟨"SharesComing$Rows", "canHoldGifts", "(IJ)Z"⟩, prog_7_method_4_code, 4, some FieldType.boolean, 4, 2, 1),
  (⟨"SharesComing$Rows", "greatest", "(JILSharesComing$Ends;)J"⟩, prog_7_method_7_code, 9, some FieldType.long, 4, 3, 1),
  (⟨"SharesComing$Rows", "traced", "(JII)J"⟩, prog_7_method_11_code, 8, some FieldType.long, 4, 3, 1),
  (⟨"SharesComing$Rows", "ending", "(JJ)J"⟩, prog_7_method_12_code, 4, some FieldType.long, 4, 2, 0),
  (⟨"SharesComing$Rows", "spread", "(JJIILSharesComing$Ends;)J"⟩, prog_7_method_13_code, 16, some FieldType.long, 4, 5, 1),
  (⟨"SharesComing$Ranks", "cameWith", "(I)I"⟩, prog_5_method_7_code, 2, some FieldType.int, 2, 1, 1),
  (⟨"SharesComing", "cost", "(I)I"⟩, prog_1_method_16_code, 4, some FieldType.int, 9, 1, 1),
  (⟨"SharesComing$Rows", "leastGreatest", "(JLSharesComing$Ends;J)J"⟩, prog_7_method_8_code, 7, some FieldType.long, 4, 3, 1),
  (⟨"SharesComing$Ranks", "allPlaces", "()I"⟩, prog_5_method_10_code, 1, some FieldType.int, 2, 0, 1),
  (⟨"SharesComing$Rows", "walkOn", "(JJLSharesComing$Ends;)V"⟩, prog_7_method_9_code, 8, none, 4, 3, 1),
  (⟨"SharesComing$Rows", "wasWalked", "(I)Z"⟩, prog_7_method_10_code, 3, some FieldType.boolean, 4, 1, 1),
  (⟨"SharesComing", "fare", "(IIZ)I"⟩, prog_1_method_17_code, 6, some FieldType.int, 9, 3, 1)]
def mtab_8 : List (MethodName × ByteArray × Nat × Option FieldType × Nat × Nat × Nat) := [(⟨"SharesComing$Book", "ways", "(IIZ)LSharesComing$Ways;"⟩, prog_2_method_5_code, 4, some (FieldType.object "SharesComing$Ways"), 0, 3, 1),
  (⟨"SharesComing$Ways", "goBy", "(IZLSharesComing$Ends;)V"⟩, prog_11_method_2_code, 4, none, 7, 3, 1),
  (⟨"SharesComing$Ways", "outcome", "(J)J"⟩, prog_11_method_3_code, 14, some FieldType.long, 7, 1, 1),
  (⟨"SharesComing$Ways", "gift", "(JI)I"⟩, prog_11_method_4_code, 6, some FieldType.int, 7, 2, 1),
  (⟨"SharesComing$Ways", "claim", "(JII)I"⟩, prog_11_method_5_code, 5, some FieldType.int, 7, 3, 1),
  (⟨"SharesComing", "mended", "(II)I"⟩, prog_1_method_18_code, 4, some FieldType.int, 9, 2, 1),
  (⟨"SharesComing", "paper", "(II)I"⟩, prog_1_method_19_code, 3, some FieldType.int, 9, 2, 1),
  (⟨"SharesComing$Will", "chancesFrom", "(II)I"⟩, prog_12_method_21_code, 6, some FieldType.int, 8, 2, 1),
  (⟨"SharesComing", "judge", "(II)I"⟩, prog_1_method_20_code, 3, some FieldType.int, 9, 2, 1),
  (⟨"SharesComing$Rows", "firstUnlawful", "(JII)I"⟩, prog_7_method_5_code, 12, some FieldType.int, 4, 3, 1),
  (⟨"SharesComing", "judged", "(III)I"⟩, prog_1_method_21_code, 4, some FieldType.int, 9, 3, 1),
  (⟨"SharesComing$Rows", "stateAfter", "(JII)J"⟩, prog_7_method_6_code, 11, some FieldType.long, 4, 3, 1),
  (⟨"SharesComing", "image", "(I)Z"⟩, prog_1_method_22_code, 2, some FieldType.boolean, 9, 1, 1),
  (⟨"SharesComing", "on", "(I)Z"⟩, prog_1_method_23_code, 2, some FieldType.boolean, 9, 1, 1),
  (⟨"SharesComing", "count", "(I)I"⟩, prog_1_method_24_code, 2, some FieldType.int, 9, 1, 1),
  (⟨"SharesComingModel", "<init>", "()V"⟩, prog_14_method_1_code, 1, none, 10, 0, 2)]
def mtab_9 : List (MethodName × ByteArray × Nat × Option FieldType × Nat × Nat × Nat) := [(⟨"SharesComingModel", "feed", "(IIIII)I"⟩, prog_14_method_3_code, 8, some FieldType.int, 10, 5, 1),
  (⟨"SharesComingModel", "end", "(I)Z"⟩, prog_14_method_4_code, 2, some FieldType.boolean, 10, 1, 1),
  (⟨"SharesComingModel", "in", "(III)Z"⟩, prog_14_method_2_code, 3, some FieldType.boolean, 10, 3, 0),
  (⟨"SharesComingModel", "fault", "()I"⟩, prog_14_method_19_code, 2, some FieldType.int, 10, 0, 1),
  (⟨"SharesComingModel", "next", "()V"⟩, prog_14_method_7_code, 2, none, 10, 0, 1),
  (⟨"SharesComingModel", "isLetter", "(I)Z"⟩, prog_14_method_5_code, 1, some FieldType.boolean, 10, 1, 0),
  (⟨"SharesComingModel", "isDigit", "(I)Z"⟩, prog_14_method_6_code, 1, some FieldType.boolean, 10, 1, 0),
  (⟨"SharesComingModel", "line", "()Z"⟩, prog_14_method_18_code, 2, some FieldType.boolean, 10, 0, 1),
  (⟨"SharesComingModel", "isWord", "(Ljava/lang/String;)Z"⟩, prog_14_method_9_code, 2, some FieldType.boolean, 10, 1, 1),
  (⟨"SharesComingModel", "packed", "(Ljava/lang/String;)J"⟩, prog_14_method_8_code, 4, some FieldType.long, 10, 1, 0),
  (⟨"java/lang/String", "length", "()I"⟩, prog_17_method_54_code, 1, some FieldType.int, 16, 0, 1),
  (⟨"java/lang/String", "coder", "()B"⟩, prog_17_method_152_code, 1, some FieldType.byte, 16, 0, 1),
  (⟨"java/lang/String", "charAt", "(I)C"⟩, prog_17_method_56_code, 2, some FieldType.char, 16, 1, 1),
  (⟨"java/lang/String", "isLatin1", "()Z"⟩, prog_17_method_154_code, 1, some FieldType.boolean, 16, 0, 1),
  (⟨"java/lang/StringLatin1", "charAt", "([BI)C"⟩, prog_18_method_2_code, 2, some FieldType.char, 17, 2, 0),
  (⟨"java/lang/String", "checkIndex", "(II)V"⟩, prog_17_method_155_code, 2, none, 16, 2, 0)]
def mtab_10 : List (MethodName × ByteArray × Nat × Option FieldType × Nat × Nat × Nat) := [(⟨"jdk/internal/util/Preconditions", "checkIndex", "(IILjava/util/function/BiFunction;)I"⟩, prog_21_method_11_code, 3, some FieldType.int, 19, 3, 0),
  (⟨"SharesComingModel", "heirLine", "(Z)Z"⟩, prog_14_method_15_code, 3, some FieldType.boolean, 10, 1, 1),
  (⟨"SharesComingModel", "isName", "()Z"⟩, prog_14_method_12_code, 1, some FieldType.boolean, 10, 0, 1),
  (⟨"SharesComingModel", "named", "(J)I"⟩, prog_14_method_13_code, 4, some FieldType.int, 10, 1, 1),
  (⟨"SharesComingModel", "isNumber", "(II)Z"⟩, prog_14_method_11_code, 3, some FieldType.boolean, 10, 2, 1),
  (⟨"SharesComingModel", "closes", "()Z"⟩, prog_14_method_14_code, 1, some FieldType.boolean, 10, 0, 1),
  (⟨"SharesComingModel", "isSign", "(I)Z"⟩, prog_14_method_10_code, 2, some FieldType.boolean, 10, 1, 1),
  (⟨"SharesComingModel", "dayLine", "()Z"⟩, prog_14_method_17_code, 1, some FieldType.boolean, 10, 0, 1),
  (⟨"SharesComingModel", "altHere", "()Z"⟩, prog_14_method_16_code, 3, some FieldType.boolean, 10, 0, 1),
  (⟨"SharesComingModel", "matter", "()I"⟩, prog_14_method_20_code, 2, some FieldType.int, 10, 0, 1),
  (⟨"SharesComingModel", "forgets", "()V"⟩, prog_14_method_32_code, 2, none, 10, 0, 1),
  (⟨"SharesComingModel", "heir", "(II)I"⟩, prog_14_method_46_code, 3, some FieldType.int, 10, 2, 1),
  (⟨"SharesComingModel", "isHeir", "(I)Z"⟩, prog_14_method_45_code, 2, some FieldType.boolean, 10, 1, 1),
  (⟨"SharesComingModel", "hasCome", "(JI)Z"⟩, prog_14_method_23_code, 3, some FieldType.boolean, 10, 2, 0),
  (⟨"SharesComingModel", "things", "(JII)I"⟩, prog_14_method_21_code, 4, some FieldType.int, 10, 3, 0),
  (⟨"SharesComingModel", "worthTo", "(JII)I"⟩, prog_14_method_27_code, 7, some FieldType.int, 10, 3, 1)]
def mtab_11 : List (MethodName × ByteArray × Nat × Option FieldType × Nat × Nat × Nat) := [(⟨"SharesComingModel", "alt", "(III)I"⟩, prog_14_method_47_code, 4, some FieldType.int, 10, 3, 1),
  (⟨"SharesComingModel", "altOf", "(III)I"⟩, prog_14_method_26_code, 4, some FieldType.int, 10, 3, 1),
  (⟨"SharesComingModel", "come", "(I)I"⟩, prog_14_method_48_code, 3, some FieldType.int, 10, 1, 1),
  (⟨"SharesComingModel", "give", "(I)Z"⟩, prog_14_method_49_code, 2, some FieldType.boolean, 10, 1, 1),
  (⟨"SharesComingModel", "mayGive", "(JII)Z"⟩, prog_14_method_25_code, 4, some FieldType.boolean, 10, 3, 0),
  (⟨"SharesComingModel", "held", "(J)I"⟩, prog_14_method_24_code, 2, some FieldType.int, 10, 1, 0),
  (⟨"SharesComingModel", "one", "(II)J"⟩, prog_14_method_22_code, 2, some FieldType.long, 10, 2, 0),
  (⟨"SharesComingModel", "reached", "(I)I"⟩, prog_14_method_50_code, 2, some FieldType.int, 10, 1, 1),
  (⟨"SharesComingModel", "isGoal", "(I)Z"⟩, prog_14_method_43_code, 1, some FieldType.boolean, 10, 1, 0),
  (⟨"SharesComingModel", "ends", "(JII)I"⟩, prog_14_method_35_code, 19, some FieldType.int, 10, 3, 1),
  (⟨"SharesComingModel", "backed", "(JII)I"⟩, prog_14_method_33_code, 12, some FieldType.int, 10, 3, 1),
  (⟨"SharesComingModel", "goalOf", "(JI)I"⟩, prog_14_method_31_code, 8, some FieldType.int, 10, 2, 1),
  (⟨"SharesComingModel", "share", "(J)I"⟩, prog_14_method_29_code, 8, some FieldType.int, 10, 1, 1),
  (⟨"SharesComingModel", "manyCame", "(J)I"⟩, prog_14_method_28_code, 5, some FieldType.int, 10, 1, 1),
  (⟨"SharesComingModel", "leftOut", "(JII)I"⟩, prog_14_method_30_code, 12, some FieldType.int, 10, 3, 1),
  (⟨"SharesComingModel", "twice", "(JI)I"⟩, prog_14_method_34_code, 9, some FieldType.int, 10, 2, 1)]
def mtab_12 : List (MethodName × ByteArray × Nat × Option FieldType × Nat × Nat × Nat) := [(⟨"SharesComingModel", "sure", "(IZ)I"⟩, prog_14_method_51_code, 3, some FieldType.int, 10, 2, 1),
  (⟨"SharesComingModel", "solved", "(IZII)J"⟩, prog_14_method_42_code, 12, some FieldType.long, 10, 4, 1),
  (⟨"SharesComingModel", "laysAll", "(I)V"⟩, prog_14_method_39_code, 10, none, 10, 1, 1),
  (⟨"SharesComingModel", "lays", "(JI)V"⟩, prog_14_method_37_code, 5, none, 10, 2, 1),
  (⟨"SharesComingModel", "placeOf", "(JII)I"⟩, prog_14_method_36_code, 6, some FieldType.int, 10, 3, 1),
  (⟨"SharesComingModel", "after", "(JIII)J"⟩, prog_14_method_40_code, 7, some FieldType.long, 10, 4, 1),
  (⟨"SharesComingModel", "valueOf", "(JI)J"⟩, prog_14_method_38_code, 4, some FieldType.long, 10, 2, 1),
  (⟨"SharesComingModel", "given", "(JIII)J"⟩, prog_14_method_41_code, 12, some FieldType.long, 10, 4, 1),
  (⟨"SharesComingModel", "told", "(JZ)I"⟩, prog_14_method_44_code, 7, some FieldType.int, 10, 2, 1),
  (⟨"SharesComingModel", "best", "(IZ)I"⟩, prog_14_method_52_code, 6, some FieldType.int, 10, 2, 1),
  (⟨"SharesComingModel", "proof", "(II)I"⟩, prog_14_method_53_code, 15, some FieldType.int, 10, 2, 1),
  (⟨"SharesComingModel", "known", "(II)I"⟩, prog_14_method_57_code, 3, some FieldType.int, 10, 2, 1),
  (⟨"SharesComingModel", "isAltRow", "(I)Z"⟩, prog_14_method_55_code, 3, some FieldType.boolean, 10, 1, 1),
  (⟨"SharesComingModel", "isRow", "(I)Z"⟩, prog_14_method_54_code, 4, some FieldType.boolean, 10, 1, 1),
  (⟨"SharesComingModel", "knownBy", "(I)I"⟩, prog_14_method_56_code, 11, some FieldType.int, 10, 1, 1),
  (⟨"SharesComingModel", "cost", "(I)I"⟩, prog_14_method_58_code, 6, some FieldType.int, 10, 1, 1)]
def mtab_13 : List (MethodName × ByteArray × Nat × Option FieldType × Nat × Nat × Nat) := [(⟨"SharesComingModel", "fare", "(IIZ)I"⟩, prog_14_method_62_code, 13, some FieldType.int, 10, 3, 1),
  (⟨"SharesComingModel", "goesTo", "(JIII)I"⟩, prog_14_method_59_code, 8, some FieldType.int, 10, 4, 1),
  (⟨"SharesComingModel", "isBefore", "(JIIII)Z"⟩, prog_14_method_60_code, 7, some FieldType.boolean, 10, 5, 1),
  (⟨"SharesComingModel", "manyOf", "(JI)I"⟩, prog_14_method_61_code, 3, some FieldType.int, 10, 2, 0),
  (⟨"SharesComingModel", "mended", "(II)I"⟩, prog_14_method_63_code, 5, some FieldType.int, 10, 2, 1),
  (⟨"SharesComingModel", "paper", "(II)I"⟩, prog_14_method_64_code, 6, some FieldType.int, 10, 2, 1),
  (⟨"SharesComingModel", "judge", "(II)I"⟩, prog_14_method_65_code, 9, some FieldType.int, 10, 2, 1),
  (⟨"SharesComingModel", "judged", "(III)I"⟩, prog_14_method_66_code, 4, some FieldType.int, 10, 3, 1),
  (⟨"SharesComingModel", "image", "(I)Z"⟩, prog_14_method_67_code, 2, some FieldType.boolean, 10, 1, 1),
  (⟨"SharesComingModel", "on", "(I)Z"⟩, prog_14_method_68_code, 2, some FieldType.boolean, 10, 1, 1),
  (⟨"SharesComingModel", "count", "(I)I"⟩, prog_14_method_69_code, 2, some FieldType.int, 10, 1, 1),
  (⟨"SharesComingLaw", "law", "([I)Z"⟩, code, 4, some .boolean, 13, 1, 0)]
def mtab (i : Nat) : MethodName × ByteArray × Nat × Option FieldType × Nat × Nat × Nat := ((match i / 16 with
  | 0 => mtab_0
  | 1 => mtab_1
  | 2 => mtab_2
  | 3 => mtab_3
  | 4 => mtab_4
  | 5 => mtab_5
  | 6 => mtab_6
  | 7 => mtab_7
  | 8 => mtab_8
  | 9 => mtab_9
  | 10 => mtab_10
  | 11 => mtab_11
  | 12 => mtab_12
  | 13 => mtab_13
  | _ => []) : List (MethodName × ByteArray × Nat × Option FieldType × Nat × Nat × Nat)).getD (i % 16) (⟨"", "", ""⟩, ⟨#[]⟩, 0, none, 0, 0, 9)
def mY (i : Nat) : MethodName := (mtab i).1
def mB (i : Nat) : ByteArray := (mtab i).2.1
def mL (i : Nat) : Nat := (mtab i).2.2.1
def mT (i : Nat) : Option FieldType := (mtab i).2.2.2.1
/-- the class that it is of, how many arguments, and 0 static, 1 of an object, 2 a constructor -/
def mO (i : Nat) : Nat := (mtab i).2.2.2.2.1
def mA (i : Nat) : Nat := (mtab i).2.2.2.2.2.1
def mS (i : Nat) : Nat := (mtab i).2.2.2.2.2.2
/-- what the tables say of method i -/
def okM (i : Nat) : Prop := Cond.code (mY i) (mB i) (mL i) (mT i) ∈ WL ∧ Cond.initialized (mY i).cls ∈ WL ∧ (mS i = 0 ∧ Cond.static (mY i) ∈ WL ∨ mS i = 1 ∧ Cond.instanceMethod (mY i) ∈ WL ∧ Cond.selects (mY i).cls (mY i) (mY i) ∈ WL ∨ mS i = 2 ∧ Cond.instanceMethod (mY i) ∈ WL ∧ (mY i).name = "<init>" ∧ mT i = none) ∧ plainName (mY i).cls = true ∧ oN (mO i) = (mY i).cls ∧ ((mY i).cls ≠ "java/lang/invoke/MethodHandle" ∧ (mY i).cls ≠ "java/lang/invoke/VarHandle" ∧ (parseMethodDescriptor (mY i).desc).map (fun d => d.parameters.length) = some (mA i)) ∧ mL i ≤ 60
end
section
/-! The tables hold what okM says. -/
theorem okM_0 : okM 0 := ⟨WL_of (q := 1) (j := 25) rfl rfl, WL_of (q := 1) (j := 1) rfl rfl, Or.inr (Or.inr ⟨rfl, WL_of (q := 1) (j := 24) rfl rfl, rfl, rfl⟩), by decide +kernel, rfl, ⟨by decide +kernel, by decide +kernel, by decide +kernel⟩, by decide⟩
theorem okM_1 : okM 1 := ⟨WL_of (q := 1) (j := 33) rfl rfl, WL_of (q := 1) (j := 2) rfl rfl, Or.inr (Or.inr ⟨rfl, WL_of (q := 1) (j := 32) rfl rfl, rfl, rfl⟩), by decide +kernel, rfl, ⟨by decide +kernel, by decide +kernel, by decide +kernel⟩, by decide⟩
theorem okM_2 : okM 2 := ⟨WL_of (q := 1) (j := 65) rfl rfl, WL_of (q := 1) (j := 3) rfl rfl, Or.inr (Or.inr ⟨rfl, WL_of (q := 1) (j := 64) rfl rfl, rfl, rfl⟩), by decide +kernel, rfl, ⟨by decide +kernel, by decide +kernel, by decide +kernel⟩, by decide⟩
theorem okM_3 : okM 3 := ⟨WL_of (q := 1) (j := 133) rfl rfl, WL_of (q := 1) (j := 4) rfl rfl, Or.inr (Or.inr ⟨rfl, WL_of (q := 1) (j := 132) rfl rfl, rfl, rfl⟩), by decide +kernel, rfl, ⟨by decide +kernel, by decide +kernel, by decide +kernel⟩, by decide⟩
theorem okM_4 : okM 4 := ⟨WL_of (q := 1) (j := 139) rfl rfl, WL_of (q := 1) (j := 5) rfl rfl, Or.inr (Or.inr ⟨rfl, WL_of (q := 1) (j := 138) rfl rfl, rfl, rfl⟩), by decide +kernel, rfl, ⟨by decide +kernel, by decide +kernel, by decide +kernel⟩, by decide⟩
theorem okM_5 : okM 5 := ⟨WL_of (q := 1) (j := 143) rfl rfl, WL_of (q := 1) (j := 5) rfl rfl, Or.inl ⟨rfl, WL_of (q := 1) (j := 142) rfl rfl⟩, by decide +kernel, rfl, ⟨by decide +kernel, by decide +kernel, by decide +kernel⟩, by decide⟩
theorem okM_6 : okM 6 := ⟨WL_of (q := 1) (j := 146) rfl rfl, WL_of (q := 1) (j := 6) rfl rfl, Or.inl ⟨rfl, WL_of (q := 1) (j := 145) rfl rfl⟩, by decide +kernel, rfl, ⟨by decide +kernel, by decide +kernel, by decide +kernel⟩, by decide⟩
theorem okM_7 : okM 7 := ⟨WL_of (q := 1) (j := 149) rfl rfl, WL_of (q := 1) (j := 5) rfl rfl, Or.inl ⟨rfl, WL_of (q := 1) (j := 148) rfl rfl⟩, by decide +kernel, rfl, ⟨by decide +kernel, by decide +kernel, by decide +kernel⟩, by decide⟩
theorem okM_8 : okM 8 := ⟨WL_of (q := 1) (j := 191) rfl rfl, WL_of (q := 1) (j := 7) rfl rfl, Or.inr (Or.inr ⟨rfl, WL_of (q := 1) (j := 190) rfl rfl, rfl, rfl⟩), by decide +kernel, rfl, ⟨by decide +kernel, by decide +kernel, by decide +kernel⟩, by decide⟩
theorem okM_9 : okM 9 := ⟨WL_of (q := 1) (j := 217) rfl rfl, WL_of (q := 1) (j := 8) rfl rfl, Or.inr (Or.inr ⟨rfl, WL_of (q := 1) (j := 216) rfl rfl, rfl, rfl⟩), by decide +kernel, rfl, ⟨by decide +kernel, by decide +kernel, by decide +kernel⟩, by decide⟩
theorem okM_10 : okM 10 := ⟨WL_of (q := 1) (j := 223) rfl rfl, WL_of (q := 1) (j := 9) rfl rfl, Or.inr (Or.inr ⟨rfl, WL_of (q := 1) (j := 222) rfl rfl, rfl, rfl⟩), by decide +kernel, rfl, ⟨by decide +kernel, by decide +kernel, by decide +kernel⟩, by decide⟩
theorem okM_11 : okM 11 := ⟨WL_of (q := 2) (j := 14) rfl rfl, WL_of (q := 1) (j := 10) rfl rfl, Or.inr (Or.inr ⟨rfl, WL_of (q := 2) (j := 13) rfl rfl, rfl, rfl⟩), by decide +kernel, rfl, ⟨by decide +kernel, by decide +kernel, by decide +kernel⟩, by decide⟩
theorem okM_12 : okM 12 := ⟨WL_of (q := 2) (j := 39) rfl rfl, WL_of (q := 1) (j := 11) rfl rfl, Or.inr (Or.inr ⟨rfl, WL_of (q := 2) (j := 38) rfl rfl, rfl, rfl⟩), by decide +kernel, rfl, ⟨by decide +kernel, by decide +kernel, by decide +kernel⟩, by decide⟩
theorem okM_13 : okM 13 := ⟨WL_of (q := 2) (j := 118) rfl rfl, WL_of (q := 1) (j := 1) rfl rfl, Or.inr (Or.inl ⟨rfl, WL_of (q := 2) (j := 116) rfl rfl, WL_of (q := 2) (j := 117) rfl rfl⟩), by decide +kernel, rfl, ⟨by decide +kernel, by decide +kernel, by decide +kernel⟩, by decide⟩
theorem okM_14 : okM 14 := ⟨WL_of (q := 2) (j := 122) rfl rfl, WL_of (q := 1) (j := 1) rfl rfl, Or.inr (Or.inl ⟨rfl, WL_of (q := 2) (j := 121) rfl rfl, WL_of (q := 0) (j := 0) rfl rfl⟩), by decide +kernel, rfl, ⟨by decide +kernel, by decide +kernel, by decide +kernel⟩, by decide⟩
theorem okM_15 : okM 15 := ⟨WL_of (q := 2) (j := 126) rfl rfl, WL_of (q := 1) (j := 1) rfl rfl, Or.inr (Or.inl ⟨rfl, WL_of (q := 2) (j := 124) rfl rfl, WL_of (q := 2) (j := 125) rfl rfl⟩), by decide +kernel, rfl, ⟨by decide +kernel, by decide +kernel, by decide +kernel⟩, by decide⟩
theorem okM_16 : okM 16 := ⟨WL_of (q := 2) (j := 130) rfl rfl, WL_of (q := 1) (j := 1) rfl rfl, Or.inr (Or.inl ⟨rfl, WL_of (q := 2) (j := 128) rfl rfl, WL_of (q := 2) (j := 129) rfl rfl⟩), by decide +kernel, rfl, ⟨by decide +kernel, by decide +kernel, by decide +kernel⟩, by decide⟩
theorem okM_17 : okM 17 := ⟨WL_of (q := 2) (j := 134) rfl rfl, WL_of (q := 1) (j := 2) rfl rfl, Or.inr (Or.inl ⟨rfl, WL_of (q := 2) (j := 132) rfl rfl, WL_of (q := 2) (j := 133) rfl rfl⟩), by decide +kernel, rfl, ⟨by decide +kernel, by decide +kernel, by decide +kernel⟩, by decide⟩
theorem okM_18 : okM 18 := ⟨WL_of (q := 2) (j := 141) rfl rfl, WL_of (q := 1) (j := 3) rfl rfl, Or.inr (Or.inl ⟨rfl, WL_of (q := 2) (j := 139) rfl rfl, WL_of (q := 2) (j := 140) rfl rfl⟩), by decide +kernel, rfl, ⟨by decide +kernel, by decide +kernel, by decide +kernel⟩, by decide⟩
theorem okM_19 : okM 19 := ⟨WL_of (q := 2) (j := 145) rfl rfl, WL_of (q := 1) (j := 2) rfl rfl, Or.inr (Or.inl ⟨rfl, WL_of (q := 2) (j := 144) rfl rfl, WL_of (q := 0) (j := 1) rfl rfl⟩), by decide +kernel, rfl, ⟨by decide +kernel, by decide +kernel, by decide +kernel⟩, by decide⟩
theorem okM_20 : okM 20 := ⟨WL_of (q := 2) (j := 149) rfl rfl, WL_of (q := 1) (j := 2) rfl rfl, Or.inr (Or.inl ⟨rfl, WL_of (q := 2) (j := 148) rfl rfl, WL_of (q := 0) (j := 2) rfl rfl⟩), by decide +kernel, rfl, ⟨by decide +kernel, by decide +kernel, by decide +kernel⟩, by decide⟩
theorem okM_21 : okM 21 := ⟨WL_of (q := 2) (j := 153) rfl rfl, WL_of (q := 1) (j := 2) rfl rfl, Or.inr (Or.inl ⟨rfl, WL_of (q := 2) (j := 152) rfl rfl, WL_of (q := 0) (j := 3) rfl rfl⟩), by decide +kernel, rfl, ⟨by decide +kernel, by decide +kernel, by decide +kernel⟩, by decide⟩
theorem okM_22 : okM 22 := ⟨WL_of (q := 2) (j := 157) rfl rfl, WL_of (q := 1) (j := 2) rfl rfl, Or.inr (Or.inl ⟨rfl, WL_of (q := 2) (j := 156) rfl rfl, WL_of (q := 0) (j := 4) rfl rfl⟩), by decide +kernel, rfl, ⟨by decide +kernel, by decide +kernel, by decide +kernel⟩, by decide⟩
theorem okM_23 : okM 23 := ⟨WL_of (q := 2) (j := 161) rfl rfl, WL_of (q := 1) (j := 2) rfl rfl, Or.inr (Or.inl ⟨rfl, WL_of (q := 2) (j := 160) rfl rfl, WL_of (q := 0) (j := 5) rfl rfl⟩), by decide +kernel, rfl, ⟨by decide +kernel, by decide +kernel, by decide +kernel⟩, by decide⟩
theorem okM_24 : okM 24 := ⟨WL_of (q := 2) (j := 165) rfl rfl, WL_of (q := 1) (j := 3) rfl rfl, Or.inr (Or.inl ⟨rfl, WL_of (q := 2) (j := 163) rfl rfl, WL_of (q := 2) (j := 164) rfl rfl⟩), by decide +kernel, rfl, ⟨by decide +kernel, by decide +kernel, by decide +kernel⟩, by decide⟩
theorem okM_25 : okM 25 := ⟨WL_of (q := 2) (j := 169) rfl rfl, WL_of (q := 1) (j := 2) rfl rfl, Or.inr (Or.inl ⟨rfl, WL_of (q := 2) (j := 168) rfl rfl, WL_of (q := 0) (j := 6) rfl rfl⟩), by decide +kernel, rfl, ⟨by decide +kernel, by decide +kernel, by decide +kernel⟩, by decide⟩
theorem okM_26 : okM 26 := ⟨WL_of (q := 2) (j := 175) rfl rfl, WL_of (q := 1) (j := 2) rfl rfl, Or.inr (Or.inl ⟨rfl, WL_of (q := 2) (j := 174) rfl rfl, WL_of (q := 0) (j := 7) rfl rfl⟩), by decide +kernel, rfl, ⟨by decide +kernel, by decide +kernel, by decide +kernel⟩, by decide⟩
theorem okM_27 : okM 27 := ⟨WL_of (q := 2) (j := 179) rfl rfl, WL_of (q := 1) (j := 3) rfl rfl, Or.inr (Or.inl ⟨rfl, WL_of (q := 2) (j := 177) rfl rfl, WL_of (q := 2) (j := 178) rfl rfl⟩), by decide +kernel, rfl, ⟨by decide +kernel, by decide +kernel, by decide +kernel⟩, by decide⟩
theorem okM_28 : okM 28 := ⟨WL_of (q := 2) (j := 183) rfl rfl, WL_of (q := 1) (j := 2) rfl rfl, Or.inr (Or.inl ⟨rfl, WL_of (q := 2) (j := 182) rfl rfl, WL_of (q := 0) (j := 8) rfl rfl⟩), by decide +kernel, rfl, ⟨by decide +kernel, by decide +kernel, by decide +kernel⟩, by decide⟩
theorem okM_29 : okM 29 := ⟨WL_of (q := 2) (j := 193) rfl rfl, WL_of (q := 1) (j := 3) rfl rfl, Or.inr (Or.inl ⟨rfl, WL_of (q := 2) (j := 191) rfl rfl, WL_of (q := 2) (j := 192) rfl rfl⟩), by decide +kernel, rfl, ⟨by decide +kernel, by decide +kernel, by decide +kernel⟩, by decide⟩
theorem okM_30 : okM 30 := ⟨WL_of (q := 2) (j := 197) rfl rfl, WL_of (q := 1) (j := 2) rfl rfl, Or.inr (Or.inl ⟨rfl, WL_of (q := 2) (j := 196) rfl rfl, WL_of (q := 0) (j := 9) rfl rfl⟩), by decide +kernel, rfl, ⟨by decide +kernel, by decide +kernel, by decide +kernel⟩, by decide⟩
theorem okM_31 : okM 31 := ⟨WL_of (q := 2) (j := 201) rfl rfl, WL_of (q := 1) (j := 3) rfl rfl, Or.inr (Or.inl ⟨rfl, WL_of (q := 2) (j := 199) rfl rfl, WL_of (q := 2) (j := 200) rfl rfl⟩), by decide +kernel, rfl, ⟨by decide +kernel, by decide +kernel, by decide +kernel⟩, by decide⟩
theorem okM_32 : okM 32 := ⟨WL_of (q := 2) (j := 206) rfl rfl, WL_of (q := 1) (j := 3) rfl rfl, Or.inr (Or.inl ⟨rfl, WL_of (q := 2) (j := 204) rfl rfl, WL_of (q := 2) (j := 205) rfl rfl⟩), by decide +kernel, rfl, ⟨by decide +kernel, by decide +kernel, by decide +kernel⟩, by decide⟩
theorem okM_33 : okM 33 := ⟨WL_of (q := 2) (j := 210) rfl rfl, WL_of (q := 1) (j := 2) rfl rfl, Or.inr (Or.inl ⟨rfl, WL_of (q := 2) (j := 209) rfl rfl, WL_of (q := 0) (j := 10) rfl rfl⟩), by decide +kernel, rfl, ⟨by decide +kernel, by decide +kernel, by decide +kernel⟩, by decide⟩
theorem okM_34 : okM 34 := ⟨WL_of (q := 2) (j := 214) rfl rfl, WL_of (q := 1) (j := 3) rfl rfl, Or.inr (Or.inl ⟨rfl, WL_of (q := 2) (j := 212) rfl rfl, WL_of (q := 2) (j := 213) rfl rfl⟩), by decide +kernel, rfl, ⟨by decide +kernel, by decide +kernel, by decide +kernel⟩, by decide⟩
theorem okM_35 : okM 35 := ⟨WL_of (q := 2) (j := 218) rfl rfl, WL_of (q := 1) (j := 2) rfl rfl, Or.inr (Or.inl ⟨rfl, WL_of (q := 2) (j := 217) rfl rfl, WL_of (q := 0) (j := 11) rfl rfl⟩), by decide +kernel, rfl, ⟨by decide +kernel, by decide +kernel, by decide +kernel⟩, by decide⟩
theorem okM_36 : okM 36 := ⟨WL_of (q := 2) (j := 222) rfl rfl, WL_of (q := 1) (j := 3) rfl rfl, Or.inr (Or.inl ⟨rfl, WL_of (q := 2) (j := 220) rfl rfl, WL_of (q := 2) (j := 221) rfl rfl⟩), by decide +kernel, rfl, ⟨by decide +kernel, by decide +kernel, by decide +kernel⟩, by decide⟩
theorem okM_37 : okM 37 := ⟨WL_of (q := 2) (j := 226) rfl rfl, WL_of (q := 1) (j := 3) rfl rfl, Or.inr (Or.inl ⟨rfl, WL_of (q := 2) (j := 224) rfl rfl, WL_of (q := 2) (j := 225) rfl rfl⟩), by decide +kernel, rfl, ⟨by decide +kernel, by decide +kernel, by decide +kernel⟩, by decide⟩
theorem okM_38 : okM 38 := ⟨WL_of (q := 2) (j := 231) rfl rfl, WL_of (q := 1) (j := 3) rfl rfl, Or.inr (Or.inl ⟨rfl, WL_of (q := 2) (j := 229) rfl rfl, WL_of (q := 2) (j := 230) rfl rfl⟩), by decide +kernel, rfl, ⟨by decide +kernel, by decide +kernel, by decide +kernel⟩, by decide⟩
theorem okM_39 : okM 39 := ⟨WL_of (q := 2) (j := 235) rfl rfl, WL_of (q := 1) (j := 2) rfl rfl, Or.inr (Or.inl ⟨rfl, WL_of (q := 2) (j := 234) rfl rfl, WL_of (q := 0) (j := 12) rfl rfl⟩), by decide +kernel, rfl, ⟨by decide +kernel, by decide +kernel, by decide +kernel⟩, by decide⟩
theorem okM_40 : okM 40 := ⟨WL_of (q := 2) (j := 239) rfl rfl, WL_of (q := 1) (j := 2) rfl rfl, Or.inr (Or.inl ⟨rfl, WL_of (q := 2) (j := 238) rfl rfl, WL_of (q := 0) (j := 13) rfl rfl⟩), by decide +kernel, rfl, ⟨by decide +kernel, by decide +kernel, by decide +kernel⟩, by decide⟩
theorem okM_41 : okM 41 := ⟨WL_of (q := 3) (j := 3) rfl rfl, WL_of (q := 1) (j := 2) rfl rfl, Or.inr (Or.inl ⟨rfl, WL_of (q := 3) (j := 2) rfl rfl, WL_of (q := 0) (j := 14) rfl rfl⟩), by decide +kernel, rfl, ⟨by decide +kernel, by decide +kernel, by decide +kernel⟩, by decide⟩
theorem okM_42 : okM 42 := ⟨WL_of (q := 3) (j := 7) rfl rfl, WL_of (q := 1) (j := 1) rfl rfl, Or.inr (Or.inl ⟨rfl, WL_of (q := 3) (j := 5) rfl rfl, WL_of (q := 3) (j := 6) rfl rfl⟩), by decide +kernel, rfl, ⟨by decide +kernel, by decide +kernel, by decide +kernel⟩, by decide⟩
theorem okM_43 : okM 43 := ⟨WL_of (q := 3) (j := 11) rfl rfl, WL_of (q := 1) (j := 3) rfl rfl, Or.inr (Or.inl ⟨rfl, WL_of (q := 3) (j := 9) rfl rfl, WL_of (q := 3) (j := 10) rfl rfl⟩), by decide +kernel, rfl, ⟨by decide +kernel, by decide +kernel, by decide +kernel⟩, by decide⟩
theorem okM_44 : okM 44 := ⟨WL_of (q := 3) (j := 16) rfl rfl, WL_of (q := 1) (j := 4) rfl rfl, Or.inr (Or.inl ⟨rfl, WL_of (q := 3) (j := 14) rfl rfl, WL_of (q := 3) (j := 15) rfl rfl⟩), by decide +kernel, rfl, ⟨by decide +kernel, by decide +kernel, by decide +kernel⟩, by decide⟩
theorem okM_45 : okM 45 := ⟨WL_of (q := 3) (j := 20) rfl rfl, WL_of (q := 1) (j := 5) rfl rfl, Or.inr (Or.inl ⟨rfl, WL_of (q := 3) (j := 18) rfl rfl, WL_of (q := 3) (j := 19) rfl rfl⟩), by decide +kernel, rfl, ⟨by decide +kernel, by decide +kernel, by decide +kernel⟩, by decide⟩
theorem okM_46 : okM 46 := ⟨WL_of (q := 3) (j := 24) rfl rfl, WL_of (q := 1) (j := 5) rfl rfl, Or.inl ⟨rfl, WL_of (q := 3) (j := 23) rfl rfl⟩, by decide +kernel, rfl, ⟨by decide +kernel, by decide +kernel, by decide +kernel⟩, by decide⟩
theorem okM_47 : okM 47 := ⟨WL_of (q := 3) (j := 33) rfl rfl, WL_of (q := 1) (j := 3) rfl rfl, Or.inr (Or.inl ⟨rfl, WL_of (q := 3) (j := 31) rfl rfl, WL_of (q := 3) (j := 32) rfl rfl⟩), by decide +kernel, rfl, ⟨by decide +kernel, by decide +kernel, by decide +kernel⟩, by decide⟩
theorem okM_48 : okM 48 := ⟨WL_of (q := 3) (j := 37) rfl rfl, WL_of (q := 1) (j := 3) rfl rfl, Or.inr (Or.inl ⟨rfl, WL_of (q := 3) (j := 35) rfl rfl, WL_of (q := 3) (j := 36) rfl rfl⟩), by decide +kernel, rfl, ⟨by decide +kernel, by decide +kernel, by decide +kernel⟩, by decide⟩
theorem okM_49 : okM 49 := ⟨WL_of (q := 3) (j := 41) rfl rfl, WL_of (q := 1) (j := 3) rfl rfl, Or.inr (Or.inl ⟨rfl, WL_of (q := 3) (j := 39) rfl rfl, WL_of (q := 3) (j := 40) rfl rfl⟩), by decide +kernel, rfl, ⟨by decide +kernel, by decide +kernel, by decide +kernel⟩, by decide⟩
theorem okM_50 : okM 50 := ⟨WL_of (q := 3) (j := 45) rfl rfl, WL_of (q := 1) (j := 3) rfl rfl, Or.inr (Or.inl ⟨rfl, WL_of (q := 3) (j := 43) rfl rfl, WL_of (q := 3) (j := 44) rfl rfl⟩), by decide +kernel, rfl, ⟨by decide +kernel, by decide +kernel, by decide +kernel⟩, by decide⟩
theorem okM_51 : okM 51 := ⟨WL_of (q := 3) (j := 49) rfl rfl, WL_of (q := 1) (j := 9) rfl rfl, Or.inr (Or.inl ⟨rfl, WL_of (q := 3) (j := 47) rfl rfl, WL_of (q := 3) (j := 48) rfl rfl⟩), by decide +kernel, rfl, ⟨by decide +kernel, by decide +kernel, by decide +kernel⟩, by decide⟩
theorem okM_52 : okM 52 := ⟨WL_of (q := 3) (j := 53) rfl rfl, WL_of (q := 1) (j := 1) rfl rfl, Or.inr (Or.inl ⟨rfl, WL_of (q := 3) (j := 51) rfl rfl, WL_of (q := 3) (j := 52) rfl rfl⟩), by decide +kernel, rfl, ⟨by decide +kernel, by decide +kernel, by decide +kernel⟩, by decide⟩
theorem okM_53 : okM 53 := ⟨WL_of (q := 3) (j := 57) rfl rfl, WL_of (q := 1) (j := 3) rfl rfl, Or.inr (Or.inl ⟨rfl, WL_of (q := 3) (j := 55) rfl rfl, WL_of (q := 3) (j := 56) rfl rfl⟩), by decide +kernel, rfl, ⟨by decide +kernel, by decide +kernel, by decide +kernel⟩, by decide⟩
theorem okM_54 : okM 54 := ⟨WL_of (q := 3) (j := 60) rfl rfl, WL_of (q := 1) (j := 18) rfl rfl, Or.inl ⟨rfl, WL_of (q := 3) (j := 59) rfl rfl⟩, by decide +kernel, rfl, ⟨by decide +kernel, by decide +kernel, by decide +kernel⟩, by decide⟩
theorem okM_55 : okM 55 := ⟨WL_of (q := 3) (j := 63) rfl rfl, WL_of (q := 1) (j := 18) rfl rfl, Or.inl ⟨rfl, WL_of (q := 3) (j := 62) rfl rfl⟩, by decide +kernel, rfl, ⟨by decide +kernel, by decide +kernel, by decide +kernel⟩, by decide⟩
theorem okM_56 : okM 56 := ⟨WL_of (q := 3) (j := 67) rfl rfl, WL_of (q := 1) (j := 3) rfl rfl, Or.inr (Or.inl ⟨rfl, WL_of (q := 3) (j := 65) rfl rfl, WL_of (q := 3) (j := 66) rfl rfl⟩), by decide +kernel, rfl, ⟨by decide +kernel, by decide +kernel, by decide +kernel⟩, by decide⟩
theorem okM_57 : okM 57 := ⟨WL_of (q := 3) (j := 70) rfl rfl, WL_of (q := 1) (j := 18) rfl rfl, Or.inl ⟨rfl, WL_of (q := 3) (j := 69) rfl rfl⟩, by decide +kernel, rfl, ⟨by decide +kernel, by decide +kernel, by decide +kernel⟩, by decide⟩
theorem okM_58 : okM 58 := ⟨WL_of (q := 3) (j := 74) rfl rfl, WL_of (q := 1) (j := 3) rfl rfl, Or.inr (Or.inl ⟨rfl, WL_of (q := 3) (j := 72) rfl rfl, WL_of (q := 3) (j := 73) rfl rfl⟩), by decide +kernel, rfl, ⟨by decide +kernel, by decide +kernel, by decide +kernel⟩, by decide⟩
theorem okM_59 : okM 59 := ⟨WL_of (q := 3) (j := 78) rfl rfl, WL_of (q := 1) (j := 1) rfl rfl, Or.inr (Or.inl ⟨rfl, WL_of (q := 3) (j := 76) rfl rfl, WL_of (q := 3) (j := 77) rfl rfl⟩), by decide +kernel, rfl, ⟨by decide +kernel, by decide +kernel, by decide +kernel⟩, by decide⟩
theorem okM_60 : okM 60 := ⟨WL_of (q := 3) (j := 83) rfl rfl, WL_of (q := 1) (j := 3) rfl rfl, Or.inr (Or.inl ⟨rfl, WL_of (q := 3) (j := 81) rfl rfl, WL_of (q := 3) (j := 82) rfl rfl⟩), by decide +kernel, rfl, ⟨by decide +kernel, by decide +kernel, by decide +kernel⟩, by decide⟩
theorem okM_61 : okM 61 := ⟨WL_of (q := 3) (j := 88) rfl rfl, WL_of (q := 1) (j := 3) rfl rfl, Or.inr (Or.inl ⟨rfl, WL_of (q := 3) (j := 86) rfl rfl, WL_of (q := 3) (j := 87) rfl rfl⟩), by decide +kernel, rfl, ⟨by decide +kernel, by decide +kernel, by decide +kernel⟩, by decide⟩
theorem okM_62 : okM 62 := ⟨WL_of (q := 3) (j := 92) rfl rfl, WL_of (q := 1) (j := 1) rfl rfl, Or.inr (Or.inl ⟨rfl, WL_of (q := 3) (j := 90) rfl rfl, WL_of (q := 3) (j := 91) rfl rfl⟩), by decide +kernel, rfl, ⟨by decide +kernel, by decide +kernel, by decide +kernel⟩, by decide⟩
theorem okM_63 : okM 63 := ⟨WL_of (q := 3) (j := 95) rfl rfl, WL_of (q := 1) (j := 18) rfl rfl, Or.inl ⟨rfl, WL_of (q := 3) (j := 94) rfl rfl⟩, by decide +kernel, rfl, ⟨by decide +kernel, by decide +kernel, by decide +kernel⟩, by decide⟩
theorem okM_64 : okM 64 := ⟨WL_of (q := 3) (j := 99) rfl rfl, WL_of (q := 1) (j := 3) rfl rfl, Or.inr (Or.inl ⟨rfl, WL_of (q := 3) (j := 97) rfl rfl, WL_of (q := 3) (j := 98) rfl rfl⟩), by decide +kernel, rfl, ⟨by decide +kernel, by decide +kernel, by decide +kernel⟩, by decide⟩
theorem okM_65 : okM 65 := ⟨WL_of (q := 3) (j := 104) rfl rfl, WL_of (q := 1) (j := 3) rfl rfl, Or.inr (Or.inl ⟨rfl, WL_of (q := 3) (j := 102) rfl rfl, WL_of (q := 3) (j := 103) rfl rfl⟩), by decide +kernel, rfl, ⟨by decide +kernel, by decide +kernel, by decide +kernel⟩, by decide⟩
theorem okM_66 : okM 66 := ⟨WL_of (q := 3) (j := 109) rfl rfl, WL_of (q := 1) (j := 1) rfl rfl, Or.inr (Or.inl ⟨rfl, WL_of (q := 3) (j := 107) rfl rfl, WL_of (q := 3) (j := 108) rfl rfl⟩), by decide +kernel, rfl, ⟨by decide +kernel, by decide +kernel, by decide +kernel⟩, by decide⟩
theorem okM_67 : okM 67 := ⟨WL_of (q := 3) (j := 113) rfl rfl, WL_of (q := 1) (j := 3) rfl rfl, Or.inr (Or.inl ⟨rfl, WL_of (q := 3) (j := 111) rfl rfl, WL_of (q := 3) (j := 112) rfl rfl⟩), by decide +kernel, rfl, ⟨by decide +kernel, by decide +kernel, by decide +kernel⟩, by decide⟩
theorem okM_68 : okM 68 := ⟨WL_of (q := 3) (j := 116) rfl rfl, WL_of (q := 1) (j := 18) rfl rfl, Or.inl ⟨rfl, WL_of (q := 3) (j := 115) rfl rfl⟩, by decide +kernel, rfl, ⟨by decide +kernel, by decide +kernel, by decide +kernel⟩, by decide⟩
theorem okM_69 : okM 69 := ⟨WL_of (q := 3) (j := 119) rfl rfl, WL_of (q := 1) (j := 18) rfl rfl, Or.inl ⟨rfl, WL_of (q := 3) (j := 118) rfl rfl⟩, by decide +kernel, rfl, ⟨by decide +kernel, by decide +kernel, by decide +kernel⟩, by decide⟩
theorem okM_70 : okM 70 := ⟨WL_of (q := 3) (j := 125) rfl rfl, WL_of (q := 1) (j := 18) rfl rfl, Or.inl ⟨rfl, WL_of (q := 3) (j := 124) rfl rfl⟩, by decide +kernel, rfl, ⟨by decide +kernel, by decide +kernel, by decide +kernel⟩, by decide⟩
theorem okM_71 : okM 71 := ⟨WL_of (q := 3) (j := 128) rfl rfl, WL_of (q := 1) (j := 18) rfl rfl, Or.inl ⟨rfl, WL_of (q := 3) (j := 127) rfl rfl⟩, by decide +kernel, rfl, ⟨by decide +kernel, by decide +kernel, by decide +kernel⟩, by decide⟩
theorem okM_72 : okM 72 := ⟨WL_of (q := 3) (j := 132) rfl rfl, WL_of (q := 1) (j := 1) rfl rfl, Or.inr (Or.inl ⟨rfl, WL_of (q := 3) (j := 130) rfl rfl, WL_of (q := 3) (j := 131) rfl rfl⟩), by decide +kernel, rfl, ⟨by decide +kernel, by decide +kernel, by decide +kernel⟩, by decide⟩
theorem okM_73 : okM 73 := ⟨WL_of (q := 3) (j := 136) rfl rfl, WL_of (q := 1) (j := 1) rfl rfl, Or.inr (Or.inl ⟨rfl, WL_of (q := 3) (j := 135) rfl rfl, WL_of (q := 0) (j := 15) rfl rfl⟩), by decide +kernel, rfl, ⟨by decide +kernel, by decide +kernel, by decide +kernel⟩, by decide⟩
theorem okM_74 : okM 74 := ⟨WL_of (q := 3) (j := 139) rfl rfl, WL_of (q := 1) (j := 1) rfl rfl, Or.inl ⟨rfl, WL_of (q := 3) (j := 138) rfl rfl⟩, by decide +kernel, rfl, ⟨by decide +kernel, by decide +kernel, by decide +kernel⟩, by decide⟩
theorem okM_75 : okM 75 := ⟨WL_of (q := 3) (j := 143) rfl rfl, WL_of (q := 1) (j := 1) rfl rfl, Or.inr (Or.inl ⟨rfl, WL_of (q := 3) (j := 142) rfl rfl, WL_of (q := 0) (j := 16) rfl rfl⟩), by decide +kernel, rfl, ⟨by decide +kernel, by decide +kernel, by decide +kernel⟩, by decide⟩
theorem okM_76 : okM 76 := ⟨WL_of (q := 3) (j := 148) rfl rfl, WL_of (q := 1) (j := 4) rfl rfl, Or.inr (Or.inl ⟨rfl, WL_of (q := 3) (j := 146) rfl rfl, WL_of (q := 3) (j := 147) rfl rfl⟩), by decide +kernel, rfl, ⟨by decide +kernel, by decide +kernel, by decide +kernel⟩, by decide⟩
theorem okM_77 : okM 77 := ⟨WL_of (q := 3) (j := 152) rfl rfl, WL_of (q := 1) (j := 5) rfl rfl, Or.inr (Or.inl ⟨rfl, WL_of (q := 3) (j := 150) rfl rfl, WL_of (q := 3) (j := 151) rfl rfl⟩), by decide +kernel, rfl, ⟨by decide +kernel, by decide +kernel, by decide +kernel⟩, by decide⟩
theorem okM_78 : okM 78 := ⟨WL_of (q := 3) (j := 157) rfl rfl, WL_of (q := 1) (j := 9) rfl rfl, Or.inr (Or.inl ⟨rfl, WL_of (q := 3) (j := 155) rfl rfl, WL_of (q := 3) (j := 156) rfl rfl⟩), by decide +kernel, rfl, ⟨by decide +kernel, by decide +kernel, by decide +kernel⟩, by decide⟩
theorem okM_79 : okM 79 := ⟨WL_of (q := 3) (j := 163) rfl rfl, WL_of (q := 1) (j := 6) rfl rfl, Or.inl ⟨rfl, WL_of (q := 3) (j := 162) rfl rfl⟩, by decide +kernel, rfl, ⟨by decide +kernel, by decide +kernel, by decide +kernel⟩, by decide⟩
theorem okM_80 : okM 80 := ⟨WL_of (q := 3) (j := 167) rfl rfl, WL_of (q := 1) (j := 8) rfl rfl, Or.inr (Or.inl ⟨rfl, WL_of (q := 3) (j := 165) rfl rfl, WL_of (q := 3) (j := 166) rfl rfl⟩), by decide +kernel, rfl, ⟨by decide +kernel, by decide +kernel, by decide +kernel⟩, by decide⟩
theorem okM_81 : okM 81 := ⟨WL_of (q := 3) (j := 171) rfl rfl, WL_of (q := 1) (j := 5) rfl rfl, Or.inr (Or.inl ⟨rfl, WL_of (q := 3) (j := 169) rfl rfl, WL_of (q := 3) (j := 170) rfl rfl⟩), by decide +kernel, rfl, ⟨by decide +kernel, by decide +kernel, by decide +kernel⟩, by decide⟩
theorem okM_82 : okM 82 := ⟨WL_of (q := 3) (j := 175) rfl rfl, WL_of (q := 1) (j := 5) rfl rfl, Or.inr (Or.inl ⟨rfl, WL_of (q := 3) (j := 174) rfl rfl, WL_of (q := 0) (j := 17) rfl rfl⟩), by decide +kernel, rfl, ⟨by decide +kernel, by decide +kernel, by decide +kernel⟩, by decide⟩
theorem okM_83 : okM 83 := ⟨WL_of (q := 3) (j := 179) rfl rfl, WL_of (q := 1) (j := 5) rfl rfl, Or.inr (Or.inl ⟨rfl, WL_of (q := 3) (j := 177) rfl rfl, WL_of (q := 3) (j := 178) rfl rfl⟩), by decide +kernel, rfl, ⟨by decide +kernel, by decide +kernel, by decide +kernel⟩, by decide⟩
theorem okM_84 : okM 84 := ⟨WL_of (q := 3) (j := 184) rfl rfl, WL_of (q := 1) (j := 9) rfl rfl, Or.inr (Or.inl ⟨rfl, WL_of (q := 3) (j := 182) rfl rfl, WL_of (q := 3) (j := 183) rfl rfl⟩), by decide +kernel, rfl, ⟨by decide +kernel, by decide +kernel, by decide +kernel⟩, by decide⟩
theorem okM_85 : okM 85 := ⟨WL_of (q := 3) (j := 189) rfl rfl, WL_of (q := 1) (j := 8) rfl rfl, Or.inr (Or.inl ⟨rfl, WL_of (q := 3) (j := 188) rfl rfl, WL_of (q := 0) (j := 18) rfl rfl⟩), by decide +kernel, rfl, ⟨by decide +kernel, by decide +kernel, by decide +kernel⟩, by decide⟩
theorem okM_86 : okM 86 := ⟨WL_of (q := 3) (j := 192) rfl rfl, WL_of (q := 1) (j := 18) rfl rfl, Or.inl ⟨rfl, WL_of (q := 3) (j := 191) rfl rfl⟩, by decide +kernel, rfl, ⟨by decide +kernel, by decide +kernel, by decide +kernel⟩, by decide⟩
theorem okM_87 : okM 87 := ⟨WL_of (q := 3) (j := 196) rfl rfl, WL_of (q := 1) (j := 8) rfl rfl, Or.inr (Or.inl ⟨rfl, WL_of (q := 3) (j := 195) rfl rfl, WL_of (q := 0) (j := 19) rfl rfl⟩), by decide +kernel, rfl, ⟨by decide +kernel, by decide +kernel, by decide +kernel⟩, by decide⟩
theorem okM_88 : okM 88 := ⟨WL_of (q := 3) (j := 207) rfl rfl, WL_of (q := 1) (j := 8) rfl rfl, Or.inr (Or.inl ⟨rfl, WL_of (q := 3) (j := 206) rfl rfl, WL_of (q := 0) (j := 20) rfl rfl⟩), by decide +kernel, rfl, ⟨by decide +kernel, by decide +kernel, by decide +kernel⟩, by decide⟩
theorem okM_89 : okM 89 := ⟨WL_of (q := 3) (j := 212) rfl rfl, WL_of (q := 1) (j := 8) rfl rfl, Or.inr (Or.inl ⟨rfl, WL_of (q := 3) (j := 211) rfl rfl, WL_of (q := 0) (j := 21) rfl rfl⟩), by decide +kernel, rfl, ⟨by decide +kernel, by decide +kernel, by decide +kernel⟩, by decide⟩
theorem okM_90 : okM 90 := ⟨WL_of (q := 3) (j := 215) rfl rfl, WL_of (q := 1) (j := 19) rfl rfl, Or.inl ⟨rfl, WL_of (q := 3) (j := 214) rfl rfl⟩, by decide +kernel, rfl, ⟨by decide +kernel, by decide +kernel, by decide +kernel⟩, by decide⟩
theorem okM_91 : okM 91 := ⟨WL_of (q := 3) (j := 219) rfl rfl, WL_of (q := 1) (j := 20) rfl rfl, Or.inl ⟨rfl, WL_of (q := 3) (j := 218) rfl rfl⟩, by decide +kernel, rfl, ⟨by decide +kernel, by decide +kernel, by decide +kernel⟩, by decide⟩
theorem okM_92 : okM 92 := ⟨WL_of (q := 3) (j := 228) rfl rfl, WL_of (q := 1) (j := 19) rfl rfl, Or.inl ⟨rfl, WL_of (q := 3) (j := 227) rfl rfl⟩, by decide +kernel, rfl, ⟨by decide +kernel, by decide +kernel, by decide +kernel⟩, by decide⟩
theorem okM_93 : okM 93 := ⟨WL_of (q := 3) (j := 231) rfl rfl, WL_of (q := 1) (j := 19) rfl rfl, Or.inl ⟨rfl, WL_of (q := 3) (j := 230) rfl rfl⟩, by decide +kernel, rfl, ⟨by decide +kernel, by decide +kernel, by decide +kernel⟩, by decide⟩
theorem okM_94 : okM 94 := ⟨WL_of (q := 3) (j := 238) rfl rfl, WL_of (q := 1) (j := 19) rfl rfl, Or.inl ⟨rfl, WL_of (q := 3) (j := 237) rfl rfl⟩, by decide +kernel, rfl, ⟨by decide +kernel, by decide +kernel, by decide +kernel⟩, by decide⟩
theorem okM_95 : okM 95 := ⟨WL_of (q := 4) (j := 2) rfl rfl, WL_of (q := 1) (j := 9) rfl rfl, Or.inr (Or.inl ⟨rfl, WL_of (q := 4) (j := 0) rfl rfl, WL_of (q := 4) (j := 1) rfl rfl⟩), by decide +kernel, rfl, ⟨by decide +kernel, by decide +kernel, by decide +kernel⟩, by decide⟩
theorem okM_96 : okM 96 := ⟨WL_of (q := 4) (j := 6) rfl rfl, WL_of (q := 1) (j := 1) rfl rfl, Or.inr (Or.inl ⟨rfl, WL_of (q := 4) (j := 4) rfl rfl, WL_of (q := 4) (j := 5) rfl rfl⟩), by decide +kernel, rfl, ⟨by decide +kernel, by decide +kernel, by decide +kernel⟩, by decide⟩
theorem okM_97 : okM 97 := ⟨WL_of (q := 4) (j := 10) rfl rfl, WL_of (q := 1) (j := 1) rfl rfl, Or.inr (Or.inl ⟨rfl, WL_of (q := 4) (j := 9) rfl rfl, WL_of (q := 0) (j := 22) rfl rfl⟩), by decide +kernel, rfl, ⟨by decide +kernel, by decide +kernel, by decide +kernel⟩, by decide⟩
theorem okM_98 : okM 98 := ⟨WL_of (q := 4) (j := 14) rfl rfl, WL_of (q := 1) (j := 4) rfl rfl, Or.inr (Or.inl ⟨rfl, WL_of (q := 4) (j := 12) rfl rfl, WL_of (q := 4) (j := 13) rfl rfl⟩), by decide +kernel, rfl, ⟨by decide +kernel, by decide +kernel, by decide +kernel⟩, by decide⟩
theorem okM_99 : okM 99 := ⟨WL_of (q := 4) (j := 18) rfl rfl, WL_of (q := 1) (j := 5) rfl rfl, Or.inr (Or.inl ⟨rfl, WL_of (q := 4) (j := 16) rfl rfl, WL_of (q := 4) (j := 17) rfl rfl⟩), by decide +kernel, rfl, ⟨by decide +kernel, by decide +kernel, by decide +kernel⟩, by decide⟩
theorem okM_100 : okM 100 := ⟨WL_of (q := 4) (j := 24) rfl rfl, WL_of (q := 1) (j := 10) rfl rfl, Or.inr (Or.inl ⟨rfl, WL_of (q := 4) (j := 22) rfl rfl, WL_of (q := 4) (j := 23) rfl rfl⟩), by decide +kernel, rfl, ⟨by decide +kernel, by decide +kernel, by decide +kernel⟩, by decide⟩
theorem okM_101 : okM 101 := ⟨WL_of (q := 4) (j := 28) rfl rfl, WL_of (q := 1) (j := 10) rfl rfl, Or.inr (Or.inl ⟨rfl, WL_of (q := 4) (j := 26) rfl rfl, WL_of (q := 4) (j := 27) rfl rfl⟩), by decide +kernel, rfl, ⟨by decide +kernel, by decide +kernel, by decide +kernel⟩, by decide⟩
theorem okM_102 : okM 102 := ⟨WL_of (q := 4) (j := 34) rfl rfl, WL_of (q := 1) (j := 5) rfl rfl, Or.inr (Or.inl ⟨rfl, WL_of (q := 4) (j := 32) rfl rfl, WL_of (q := 4) (j := 33) rfl rfl⟩), by decide +kernel, rfl, ⟨by decide +kernel, by decide +kernel, by decide +kernel⟩, by decide⟩
theorem okM_103 : okM 103 := ⟨WL_of (q := 4) (j := 41) rfl rfl, WL_of (q := 1) (j := 10) rfl rfl, Or.inr (Or.inl ⟨rfl, WL_of (q := 4) (j := 40) rfl rfl, WL_of (q := 0) (j := 23) rfl rfl⟩), by decide +kernel, rfl, ⟨by decide +kernel, by decide +kernel, by decide +kernel⟩, by decide⟩
theorem okM_104 : okM 104 := ⟨WL_of (q := 4) (j := 47) rfl rfl, WL_of (q := 1) (j := 10) rfl rfl, Or.inr (Or.inl ⟨rfl, WL_of (q := 4) (j := 46) rfl rfl, WL_of (q := 0) (j := 24) rfl rfl⟩), by decide +kernel, rfl, ⟨by decide +kernel, by decide +kernel, by decide +kernel⟩, by decide⟩
theorem okM_105 : okM 105 := ⟨WL_of (q := 4) (j := 54) rfl rfl, WL_of (q := 1) (j := 10) rfl rfl, Or.inr (Or.inl ⟨rfl, WL_of (q := 4) (j := 52) rfl rfl, WL_of (q := 4) (j := 53) rfl rfl⟩), by decide +kernel, rfl, ⟨by decide +kernel, by decide +kernel, by decide +kernel⟩, by decide⟩
theorem okM_106 : okM 106 := ⟨WL_of (q := 4) (j := 58) rfl rfl, WL_of (q := 1) (j := 10) rfl rfl, Or.inr (Or.inl ⟨rfl, WL_of (q := 4) (j := 57) rfl rfl, WL_of (q := 0) (j := 25) rfl rfl⟩), by decide +kernel, rfl, ⟨by decide +kernel, by decide +kernel, by decide +kernel⟩, by decide⟩
theorem okM_107 : okM 107 := ⟨WL_of (q := 4) (j := 65) rfl rfl, WL_of (q := 1) (j := 10) rfl rfl, Or.inr (Or.inl ⟨rfl, WL_of (q := 4) (j := 64) rfl rfl, WL_of (q := 0) (j := 26) rfl rfl⟩), by decide +kernel, rfl, ⟨by decide +kernel, by decide +kernel, by decide +kernel⟩, by decide⟩
theorem okM_108 : okM 108 := ⟨WL_of (q := 4) (j := 75) rfl rfl, WL_of (q := 1) (j := 1) rfl rfl, Or.inr (Or.inl ⟨rfl, WL_of (q := 4) (j := 74) rfl rfl, WL_of (q := 0) (j := 27) rfl rfl⟩), by decide +kernel, rfl, ⟨by decide +kernel, by decide +kernel, by decide +kernel⟩, by decide⟩
theorem okM_109 : okM 109 := ⟨WL_of (q := 4) (j := 81) rfl rfl, WL_of (q := 1) (j := 1) rfl rfl, Or.inr (Or.inl ⟨rfl, WL_of (q := 4) (j := 79) rfl rfl, WL_of (q := 4) (j := 80) rfl rfl⟩), by decide +kernel, rfl, ⟨by decide +kernel, by decide +kernel, by decide +kernel⟩, by decide⟩
theorem okM_110 : okM 110 := ⟨WL_of (q := 4) (j := 85) rfl rfl, WL_of (q := 1) (j := 10) rfl rfl, Or.inr (Or.inl ⟨rfl, WL_of (q := 4) (j := 83) rfl rfl, WL_of (q := 4) (j := 84) rfl rfl⟩), by decide +kernel, rfl, ⟨by decide +kernel, by decide +kernel, by decide +kernel⟩, by decide⟩
theorem okM_111 : okM 111 := ⟨WL_of (q := 4) (j := 89) rfl rfl, WL_of (q := 1) (j := 1) rfl rfl, Or.inr (Or.inl ⟨rfl, WL_of (q := 4) (j := 87) rfl rfl, WL_of (q := 4) (j := 88) rfl rfl⟩), by decide +kernel, rfl, ⟨by decide +kernel, by decide +kernel, by decide +kernel⟩, by decide⟩
theorem okM_112 : okM 112 := ⟨WL_of (q := 4) (j := 93) rfl rfl, WL_of (q := 1) (j := 10) rfl rfl, Or.inr (Or.inl ⟨rfl, WL_of (q := 4) (j := 91) rfl rfl, WL_of (q := 4) (j := 92) rfl rfl⟩), by decide +kernel, rfl, ⟨by decide +kernel, by decide +kernel, by decide +kernel⟩, by decide⟩
theorem okM_113 : okM 113 := ⟨WL_of (q := 4) (j := 97) rfl rfl, WL_of (q := 1) (j := 1) rfl rfl, Or.inr (Or.inl ⟨rfl, WL_of (q := 4) (j := 95) rfl rfl, WL_of (q := 4) (j := 96) rfl rfl⟩), by decide +kernel, rfl, ⟨by decide +kernel, by decide +kernel, by decide +kernel⟩, by decide⟩
theorem okM_114 : okM 114 := ⟨WL_of (q := 4) (j := 101) rfl rfl, WL_of (q := 1) (j := 7) rfl rfl, Or.inr (Or.inl ⟨rfl, WL_of (q := 4) (j := 99) rfl rfl, WL_of (q := 4) (j := 100) rfl rfl⟩), by decide +kernel, rfl, ⟨by decide +kernel, by decide +kernel, by decide +kernel⟩, by decide⟩
theorem okM_115 : okM 115 := ⟨WL_of (q := 4) (j := 105) rfl rfl, WL_of (q := 1) (j := 7) rfl rfl, Or.inl ⟨rfl, WL_of (q := 4) (j := 104) rfl rfl⟩, by decide +kernel, rfl, ⟨by decide +kernel, by decide +kernel, by decide +kernel⟩, by decide⟩
theorem okM_116 : okM 116 := ⟨WL_of (q := 4) (j := 110) rfl rfl, WL_of (q := 1) (j := 7) rfl rfl, Or.inr (Or.inl ⟨rfl, WL_of (q := 4) (j := 108) rfl rfl, WL_of (q := 4) (j := 109) rfl rfl⟩), by decide +kernel, rfl, ⟨by decide +kernel, by decide +kernel, by decide +kernel⟩, by decide⟩
theorem okM_117 : okM 117 := ⟨WL_of (q := 4) (j := 114) rfl rfl, WL_of (q := 1) (j := 7) rfl rfl, Or.inr (Or.inl ⟨rfl, WL_of (q := 4) (j := 112) rfl rfl, WL_of (q := 4) (j := 113) rfl rfl⟩), by decide +kernel, rfl, ⟨by decide +kernel, by decide +kernel, by decide +kernel⟩, by decide⟩
theorem okM_118 : okM 118 := ⟨WL_of (q := 4) (j := 119) rfl rfl, WL_of (q := 1) (j := 7) rfl rfl, Or.inr (Or.inl ⟨rfl, WL_of (q := 4) (j := 118) rfl rfl, WL_of (q := 0) (j := 28) rfl rfl⟩), by decide +kernel, rfl, ⟨by decide +kernel, by decide +kernel, by decide +kernel⟩, by decide⟩
theorem okM_119 : okM 119 := ⟨WL_of (q := 4) (j := 126) rfl rfl, WL_of (q := 1) (j := 7) rfl rfl, Or.inl ⟨rfl, WL_of (q := 4) (j := 125) rfl rfl⟩, by decide +kernel, rfl, ⟨by decide +kernel, by decide +kernel, by decide +kernel⟩, by decide⟩
theorem okM_120 : okM 120 := ⟨WL_of (q := 4) (j := 131) rfl rfl, WL_of (q := 1) (j := 7) rfl rfl, Or.inr (Or.inl ⟨rfl, WL_of (q := 4) (j := 130) rfl rfl, WL_of (q := 0) (j := 29) rfl rfl⟩), by decide +kernel, rfl, ⟨by decide +kernel, by decide +kernel, by decide +kernel⟩, by decide⟩
theorem okM_121 : okM 121 := ⟨WL_of (q := 4) (j := 137) rfl rfl, WL_of (q := 1) (j := 5) rfl rfl, Or.inr (Or.inl ⟨rfl, WL_of (q := 4) (j := 135) rfl rfl, WL_of (q := 4) (j := 136) rfl rfl⟩), by decide +kernel, rfl, ⟨by decide +kernel, by decide +kernel, by decide +kernel⟩, by decide⟩
theorem okM_122 : okM 122 := ⟨WL_of (q := 4) (j := 144) rfl rfl, WL_of (q := 1) (j := 1) rfl rfl, Or.inr (Or.inl ⟨rfl, WL_of (q := 4) (j := 142) rfl rfl, WL_of (q := 4) (j := 143) rfl rfl⟩), by decide +kernel, rfl, ⟨by decide +kernel, by decide +kernel, by decide +kernel⟩, by decide⟩
theorem okM_123 : okM 123 := ⟨WL_of (q := 4) (j := 148) rfl rfl, WL_of (q := 1) (j := 7) rfl rfl, Or.inr (Or.inl ⟨rfl, WL_of (q := 4) (j := 146) rfl rfl, WL_of (q := 4) (j := 147) rfl rfl⟩), by decide +kernel, rfl, ⟨by decide +kernel, by decide +kernel, by decide +kernel⟩, by decide⟩
theorem okM_124 : okM 124 := ⟨WL_of (q := 4) (j := 152) rfl rfl, WL_of (q := 1) (j := 5) rfl rfl, Or.inr (Or.inl ⟨rfl, WL_of (q := 4) (j := 150) rfl rfl, WL_of (q := 4) (j := 151) rfl rfl⟩), by decide +kernel, rfl, ⟨by decide +kernel, by decide +kernel, by decide +kernel⟩, by decide⟩
theorem okM_125 : okM 125 := ⟨WL_of (q := 4) (j := 160) rfl rfl, WL_of (q := 1) (j := 7) rfl rfl, Or.inr (Or.inl ⟨rfl, WL_of (q := 4) (j := 159) rfl rfl, WL_of (q := 0) (j := 30) rfl rfl⟩), by decide +kernel, rfl, ⟨by decide +kernel, by decide +kernel, by decide +kernel⟩, by decide⟩
theorem okM_126 : okM 126 := ⟨WL_of (q := 4) (j := 165) rfl rfl, WL_of (q := 1) (j := 7) rfl rfl, Or.inr (Or.inl ⟨rfl, WL_of (q := 4) (j := 164) rfl rfl, WL_of (q := 0) (j := 31) rfl rfl⟩), by decide +kernel, rfl, ⟨by decide +kernel, by decide +kernel, by decide +kernel⟩, by decide⟩
theorem okM_127 : okM 127 := ⟨WL_of (q := 4) (j := 171) rfl rfl, WL_of (q := 1) (j := 1) rfl rfl, Or.inr (Or.inl ⟨rfl, WL_of (q := 4) (j := 169) rfl rfl, WL_of (q := 4) (j := 170) rfl rfl⟩), by decide +kernel, rfl, ⟨by decide +kernel, by decide +kernel, by decide +kernel⟩, by decide⟩
theorem okM_128 : okM 128 := ⟨WL_of (q := 4) (j := 175) rfl rfl, WL_of (q := 1) (j := 4) rfl rfl, Or.inr (Or.inl ⟨rfl, WL_of (q := 4) (j := 173) rfl rfl, WL_of (q := 4) (j := 174) rfl rfl⟩), by decide +kernel, rfl, ⟨by decide +kernel, by decide +kernel, by decide +kernel⟩, by decide⟩
theorem okM_129 : okM 129 := ⟨WL_of (q := 4) (j := 180) rfl rfl, WL_of (q := 1) (j := 11) rfl rfl, Or.inr (Or.inl ⟨rfl, WL_of (q := 4) (j := 178) rfl rfl, WL_of (q := 4) (j := 179) rfl rfl⟩), by decide +kernel, rfl, ⟨by decide +kernel, by decide +kernel, by decide +kernel⟩, by decide⟩
theorem okM_130 : okM 130 := ⟨WL_of (q := 4) (j := 184) rfl rfl, WL_of (q := 1) (j := 11) rfl rfl, Or.inr (Or.inl ⟨rfl, WL_of (q := 4) (j := 182) rfl rfl, WL_of (q := 4) (j := 183) rfl rfl⟩), by decide +kernel, rfl, ⟨by decide +kernel, by decide +kernel, by decide +kernel⟩, by decide⟩
theorem okM_131 : okM 131 := ⟨WL_of (q := 4) (j := 195) rfl rfl, WL_of (q := 1) (j := 11) rfl rfl, Or.inr (Or.inl ⟨rfl, WL_of (q := 4) (j := 194) rfl rfl, WL_of (q := 0) (j := 32) rfl rfl⟩), by decide +kernel, rfl, ⟨by decide +kernel, by decide +kernel, by decide +kernel⟩, by decide⟩
theorem okM_132 : okM 132 := ⟨WL_of (q := 4) (j := 201) rfl rfl, WL_of (q := 1) (j := 11) rfl rfl, Or.inr (Or.inl ⟨rfl, WL_of (q := 4) (j := 200) rfl rfl, WL_of (q := 0) (j := 33) rfl rfl⟩), by decide +kernel, rfl, ⟨by decide +kernel, by decide +kernel, by decide +kernel⟩, by decide⟩
theorem okM_133 : okM 133 := ⟨WL_of (q := 4) (j := 212) rfl rfl, WL_of (q := 1) (j := 1) rfl rfl, Or.inr (Or.inl ⟨rfl, WL_of (q := 4) (j := 210) rfl rfl, WL_of (q := 4) (j := 211) rfl rfl⟩), by decide +kernel, rfl, ⟨by decide +kernel, by decide +kernel, by decide +kernel⟩, by decide⟩
theorem okM_134 : okM 134 := ⟨WL_of (q := 4) (j := 216) rfl rfl, WL_of (q := 1) (j := 1) rfl rfl, Or.inr (Or.inl ⟨rfl, WL_of (q := 4) (j := 214) rfl rfl, WL_of (q := 4) (j := 215) rfl rfl⟩), by decide +kernel, rfl, ⟨by decide +kernel, by decide +kernel, by decide +kernel⟩, by decide⟩
theorem okM_135 : okM 135 := ⟨WL_of (q := 4) (j := 220) rfl rfl, WL_of (q := 1) (j := 3) rfl rfl, Or.inr (Or.inl ⟨rfl, WL_of (q := 4) (j := 218) rfl rfl, WL_of (q := 4) (j := 219) rfl rfl⟩), by decide +kernel, rfl, ⟨by decide +kernel, by decide +kernel, by decide +kernel⟩, by decide⟩
theorem okM_136 : okM 136 := ⟨WL_of (q := 4) (j := 226) rfl rfl, WL_of (q := 1) (j := 1) rfl rfl, Or.inr (Or.inl ⟨rfl, WL_of (q := 4) (j := 224) rfl rfl, WL_of (q := 4) (j := 225) rfl rfl⟩), by decide +kernel, rfl, ⟨by decide +kernel, by decide +kernel, by decide +kernel⟩, by decide⟩
theorem okM_137 : okM 137 := ⟨WL_of (q := 4) (j := 231) rfl rfl, WL_of (q := 1) (j := 7) rfl rfl, Or.inr (Or.inl ⟨rfl, WL_of (q := 4) (j := 229) rfl rfl, WL_of (q := 4) (j := 230) rfl rfl⟩), by decide +kernel, rfl, ⟨by decide +kernel, by decide +kernel, by decide +kernel⟩, by decide⟩
theorem okM_138 : okM 138 := ⟨WL_of (q := 4) (j := 236) rfl rfl, WL_of (q := 1) (j := 1) rfl rfl, Or.inr (Or.inl ⟨rfl, WL_of (q := 4) (j := 234) rfl rfl, WL_of (q := 4) (j := 235) rfl rfl⟩), by decide +kernel, rfl, ⟨by decide +kernel, by decide +kernel, by decide +kernel⟩, by decide⟩
theorem okM_139 : okM 139 := ⟨WL_of (q := 5) (j := 1) rfl rfl, WL_of (q := 1) (j := 7) rfl rfl, Or.inr (Or.inl ⟨rfl, WL_of (q := 4) (j := 239) rfl rfl, WL_of (q := 5) (j := 0) rfl rfl⟩), by decide +kernel, rfl, ⟨by decide +kernel, by decide +kernel, by decide +kernel⟩, by decide⟩
theorem okM_140 : okM 140 := ⟨WL_of (q := 5) (j := 5) rfl rfl, WL_of (q := 1) (j := 1) rfl rfl, Or.inr (Or.inl ⟨rfl, WL_of (q := 5) (j := 3) rfl rfl, WL_of (q := 5) (j := 4) rfl rfl⟩), by decide +kernel, rfl, ⟨by decide +kernel, by decide +kernel, by decide +kernel⟩, by decide⟩
theorem okM_141 : okM 141 := ⟨WL_of (q := 5) (j := 9) rfl rfl, WL_of (q := 1) (j := 1) rfl rfl, Or.inr (Or.inl ⟨rfl, WL_of (q := 5) (j := 7) rfl rfl, WL_of (q := 5) (j := 8) rfl rfl⟩), by decide +kernel, rfl, ⟨by decide +kernel, by decide +kernel, by decide +kernel⟩, by decide⟩
theorem okM_142 : okM 142 := ⟨WL_of (q := 5) (j := 13) rfl rfl, WL_of (q := 1) (j := 1) rfl rfl, Or.inr (Or.inl ⟨rfl, WL_of (q := 5) (j := 11) rfl rfl, WL_of (q := 5) (j := 12) rfl rfl⟩), by decide +kernel, rfl, ⟨by decide +kernel, by decide +kernel, by decide +kernel⟩, by decide⟩
theorem okM_143 : okM 143 := ⟨WL_of (q := 5) (j := 20) rfl rfl, WL_of (q := 1) (j := 12) rfl rfl, Or.inr (Or.inr ⟨rfl, WL_of (q := 5) (j := 19) rfl rfl, rfl, rfl⟩), by decide +kernel, rfl, ⟨by decide +kernel, by decide +kernel, by decide +kernel⟩, by decide⟩
theorem okM_144 : okM 144 := ⟨WL_of (q := 5) (j := 170) rfl rfl, WL_of (q := 1) (j := 12) rfl rfl, Or.inr (Or.inl ⟨rfl, WL_of (q := 5) (j := 168) rfl rfl, WL_of (q := 5) (j := 169) rfl rfl⟩), by decide +kernel, rfl, ⟨by decide +kernel, by decide +kernel, by decide +kernel⟩, by decide⟩
theorem okM_145 : okM 145 := ⟨WL_of (q := 5) (j := 174) rfl rfl, WL_of (q := 1) (j := 12) rfl rfl, Or.inr (Or.inl ⟨rfl, WL_of (q := 5) (j := 172) rfl rfl, WL_of (q := 5) (j := 173) rfl rfl⟩), by decide +kernel, rfl, ⟨by decide +kernel, by decide +kernel, by decide +kernel⟩, by decide⟩
theorem okM_146 : okM 146 := ⟨WL_of (q := 5) (j := 177) rfl rfl, WL_of (q := 1) (j := 12) rfl rfl, Or.inl ⟨rfl, WL_of (q := 5) (j := 176) rfl rfl⟩, by decide +kernel, rfl, ⟨by decide +kernel, by decide +kernel, by decide +kernel⟩, by decide⟩
theorem okM_147 : okM 147 := ⟨WL_of (q := 5) (j := 181) rfl rfl, WL_of (q := 1) (j := 12) rfl rfl, Or.inr (Or.inl ⟨rfl, WL_of (q := 5) (j := 179) rfl rfl, WL_of (q := 5) (j := 180) rfl rfl⟩), by decide +kernel, rfl, ⟨by decide +kernel, by decide +kernel, by decide +kernel⟩, by decide⟩
theorem okM_148 : okM 148 := ⟨WL_of (q := 5) (j := 185) rfl rfl, WL_of (q := 1) (j := 12) rfl rfl, Or.inr (Or.inl ⟨rfl, WL_of (q := 5) (j := 184) rfl rfl, WL_of (q := 0) (j := 34) rfl rfl⟩), by decide +kernel, rfl, ⟨by decide +kernel, by decide +kernel, by decide +kernel⟩, by decide⟩
theorem okM_149 : okM 149 := ⟨WL_of (q := 5) (j := 188) rfl rfl, WL_of (q := 1) (j := 12) rfl rfl, Or.inl ⟨rfl, WL_of (q := 5) (j := 187) rfl rfl⟩, by decide +kernel, rfl, ⟨by decide +kernel, by decide +kernel, by decide +kernel⟩, by decide⟩
theorem okM_150 : okM 150 := ⟨WL_of (q := 5) (j := 191) rfl rfl, WL_of (q := 1) (j := 12) rfl rfl, Or.inl ⟨rfl, WL_of (q := 5) (j := 190) rfl rfl⟩, by decide +kernel, rfl, ⟨by decide +kernel, by decide +kernel, by decide +kernel⟩, by decide⟩
theorem okM_151 : okM 151 := ⟨WL_of (q := 5) (j := 198) rfl rfl, WL_of (q := 1) (j := 12) rfl rfl, Or.inr (Or.inl ⟨rfl, WL_of (q := 5) (j := 197) rfl rfl, WL_of (q := 0) (j := 35) rfl rfl⟩), by decide +kernel, rfl, ⟨by decide +kernel, by decide +kernel, by decide +kernel⟩, by decide⟩
theorem okM_152 : okM 152 := ⟨WL_of (q := 5) (j := 203) rfl rfl, WL_of (q := 1) (j := 12) rfl rfl, Or.inr (Or.inl ⟨rfl, WL_of (q := 5) (j := 202) rfl rfl, WL_of (q := 0) (j := 36) rfl rfl⟩), by decide +kernel, rfl, ⟨by decide +kernel, by decide +kernel, by decide +kernel⟩, by decide⟩
theorem okM_153 : okM 153 := ⟨WL_of (q := 5) (j := 206) rfl rfl, WL_of (q := 1) (j := 12) rfl rfl, Or.inl ⟨rfl, WL_of (q := 5) (j := 205) rfl rfl⟩, by decide +kernel, rfl, ⟨by decide +kernel, by decide +kernel, by decide +kernel⟩, by decide⟩
theorem okM_154 : okM 154 := ⟨WL_of (q := 5) (j := 210) rfl rfl, WL_of (q := 1) (j := 14) rfl rfl, Or.inr (Or.inl ⟨rfl, WL_of (q := 5) (j := 208) rfl rfl, WL_of (q := 5) (j := 209) rfl rfl⟩), by decide +kernel, rfl, ⟨by decide +kernel, by decide +kernel, by decide +kernel⟩, by decide⟩
theorem okM_155 : okM 155 := ⟨WL_of (q := 5) (j := 214) rfl rfl, WL_of (q := 1) (j := 14) rfl rfl, Or.inr (Or.inl ⟨rfl, WL_of (q := 5) (j := 212) rfl rfl, WL_of (q := 5) (j := 213) rfl rfl⟩), by decide +kernel, rfl, ⟨by decide +kernel, by decide +kernel, by decide +kernel⟩, by decide⟩
theorem okM_156 : okM 156 := ⟨WL_of (q := 5) (j := 220) rfl rfl, WL_of (q := 1) (j := 14) rfl rfl, Or.inr (Or.inl ⟨rfl, WL_of (q := 5) (j := 218) rfl rfl, WL_of (q := 5) (j := 219) rfl rfl⟩), by decide +kernel, rfl, ⟨by decide +kernel, by decide +kernel, by decide +kernel⟩, by decide⟩
theorem okM_157 : okM 157 := ⟨WL_of (q := 5) (j := 224) rfl rfl, WL_of (q := 1) (j := 14) rfl rfl, Or.inr (Or.inl ⟨rfl, WL_of (q := 5) (j := 222) rfl rfl, WL_of (q := 5) (j := 223) rfl rfl⟩), by decide +kernel, rfl, ⟨by decide +kernel, by decide +kernel, by decide +kernel⟩, by decide⟩
theorem okM_158 : okM 158 := ⟨WL_of (q := 5) (j := 227) rfl rfl, WL_of (q := 1) (j := 15) rfl rfl, Or.inl ⟨rfl, WL_of (q := 5) (j := 226) rfl rfl⟩, by decide +kernel, rfl, ⟨by decide +kernel, by decide +kernel, by decide +kernel⟩, by decide⟩
theorem okM_159 : okM 159 := ⟨WL_of (q := 5) (j := 230) rfl rfl, WL_of (q := 1) (j := 14) rfl rfl, Or.inl ⟨rfl, WL_of (q := 5) (j := 229) rfl rfl⟩, by decide +kernel, rfl, ⟨by decide +kernel, by decide +kernel, by decide +kernel⟩, by decide⟩
theorem okM_160 : okM 160 := ⟨WL_of (q := 5) (j := 235) rfl rfl, WL_of (q := 1) (j := 16) rfl rfl, Or.inl ⟨rfl, WL_of (q := 5) (j := 234) rfl rfl⟩, by decide +kernel, rfl, ⟨by decide +kernel, by decide +kernel, by decide +kernel⟩, by decide⟩
theorem okM_161 : okM 161 := ⟨WL_of (q := 6) (j := 19) rfl rfl, WL_of (q := 1) (j := 12) rfl rfl, Or.inr (Or.inl ⟨rfl, WL_of (q := 6) (j := 18) rfl rfl, WL_of (q := 0) (j := 37) rfl rfl⟩), by decide +kernel, rfl, ⟨by decide +kernel, by decide +kernel, by decide +kernel⟩, by decide⟩
theorem okM_162 : okM 162 := ⟨WL_of (q := 6) (j := 23) rfl rfl, WL_of (q := 1) (j := 12) rfl rfl, Or.inr (Or.inl ⟨rfl, WL_of (q := 6) (j := 22) rfl rfl, WL_of (q := 0) (j := 38) rfl rfl⟩), by decide +kernel, rfl, ⟨by decide +kernel, by decide +kernel, by decide +kernel⟩, by decide⟩
theorem okM_163 : okM 163 := ⟨WL_of (q := 6) (j := 33) rfl rfl, WL_of (q := 1) (j := 12) rfl rfl, Or.inr (Or.inl ⟨rfl, WL_of (q := 6) (j := 32) rfl rfl, WL_of (q := 0) (j := 39) rfl rfl⟩), by decide +kernel, rfl, ⟨by decide +kernel, by decide +kernel, by decide +kernel⟩, by decide⟩
theorem okM_164 : okM 164 := ⟨WL_of (q := 6) (j := 37) rfl rfl, WL_of (q := 1) (j := 12) rfl rfl, Or.inr (Or.inl ⟨rfl, WL_of (q := 6) (j := 36) rfl rfl, WL_of (q := 0) (j := 40) rfl rfl⟩), by decide +kernel, rfl, ⟨by decide +kernel, by decide +kernel, by decide +kernel⟩, by decide⟩
theorem okM_165 : okM 165 := ⟨WL_of (q := 6) (j := 41) rfl rfl, WL_of (q := 1) (j := 12) rfl rfl, Or.inr (Or.inl ⟨rfl, WL_of (q := 6) (j := 40) rfl rfl, WL_of (q := 0) (j := 41) rfl rfl⟩), by decide +kernel, rfl, ⟨by decide +kernel, by decide +kernel, by decide +kernel⟩, by decide⟩
theorem okM_166 : okM 166 := ⟨WL_of (q := 6) (j := 45) rfl rfl, WL_of (q := 1) (j := 12) rfl rfl, Or.inr (Or.inl ⟨rfl, WL_of (q := 6) (j := 44) rfl rfl, WL_of (q := 0) (j := 42) rfl rfl⟩), by decide +kernel, rfl, ⟨by decide +kernel, by decide +kernel, by decide +kernel⟩, by decide⟩
theorem okM_167 : okM 167 := ⟨WL_of (q := 6) (j := 49) rfl rfl, WL_of (q := 1) (j := 12) rfl rfl, Or.inr (Or.inl ⟨rfl, WL_of (q := 6) (j := 48) rfl rfl, WL_of (q := 0) (j := 43) rfl rfl⟩), by decide +kernel, rfl, ⟨by decide +kernel, by decide +kernel, by decide +kernel⟩, by decide⟩
theorem okM_168 : okM 168 := ⟨WL_of (q := 6) (j := 53) rfl rfl, WL_of (q := 1) (j := 12) rfl rfl, Or.inr (Or.inl ⟨rfl, WL_of (q := 6) (j := 52) rfl rfl, WL_of (q := 0) (j := 44) rfl rfl⟩), by decide +kernel, rfl, ⟨by decide +kernel, by decide +kernel, by decide +kernel⟩, by decide⟩
theorem okM_169 : okM 169 := ⟨WL_of (q := 6) (j := 57) rfl rfl, WL_of (q := 1) (j := 12) rfl rfl, Or.inr (Or.inl ⟨rfl, WL_of (q := 6) (j := 55) rfl rfl, WL_of (q := 6) (j := 56) rfl rfl⟩), by decide +kernel, rfl, ⟨by decide +kernel, by decide +kernel, by decide +kernel⟩, by decide⟩
theorem okM_170 : okM 170 := ⟨WL_of (q := 6) (j := 62) rfl rfl, WL_of (q := 1) (j := 12) rfl rfl, Or.inr (Or.inl ⟨rfl, WL_of (q := 6) (j := 61) rfl rfl, WL_of (q := 0) (j := 45) rfl rfl⟩), by decide +kernel, rfl, ⟨by decide +kernel, by decide +kernel, by decide +kernel⟩, by decide⟩
theorem okM_171 : okM 171 := ⟨WL_of (q := 6) (j := 66) rfl rfl, WL_of (q := 1) (j := 12) rfl rfl, Or.inr (Or.inl ⟨rfl, WL_of (q := 6) (j := 64) rfl rfl, WL_of (q := 6) (j := 65) rfl rfl⟩), by decide +kernel, rfl, ⟨by decide +kernel, by decide +kernel, by decide +kernel⟩, by decide⟩
theorem okM_172 : okM 172 := ⟨WL_of (q := 6) (j := 70) rfl rfl, WL_of (q := 1) (j := 12) rfl rfl, Or.inr (Or.inl ⟨rfl, WL_of (q := 6) (j := 69) rfl rfl, WL_of (q := 0) (j := 46) rfl rfl⟩), by decide +kernel, rfl, ⟨by decide +kernel, by decide +kernel, by decide +kernel⟩, by decide⟩
theorem okM_173 : okM 173 := ⟨WL_of (q := 6) (j := 73) rfl rfl, WL_of (q := 1) (j := 12) rfl rfl, Or.inl ⟨rfl, WL_of (q := 6) (j := 72) rfl rfl⟩, by decide +kernel, rfl, ⟨by decide +kernel, by decide +kernel, by decide +kernel⟩, by decide⟩
theorem okM_174 : okM 174 := ⟨WL_of (q := 6) (j := 76) rfl rfl, WL_of (q := 1) (j := 12) rfl rfl, Or.inl ⟨rfl, WL_of (q := 6) (j := 75) rfl rfl⟩, by decide +kernel, rfl, ⟨by decide +kernel, by decide +kernel, by decide +kernel⟩, by decide⟩
theorem okM_175 : okM 175 := ⟨WL_of (q := 6) (j := 80) rfl rfl, WL_of (q := 1) (j := 12) rfl rfl, Or.inr (Or.inl ⟨rfl, WL_of (q := 6) (j := 79) rfl rfl, WL_of (q := 0) (j := 47) rfl rfl⟩), by decide +kernel, rfl, ⟨by decide +kernel, by decide +kernel, by decide +kernel⟩, by decide⟩
theorem okM_176 : okM 176 := ⟨WL_of (q := 6) (j := 84) rfl rfl, WL_of (q := 1) (j := 12) rfl rfl, Or.inr (Or.inl ⟨rfl, WL_of (q := 6) (j := 82) rfl rfl, WL_of (q := 6) (j := 83) rfl rfl⟩), by decide +kernel, rfl, ⟨by decide +kernel, by decide +kernel, by decide +kernel⟩, by decide⟩
theorem okM_177 : okM 177 := ⟨WL_of (q := 6) (j := 88) rfl rfl, WL_of (q := 1) (j := 12) rfl rfl, Or.inr (Or.inl ⟨rfl, WL_of (q := 6) (j := 87) rfl rfl, WL_of (q := 0) (j := 48) rfl rfl⟩), by decide +kernel, rfl, ⟨by decide +kernel, by decide +kernel, by decide +kernel⟩, by decide⟩
theorem okM_178 : okM 178 := ⟨WL_of (q := 6) (j := 92) rfl rfl, WL_of (q := 1) (j := 12) rfl rfl, Or.inr (Or.inl ⟨rfl, WL_of (q := 6) (j := 90) rfl rfl, WL_of (q := 6) (j := 91) rfl rfl⟩), by decide +kernel, rfl, ⟨by decide +kernel, by decide +kernel, by decide +kernel⟩, by decide⟩
theorem okM_179 : okM 179 := ⟨WL_of (q := 6) (j := 96) rfl rfl, WL_of (q := 1) (j := 12) rfl rfl, Or.inr (Or.inl ⟨rfl, WL_of (q := 6) (j := 94) rfl rfl, WL_of (q := 6) (j := 95) rfl rfl⟩), by decide +kernel, rfl, ⟨by decide +kernel, by decide +kernel, by decide +kernel⟩, by decide⟩
theorem okM_180 : okM 180 := ⟨WL_of (q := 6) (j := 99) rfl rfl, WL_of (q := 1) (j := 12) rfl rfl, Or.inl ⟨rfl, WL_of (q := 6) (j := 98) rfl rfl⟩, by decide +kernel, rfl, ⟨by decide +kernel, by decide +kernel, by decide +kernel⟩, by decide⟩
theorem okM_181 : okM 181 := ⟨WL_of (q := 6) (j := 102) rfl rfl, WL_of (q := 1) (j := 12) rfl rfl, Or.inl ⟨rfl, WL_of (q := 6) (j := 101) rfl rfl⟩, by decide +kernel, rfl, ⟨by decide +kernel, by decide +kernel, by decide +kernel⟩, by decide⟩
theorem okM_182 : okM 182 := ⟨WL_of (q := 6) (j := 105) rfl rfl, WL_of (q := 1) (j := 12) rfl rfl, Or.inl ⟨rfl, WL_of (q := 6) (j := 104) rfl rfl⟩, by decide +kernel, rfl, ⟨by decide +kernel, by decide +kernel, by decide +kernel⟩, by decide⟩
theorem okM_183 : okM 183 := ⟨WL_of (q := 6) (j := 109) rfl rfl, WL_of (q := 1) (j := 12) rfl rfl, Or.inr (Or.inl ⟨rfl, WL_of (q := 6) (j := 107) rfl rfl, WL_of (q := 6) (j := 108) rfl rfl⟩), by decide +kernel, rfl, ⟨by decide +kernel, by decide +kernel, by decide +kernel⟩, by decide⟩
theorem okM_184 : okM 184 := ⟨WL_of (q := 6) (j := 112) rfl rfl, WL_of (q := 1) (j := 12) rfl rfl, Or.inl ⟨rfl, WL_of (q := 6) (j := 111) rfl rfl⟩, by decide +kernel, rfl, ⟨by decide +kernel, by decide +kernel, by decide +kernel⟩, by decide⟩
theorem okM_185 : okM 185 := ⟨WL_of (q := 6) (j := 116) rfl rfl, WL_of (q := 1) (j := 12) rfl rfl, Or.inr (Or.inl ⟨rfl, WL_of (q := 6) (j := 115) rfl rfl, WL_of (q := 0) (j := 49) rfl rfl⟩), by decide +kernel, rfl, ⟨by decide +kernel, by decide +kernel, by decide +kernel⟩, by decide⟩
theorem okM_186 : okM 186 := ⟨WL_of (q := 6) (j := 124) rfl rfl, WL_of (q := 1) (j := 12) rfl rfl, Or.inr (Or.inl ⟨rfl, WL_of (q := 6) (j := 123) rfl rfl, WL_of (q := 0) (j := 50) rfl rfl⟩), by decide +kernel, rfl, ⟨by decide +kernel, by decide +kernel, by decide +kernel⟩, by decide⟩
theorem okM_187 : okM 187 := ⟨WL_of (q := 6) (j := 128) rfl rfl, WL_of (q := 1) (j := 12) rfl rfl, Or.inr (Or.inl ⟨rfl, WL_of (q := 6) (j := 127) rfl rfl, WL_of (q := 0) (j := 51) rfl rfl⟩), by decide +kernel, rfl, ⟨by decide +kernel, by decide +kernel, by decide +kernel⟩, by decide⟩
theorem okM_188 : okM 188 := ⟨WL_of (q := 6) (j := 132) rfl rfl, WL_of (q := 1) (j := 12) rfl rfl, Or.inr (Or.inl ⟨rfl, WL_of (q := 6) (j := 131) rfl rfl, WL_of (q := 0) (j := 52) rfl rfl⟩), by decide +kernel, rfl, ⟨by decide +kernel, by decide +kernel, by decide +kernel⟩, by decide⟩
theorem okM_189 : okM 189 := ⟨WL_of (q := 6) (j := 136) rfl rfl, WL_of (q := 1) (j := 12) rfl rfl, Or.inr (Or.inl ⟨rfl, WL_of (q := 6) (j := 135) rfl rfl, WL_of (q := 0) (j := 53) rfl rfl⟩), by decide +kernel, rfl, ⟨by decide +kernel, by decide +kernel, by decide +kernel⟩, by decide⟩
theorem okM_190 : okM 190 := ⟨WL_of (q := 6) (j := 140) rfl rfl, WL_of (q := 1) (j := 12) rfl rfl, Or.inr (Or.inl ⟨rfl, WL_of (q := 6) (j := 139) rfl rfl, WL_of (q := 0) (j := 54) rfl rfl⟩), by decide +kernel, rfl, ⟨by decide +kernel, by decide +kernel, by decide +kernel⟩, by decide⟩
theorem okM_191 : okM 191 := ⟨WL_of (q := 6) (j := 144) rfl rfl, WL_of (q := 1) (j := 12) rfl rfl, Or.inr (Or.inl ⟨rfl, WL_of (q := 6) (j := 143) rfl rfl, WL_of (q := 0) (j := 55) rfl rfl⟩), by decide +kernel, rfl, ⟨by decide +kernel, by decide +kernel, by decide +kernel⟩, by decide⟩
theorem okM_192 : okM 192 := ⟨WL_of (q := 6) (j := 149) rfl rfl, WL_of (q := 1) (j := 12) rfl rfl, Or.inr (Or.inl ⟨rfl, WL_of (q := 6) (j := 147) rfl rfl, WL_of (q := 6) (j := 148) rfl rfl⟩), by decide +kernel, rfl, ⟨by decide +kernel, by decide +kernel, by decide +kernel⟩, by decide⟩
theorem okM_193 : okM 193 := ⟨WL_of (q := 6) (j := 153) rfl rfl, WL_of (q := 1) (j := 12) rfl rfl, Or.inr (Or.inl ⟨rfl, WL_of (q := 6) (j := 152) rfl rfl, WL_of (q := 0) (j := 56) rfl rfl⟩), by decide +kernel, rfl, ⟨by decide +kernel, by decide +kernel, by decide +kernel⟩, by decide⟩
theorem okM_194 : okM 194 := ⟨WL_of (q := 6) (j := 157) rfl rfl, WL_of (q := 1) (j := 12) rfl rfl, Or.inr (Or.inl ⟨rfl, WL_of (q := 6) (j := 156) rfl rfl, WL_of (q := 0) (j := 57) rfl rfl⟩), by decide +kernel, rfl, ⟨by decide +kernel, by decide +kernel, by decide +kernel⟩, by decide⟩
theorem okM_195 : okM 195 := ⟨WL_of (q := 6) (j := 161) rfl rfl, WL_of (q := 1) (j := 12) rfl rfl, Or.inr (Or.inl ⟨rfl, WL_of (q := 6) (j := 160) rfl rfl, WL_of (q := 0) (j := 58) rfl rfl⟩), by decide +kernel, rfl, ⟨by decide +kernel, by decide +kernel, by decide +kernel⟩, by decide⟩
theorem okM_196 : okM 196 := ⟨WL_of (q := 6) (j := 165) rfl rfl, WL_of (q := 1) (j := 12) rfl rfl, Or.inr (Or.inl ⟨rfl, WL_of (q := 6) (j := 164) rfl rfl, WL_of (q := 0) (j := 59) rfl rfl⟩), by decide +kernel, rfl, ⟨by decide +kernel, by decide +kernel, by decide +kernel⟩, by decide⟩
theorem okM_197 : okM 197 := ⟨WL_of (q := 6) (j := 171) rfl rfl, WL_of (q := 1) (j := 12) rfl rfl, Or.inr (Or.inl ⟨rfl, WL_of (q := 6) (j := 170) rfl rfl, WL_of (q := 0) (j := 60) rfl rfl⟩), by decide +kernel, rfl, ⟨by decide +kernel, by decide +kernel, by decide +kernel⟩, by decide⟩
theorem okM_198 : okM 198 := ⟨WL_of (q := 6) (j := 175) rfl rfl, WL_of (q := 1) (j := 12) rfl rfl, Or.inr (Or.inl ⟨rfl, WL_of (q := 6) (j := 174) rfl rfl, WL_of (q := 0) (j := 61) rfl rfl⟩), by decide +kernel, rfl, ⟨by decide +kernel, by decide +kernel, by decide +kernel⟩, by decide⟩
theorem okM_199 : okM 199 := ⟨WL_of (q := 6) (j := 179) rfl rfl, WL_of (q := 1) (j := 12) rfl rfl, Or.inr (Or.inl ⟨rfl, WL_of (q := 6) (j := 178) rfl rfl, WL_of (q := 0) (j := 62) rfl rfl⟩), by decide +kernel, rfl, ⟨by decide +kernel, by decide +kernel, by decide +kernel⟩, by decide⟩
theorem okM_200 : okM 200 := ⟨WL_of (q := 6) (j := 184) rfl rfl, WL_of (q := 1) (j := 12) rfl rfl, Or.inr (Or.inl ⟨rfl, WL_of (q := 6) (j := 183) rfl rfl, WL_of (q := 0) (j := 63) rfl rfl⟩), by decide +kernel, rfl, ⟨by decide +kernel, by decide +kernel, by decide +kernel⟩, by decide⟩
theorem okM_201 : okM 201 := ⟨WL_of (q := 6) (j := 190) rfl rfl, WL_of (q := 1) (j := 12) rfl rfl, Or.inr (Or.inl ⟨rfl, WL_of (q := 6) (j := 188) rfl rfl, WL_of (q := 6) (j := 189) rfl rfl⟩), by decide +kernel, rfl, ⟨by decide +kernel, by decide +kernel, by decide +kernel⟩, by decide⟩
theorem okM_202 : okM 202 := ⟨WL_of (q := 6) (j := 194) rfl rfl, WL_of (q := 1) (j := 12) rfl rfl, Or.inr (Or.inl ⟨rfl, WL_of (q := 6) (j := 192) rfl rfl, WL_of (q := 6) (j := 193) rfl rfl⟩), by decide +kernel, rfl, ⟨by decide +kernel, by decide +kernel, by decide +kernel⟩, by decide⟩
theorem okM_203 : okM 203 := ⟨WL_of (q := 6) (j := 198) rfl rfl, WL_of (q := 1) (j := 12) rfl rfl, Or.inr (Or.inl ⟨rfl, WL_of (q := 6) (j := 196) rfl rfl, WL_of (q := 6) (j := 197) rfl rfl⟩), by decide +kernel, rfl, ⟨by decide +kernel, by decide +kernel, by decide +kernel⟩, by decide⟩
theorem okM_204 : okM 204 := ⟨WL_of (q := 6) (j := 202) rfl rfl, WL_of (q := 1) (j := 12) rfl rfl, Or.inr (Or.inl ⟨rfl, WL_of (q := 6) (j := 201) rfl rfl, WL_of (q := 0) (j := 64) rfl rfl⟩), by decide +kernel, rfl, ⟨by decide +kernel, by decide +kernel, by decide +kernel⟩, by decide⟩
theorem okM_205 : okM 205 := ⟨WL_of (q := 6) (j := 206) rfl rfl, WL_of (q := 1) (j := 12) rfl rfl, Or.inr (Or.inl ⟨rfl, WL_of (q := 6) (j := 205) rfl rfl, WL_of (q := 0) (j := 65) rfl rfl⟩), by decide +kernel, rfl, ⟨by decide +kernel, by decide +kernel, by decide +kernel⟩, by decide⟩
theorem okM_206 : okM 206 := ⟨WL_of (q := 6) (j := 210) rfl rfl, WL_of (q := 1) (j := 12) rfl rfl, Or.inr (Or.inl ⟨rfl, WL_of (q := 6) (j := 209) rfl rfl, WL_of (q := 0) (j := 66) rfl rfl⟩), by decide +kernel, rfl, ⟨by decide +kernel, by decide +kernel, by decide +kernel⟩, by decide⟩
theorem okM_207 : okM 207 := ⟨WL_of (q := 6) (j := 214) rfl rfl, WL_of (q := 1) (j := 12) rfl rfl, Or.inr (Or.inl ⟨rfl, WL_of (q := 6) (j := 212) rfl rfl, WL_of (q := 6) (j := 213) rfl rfl⟩), by decide +kernel, rfl, ⟨by decide +kernel, by decide +kernel, by decide +kernel⟩, by decide⟩
theorem okM_208 : okM 208 := ⟨WL_of (q := 6) (j := 218) rfl rfl, WL_of (q := 1) (j := 12) rfl rfl, Or.inr (Or.inl ⟨rfl, WL_of (q := 6) (j := 216) rfl rfl, WL_of (q := 6) (j := 217) rfl rfl⟩), by decide +kernel, rfl, ⟨by decide +kernel, by decide +kernel, by decide +kernel⟩, by decide⟩
theorem okM_209 : okM 209 := ⟨WL_of (q := 6) (j := 222) rfl rfl, WL_of (q := 1) (j := 12) rfl rfl, Or.inr (Or.inl ⟨rfl, WL_of (q := 6) (j := 221) rfl rfl, WL_of (q := 0) (j := 67) rfl rfl⟩), by decide +kernel, rfl, ⟨by decide +kernel, by decide +kernel, by decide +kernel⟩, by decide⟩
theorem okM_210 : okM 210 := ⟨WL_of (q := 6) (j := 226) rfl rfl, WL_of (q := 1) (j := 12) rfl rfl, Or.inr (Or.inl ⟨rfl, WL_of (q := 6) (j := 225) rfl rfl, WL_of (q := 0) (j := 68) rfl rfl⟩), by decide +kernel, rfl, ⟨by decide +kernel, by decide +kernel, by decide +kernel⟩, by decide⟩
theorem okM_211 : okM 211 := ⟨WL_of (q := 6) (j := 229) rfl rfl, WL_of (q := 1) (j := 12) rfl rfl, Or.inl ⟨rfl, WL_of (q := 6) (j := 228) rfl rfl⟩, by decide +kernel, rfl, ⟨by decide +kernel, by decide +kernel, by decide +kernel⟩, by decide⟩
theorem okM_212 : okM 212 := ⟨WL_of (q := 6) (j := 233) rfl rfl, WL_of (q := 1) (j := 12) rfl rfl, Or.inr (Or.inl ⟨rfl, WL_of (q := 6) (j := 231) rfl rfl, WL_of (q := 6) (j := 232) rfl rfl⟩), by decide +kernel, rfl, ⟨by decide +kernel, by decide +kernel, by decide +kernel⟩, by decide⟩
theorem okM_213 : okM 213 := ⟨WL_of (q := 6) (j := 237) rfl rfl, WL_of (q := 1) (j := 12) rfl rfl, Or.inr (Or.inl ⟨rfl, WL_of (q := 6) (j := 235) rfl rfl, WL_of (q := 6) (j := 236) rfl rfl⟩), by decide +kernel, rfl, ⟨by decide +kernel, by decide +kernel, by decide +kernel⟩, by decide⟩
theorem okM_214 : okM 214 := ⟨WL_of (q := 7) (j := 1) rfl rfl, WL_of (q := 1) (j := 12) rfl rfl, Or.inr (Or.inl ⟨rfl, WL_of (q := 6) (j := 239) rfl rfl, WL_of (q := 7) (j := 0) rfl rfl⟩), by decide +kernel, rfl, ⟨by decide +kernel, by decide +kernel, by decide +kernel⟩, by decide⟩
theorem okM_215 : okM 215 := ⟨WL_of (q := 7) (j := 5) rfl rfl, WL_of (q := 1) (j := 12) rfl rfl, Or.inr (Or.inl ⟨rfl, WL_of (q := 7) (j := 3) rfl rfl, WL_of (q := 7) (j := 4) rfl rfl⟩), by decide +kernel, rfl, ⟨by decide +kernel, by decide +kernel, by decide +kernel⟩, by decide⟩
theorem okM_216 : okM 216 := ⟨WL_of (q := 7) (j := 10) rfl rfl, WL_of (q := 1) (j := 12) rfl rfl, Or.inr (Or.inl ⟨rfl, WL_of (q := 7) (j := 8) rfl rfl, WL_of (q := 7) (j := 9) rfl rfl⟩), by decide +kernel, rfl, ⟨by decide +kernel, by decide +kernel, by decide +kernel⟩, by decide⟩
theorem okM_217 : okM 217 := ⟨WL_of (q := 7) (j := 14) rfl rfl, WL_of (q := 1) (j := 12) rfl rfl, Or.inr (Or.inl ⟨rfl, WL_of (q := 7) (j := 12) rfl rfl, WL_of (q := 7) (j := 13) rfl rfl⟩), by decide +kernel, rfl, ⟨by decide +kernel, by decide +kernel, by decide +kernel⟩, by decide⟩
theorem okM_218 : okM 218 := ⟨WL_of (q := 7) (j := 18) rfl rfl, WL_of (q := 1) (j := 12) rfl rfl, Or.inr (Or.inl ⟨rfl, WL_of (q := 7) (j := 16) rfl rfl, WL_of (q := 7) (j := 17) rfl rfl⟩), by decide +kernel, rfl, ⟨by decide +kernel, by decide +kernel, by decide +kernel⟩, by decide⟩
def NM : Nat := 219
theorem okM_all : ∀ i, i < NM → okM i := by
  intro i hi
  have hi : i < 219 := hi
  match i, hi with
  | 0, _ => exact okM_0
  | 1, _ => exact okM_1
  | 2, _ => exact okM_2
  | 3, _ => exact okM_3
  | 4, _ => exact okM_4
  | 5, _ => exact okM_5
  | 6, _ => exact okM_6
  | 7, _ => exact okM_7
  | 8, _ => exact okM_8
  | 9, _ => exact okM_9
  | 10, _ => exact okM_10
  | 11, _ => exact okM_11
  | 12, _ => exact okM_12
  | 13, _ => exact okM_13
  | 14, _ => exact okM_14
  | 15, _ => exact okM_15
  | 16, _ => exact okM_16
  | 17, _ => exact okM_17
  | 18, _ => exact okM_18
  | 19, _ => exact okM_19
  | 20, _ => exact okM_20
  | 21, _ => exact okM_21
  | 22, _ => exact okM_22
  | 23, _ => exact okM_23
  | 24, _ => exact okM_24
  | 25, _ => exact okM_25
  | 26, _ => exact okM_26
  | 27, _ => exact okM_27
  | 28, _ => exact okM_28
  | 29, _ => exact okM_29
  | 30, _ => exact okM_30
  | 31, _ => exact okM_31
  | 32, _ => exact okM_32
  | 33, _ => exact okM_33
  | 34, _ => exact okM_34
  | 35, _ => exact okM_35
  | 36, _ => exact okM_36
  | 37, _ => exact okM_37
  | 38, _ => exact okM_38
  | 39, _ => exact okM_39
  | 40, _ => exact okM_40
  | 41, _ => exact okM_41
  | 42, _ => exact okM_42
  | 43, _ => exact okM_43
  | 44, _ => exact okM_44
  | 45, _ => exact okM_45
  | 46, _ => exact okM_46
  | 47, _ => exact okM_47
  | 48, _ => exact okM_48
  | 49, _ => exact okM_49
  | 50, _ => exact okM_50
  | 51, _ => exact okM_51
  | 52, _ => exact okM_52
  | 53, _ => exact okM_53
  | 54, _ => exact okM_54
  | 55, _ => exact okM_55
  | 56, _ => exact okM_56
  | 57, _ => exact okM_57
  | 58, _ => exact okM_58
  | 59, _ => exact okM_59
  | 60, _ => exact okM_60
  | 61, _ => exact okM_61
  | 62, _ => exact okM_62
  | 63, _ => exact okM_63
  | 64, _ => exact okM_64
  | 65, _ => exact okM_65
  | 66, _ => exact okM_66
  | 67, _ => exact okM_67
  | 68, _ => exact okM_68
  | 69, _ => exact okM_69
  | 70, _ => exact okM_70
  | 71, _ => exact okM_71
  | 72, _ => exact okM_72
  | 73, _ => exact okM_73
  | 74, _ => exact okM_74
  | 75, _ => exact okM_75
  | 76, _ => exact okM_76
  | 77, _ => exact okM_77
  | 78, _ => exact okM_78
  | 79, _ => exact okM_79
  | 80, _ => exact okM_80
  | 81, _ => exact okM_81
  | 82, _ => exact okM_82
  | 83, _ => exact okM_83
  | 84, _ => exact okM_84
  | 85, _ => exact okM_85
  | 86, _ => exact okM_86
  | 87, _ => exact okM_87
  | 88, _ => exact okM_88
  | 89, _ => exact okM_89
  | 90, _ => exact okM_90
  | 91, _ => exact okM_91
  | 92, _ => exact okM_92
  | 93, _ => exact okM_93
  | 94, _ => exact okM_94
  | 95, _ => exact okM_95
  | 96, _ => exact okM_96
  | 97, _ => exact okM_97
  | 98, _ => exact okM_98
  | 99, _ => exact okM_99
  | 100, _ => exact okM_100
  | 101, _ => exact okM_101
  | 102, _ => exact okM_102
  | 103, _ => exact okM_103
  | 104, _ => exact okM_104
  | 105, _ => exact okM_105
  | 106, _ => exact okM_106
  | 107, _ => exact okM_107
  | 108, _ => exact okM_108
  | 109, _ => exact okM_109
  | 110, _ => exact okM_110
  | 111, _ => exact okM_111
  | 112, _ => exact okM_112
  | 113, _ => exact okM_113
  | 114, _ => exact okM_114
  | 115, _ => exact okM_115
  | 116, _ => exact okM_116
  | 117, _ => exact okM_117
  | 118, _ => exact okM_118
  | 119, _ => exact okM_119
  | 120, _ => exact okM_120
  | 121, _ => exact okM_121
  | 122, _ => exact okM_122
  | 123, _ => exact okM_123
  | 124, _ => exact okM_124
  | 125, _ => exact okM_125
  | 126, _ => exact okM_126
  | 127, _ => exact okM_127
  | 128, _ => exact okM_128
  | 129, _ => exact okM_129
  | 130, _ => exact okM_130
  | 131, _ => exact okM_131
  | 132, _ => exact okM_132
  | 133, _ => exact okM_133
  | 134, _ => exact okM_134
  | 135, _ => exact okM_135
  | 136, _ => exact okM_136
  | 137, _ => exact okM_137
  | 138, _ => exact okM_138
  | 139, _ => exact okM_139
  | 140, _ => exact okM_140
  | 141, _ => exact okM_141
  | 142, _ => exact okM_142
  | 143, _ => exact okM_143
  | 144, _ => exact okM_144
  | 145, _ => exact okM_145
  | 146, _ => exact okM_146
  | 147, _ => exact okM_147
  | 148, _ => exact okM_148
  | 149, _ => exact okM_149
  | 150, _ => exact okM_150
  | 151, _ => exact okM_151
  | 152, _ => exact okM_152
  | 153, _ => exact okM_153
  | 154, _ => exact okM_154
  | 155, _ => exact okM_155
  | 156, _ => exact okM_156
  | 157, _ => exact okM_157
  | 158, _ => exact okM_158
  | 159, _ => exact okM_159
  | 160, _ => exact okM_160
  | 161, _ => exact okM_161
  | 162, _ => exact okM_162
  | 163, _ => exact okM_163
  | 164, _ => exact okM_164
  | 165, _ => exact okM_165
  | 166, _ => exact okM_166
  | 167, _ => exact okM_167
  | 168, _ => exact okM_168
  | 169, _ => exact okM_169
  | 170, _ => exact okM_170
  | 171, _ => exact okM_171
  | 172, _ => exact okM_172
  | 173, _ => exact okM_173
  | 174, _ => exact okM_174
  | 175, _ => exact okM_175
  | 176, _ => exact okM_176
  | 177, _ => exact okM_177
  | 178, _ => exact okM_178
  | 179, _ => exact okM_179
  | 180, _ => exact okM_180
  | 181, _ => exact okM_181
  | 182, _ => exact okM_182
  | 183, _ => exact okM_183
  | 184, _ => exact okM_184
  | 185, _ => exact okM_185
  | 186, _ => exact okM_186
  | 187, _ => exact okM_187
  | 188, _ => exact okM_188
  | 189, _ => exact okM_189
  | 190, _ => exact okM_190
  | 191, _ => exact okM_191
  | 192, _ => exact okM_192
  | 193, _ => exact okM_193
  | 194, _ => exact okM_194
  | 195, _ => exact okM_195
  | 196, _ => exact okM_196
  | 197, _ => exact okM_197
  | 198, _ => exact okM_198
  | 199, _ => exact okM_199
  | 200, _ => exact okM_200
  | 201, _ => exact okM_201
  | 202, _ => exact okM_202
  | 203, _ => exact okM_203
  | 204, _ => exact okM_204
  | 205, _ => exact okM_205
  | 206, _ => exact okM_206
  | 207, _ => exact okM_207
  | 208, _ => exact okM_208
  | 209, _ => exact okM_209
  | 210, _ => exact okM_210
  | 211, _ => exact okM_211
  | 212, _ => exact okM_212
  | 213, _ => exact okM_213
  | 214, _ => exact okM_214
  | 215, _ => exact okM_215
  | 216, _ => exact okM_216
  | 217, _ => exact okM_217
  | 218, _ => exact okM_218
  | i + 219, hi => omega
end
section
/-! LINKS, by owner and index. -/
def mthY (k : Nat) : MethodName := match k with
  | 0 => Lib.Math.max.name
  | 1 => Lib.MathLoose.max_long.x
  | 2 => Lib.Math.min.name
  | _ => Lib.MathLoose.min_long.x
def mthP (e : Nat × Nat × Nat) : Prop := e.2.2 < 4 ∧ Cond.methodLink (oN e.1) e.2.1 (mthY e.2.2) ∈ WL
def mthF_0 : List (Nat × Nat × Nat) := [(3, 15, 2), (2, 64, 2), (2, 85, 0), (6, 17, 2), (6, 23, 0), (1, 99, 1), (11, 37, 2), (11, 47, 0), (5, 116, 1), (5, 87, 3), (4, 144, 1), (4, 84, 2), (4, 89, 0), (4, 117, 3), (7, 82, 3)]
def mthF : List (Nat × Nat × Nat) := mthF_0
theorem mthF_ok0 : ∀ e ∈ mthF_0, mthP e := allP_mem ⟨⟨by decide, WL_of (q := 2) (j := 135) rfl rfl⟩, ⟨⟨by decide, WL_of (q := 3) (j := 21) rfl rfl⟩, ⟨⟨by decide, WL_of (q := 3) (j := 27) rfl rfl⟩, ⟨⟨by decide, WL_of (q := 3) (j := 158) rfl rfl⟩, ⟨⟨by decide, WL_of (q := 3) (j := 159) rfl rfl⟩, ⟨⟨by decide, WL_of (q := 3) (j := 201) rfl rfl⟩, ⟨⟨by decide, WL_of (q := 3) (j := 225) rfl rfl⟩, ⟨⟨by decide, WL_of (q := 3) (j := 235) rfl rfl⟩, ⟨⟨by decide, WL_of (q := 4) (j := 61) rfl rfl⟩, ⟨⟨by decide, WL_of (q := 4) (j := 67) rfl rfl⟩, ⟨⟨by decide, WL_of (q := 4) (j := 140) rfl rfl⟩, ⟨⟨by decide, WL_of (q := 4) (j := 154) rfl rfl⟩, ⟨⟨by decide, WL_of (q := 4) (j := 155) rfl rfl⟩, ⟨⟨by decide, WL_of (q := 4) (j := 166) rfl rfl⟩, ⟨⟨by decide, WL_of (q := 4) (j := 208) rfl rfl⟩, trivial⟩⟩⟩⟩⟩⟩⟩⟩⟩⟩⟩⟩⟩⟩⟩
theorem mthF_ok : ∀ e ∈ mthF, mthP e := mthF_ok0
def mth (o i : Nat) : Option Nat := lo mthF o i
theorem mthw : (Cond.static (mthY 0) ∈ WL ∧ Cond.code (mthY 0) Lib.Math.max.code 2 (some .int) ∈ WL) ∧ (Cond.static (mthY 1) ∈ WL ∧ Cond.code (mthY 1) Lib.MathLoose.max_long.code 4 (some .long) ∈ WL) ∧ (Cond.static (mthY 2) ∈ WL ∧ Cond.code (mthY 2) Lib.Math.min.code 2 (some .int) ∈ WL) ∧ (Cond.static (mthY 3) ∈ WL ∧ Cond.code (mthY 3) Lib.MathLoose.min_long.code 4 (some .long) ∈ WL) ∧ Cond.initialized "java/lang/Math" ∈ WL := ⟨⟨WL_of (q := 3) (j := 28) rfl rfl, WL_of (q := 3) (j := 29) rfl rfl⟩, ⟨WL_of (q := 3) (j := 202) rfl rfl, WL_of (q := 3) (j := 203) rfl rfl⟩, ⟨WL_of (q := 2) (j := 136) rfl rfl, WL_of (q := 2) (j := 137) rfl rfl⟩, ⟨WL_of (q := 4) (j := 68) rfl rfl, WL_of (q := 4) (j := 69) rfl rfl⟩, WL_of (q := 1) (j := 13) rfl rfl⟩
def mlP (e : Nat × Nat × Nat) : Prop := Cond.methodLink (oN e.1) e.2.1 (mY e.2.2) ∈ WL
def mlF_0 : List (Nat × Nat × Nat) := [(13, 9, 0), (9, 15, 1), (9, 24, 2), (9, 34, 3), (0, 17, 4), (2, 46, 5), (2, 54, 6), (2, 50, 7), (0, 24, 8), (0, 37, 9), (1, 11, 10), (0, 46, 11), (5, 11, 10), (0, 49, 12), (13, 13, 13), (9, 60, 14), (13, 18, 15), (13, 23, 16), (9, 64, 17), (3, 28, 18), (3, 33, 19), (3, 149, 20), (3, 152, 21), (3, 155, 22)]
def mlF_1 : List (Nat × Nat × Nat) := [(3, 158, 23), (3, 39, 24), (3, 46, 25), (3, 58, 26), (3, 77, 27), (3, 81, 28), (3, 84, 29), (3, 90, 30), (3, 97, 31), (8, 56, 27), (3, 101, 32), (3, 64, 33), (3, 121, 34), (3, 127, 35), (3, 139, 36), (3, 145, 37), (8, 60, 34), (3, 131, 38), (3, 69, 39), (3, 112, 40), (3, 74, 41), (13, 28, 42), (9, 72, 43), (8, 84, 24)]
def mlF_2 : List (Nat × Nat × Nat) := [(9, 80, 44), (0, 56, 45), (2, 74, 46), (2, 92, 36), (2, 78, 24), (2, 88, 47), (8, 74, 48), (8, 67, 49), (8, 63, 50), (0, 64, 51), (13, 32, 52), (9, 86, 53), (9, 90, 54), (12, 23, 55), (9, 96, 56), (9, 100, 57), (9, 104, 58), (13, 37, 59), (9, 108, 50), (9, 112, 60), (9, 115, 49), (9, 118, 61), (13, 42, 62), (9, 121, 63)]
def mlF_3 : List (Nat × Nat × Nat) := [(9, 125, 64), (8, 71, 61), (9, 128, 65), (13, 47, 66), (9, 135, 67), (8, 90, 68), (12, 19, 69), (12, 15, 57), (8, 94, 53), (8, 98, 54), (9, 139, 70), (12, 11, 71), (13, 51, 72), (9, 142, 73), (9, 163, 74), (9, 145, 75), (9, 153, 76), (0, 70, 77), (0, 75, 78), (6, 28, 79), (9, 157, 80), (1, 34, 81), (2, 102, 82), (2, 106, 83)]
def mlF_4 : List (Nat × Nat × Nat) := [(2, 95, 55), (1, 40, 84), (1, 46, 85), (1, 54, 86), (1, 59, 87), (1, 79, 71), (1, 88, 54), (1, 92, 70), (1, 96, 80), (1, 63, 88), (1, 105, 57), (1, 109, 89), (1, 67, 90), (11, 9, 55), (11, 15, 91), (11, 27, 54), (11, 31, 58), (1, 73, 92), (11, 43, 93), (11, 50, 57), (11, 54, 56), (11, 57, 71), (1, 76, 94), (1, 50, 95)]
def mlF_5 : List (Nat × Nat × Nat) := [(13, 55, 96), (9, 168, 97), (9, 175, 98), (0, 79, 99), (0, 89, 76), (0, 92, 100), (9, 237, 101), (5, 34, 63), (5, 45, 80), (5, 51, 102), (2, 99, 63), (5, 56, 84), (5, 62, 103), (5, 73, 48), (5, 77, 60), (5, 81, 104), (5, 93, 64), (5, 96, 65), (5, 99, 101), (5, 102, 105), (5, 105, 106), (5, 109, 67), (5, 113, 70), (5, 66, 107)]
def mlF_6 : List (Nat × Nat × Nat) := [(5, 69, 95), (9, 239, 105), (9, 172, 108), (13, 60, 109), (9, 179, 110), (13, 64, 111), (9, 183, 112), (13, 68, 113), (9, 190, 114), (4, 25, 63), (4, 35, 115), (4, 39, 50), (4, 43, 116), (9, 196, 117), (4, 66, 118), (4, 47, 64), (4, 50, 65), (4, 123, 83), (4, 61, 70), (4, 69, 119), (4, 73, 120), (4, 130, 80), (4, 136, 121), (4, 141, 68)]
def mlF_7 : List (Nat × Nat × Nat) := [(13, 72, 122), (9, 200, 123), (4, 77, 124), (4, 106, 125), (4, 110, 102), (4, 113, 126), (4, 119, 48), (13, 76, 127), (9, 206, 128), (0, 98, 98), (0, 102, 129), (9, 210, 130), (7, 31, 63), (7, 42, 80), (7, 52, 48), (7, 56, 64), (7, 60, 65), (7, 64, 110), (7, 70, 131), (7, 91, 67), (7, 98, 54), (7, 102, 132), (7, 106, 69), (7, 109, 58)]
def mlF_8 : List (Nat × Nat × Nat) := [(7, 113, 56), (7, 73, 70), (7, 76, 130), (7, 79, 60), (13, 81, 133), (13, 85, 134), (9, 213, 135), (8, 78, 64), (8, 81, 60), (13, 89, 136), (9, 216, 116), (9, 219, 137), (4, 57, 67), (13, 93, 138), (9, 222, 136), (9, 225, 139), (13, 97, 140), (13, 101, 141), (13, 105, 142), (9, 231, 55), (9, 234, 68), (13, 12, 143), (13, 17, 144), (13, 22, 145)]
def mlF_9 : List (Nat × Nat × Nat) := [(10, 98, 146), (13, 27, 147), (10, 168, 148), (10, 115, 149), (10, 119, 150), (10, 208, 151), (10, 144, 152), (10, 138, 153), (10, 128, 154), (16, 335, 155), (10, 134, 156), (16, 492, 157), (16, 495, 158), (17, 9, 159), (16, 1059, 160), (20, 414, 159), (10, 195, 161), (10, 171, 162), (10, 175, 163), (10, 179, 164), (10, 183, 165), (10, 165, 166), (10, 199, 167), (10, 192, 168)]
def mlF_10 : List (Nat × Nat × Nat) := [(13, 31, 169), (10, 211, 147), (10, 234, 170), (13, 36, 171), (10, 332, 172), (10, 244, 173), (10, 237, 174), (10, 251, 175), (13, 41, 176), (10, 304, 177), (13, 46, 178), (13, 50, 179), (10, 300, 180), (10, 241, 181), (10, 254, 182), (13, 54, 183), (10, 335, 184), (10, 322, 185), (10, 280, 186), (10, 267, 187), (10, 258, 188), (10, 248, 189), (10, 261, 190), (10, 271, 191)]
def mlF_11 : List (Nat × Nat × Nat) := [(13, 59, 192), (10, 338, 193), (10, 318, 194), (10, 296, 195), (10, 290, 196), (10, 325, 197), (10, 308, 198), (10, 312, 199), (10, 342, 200), (13, 63, 201), (13, 67, 202), (13, 71, 203), (10, 349, 204), (10, 346, 205), (10, 352, 206), (13, 75, 207), (13, 80, 208), (10, 363, 209), (10, 356, 210), (10, 360, 211), (13, 84, 212), (13, 88, 213), (13, 92, 214), (13, 96, 215)]
def mlF_12 : List (Nat × Nat × Nat) := [(10, 370, 214), (13, 100, 216), (13, 104, 217), (13, 108, 218)]
def mlF : List (Nat × Nat × Nat) := mlF_0 ++ (mlF_1 ++ (mlF_2 ++ (mlF_3 ++ (mlF_4 ++ (mlF_5 ++ (mlF_6 ++ (mlF_7 ++ (mlF_8 ++ (mlF_9 ++ (mlF_10 ++ (mlF_11 ++ (mlF_12))))))))))))
theorem mlF_ok0 : ∀ e ∈ mlF_0, mlP e := allP_mem ⟨WL_of (q := 1) (j := 23) rfl rfl, ⟨WL_of (q := 1) (j := 31) rfl rfl, ⟨WL_of (q := 1) (j := 63) rfl rfl, ⟨WL_of (q := 1) (j := 131) rfl rfl, ⟨WL_of (q := 1) (j := 137) rfl rfl, ⟨WL_of (q := 1) (j := 141) rfl rfl, ⟨WL_of (q := 1) (j := 144) rfl rfl, ⟨WL_of (q := 1) (j := 147) rfl rfl, ⟨WL_of (q := 1) (j := 189) rfl rfl, ⟨WL_of (q := 1) (j := 215) rfl rfl, ⟨WL_of (q := 1) (j := 221) rfl rfl, ⟨WL_of (q := 2) (j := 12) rfl rfl, ⟨WL_of (q := 2) (j := 17) rfl rfl, ⟨WL_of (q := 2) (j := 37) rfl rfl, ⟨WL_of (q := 2) (j := 115) rfl rfl, ⟨WL_of (q := 2) (j := 119) rfl rfl, ⟨WL_of (q := 2) (j := 123) rfl rfl, ⟨WL_of (q := 2) (j := 127) rfl rfl, ⟨WL_of (q := 2) (j := 131) rfl rfl, ⟨WL_of (q := 2) (j := 138) rfl rfl, ⟨WL_of (q := 2) (j := 142) rfl rfl, ⟨WL_of (q := 2) (j := 146) rfl rfl, ⟨WL_of (q := 2) (j := 150) rfl rfl, ⟨WL_of (q := 2) (j := 154) rfl rfl, trivial⟩⟩⟩⟩⟩⟩⟩⟩⟩⟩⟩⟩⟩⟩⟩⟩⟩⟩⟩⟩⟩⟩⟩⟩
theorem mlF_ok1 : ∀ e ∈ mlF_1, mlP e := allP_mem ⟨WL_of (q := 2) (j := 158) rfl rfl, ⟨WL_of (q := 2) (j := 162) rfl rfl, ⟨WL_of (q := 2) (j := 166) rfl rfl, ⟨WL_of (q := 2) (j := 172) rfl rfl, ⟨WL_of (q := 2) (j := 176) rfl rfl, ⟨WL_of (q := 2) (j := 180) rfl rfl, ⟨WL_of (q := 2) (j := 190) rfl rfl, ⟨WL_of (q := 2) (j := 194) rfl rfl, ⟨WL_of (q := 2) (j := 198) rfl rfl, ⟨WL_of (q := 2) (j := 202) rfl rfl, ⟨WL_of (q := 2) (j := 203) rfl rfl, ⟨WL_of (q := 2) (j := 207) rfl rfl, ⟨WL_of (q := 2) (j := 211) rfl rfl, ⟨WL_of (q := 2) (j := 215) rfl rfl, ⟨WL_of (q := 2) (j := 219) rfl rfl, ⟨WL_of (q := 2) (j := 223) rfl rfl, ⟨WL_of (q := 2) (j := 227) rfl rfl, ⟨WL_of (q := 2) (j := 228) rfl rfl, ⟨WL_of (q := 2) (j := 232) rfl rfl, ⟨WL_of (q := 2) (j := 236) rfl rfl, ⟨WL_of (q := 3) (j := 0) rfl rfl, ⟨WL_of (q := 3) (j := 4) rfl rfl, ⟨WL_of (q := 3) (j := 8) rfl rfl, ⟨WL_of (q := 3) (j := 12) rfl rfl, trivial⟩⟩⟩⟩⟩⟩⟩⟩⟩⟩⟩⟩⟩⟩⟩⟩⟩⟩⟩⟩⟩⟩⟩⟩
theorem mlF_ok2 : ∀ e ∈ mlF_2, mlP e := allP_mem ⟨WL_of (q := 3) (j := 13) rfl rfl, ⟨WL_of (q := 3) (j := 17) rfl rfl, ⟨WL_of (q := 3) (j := 22) rfl rfl, ⟨WL_of (q := 3) (j := 25) rfl rfl, ⟨WL_of (q := 3) (j := 26) rfl rfl, ⟨WL_of (q := 3) (j := 30) rfl rfl, ⟨WL_of (q := 3) (j := 34) rfl rfl, ⟨WL_of (q := 3) (j := 38) rfl rfl, ⟨WL_of (q := 3) (j := 42) rfl rfl, ⟨WL_of (q := 3) (j := 46) rfl rfl, ⟨WL_of (q := 3) (j := 50) rfl rfl, ⟨WL_of (q := 3) (j := 54) rfl rfl, ⟨WL_of (q := 3) (j := 58) rfl rfl, ⟨WL_of (q := 3) (j := 61) rfl rfl, ⟨WL_of (q := 3) (j := 64) rfl rfl, ⟨WL_of (q := 3) (j := 68) rfl rfl, ⟨WL_of (q := 3) (j := 71) rfl rfl, ⟨WL_of (q := 3) (j := 75) rfl rfl, ⟨WL_of (q := 3) (j := 79) rfl rfl, ⟨WL_of (q := 3) (j := 80) rfl rfl, ⟨WL_of (q := 3) (j := 84) rfl rfl, ⟨WL_of (q := 3) (j := 85) rfl rfl, ⟨WL_of (q := 3) (j := 89) rfl rfl, ⟨WL_of (q := 3) (j := 93) rfl rfl, trivial⟩⟩⟩⟩⟩⟩⟩⟩⟩⟩⟩⟩⟩⟩⟩⟩⟩⟩⟩⟩⟩⟩⟩⟩
theorem mlF_ok3 : ∀ e ∈ mlF_3, mlP e := allP_mem ⟨WL_of (q := 3) (j := 96) rfl rfl, ⟨WL_of (q := 3) (j := 100) rfl rfl, ⟨WL_of (q := 3) (j := 101) rfl rfl, ⟨WL_of (q := 3) (j := 106) rfl rfl, ⟨WL_of (q := 3) (j := 110) rfl rfl, ⟨WL_of (q := 3) (j := 114) rfl rfl, ⟨WL_of (q := 3) (j := 117) rfl rfl, ⟨WL_of (q := 3) (j := 120) rfl rfl, ⟨WL_of (q := 3) (j := 121) rfl rfl, ⟨WL_of (q := 3) (j := 122) rfl rfl, ⟨WL_of (q := 3) (j := 123) rfl rfl, ⟨WL_of (q := 3) (j := 126) rfl rfl, ⟨WL_of (q := 3) (j := 129) rfl rfl, ⟨WL_of (q := 3) (j := 133) rfl rfl, ⟨WL_of (q := 3) (j := 137) rfl rfl, ⟨WL_of (q := 3) (j := 140) rfl rfl, ⟨WL_of (q := 3) (j := 145) rfl rfl, ⟨WL_of (q := 3) (j := 149) rfl rfl, ⟨WL_of (q := 3) (j := 154) rfl rfl, ⟨WL_of (q := 3) (j := 161) rfl rfl, ⟨WL_of (q := 3) (j := 164) rfl rfl, ⟨WL_of (q := 3) (j := 168) rfl rfl, ⟨WL_of (q := 3) (j := 172) rfl rfl, ⟨WL_of (q := 3) (j := 176) rfl rfl, trivial⟩⟩⟩⟩⟩⟩⟩⟩⟩⟩⟩⟩⟩⟩⟩⟩⟩⟩⟩⟩⟩⟩⟩⟩
theorem mlF_ok4 : ∀ e ∈ mlF_4, mlP e := allP_mem ⟨WL_of (q := 3) (j := 180) rfl rfl, ⟨WL_of (q := 3) (j := 181) rfl rfl, ⟨WL_of (q := 3) (j := 186) rfl rfl, ⟨WL_of (q := 3) (j := 190) rfl rfl, ⟨WL_of (q := 3) (j := 193) rfl rfl, ⟨WL_of (q := 3) (j := 197) rfl rfl, ⟨WL_of (q := 3) (j := 198) rfl rfl, ⟨WL_of (q := 3) (j := 199) rfl rfl, ⟨WL_of (q := 3) (j := 200) rfl rfl, ⟨WL_of (q := 3) (j := 204) rfl rfl, ⟨WL_of (q := 3) (j := 208) rfl rfl, ⟨WL_of (q := 3) (j := 209) rfl rfl, ⟨WL_of (q := 3) (j := 213) rfl rfl, ⟨WL_of (q := 3) (j := 216) rfl rfl, ⟨WL_of (q := 3) (j := 217) rfl rfl, ⟨WL_of (q := 3) (j := 223) rfl rfl, ⟨WL_of (q := 3) (j := 224) rfl rfl, ⟨WL_of (q := 3) (j := 226) rfl rfl, ⟨WL_of (q := 3) (j := 229) rfl rfl, ⟨WL_of (q := 3) (j := 232) rfl rfl, ⟨WL_of (q := 3) (j := 233) rfl rfl, ⟨WL_of (q := 3) (j := 234) rfl rfl, ⟨WL_of (q := 3) (j := 236) rfl rfl, ⟨WL_of (q := 3) (j := 239) rfl rfl, trivial⟩⟩⟩⟩⟩⟩⟩⟩⟩⟩⟩⟩⟩⟩⟩⟩⟩⟩⟩⟩⟩⟩⟩⟩
theorem mlF_ok5 : ∀ e ∈ mlF_5, mlP e := allP_mem ⟨WL_of (q := 4) (j := 3) rfl rfl, ⟨WL_of (q := 4) (j := 7) rfl rfl, ⟨WL_of (q := 4) (j := 11) rfl rfl, ⟨WL_of (q := 4) (j := 15) rfl rfl, ⟨WL_of (q := 4) (j := 20) rfl rfl, ⟨WL_of (q := 4) (j := 21) rfl rfl, ⟨WL_of (q := 4) (j := 25) rfl rfl, ⟨WL_of (q := 4) (j := 29) rfl rfl, ⟨WL_of (q := 4) (j := 30) rfl rfl, ⟨WL_of (q := 4) (j := 31) rfl rfl, ⟨WL_of (q := 4) (j := 35) rfl rfl, ⟨WL_of (q := 4) (j := 36) rfl rfl, ⟨WL_of (q := 4) (j := 38) rfl rfl, ⟨WL_of (q := 4) (j := 42) rfl rfl, ⟨WL_of (q := 4) (j := 43) rfl rfl, ⟨WL_of (q := 4) (j := 44) rfl rfl, ⟨WL_of (q := 4) (j := 48) rfl rfl, ⟨WL_of (q := 4) (j := 49) rfl rfl, ⟨WL_of (q := 4) (j := 50) rfl rfl, ⟨WL_of (q := 4) (j := 51) rfl rfl, ⟨WL_of (q := 4) (j := 55) rfl rfl, ⟨WL_of (q := 4) (j := 59) rfl rfl, ⟨WL_of (q := 4) (j := 60) rfl rfl, ⟨WL_of (q := 4) (j := 62) rfl rfl, trivial⟩⟩⟩⟩⟩⟩⟩⟩⟩⟩⟩⟩⟩⟩⟩⟩⟩⟩⟩⟩⟩⟩⟩⟩
theorem mlF_ok6 : ∀ e ∈ mlF_6, mlP e := allP_mem ⟨WL_of (q := 4) (j := 70) rfl rfl, ⟨WL_of (q := 4) (j := 71) rfl rfl, ⟨WL_of (q := 4) (j := 72) rfl rfl, ⟨WL_of (q := 4) (j := 78) rfl rfl, ⟨WL_of (q := 4) (j := 82) rfl rfl, ⟨WL_of (q := 4) (j := 86) rfl rfl, ⟨WL_of (q := 4) (j := 90) rfl rfl, ⟨WL_of (q := 4) (j := 94) rfl rfl, ⟨WL_of (q := 4) (j := 98) rfl rfl, ⟨WL_of (q := 4) (j := 102) rfl rfl, ⟨WL_of (q := 4) (j := 103) rfl rfl, ⟨WL_of (q := 4) (j := 106) rfl rfl, ⟨WL_of (q := 4) (j := 107) rfl rfl, ⟨WL_of (q := 4) (j := 111) rfl rfl, ⟨WL_of (q := 4) (j := 116) rfl rfl, ⟨WL_of (q := 4) (j := 120) rfl rfl, ⟨WL_of (q := 4) (j := 121) rfl rfl, ⟨WL_of (q := 4) (j := 122) rfl rfl, ⟨WL_of (q := 4) (j := 123) rfl rfl, ⟨WL_of (q := 4) (j := 124) rfl rfl, ⟨WL_of (q := 4) (j := 128) rfl rfl, ⟨WL_of (q := 4) (j := 133) rfl rfl, ⟨WL_of (q := 4) (j := 134) rfl rfl, ⟨WL_of (q := 4) (j := 139) rfl rfl, trivial⟩⟩⟩⟩⟩⟩⟩⟩⟩⟩⟩⟩⟩⟩⟩⟩⟩⟩⟩⟩⟩⟩⟩⟩
theorem mlF_ok7 : ∀ e ∈ mlF_7, mlP e := allP_mem ⟨WL_of (q := 4) (j := 141) rfl rfl, ⟨WL_of (q := 4) (j := 145) rfl rfl, ⟨WL_of (q := 4) (j := 149) rfl rfl, ⟨WL_of (q := 4) (j := 157) rfl rfl, ⟨WL_of (q := 4) (j := 161) rfl rfl, ⟨WL_of (q := 4) (j := 162) rfl rfl, ⟨WL_of (q := 4) (j := 167) rfl rfl, ⟨WL_of (q := 4) (j := 168) rfl rfl, ⟨WL_of (q := 4) (j := 172) rfl rfl, ⟨WL_of (q := 4) (j := 176) rfl rfl, ⟨WL_of (q := 4) (j := 177) rfl rfl, ⟨WL_of (q := 4) (j := 181) rfl rfl, ⟨WL_of (q := 4) (j := 185) rfl rfl, ⟨WL_of (q := 4) (j := 186) rfl rfl, ⟨WL_of (q := 4) (j := 188) rfl rfl, ⟨WL_of (q := 4) (j := 189) rfl rfl, ⟨WL_of (q := 4) (j := 190) rfl rfl, ⟨WL_of (q := 4) (j := 191) rfl rfl, ⟨WL_of (q := 4) (j := 192) rfl rfl, ⟨WL_of (q := 4) (j := 196) rfl rfl, ⟨WL_of (q := 4) (j := 197) rfl rfl, ⟨WL_of (q := 4) (j := 198) rfl rfl, ⟨WL_of (q := 4) (j := 202) rfl rfl, ⟨WL_of (q := 4) (j := 203) rfl rfl, trivial⟩⟩⟩⟩⟩⟩⟩⟩⟩⟩⟩⟩⟩⟩⟩⟩⟩⟩⟩⟩⟩⟩⟩⟩
theorem mlF_ok8 : ∀ e ∈ mlF_8, mlP e := allP_mem ⟨WL_of (q := 4) (j := 204) rfl rfl, ⟨WL_of (q := 4) (j := 205) rfl rfl, ⟨WL_of (q := 4) (j := 206) rfl rfl, ⟨WL_of (q := 4) (j := 207) rfl rfl, ⟨WL_of (q := 4) (j := 209) rfl rfl, ⟨WL_of (q := 4) (j := 213) rfl rfl, ⟨WL_of (q := 4) (j := 217) rfl rfl, ⟨WL_of (q := 4) (j := 221) rfl rfl, ⟨WL_of (q := 4) (j := 222) rfl rfl, ⟨WL_of (q := 4) (j := 223) rfl rfl, ⟨WL_of (q := 4) (j := 227) rfl rfl, ⟨WL_of (q := 4) (j := 228) rfl rfl, ⟨WL_of (q := 4) (j := 232) rfl rfl, ⟨WL_of (q := 4) (j := 233) rfl rfl, ⟨WL_of (q := 4) (j := 237) rfl rfl, ⟨WL_of (q := 4) (j := 238) rfl rfl, ⟨WL_of (q := 5) (j := 2) rfl rfl, ⟨WL_of (q := 5) (j := 6) rfl rfl, ⟨WL_of (q := 5) (j := 10) rfl rfl, ⟨WL_of (q := 5) (j := 14) rfl rfl, ⟨WL_of (q := 5) (j := 15) rfl rfl, ⟨WL_of (q := 5) (j := 18) rfl rfl, ⟨WL_of (q := 5) (j := 167) rfl rfl, ⟨WL_of (q := 5) (j := 171) rfl rfl, trivial⟩⟩⟩⟩⟩⟩⟩⟩⟩⟩⟩⟩⟩⟩⟩⟩⟩⟩⟩⟩⟩⟩⟩⟩
theorem mlF_ok9 : ∀ e ∈ mlF_9, mlP e := allP_mem ⟨WL_of (q := 5) (j := 175) rfl rfl, ⟨WL_of (q := 5) (j := 178) rfl rfl, ⟨WL_of (q := 5) (j := 182) rfl rfl, ⟨WL_of (q := 5) (j := 186) rfl rfl, ⟨WL_of (q := 5) (j := 189) rfl rfl, ⟨WL_of (q := 5) (j := 195) rfl rfl, ⟨WL_of (q := 5) (j := 200) rfl rfl, ⟨WL_of (q := 5) (j := 204) rfl rfl, ⟨WL_of (q := 5) (j := 207) rfl rfl, ⟨WL_of (q := 5) (j := 211) rfl rfl, ⟨WL_of (q := 5) (j := 217) rfl rfl, ⟨WL_of (q := 5) (j := 221) rfl rfl, ⟨WL_of (q := 5) (j := 225) rfl rfl, ⟨WL_of (q := 5) (j := 228) rfl rfl, ⟨WL_of (q := 5) (j := 233) rfl rfl, ⟨WL_of (q := 6) (j := 5) rfl rfl, ⟨WL_of (q := 6) (j := 16) rfl rfl, ⟨WL_of (q := 6) (j := 20) rfl rfl, ⟨WL_of (q := 6) (j := 30) rfl rfl, ⟨WL_of (q := 6) (j := 34) rfl rfl, ⟨WL_of (q := 6) (j := 38) rfl rfl, ⟨WL_of (q := 6) (j := 42) rfl rfl, ⟨WL_of (q := 6) (j := 46) rfl rfl, ⟨WL_of (q := 6) (j := 50) rfl rfl, trivial⟩⟩⟩⟩⟩⟩⟩⟩⟩⟩⟩⟩⟩⟩⟩⟩⟩⟩⟩⟩⟩⟩⟩⟩
theorem mlF_ok10 : ∀ e ∈ mlF_10, mlP e := allP_mem ⟨WL_of (q := 6) (j := 54) rfl rfl, ⟨WL_of (q := 6) (j := 58) rfl rfl, ⟨WL_of (q := 6) (j := 59) rfl rfl, ⟨WL_of (q := 6) (j := 63) rfl rfl, ⟨WL_of (q := 6) (j := 67) rfl rfl, ⟨WL_of (q := 6) (j := 71) rfl rfl, ⟨WL_of (q := 6) (j := 74) rfl rfl, ⟨WL_of (q := 6) (j := 77) rfl rfl, ⟨WL_of (q := 6) (j := 81) rfl rfl, ⟨WL_of (q := 6) (j := 85) rfl rfl, ⟨WL_of (q := 6) (j := 89) rfl rfl, ⟨WL_of (q := 6) (j := 93) rfl rfl, ⟨WL_of (q := 6) (j := 97) rfl rfl, ⟨WL_of (q := 6) (j := 100) rfl rfl, ⟨WL_of (q := 6) (j := 103) rfl rfl, ⟨WL_of (q := 6) (j := 106) rfl rfl, ⟨WL_of (q := 6) (j := 110) rfl rfl, ⟨WL_of (q := 6) (j := 113) rfl rfl, ⟨WL_of (q := 6) (j := 121) rfl rfl, ⟨WL_of (q := 6) (j := 125) rfl rfl, ⟨WL_of (q := 6) (j := 129) rfl rfl, ⟨WL_of (q := 6) (j := 133) rfl rfl, ⟨WL_of (q := 6) (j := 137) rfl rfl, ⟨WL_of (q := 6) (j := 141) rfl rfl, trivial⟩⟩⟩⟩⟩⟩⟩⟩⟩⟩⟩⟩⟩⟩⟩⟩⟩⟩⟩⟩⟩⟩⟩⟩
theorem mlF_ok11 : ∀ e ∈ mlF_11, mlP e := allP_mem ⟨WL_of (q := 6) (j := 146) rfl rfl, ⟨WL_of (q := 6) (j := 150) rfl rfl, ⟨WL_of (q := 6) (j := 154) rfl rfl, ⟨WL_of (q := 6) (j := 158) rfl rfl, ⟨WL_of (q := 6) (j := 162) rfl rfl, ⟨WL_of (q := 6) (j := 168) rfl rfl, ⟨WL_of (q := 6) (j := 172) rfl rfl, ⟨WL_of (q := 6) (j := 176) rfl rfl, ⟨WL_of (q := 6) (j := 181) rfl rfl, ⟨WL_of (q := 6) (j := 187) rfl rfl, ⟨WL_of (q := 6) (j := 191) rfl rfl, ⟨WL_of (q := 6) (j := 195) rfl rfl, ⟨WL_of (q := 6) (j := 199) rfl rfl, ⟨WL_of (q := 6) (j := 203) rfl rfl, ⟨WL_of (q := 6) (j := 207) rfl rfl, ⟨WL_of (q := 6) (j := 211) rfl rfl, ⟨WL_of (q := 6) (j := 215) rfl rfl, ⟨WL_of (q := 6) (j := 219) rfl rfl, ⟨WL_of (q := 6) (j := 223) rfl rfl, ⟨WL_of (q := 6) (j := 227) rfl rfl, ⟨WL_of (q := 6) (j := 230) rfl rfl, ⟨WL_of (q := 6) (j := 234) rfl rfl, ⟨WL_of (q := 6) (j := 238) rfl rfl, ⟨WL_of (q := 7) (j := 2) rfl rfl, trivial⟩⟩⟩⟩⟩⟩⟩⟩⟩⟩⟩⟩⟩⟩⟩⟩⟩⟩⟩⟩⟩⟩⟩⟩
theorem mlF_ok12 : ∀ e ∈ mlF_12, mlP e := allP_mem ⟨WL_of (q := 7) (j := 6) rfl rfl, ⟨WL_of (q := 7) (j := 7) rfl rfl, ⟨WL_of (q := 7) (j := 11) rfl rfl, ⟨WL_of (q := 7) (j := 15) rfl rfl, trivial⟩⟩⟩⟩
theorem mlF_ok : ∀ e ∈ mlF, mlP e := (memP_app mlF_ok0 (memP_app mlF_ok1 (memP_app mlF_ok2 (memP_app mlF_ok3 (memP_app mlF_ok4 (memP_app mlF_ok5 (memP_app mlF_ok6 (memP_app mlF_ok7 (memP_app mlF_ok8 (memP_app mlF_ok9 (memP_app mlF_ok10 (memP_app mlF_ok11 mlF_ok12))))))))))))
def ml (o i : Nat) : Option Nat := lo mlF o i
/-- links to Object's constructor -/
def oiP (e : Nat × Nat × Nat) : Prop := Cond.methodLink (oN e.1) e.2.1 objectInit ∈ WL
def oiF_0 : List (Nat × Nat × Nat) := [(9, 1, 0), (3, 3, 0), (8, 3, 0), (0, 3, 0), (2, 9, 0), (4, 7, 0), (1, 3, 0), (6, 3, 0), (5, 3, 0), (7, 3, 0), (10, 1, 0)]
def oiF : List (Nat × Nat × Nat) := oiF_0
theorem oiF_ok0 : ∀ e ∈ oiF_0, oiP e := allP_mem ⟨WL_of (q := 1) (j := 26) rfl rfl, ⟨WL_of (q := 1) (j := 34) rfl rfl, ⟨WL_of (q := 1) (j := 66) rfl rfl, ⟨WL_of (q := 1) (j := 134) rfl rfl, ⟨WL_of (q := 1) (j := 140) rfl rfl, ⟨WL_of (q := 1) (j := 192) rfl rfl, ⟨WL_of (q := 1) (j := 218) rfl rfl, ⟨WL_of (q := 1) (j := 224) rfl rfl, ⟨WL_of (q := 2) (j := 15) rfl rfl, ⟨WL_of (q := 2) (j := 40) rfl rfl, ⟨WL_of (q := 5) (j := 21) rfl rfl, trivial⟩⟩⟩⟩⟩⟩⟩⟩⟩⟩⟩
theorem oiF_ok : ∀ e ∈ oiF, oiP e := oiF_ok0
def oin (o i : Nat) : Option Nat := lo oiF o i
theorem oiw : Cond.instanceMethod objectInit ∈ WL ∧ Cond.code objectInit ⟨#[0xb1]⟩ 1 none ∈ WL := ⟨WL_of (q := 1) (j := 27) rfl rfl, WL_of (q := 1) (j := 28) rfl rfl⟩
def flP (e : Nat × Nat × Nat × Nat) : Prop := ∃ r, vwCl[e.2.2.1]? = some r ∧ e.2.2.2 < r.2.2 ∧ Cond.fieldLink (oN e.1) e.2.1 (r.2.1 e.2.2.2).1 (r.2.1 e.2.2.2).2.1 (r.2.1 e.2.2.2).2.2.1 ∈ WL
def flF_0 : List (Nat × Nat × Nat × Nat) := [(3, 9, 3, 0), (3, 21, 3, 1), (3, 25, 3, 2), (3, 36, 3, 3), (3, 43, 3, 4), (3, 94, 3, 5), (3, 50, 3, 6), (3, 124, 3, 7), (8, 33, 8, 0), (11, 21, 8, 0), (1, 83, 8, 0), (7, 95, 8, 0), (2, 82, 8, 0), (9, 83, 8, 0), (8, 37, 8, 1), (5, 40, 8, 1), (7, 37, 8, 1), (4, 29, 8, 1), (2, 60, 8, 1), (9, 228, 8, 1), (8, 40, 8, 2), (7, 88, 8, 2), (3, 109, 8, 2), (4, 54, 8, 2)]
def flF_1 : List (Nat × Nat × Nat × Nat) := [(5, 119, 8, 2), (9, 132, 8, 2), (8, 43, 8, 3), (0, 83, 8, 3), (3, 118, 8, 3), (9, 150, 8, 3), (8, 46, 8, 4), (3, 105, 8, 4), (8, 50, 8, 5), (3, 115, 8, 5), (8, 53, 8, 6), (8, 11, 8, 7), (8, 17, 8, 8), (8, 21, 8, 9), (8, 24, 8, 10), (8, 27, 8, 11), (8, 30, 8, 12), (2, 15, 2, 0), (2, 19, 2, 1), (2, 22, 2, 2), (2, 25, 2, 3), (2, 28, 2, 4), (2, 31, 2, 5), (2, 34, 2, 6)]
def flF_2 : List (Nat × Nat × Nat × Nat) := [(2, 37, 2, 7), (2, 40, 2, 8), (2, 43, 2, 9), (2, 71, 2, 10), (2, 70, 2, 11), (4, 13, 4, 0), (4, 17, 4, 1), (4, 21, 4, 2), (4, 92, 4, 3), (4, 99, 4, 4), (4, 103, 4, 5), (6, 9, 6, 0), (6, 13, 6, 1), (1, 12, 1, 0), (0, 60, 1, 0), (1, 18, 1, 1), (1, 22, 1, 2), (1, 26, 1, 3), (1, 30, 1, 4), (5, 12, 5, 0), (0, 69, 5, 0), (5, 18, 5, 1), (5, 22, 5, 2), (5, 26, 5, 3)]
def flF_3 : List (Nat × Nat × Nat × Nat) := [(5, 30, 5, 4), (7, 9, 7, 0), (7, 15, 7, 1), (7, 23, 7, 2), (7, 27, 7, 3), (7, 19, 7, 4), (0, 27, 0, 0), (9, 186, 0, 0), (0, 9, 0, 1), (0, 18, 0, 2), (0, 52, 0, 3), (0, 33, 0, 4), (0, 42, 0, 5), (9, 9, 9, 0), (9, 57, 9, 1), (9, 18, 9, 2), (9, 25, 9, 3), (9, 29, 9, 4), (9, 37, 9, 5), (9, 68, 9, 6), (9, 76, 9, 7), (9, 41, 9, 8), (9, 45, 9, 9), (9, 49, 9, 10)]
def flF_4 : List (Nat × Nat × Nat × Nat) := [(9, 53, 9, 11), (10, 9, 10, 0), (10, 95, 10, 1), (10, 102, 10, 2), (10, 112, 10, 3), (10, 105, 10, 4), (10, 108, 10, 5), (10, 162, 10, 6), (10, 13, 10, 7), (10, 17, 10, 8), (10, 21, 10, 9), (10, 186, 10, 10), (10, 25, 10, 11), (10, 28, 10, 12), (10, 202, 10, 13), (10, 205, 10, 14), (10, 214, 10, 15), (10, 218, 10, 16), (10, 31, 10, 17), (10, 221, 10, 18), (10, 34, 10, 19), (10, 37, 10, 20), (10, 224, 10, 21), (10, 226, 10, 22)]
def flF_5 : List (Nat × Nat × Nat × Nat) := [(10, 228, 10, 23), (10, 231, 10, 24), (10, 40, 10, 25), (10, 44, 10, 26), (10, 47, 10, 27), (10, 50, 10, 28), (10, 53, 10, 29), (10, 189, 10, 30), (10, 57, 10, 31), (10, 60, 10, 32), (10, 264, 10, 33), (10, 63, 10, 34), (10, 67, 10, 35), (10, 70, 10, 36), (10, 73, 10, 37), (10, 77, 10, 38), (10, 293, 10, 39), (10, 287, 10, 40), (10, 80, 10, 41), (10, 83, 10, 42), (10, 86, 10, 43), (10, 89, 10, 44), (10, 92, 10, 45), (10, 367, 10, 46)]
def flF : List (Nat × Nat × Nat × Nat) := flF_0 ++ (flF_1 ++ (flF_2 ++ (flF_3 ++ (flF_4 ++ (flF_5)))))
theorem flF_ok0 : ∀ e ∈ flF_0, flP e := allP_mem ⟨⟨_, rfl, by decide, WL_of (q := 1) (j := 35) rfl rfl⟩, ⟨⟨_, rfl, by decide, WL_of (q := 1) (j := 36) rfl rfl⟩, ⟨⟨_, rfl, by decide, WL_of (q := 1) (j := 37) rfl rfl⟩, ⟨⟨_, rfl, by decide, WL_of (q := 1) (j := 38) rfl rfl⟩, ⟨⟨_, rfl, by decide, WL_of (q := 1) (j := 39) rfl rfl⟩, ⟨⟨_, rfl, by decide, WL_of (q := 1) (j := 40) rfl rfl⟩, ⟨⟨_, rfl, by decide, WL_of (q := 1) (j := 41) rfl rfl⟩, ⟨⟨_, rfl, by decide, WL_of (q := 1) (j := 42) rfl rfl⟩, ⟨⟨_, rfl, by decide, WL_of (q := 1) (j := 67) rfl rfl⟩, ⟨⟨_, rfl, by decide, WL_of (q := 1) (j := 68) rfl rfl⟩, ⟨⟨_, rfl, by decide, WL_of (q := 1) (j := 69) rfl rfl⟩, ⟨⟨_, rfl, by decide, WL_of (q := 1) (j := 70) rfl rfl⟩, ⟨⟨_, rfl, by decide, WL_of (q := 1) (j := 71) rfl rfl⟩, ⟨⟨_, rfl, by decide, WL_of (q := 1) (j := 72) rfl rfl⟩, ⟨⟨_, rfl, by decide, WL_of (q := 1) (j := 73) rfl rfl⟩, ⟨⟨_, rfl, by decide, WL_of (q := 1) (j := 74) rfl rfl⟩, ⟨⟨_, rfl, by decide, WL_of (q := 1) (j := 75) rfl rfl⟩, ⟨⟨_, rfl, by decide, WL_of (q := 1) (j := 76) rfl rfl⟩, ⟨⟨_, rfl, by decide, WL_of (q := 1) (j := 77) rfl rfl⟩, ⟨⟨_, rfl, by decide, WL_of (q := 1) (j := 78) rfl rfl⟩, ⟨⟨_, rfl, by decide, WL_of (q := 1) (j := 79) rfl rfl⟩, ⟨⟨_, rfl, by decide, WL_of (q := 1) (j := 80) rfl rfl⟩, ⟨⟨_, rfl, by decide, WL_of (q := 1) (j := 81) rfl rfl⟩, ⟨⟨_, rfl, by decide, WL_of (q := 1) (j := 82) rfl rfl⟩, trivial⟩⟩⟩⟩⟩⟩⟩⟩⟩⟩⟩⟩⟩⟩⟩⟩⟩⟩⟩⟩⟩⟩⟩⟩
theorem flF_ok1 : ∀ e ∈ flF_1, flP e := allP_mem ⟨⟨_, rfl, by decide, WL_of (q := 1) (j := 83) rfl rfl⟩, ⟨⟨_, rfl, by decide, WL_of (q := 1) (j := 84) rfl rfl⟩, ⟨⟨_, rfl, by decide, WL_of (q := 1) (j := 85) rfl rfl⟩, ⟨⟨_, rfl, by decide, WL_of (q := 1) (j := 86) rfl rfl⟩, ⟨⟨_, rfl, by decide, WL_of (q := 1) (j := 87) rfl rfl⟩, ⟨⟨_, rfl, by decide, WL_of (q := 1) (j := 88) rfl rfl⟩, ⟨⟨_, rfl, by decide, WL_of (q := 1) (j := 89) rfl rfl⟩, ⟨⟨_, rfl, by decide, WL_of (q := 1) (j := 90) rfl rfl⟩, ⟨⟨_, rfl, by decide, WL_of (q := 1) (j := 91) rfl rfl⟩, ⟨⟨_, rfl, by decide, WL_of (q := 1) (j := 92) rfl rfl⟩, ⟨⟨_, rfl, by decide, WL_of (q := 1) (j := 93) rfl rfl⟩, ⟨⟨_, rfl, by decide, WL_of (q := 1) (j := 94) rfl rfl⟩, ⟨⟨_, rfl, by decide, WL_of (q := 1) (j := 95) rfl rfl⟩, ⟨⟨_, rfl, by decide, WL_of (q := 1) (j := 96) rfl rfl⟩, ⟨⟨_, rfl, by decide, WL_of (q := 1) (j := 97) rfl rfl⟩, ⟨⟨_, rfl, by decide, WL_of (q := 1) (j := 98) rfl rfl⟩, ⟨⟨_, rfl, by decide, WL_of (q := 1) (j := 99) rfl rfl⟩, ⟨⟨_, rfl, by decide, WL_of (q := 1) (j := 150) rfl rfl⟩, ⟨⟨_, rfl, by decide, WL_of (q := 1) (j := 151) rfl rfl⟩, ⟨⟨_, rfl, by decide, WL_of (q := 1) (j := 152) rfl rfl⟩, ⟨⟨_, rfl, by decide, WL_of (q := 1) (j := 153) rfl rfl⟩, ⟨⟨_, rfl, by decide, WL_of (q := 1) (j := 154) rfl rfl⟩, ⟨⟨_, rfl, by decide, WL_of (q := 1) (j := 155) rfl rfl⟩, ⟨⟨_, rfl, by decide, WL_of (q := 1) (j := 156) rfl rfl⟩, trivial⟩⟩⟩⟩⟩⟩⟩⟩⟩⟩⟩⟩⟩⟩⟩⟩⟩⟩⟩⟩⟩⟩⟩⟩
theorem flF_ok2 : ∀ e ∈ flF_2, flP e := allP_mem ⟨⟨_, rfl, by decide, WL_of (q := 1) (j := 157) rfl rfl⟩, ⟨⟨_, rfl, by decide, WL_of (q := 1) (j := 158) rfl rfl⟩, ⟨⟨_, rfl, by decide, WL_of (q := 1) (j := 159) rfl rfl⟩, ⟨⟨_, rfl, by decide, WL_of (q := 1) (j := 160) rfl rfl⟩, ⟨⟨_, rfl, by decide, WL_of (q := 1) (j := 161) rfl rfl⟩, ⟨⟨_, rfl, by decide, WL_of (q := 1) (j := 193) rfl rfl⟩, ⟨⟨_, rfl, by decide, WL_of (q := 1) (j := 194) rfl rfl⟩, ⟨⟨_, rfl, by decide, WL_of (q := 1) (j := 195) rfl rfl⟩, ⟨⟨_, rfl, by decide, WL_of (q := 1) (j := 196) rfl rfl⟩, ⟨⟨_, rfl, by decide, WL_of (q := 1) (j := 197) rfl rfl⟩, ⟨⟨_, rfl, by decide, WL_of (q := 1) (j := 198) rfl rfl⟩, ⟨⟨_, rfl, by decide, WL_of (q := 1) (j := 225) rfl rfl⟩, ⟨⟨_, rfl, by decide, WL_of (q := 1) (j := 226) rfl rfl⟩, ⟨⟨_, rfl, by decide, WL_of (q := 1) (j := 232) rfl rfl⟩, ⟨⟨_, rfl, by decide, WL_of (q := 1) (j := 233) rfl rfl⟩, ⟨⟨_, rfl, by decide, WL_of (q := 1) (j := 234) rfl rfl⟩, ⟨⟨_, rfl, by decide, WL_of (q := 1) (j := 235) rfl rfl⟩, ⟨⟨_, rfl, by decide, WL_of (q := 1) (j := 236) rfl rfl⟩, ⟨⟨_, rfl, by decide, WL_of (q := 1) (j := 237) rfl rfl⟩, ⟨⟨_, rfl, by decide, WL_of (q := 2) (j := 18) rfl rfl⟩, ⟨⟨_, rfl, by decide, WL_of (q := 2) (j := 19) rfl rfl⟩, ⟨⟨_, rfl, by decide, WL_of (q := 2) (j := 20) rfl rfl⟩, ⟨⟨_, rfl, by decide, WL_of (q := 2) (j := 21) rfl rfl⟩, ⟨⟨_, rfl, by decide, WL_of (q := 2) (j := 22) rfl rfl⟩, trivial⟩⟩⟩⟩⟩⟩⟩⟩⟩⟩⟩⟩⟩⟩⟩⟩⟩⟩⟩⟩⟩⟩⟩⟩
theorem flF_ok3 : ∀ e ∈ flF_3, flP e := allP_mem ⟨⟨_, rfl, by decide, WL_of (q := 2) (j := 23) rfl rfl⟩, ⟨⟨_, rfl, by decide, WL_of (q := 2) (j := 41) rfl rfl⟩, ⟨⟨_, rfl, by decide, WL_of (q := 2) (j := 42) rfl rfl⟩, ⟨⟨_, rfl, by decide, WL_of (q := 2) (j := 43) rfl rfl⟩, ⟨⟨_, rfl, by decide, WL_of (q := 2) (j := 44) rfl rfl⟩, ⟨⟨_, rfl, by decide, WL_of (q := 2) (j := 45) rfl rfl⟩, ⟨⟨_, rfl, by decide, WL_of (q := 2) (j := 57) rfl rfl⟩, ⟨⟨_, rfl, by decide, WL_of (q := 2) (j := 58) rfl rfl⟩, ⟨⟨_, rfl, by decide, WL_of (q := 2) (j := 59) rfl rfl⟩, ⟨⟨_, rfl, by decide, WL_of (q := 2) (j := 60) rfl rfl⟩, ⟨⟨_, rfl, by decide, WL_of (q := 2) (j := 61) rfl rfl⟩, ⟨⟨_, rfl, by decide, WL_of (q := 2) (j := 62) rfl rfl⟩, ⟨⟨_, rfl, by decide, WL_of (q := 2) (j := 63) rfl rfl⟩, ⟨⟨_, rfl, by decide, WL_of (q := 2) (j := 77) rfl rfl⟩, ⟨⟨_, rfl, by decide, WL_of (q := 2) (j := 78) rfl rfl⟩, ⟨⟨_, rfl, by decide, WL_of (q := 2) (j := 79) rfl rfl⟩, ⟨⟨_, rfl, by decide, WL_of (q := 2) (j := 80) rfl rfl⟩, ⟨⟨_, rfl, by decide, WL_of (q := 2) (j := 81) rfl rfl⟩, ⟨⟨_, rfl, by decide, WL_of (q := 2) (j := 82) rfl rfl⟩, ⟨⟨_, rfl, by decide, WL_of (q := 2) (j := 83) rfl rfl⟩, ⟨⟨_, rfl, by decide, WL_of (q := 2) (j := 84) rfl rfl⟩, ⟨⟨_, rfl, by decide, WL_of (q := 2) (j := 85) rfl rfl⟩, ⟨⟨_, rfl, by decide, WL_of (q := 2) (j := 86) rfl rfl⟩, ⟨⟨_, rfl, by decide, WL_of (q := 2) (j := 87) rfl rfl⟩, trivial⟩⟩⟩⟩⟩⟩⟩⟩⟩⟩⟩⟩⟩⟩⟩⟩⟩⟩⟩⟩⟩⟩⟩⟩
theorem flF_ok4 : ∀ e ∈ flF_4, flP e := allP_mem ⟨⟨_, rfl, by decide, WL_of (q := 2) (j := 88) rfl rfl⟩, ⟨⟨_, rfl, by decide, WL_of (q := 5) (j := 25) rfl rfl⟩, ⟨⟨_, rfl, by decide, WL_of (q := 5) (j := 26) rfl rfl⟩, ⟨⟨_, rfl, by decide, WL_of (q := 5) (j := 27) rfl rfl⟩, ⟨⟨_, rfl, by decide, WL_of (q := 5) (j := 28) rfl rfl⟩, ⟨⟨_, rfl, by decide, WL_of (q := 5) (j := 29) rfl rfl⟩, ⟨⟨_, rfl, by decide, WL_of (q := 5) (j := 30) rfl rfl⟩, ⟨⟨_, rfl, by decide, WL_of (q := 5) (j := 31) rfl rfl⟩, ⟨⟨_, rfl, by decide, WL_of (q := 5) (j := 32) rfl rfl⟩, ⟨⟨_, rfl, by decide, WL_of (q := 5) (j := 33) rfl rfl⟩, ⟨⟨_, rfl, by decide, WL_of (q := 5) (j := 34) rfl rfl⟩, ⟨⟨_, rfl, by decide, WL_of (q := 5) (j := 35) rfl rfl⟩, ⟨⟨_, rfl, by decide, WL_of (q := 5) (j := 36) rfl rfl⟩, ⟨⟨_, rfl, by decide, WL_of (q := 5) (j := 37) rfl rfl⟩, ⟨⟨_, rfl, by decide, WL_of (q := 5) (j := 38) rfl rfl⟩, ⟨⟨_, rfl, by decide, WL_of (q := 5) (j := 39) rfl rfl⟩, ⟨⟨_, rfl, by decide, WL_of (q := 5) (j := 40) rfl rfl⟩, ⟨⟨_, rfl, by decide, WL_of (q := 5) (j := 41) rfl rfl⟩, ⟨⟨_, rfl, by decide, WL_of (q := 5) (j := 42) rfl rfl⟩, ⟨⟨_, rfl, by decide, WL_of (q := 5) (j := 43) rfl rfl⟩, ⟨⟨_, rfl, by decide, WL_of (q := 5) (j := 44) rfl rfl⟩, ⟨⟨_, rfl, by decide, WL_of (q := 5) (j := 45) rfl rfl⟩, ⟨⟨_, rfl, by decide, WL_of (q := 5) (j := 46) rfl rfl⟩, ⟨⟨_, rfl, by decide, WL_of (q := 5) (j := 47) rfl rfl⟩, trivial⟩⟩⟩⟩⟩⟩⟩⟩⟩⟩⟩⟩⟩⟩⟩⟩⟩⟩⟩⟩⟩⟩⟩⟩
theorem flF_ok5 : ∀ e ∈ flF_5, flP e := allP_mem ⟨⟨_, rfl, by decide, WL_of (q := 5) (j := 48) rfl rfl⟩, ⟨⟨_, rfl, by decide, WL_of (q := 5) (j := 49) rfl rfl⟩, ⟨⟨_, rfl, by decide, WL_of (q := 5) (j := 50) rfl rfl⟩, ⟨⟨_, rfl, by decide, WL_of (q := 5) (j := 51) rfl rfl⟩, ⟨⟨_, rfl, by decide, WL_of (q := 5) (j := 52) rfl rfl⟩, ⟨⟨_, rfl, by decide, WL_of (q := 5) (j := 53) rfl rfl⟩, ⟨⟨_, rfl, by decide, WL_of (q := 5) (j := 54) rfl rfl⟩, ⟨⟨_, rfl, by decide, WL_of (q := 5) (j := 55) rfl rfl⟩, ⟨⟨_, rfl, by decide, WL_of (q := 5) (j := 56) rfl rfl⟩, ⟨⟨_, rfl, by decide, WL_of (q := 5) (j := 57) rfl rfl⟩, ⟨⟨_, rfl, by decide, WL_of (q := 5) (j := 58) rfl rfl⟩, ⟨⟨_, rfl, by decide, WL_of (q := 5) (j := 59) rfl rfl⟩, ⟨⟨_, rfl, by decide, WL_of (q := 5) (j := 60) rfl rfl⟩, ⟨⟨_, rfl, by decide, WL_of (q := 5) (j := 61) rfl rfl⟩, ⟨⟨_, rfl, by decide, WL_of (q := 5) (j := 62) rfl rfl⟩, ⟨⟨_, rfl, by decide, WL_of (q := 5) (j := 63) rfl rfl⟩, ⟨⟨_, rfl, by decide, WL_of (q := 5) (j := 64) rfl rfl⟩, ⟨⟨_, rfl, by decide, WL_of (q := 5) (j := 65) rfl rfl⟩, ⟨⟨_, rfl, by decide, WL_of (q := 5) (j := 66) rfl rfl⟩, ⟨⟨_, rfl, by decide, WL_of (q := 5) (j := 67) rfl rfl⟩, ⟨⟨_, rfl, by decide, WL_of (q := 5) (j := 68) rfl rfl⟩, ⟨⟨_, rfl, by decide, WL_of (q := 5) (j := 69) rfl rfl⟩, ⟨⟨_, rfl, by decide, WL_of (q := 5) (j := 70) rfl rfl⟩, ⟨⟨_, rfl, by decide, WL_of (q := 5) (j := 71) rfl rfl⟩, trivial⟩⟩⟩⟩⟩⟩⟩⟩⟩⟩⟩⟩⟩⟩⟩⟩⟩⟩⟩⟩⟩⟩⟩⟩
theorem flF_ok : ∀ e ∈ flF, flP e := (memP_app flF_ok0 (memP_app flF_ok1 (memP_app flF_ok2 (memP_app flF_ok3 (memP_app flF_ok4 flF_ok5)))))
def fl (o i : Nat) : Option (Nat × Nat) := lo flF o i
def cIP (e : Nat × Nat × Int32) : Prop := Cond.constant (oN e.1) e.2.1 e.2.2 ∈ WL
def cIF_0 : List (Nat × Nat × Int32) := [(9, 149, (-2147483648)), (0, 74, (74256)), (14, 265, (1431655765)), (14, 266, (858993459)), (14, 267, (252645135)), (0, 82, (34272)), (4, 83, (108528)), (10, 56, (262144)), (10, 66, (160000)), (10, 76, (524288)), (10, 278, (262143)), (10, 279, (-2147483648)), (10, 283, (131072)), (10, 286, (524287))]
def cIF : List (Nat × Nat × Int32) := cIF_0
theorem cIF_ok0 : ∀ e ∈ cIF_0, cIP e := allP_mem ⟨WL_of (q := 3) (j := 144) rfl rfl, ⟨WL_of (q := 3) (j := 153) rfl rfl, ⟨WL_of (q := 3) (j := 220) rfl rfl, ⟨WL_of (q := 3) (j := 221) rfl rfl, ⟨WL_of (q := 3) (j := 222) rfl rfl, ⟨WL_of (q := 4) (j := 19) rfl rfl, ⟨WL_of (q := 4) (j := 153) rfl rfl, ⟨WL_of (q := 5) (j := 22) rfl rfl, ⟨WL_of (q := 5) (j := 23) rfl rfl, ⟨WL_of (q := 5) (j := 24) rfl rfl, ⟨WL_of (q := 6) (j := 119) rfl rfl, ⟨WL_of (q := 6) (j := 120) rfl rfl, ⟨WL_of (q := 6) (j := 145) rfl rfl, ⟨WL_of (q := 6) (j := 167) rfl rfl, trivial⟩⟩⟩⟩⟩⟩⟩⟩⟩⟩⟩⟩⟩⟩
theorem cIF_ok : ∀ e ∈ cIF, cIP e := cIF_ok0
def cI (o i : Nat) : Option Int32 := lo cIF o i
def cJP (e : Nat × Nat × Int64) : Prop := Cond.constantLong (oN e.1) e.2.1 e.2.2 ∈ WL
def cJF_0 : List (Nat × Nat × Int64) := [(3, 54, (1751476594)), (3, 56, (1818326117)), (3, 62, (6578553)), (3, 135, (499967946343)), (3, 137, (427071202675)), (3, 143, (1852796517)), (3, 67, (1752132708)), (3, 72, (1650549611)), (8, 88, (549755813888)), (6, 26, (-9223372036854775808)), (1, 44, (-9223372036854775808)), (5, 60, (-9223372036854775808)), (5, 85, (9223372036854775807)), (9, 243, (12)), (9, 245, (1000)), (4, 64, (-68719476736)), (4, 126, (68719476735)), (4, 128, (7)), (4, 139, (-9223372036854775808)), (4, 97, (9223372036854775807)), (7, 50, (9223372036854775807)), (10, 122, (999)), (10, 124, (10)), (10, 126, (48))]
def cJF_1 : List (Nat × Nat × Int64) := [(10, 274, (4)), (10, 276, (-7046029254386353131)), (10, 284, (31)), (10, 316, (-1)), (10, 328, (12)), (10, 330, (1000))]
def cJF : List (Nat × Nat × Int64) := cJF_0 ++ (cJF_1)
theorem cJF_ok0 : ∀ e ∈ cJF_0, cJP e := allP_mem ⟨WL_of (q := 2) (j := 170) rfl rfl, ⟨WL_of (q := 2) (j := 171) rfl rfl, ⟨WL_of (q := 2) (j := 184) rfl rfl, ⟨WL_of (q := 2) (j := 185) rfl rfl, ⟨WL_of (q := 2) (j := 186) rfl rfl, ⟨WL_of (q := 2) (j := 187) rfl rfl, ⟨WL_of (q := 2) (j := 188) rfl rfl, ⟨WL_of (q := 2) (j := 189) rfl rfl, ⟨WL_of (q := 3) (j := 105) rfl rfl, ⟨WL_of (q := 3) (j := 160) rfl rfl, ⟨WL_of (q := 3) (j := 185) rfl rfl, ⟨WL_of (q := 4) (j := 37) rfl rfl, ⟨WL_of (q := 4) (j := 66) rfl rfl, ⟨WL_of (q := 4) (j := 76) rfl rfl, ⟨WL_of (q := 4) (j := 77) rfl rfl, ⟨WL_of (q := 4) (j := 115) rfl rfl, ⟨WL_of (q := 4) (j := 127) rfl rfl, ⟨WL_of (q := 4) (j := 132) rfl rfl, ⟨WL_of (q := 4) (j := 138) rfl rfl, ⟨WL_of (q := 4) (j := 156) rfl rfl, ⟨WL_of (q := 4) (j := 187) rfl rfl, ⟨WL_of (q := 5) (j := 192) rfl rfl, ⟨WL_of (q := 5) (j := 193) rfl rfl, ⟨WL_of (q := 5) (j := 194) rfl rfl, trivial⟩⟩⟩⟩⟩⟩⟩⟩⟩⟩⟩⟩⟩⟩⟩⟩⟩⟩⟩⟩⟩⟩⟩⟩
theorem cJF_ok1 : ∀ e ∈ cJF_1, cJP e := allP_mem ⟨WL_of (q := 6) (j := 117) rfl rfl, ⟨WL_of (q := 6) (j := 118) rfl rfl, ⟨WL_of (q := 6) (j := 166) rfl rfl, ⟨WL_of (q := 6) (j := 180) rfl rfl, ⟨WL_of (q := 6) (j := 185) rfl rfl, ⟨WL_of (q := 6) (j := 186) rfl rfl, trivial⟩⟩⟩⟩⟩⟩
theorem cJF_ok : ∀ e ∈ cJF, cJP e := (memP_app cJF_ok0 cJF_ok1)
def cJ (o i : Nat) : Option Int64 := lo cJF o i
def clP (e : Nat × Nat × Nat) : Prop := ∃ r, vwCl[e.2.2]? = some r ∧ Cond.classLink (oN e.1) e.2.1 r.1 ∈ WL ∧ Cond.instantiable r.1 r.2.2 ∈ WL ∧ Cond.initialized r.1 ∈ WL
def clF_0 : List (Nat × Nat × Nat) := [(13, 7, 9), (9, 13, 3), (9, 22, 8), (9, 32, 0), (0, 15, 2), (0, 22, 4), (0, 31, 1), (1, 9, 6), (0, 40, 5), (5, 9, 6), (0, 47, 7), (13, 10, 10)]
def clF : List (Nat × Nat × Nat) := clF_0
theorem clF_ok0 : ∀ e ∈ clF_0, clP e := allP_mem ⟨⟨_, rfl, WL_of (q := 1) (j := 21) rfl rfl, WL_of (q := 1) (j := 22) rfl rfl, WL_of (q := 1) (j := 1) rfl rfl⟩, ⟨⟨_, rfl, WL_of (q := 1) (j := 29) rfl rfl, WL_of (q := 1) (j := 30) rfl rfl, WL_of (q := 1) (j := 2) rfl rfl⟩, ⟨⟨_, rfl, WL_of (q := 1) (j := 61) rfl rfl, WL_of (q := 1) (j := 62) rfl rfl, WL_of (q := 1) (j := 3) rfl rfl⟩, ⟨⟨_, rfl, WL_of (q := 1) (j := 129) rfl rfl, WL_of (q := 1) (j := 130) rfl rfl, WL_of (q := 1) (j := 4) rfl rfl⟩, ⟨⟨_, rfl, WL_of (q := 1) (j := 135) rfl rfl, WL_of (q := 1) (j := 136) rfl rfl, WL_of (q := 1) (j := 5) rfl rfl⟩, ⟨⟨_, rfl, WL_of (q := 1) (j := 187) rfl rfl, WL_of (q := 1) (j := 188) rfl rfl, WL_of (q := 1) (j := 7) rfl rfl⟩, ⟨⟨_, rfl, WL_of (q := 1) (j := 212) rfl rfl, WL_of (q := 1) (j := 214) rfl rfl, WL_of (q := 1) (j := 8) rfl rfl⟩, ⟨⟨_, rfl, WL_of (q := 1) (j := 219) rfl rfl, WL_of (q := 1) (j := 220) rfl rfl, WL_of (q := 1) (j := 9) rfl rfl⟩, ⟨⟨_, rfl, WL_of (q := 2) (j := 9) rfl rfl, WL_of (q := 2) (j := 11) rfl rfl, WL_of (q := 1) (j := 10) rfl rfl⟩, ⟨⟨_, rfl, WL_of (q := 2) (j := 16) rfl rfl, WL_of (q := 1) (j := 220) rfl rfl, WL_of (q := 1) (j := 9) rfl rfl⟩, ⟨⟨_, rfl, WL_of (q := 2) (j := 35) rfl rfl, WL_of (q := 2) (j := 36) rfl rfl, WL_of (q := 1) (j := 11) rfl rfl⟩, ⟨⟨_, rfl, WL_of (q := 5) (j := 16) rfl rfl, WL_of (q := 5) (j := 17) rfl rfl, WL_of (q := 1) (j := 12) rfl rfl⟩, trivial⟩⟩⟩⟩⟩⟩⟩⟩⟩⟩⟩⟩
theorem clF_ok : ∀ e ∈ clF, clP e := clF_ok0
def clk (o i : Nat) : Option Nat := lo clF o i
def caP (e : Nat × Nat × Nat) : Prop := (e.2.2 = 15 ∨ e.2.2 = 16) ∧ ∃ C, arty (e.2.2 - 11) = .object C ∧ Cond.classLink (oN e.1) e.2.1 C ∈ WL
def caF_0 : List (Nat × Nat × Nat) := [(0, 31, 15), (0, 40, 16)]
def caF : List (Nat × Nat × Nat) := caF_0
theorem caF_ok0 : ∀ e ∈ caF_0, caP e := allP_mem ⟨⟨by decide, _, rfl, WL_of (q := 1) (j := 212) rfl rfl⟩, ⟨⟨by decide, _, rfl, WL_of (q := 2) (j := 9) rfl rfl⟩, trivial⟩⟩
theorem caF_ok : ∀ e ∈ caF, caP e := caF_ok0
def cak (o i : Nat) : Option Nat := lo caF o i
theorem acw : Cond.arrayClass .byte ∈ WL ∧ Cond.arrayClass .int ∈ WL ∧ Cond.arrayClass .long ∈ WL ∧ Cond.arrayClass .boolean ∈ WL := ⟨WL_of (q := 1) (j := 60) rfl rfl, WL_of (q := 1) (j := 128) rfl rfl, WL_of (q := 1) (j := 127) rfl rfl, WL_of (q := 2) (j := 114) rfl rfl⟩
theorem inW_0 : ∀ w ∈ u_ws RX0 TX0 6, w ∈ WL := allP_mem (l := u_ws RX0 TX0 6) ⟨WL_of (q := 2) (j := 64) rfl rfl, ⟨WL_of (q := 2) (j := 66) rfl rfl, ⟨WL_of (q := 2) (j := 68) rfl rfl, ⟨WL_of (q := 2) (j := 70) rfl rfl, ⟨WL_of (q := 2) (j := 72) rfl rfl, ⟨WL_of (q := 2) (j := 74) rfl rfl, trivial⟩⟩⟩⟩⟩⟩
theorem inW_1 : ∀ w ∈ u_ws RX1 TX1 5, w ∈ WL := allP_mem (l := u_ws RX1 TX1 5) ⟨WL_of (q := 1) (j := 238) rfl rfl, ⟨WL_of (q := 2) (j := 0) rfl rfl, ⟨WL_of (q := 2) (j := 2) rfl rfl, ⟨WL_of (q := 2) (j := 4) rfl rfl, ⟨WL_of (q := 2) (j := 6) rfl rfl, trivial⟩⟩⟩⟩⟩
theorem inW_2 : ∀ w ∈ u_ws RX3 TX3 12, w ∈ WL := allP_mem (l := u_ws RX3 TX3 12) ⟨WL_of (q := 1) (j := 162) rfl rfl, ⟨WL_of (q := 1) (j := 164) rfl rfl, ⟨WL_of (q := 1) (j := 166) rfl rfl, ⟨WL_of (q := 1) (j := 168) rfl rfl, ⟨WL_of (q := 1) (j := 170) rfl rfl, ⟨WL_of (q := 1) (j := 172) rfl rfl, ⟨WL_of (q := 1) (j := 174) rfl rfl, ⟨WL_of (q := 1) (j := 176) rfl rfl, ⟨WL_of (q := 1) (j := 178) rfl rfl, ⟨WL_of (q := 1) (j := 180) rfl rfl, ⟨WL_of (q := 1) (j := 182) rfl rfl, ⟨WL_of (q := 1) (j := 184) rfl rfl, trivial⟩⟩⟩⟩⟩⟩⟩⟩⟩⟩⟩⟩
theorem inW_3 : ∀ w ∈ u_ws RX4 TX4 8, w ∈ WL := allP_mem (l := u_ws RX4 TX4 8) ⟨WL_of (q := 1) (j := 43) rfl rfl, ⟨WL_of (q := 1) (j := 45) rfl rfl, ⟨WL_of (q := 1) (j := 47) rfl rfl, ⟨WL_of (q := 1) (j := 49) rfl rfl, ⟨WL_of (q := 1) (j := 51) rfl rfl, ⟨WL_of (q := 1) (j := 53) rfl rfl, ⟨WL_of (q := 1) (j := 55) rfl rfl, ⟨WL_of (q := 1) (j := 57) rfl rfl, trivial⟩⟩⟩⟩⟩⟩⟩⟩
theorem inW_4 : ∀ w ∈ u_ws RX5 TX5 6, w ∈ WL := allP_mem (l := u_ws RX5 TX5 6) ⟨WL_of (q := 1) (j := 199) rfl rfl, ⟨WL_of (q := 1) (j := 201) rfl rfl, ⟨WL_of (q := 1) (j := 203) rfl rfl, ⟨WL_of (q := 1) (j := 205) rfl rfl, ⟨WL_of (q := 1) (j := 207) rfl rfl, ⟨WL_of (q := 1) (j := 209) rfl rfl, trivial⟩⟩⟩⟩⟩⟩
theorem inW_5 : ∀ w ∈ u_ws RX6 TX6 5, w ∈ WL := allP_mem (l := u_ws RX6 TX6 5) ⟨WL_of (q := 2) (j := 24) rfl rfl, ⟨WL_of (q := 2) (j := 26) rfl rfl, ⟨WL_of (q := 2) (j := 28) rfl rfl, ⟨WL_of (q := 2) (j := 30) rfl rfl, ⟨WL_of (q := 2) (j := 32) rfl rfl, trivial⟩⟩⟩⟩⟩
theorem inW_6 : ∀ w ∈ u_ws RX8 TX8 2, w ∈ WL := allP_mem (l := u_ws RX8 TX8 2) ⟨WL_of (q := 1) (j := 227) rfl rfl, ⟨WL_of (q := 1) (j := 229) rfl rfl, trivial⟩⟩
theorem inW_7 : ∀ w ∈ u_ws RX9 TX9 5, w ∈ WL := allP_mem (l := u_ws RX9 TX9 5) ⟨WL_of (q := 2) (j := 46) rfl rfl, ⟨WL_of (q := 2) (j := 48) rfl rfl, ⟨WL_of (q := 2) (j := 50) rfl rfl, ⟨WL_of (q := 2) (j := 52) rfl rfl, ⟨WL_of (q := 2) (j := 54) rfl rfl, trivial⟩⟩⟩⟩⟩
theorem inW_8 : ∀ w ∈ u_ws RX10 TX10 13, w ∈ WL := allP_mem (l := u_ws RX10 TX10 13) ⟨WL_of (q := 1) (j := 100) rfl rfl, ⟨WL_of (q := 1) (j := 102) rfl rfl, ⟨WL_of (q := 1) (j := 104) rfl rfl, ⟨WL_of (q := 1) (j := 106) rfl rfl, ⟨WL_of (q := 1) (j := 108) rfl rfl, ⟨WL_of (q := 1) (j := 110) rfl rfl, ⟨WL_of (q := 1) (j := 112) rfl rfl, ⟨WL_of (q := 1) (j := 114) rfl rfl, ⟨WL_of (q := 1) (j := 116) rfl rfl, ⟨WL_of (q := 1) (j := 118) rfl rfl, ⟨WL_of (q := 1) (j := 120) rfl rfl, ⟨WL_of (q := 1) (j := 122) rfl rfl, ⟨WL_of (q := 1) (j := 124) rfl rfl, trivial⟩⟩⟩⟩⟩⟩⟩⟩⟩⟩⟩⟩⟩
theorem inW_9 : ∀ w ∈ u_ws RX11 TX11 12, w ∈ WL := allP_mem (l := u_ws RX11 TX11 12) ⟨WL_of (q := 2) (j := 89) rfl rfl, ⟨WL_of (q := 2) (j := 91) rfl rfl, ⟨WL_of (q := 2) (j := 93) rfl rfl, ⟨WL_of (q := 2) (j := 95) rfl rfl, ⟨WL_of (q := 2) (j := 97) rfl rfl, ⟨WL_of (q := 2) (j := 99) rfl rfl, ⟨WL_of (q := 2) (j := 101) rfl rfl, ⟨WL_of (q := 2) (j := 103) rfl rfl, ⟨WL_of (q := 2) (j := 105) rfl rfl, ⟨WL_of (q := 2) (j := 107) rfl rfl, ⟨WL_of (q := 2) (j := 109) rfl rfl, ⟨WL_of (q := 2) (j := 111) rfl rfl, trivial⟩⟩⟩⟩⟩⟩⟩⟩⟩⟩⟩⟩
theorem inW_10 : ∀ w ∈ u_ws RX12 TX12 47, w ∈ WL := allP_mem (l := u_ws RX12 TX12 47) ⟨WL_of (q := 5) (j := 72) rfl rfl, ⟨WL_of (q := 5) (j := 74) rfl rfl, ⟨WL_of (q := 5) (j := 76) rfl rfl, ⟨WL_of (q := 5) (j := 78) rfl rfl, ⟨WL_of (q := 5) (j := 80) rfl rfl, ⟨WL_of (q := 5) (j := 82) rfl rfl, ⟨WL_of (q := 5) (j := 84) rfl rfl, ⟨WL_of (q := 5) (j := 86) rfl rfl, ⟨WL_of (q := 5) (j := 88) rfl rfl, ⟨WL_of (q := 5) (j := 90) rfl rfl, ⟨WL_of (q := 5) (j := 92) rfl rfl, ⟨WL_of (q := 5) (j := 94) rfl rfl, ⟨WL_of (q := 5) (j := 96) rfl rfl, ⟨WL_of (q := 5) (j := 98) rfl rfl, ⟨WL_of (q := 5) (j := 100) rfl rfl, ⟨WL_of (q := 5) (j := 102) rfl rfl, ⟨WL_of (q := 5) (j := 104) rfl rfl, ⟨WL_of (q := 5) (j := 106) rfl rfl, ⟨WL_of (q := 5) (j := 108) rfl rfl, ⟨WL_of (q := 5) (j := 110) rfl rfl, ⟨WL_of (q := 5) (j := 112) rfl rfl, ⟨WL_of (q := 5) (j := 114) rfl rfl, ⟨WL_of (q := 5) (j := 116) rfl rfl, ⟨WL_of (q := 5) (j := 118) rfl rfl, ⟨WL_of (q := 5) (j := 120) rfl rfl, ⟨WL_of (q := 5) (j := 122) rfl rfl, ⟨WL_of (q := 5) (j := 124) rfl rfl, ⟨WL_of (q := 5) (j := 126) rfl rfl, ⟨WL_of (q := 5) (j := 128) rfl rfl, ⟨WL_of (q := 5) (j := 130) rfl rfl, ⟨WL_of (q := 5) (j := 132) rfl rfl, ⟨WL_of (q := 5) (j := 134) rfl rfl, ⟨WL_of (q := 5) (j := 136) rfl rfl, ⟨WL_of (q := 5) (j := 138) rfl rfl, ⟨WL_of (q := 5) (j := 140) rfl rfl, ⟨WL_of (q := 5) (j := 142) rfl rfl, ⟨WL_of (q := 5) (j := 144) rfl rfl, ⟨WL_of (q := 5) (j := 146) rfl rfl, ⟨WL_of (q := 5) (j := 148) rfl rfl, ⟨WL_of (q := 5) (j := 150) rfl rfl, ⟨WL_of (q := 5) (j := 152) rfl rfl, ⟨WL_of (q := 5) (j := 154) rfl rfl, ⟨WL_of (q := 5) (j := 156) rfl rfl, ⟨WL_of (q := 5) (j := 158) rfl rfl, ⟨WL_of (q := 5) (j := 160) rfl rfl, ⟨WL_of (q := 5) (j := 162) rfl rfl, ⟨WL_of (q := 5) (j := 164) rfl rfl, trivial⟩⟩⟩⟩⟩⟩⟩⟩⟩⟩⟩⟩⟩⟩⟩⟩⟩⟩⟩⟩⟩⟩⟩⟩⟩⟩⟩⟩⟩⟩⟩⟩⟩⟩⟩⟩⟩⟩⟩⟩⟩⟩⟩⟩⟩⟩⟩
theorem inCl_WL : inCl WL := by
  intro c r h
  match c, h with
  | 0, h => cases h; exact inW_0
  | 1, h => cases h; exact inW_1
  | 2, h => cases h; exact inW_2
  | 3, h => cases h; exact inW_3
  | 4, h => cases h; exact inW_4
  | 5, h => cases h; exact inW_5
  | 6, h => cases h; exact inW_6
  | 7, h => cases h; exact inW_7
  | 8, h => cases h; exact inW_8
  | 9, h => cases h; exact inW_9
  | 10, h => cases h; exact inW_10
  | c + 11, h => simp [vwCl] at h
end
