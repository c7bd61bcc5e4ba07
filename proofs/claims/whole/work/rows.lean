section
-- ===== PART A: goes FIRST, ahead of the names: the tables' words, and 'selects' of the private methods out of them =====
/-- a private method of a class that the tables say can be made, by its rows of tables_1 -/
def lw_okq (q : MethodName × Nat) : Prop := (q.1.cls ≠ "java/lang/invoke/MethodHandle" ∧ q.1.cls ≠ "java/lang/invoke/VarHandle") ∧ Cond.instantiable q.1.cls q.2 ∈ tables_1 ∧ Cond.privateMethod q.1 ∈ tables_1 ∧ Cond.instanceMethod q.1 ∈ tables_1
theorem lw_p0 : lw_okq (⟨"SharesComing", "addBytes", "(I)V"⟩, 12) := ⟨⟨by decide +kernel, by decide +kernel⟩, List.mem_of_getElem? (i := 22) (by decide +kernel), List.mem_of_getElem? (i := 360) (by decide +kernel), List.mem_of_getElem? (i := 361) (by decide +kernel)⟩
theorem lw_p1 : lw_okq (⟨"SharesComing$Reader", "step", "()V"⟩, 8) := ⟨⟨by decide +kernel, by decide +kernel⟩, List.mem_of_getElem? (i := 30) (by decide +kernel), List.mem_of_getElem? (i := 383) (by decide +kernel), List.mem_of_getElem? (i := 384) (by decide +kernel)⟩
theorem lw_p2 : lw_okq (⟨"SharesComing$Reader", "isLetterAt", "(I)Z"⟩, 8) := ⟨⟨by decide +kernel, by decide +kernel⟩, List.mem_of_getElem? (i := 30) (by decide +kernel), List.mem_of_getElem? (i := 387) (by decide +kernel), List.mem_of_getElem? (i := 388) (by decide +kernel)⟩
theorem lw_p3 : lw_okq (⟨"SharesComing$Reader", "readWord", "()V"⟩, 8) := ⟨⟨by decide +kernel, by decide +kernel⟩, List.mem_of_getElem? (i := 30) (by decide +kernel), List.mem_of_getElem? (i := 391) (by decide +kernel), List.mem_of_getElem? (i := 392) (by decide +kernel)⟩
theorem lw_p4 : lw_okq (⟨"SharesComing$Reader", "isDigitAt", "(I)Z"⟩, 8) := ⟨⟨by decide +kernel, by decide +kernel⟩, List.mem_of_getElem? (i := 30) (by decide +kernel), List.mem_of_getElem? (i := 395) (by decide +kernel), List.mem_of_getElem? (i := 396) (by decide +kernel)⟩
theorem lw_p5 : lw_okq (⟨"SharesComing$Reader", "readNumber", "()V"⟩, 8) := ⟨⟨by decide +kernel, by decide +kernel⟩, List.mem_of_getElem? (i := 30) (by decide +kernel), List.mem_of_getElem? (i := 399) (by decide +kernel), List.mem_of_getElem? (i := 400) (by decide +kernel)⟩
theorem lw_p6 : lw_okq (⟨"SharesComing$Reader", "readPart", "(LSharesComing$Will;)Z"⟩, 8) := ⟨⟨by decide +kernel, by decide +kernel⟩, List.mem_of_getElem? (i := 30) (by decide +kernel), List.mem_of_getElem? (i := 407) (by decide +kernel), List.mem_of_getElem? (i := 408) (by decide +kernel)⟩
theorem lw_p7 : lw_okq (⟨"SharesComing$Reader", "readHeir", "(LSharesComing$Will;Z)Z"⟩, 8) := ⟨⟨by decide +kernel, by decide +kernel⟩, List.mem_of_getElem? (i := 30) (by decide +kernel), List.mem_of_getElem? (i := 413) (by decide +kernel), List.mem_of_getElem? (i := 414) (by decide +kernel)⟩
theorem lw_p8 : lw_okq (⟨"SharesComing$Reader", "isName", "()Z"⟩, 8) := ⟨⟨by decide +kernel, by decide +kernel⟩, List.mem_of_getElem? (i := 30) (by decide +kernel), List.mem_of_getElem? (i := 421) (by decide +kernel), List.mem_of_getElem? (i := 422) (by decide +kernel)⟩
theorem lw_p9 : lw_okq (⟨"SharesComing$Reader", "isNumber", "(II)Z"⟩, 8) := ⟨⟨by decide +kernel, by decide +kernel⟩, List.mem_of_getElem? (i := 30) (by decide +kernel), List.mem_of_getElem? (i := 435) (by decide +kernel), List.mem_of_getElem? (i := 436) (by decide +kernel)⟩
theorem lw_p10 : lw_okq (⟨"SharesComing$Reader", "readDay", "(LSharesComing$Will;)Z"⟩, 8) := ⟨⟨by decide +kernel, by decide +kernel⟩, List.mem_of_getElem? (i := 30) (by decide +kernel), List.mem_of_getElem? (i := 448) (by decide +kernel), List.mem_of_getElem? (i := 449) (by decide +kernel)⟩
theorem lw_p11 : lw_okq (⟨"SharesComing$Reader", "readAlt", "(LSharesComing$Will;I)Z"⟩, 8) := ⟨⟨by decide +kernel, by decide +kernel⟩, List.mem_of_getElem? (i := 30) (by decide +kernel), List.mem_of_getElem? (i := 456) (by decide +kernel), List.mem_of_getElem? (i := 457) (by decide +kernel)⟩
theorem lw_p12 : lw_okq (⟨"SharesComing$Reader", "readHold", "(LSharesComing$Will;)Z"⟩, 8) := ⟨⟨by decide +kernel, by decide +kernel⟩, List.mem_of_getElem? (i := 30) (by decide +kernel), List.mem_of_getElem? (i := 473) (by decide +kernel), List.mem_of_getElem? (i := 474) (by decide +kernel)⟩
theorem lw_p13 : lw_okq (⟨"SharesComing$Reader", "passSemicolon", "()Z"⟩, 8) := ⟨⟨by decide +kernel, by decide +kernel⟩, List.mem_of_getElem? (i := 30) (by decide +kernel), List.mem_of_getElem? (i := 477) (by decide +kernel), List.mem_of_getElem? (i := 478) (by decide +kernel)⟩
theorem lw_p14 : lw_okq (⟨"SharesComing$Reader", "readBack", "(LSharesComing$Will;)Z"⟩, 8) := ⟨⟨by decide +kernel, by decide +kernel⟩, List.mem_of_getElem? (i := 30) (by decide +kernel), List.mem_of_getElem? (i := 481) (by decide +kernel), List.mem_of_getElem? (i := 482) (by decide +kernel)⟩
theorem lw_p15 : lw_okq (⟨"SharesComing", "canLookAhead", "(I)Z"⟩, 12) := ⟨⟨by decide +kernel, by decide +kernel⟩, List.mem_of_getElem? (i := 22) (by decide +kernel), List.mem_of_getElem? (i := 614) (by decide +kernel), List.mem_of_getElem? (i := 615) (by decide +kernel)⟩
def lw_privs_1 : List (MethodName × Nat) := [(⟨"SharesComing", "addBytes", "(I)V"⟩, 12), (⟨"SharesComing$Reader", "step", "()V"⟩, 8), (⟨"SharesComing$Reader", "isLetterAt", "(I)Z"⟩, 8), (⟨"SharesComing$Reader", "readWord", "()V"⟩, 8), (⟨"SharesComing$Reader", "isDigitAt", "(I)Z"⟩, 8), (⟨"SharesComing$Reader", "readNumber", "()V"⟩, 8), (⟨"SharesComing$Reader", "readPart", "(LSharesComing$Will;)Z"⟩, 8), (⟨"SharesComing$Reader", "readHeir", "(LSharesComing$Will;Z)Z"⟩, 8), (⟨"SharesComing$Reader", "isName", "()Z"⟩, 8), (⟨"SharesComing$Reader", "isNumber", "(II)Z"⟩, 8), (⟨"SharesComing$Reader", "readDay", "(LSharesComing$Will;)Z"⟩, 8), (⟨"SharesComing$Reader", "readAlt", "(LSharesComing$Will;I)Z"⟩, 8), (⟨"SharesComing$Reader", "readHold", "(LSharesComing$Will;)Z"⟩, 8), (⟨"SharesComing$Reader", "passSemicolon", "()Z"⟩, 8), (⟨"SharesComing$Reader", "readBack", "(LSharesComing$Will;)Z"⟩, 8), (⟨"SharesComing", "canLookAhead", "(I)Z"⟩, 12)]
theorem lw_r1 : ∀ q ∈ lw_privs_1, lw_okq q := List.forall_mem_cons.mpr ⟨lw_p0, List.forall_mem_cons.mpr ⟨lw_p1, List.forall_mem_cons.mpr ⟨lw_p2, List.forall_mem_cons.mpr ⟨lw_p3, List.forall_mem_cons.mpr ⟨lw_p4, List.forall_mem_cons.mpr ⟨lw_p5, List.forall_mem_cons.mpr ⟨lw_p6, List.forall_mem_cons.mpr ⟨lw_p7, List.forall_mem_cons.mpr ⟨lw_p8, List.forall_mem_cons.mpr ⟨lw_p9, List.forall_mem_cons.mpr ⟨lw_p10, List.forall_mem_cons.mpr ⟨lw_p11, List.forall_mem_cons.mpr ⟨lw_p12, List.forall_mem_cons.mpr ⟨lw_p13, List.forall_mem_cons.mpr ⟨lw_p14, List.forall_mem_cons.mpr ⟨lw_p15, fun _ h => absurd h List.not_mem_nil⟩⟩⟩⟩⟩⟩⟩⟩⟩⟩⟩⟩⟩⟩⟩⟩
theorem lw_p16 : lw_okq (⟨"SharesComing", "daysToCome", "()I"⟩, 12) := ⟨⟨by decide +kernel, by decide +kernel⟩, List.mem_of_getElem? (i := 22) (by decide +kernel), List.mem_of_getElem? (i := 621) (by decide +kernel), List.mem_of_getElem? (i := 622) (by decide +kernel)⟩
theorem lw_p17 : lw_okq (⟨"SharesComing$Ranks", "cellPlace", "(JI)I"⟩, 12) := ⟨⟨by decide +kernel, by decide +kernel⟩, List.mem_of_getElem? (i := 136) (by decide +kernel), List.mem_of_getElem? (i := 653) (by decide +kernel), List.mem_of_getElem? (i := 654) (by decide +kernel)⟩
theorem lw_p18 : lw_okq (⟨"SharesComing$Ends", "find", "(J)J"⟩, 5) := ⟨⟨by decide +kernel, by decide +kernel⟩, List.mem_of_getElem? (i := 214) (by decide +kernel), List.mem_of_getElem? (i := 667) (by decide +kernel), List.mem_of_getElem? (i := 668) (by decide +kernel)⟩
theorem lw_p19 : lw_okq (⟨"SharesComing$Ends", "bestHandedOut", "(JI)J"⟩, 5) := ⟨⟨by decide +kernel, by decide +kernel⟩, List.mem_of_getElem? (i := 214) (by decide +kernel), List.mem_of_getElem? (i := 674) (by decide +kernel), List.mem_of_getElem? (i := 675) (by decide +kernel)⟩
theorem lw_p20 : lw_okq (⟨"SharesComing$Ends", "bestTakenBack", "(JLSharesComing$Ends;)J"⟩, 5) := ⟨⟨by decide +kernel, by decide +kernel⟩, List.mem_of_getElem? (i := 214) (by decide +kernel), List.mem_of_getElem? (i := 685) (by decide +kernel), List.mem_of_getElem? (i := 686) (by decide +kernel)⟩
theorem lw_p21 : lw_okq (⟨"SharesComing$Ends", "bestMoved", "(JIILSharesComing$Ends;)J"⟩, 5) := ⟨⟨by decide +kernel, by decide +kernel⟩, List.mem_of_getElem? (i := 214) (by decide +kernel), List.mem_of_getElem? (i := 690) (by decide +kernel), List.mem_of_getElem? (i := 691) (by decide +kernel)⟩
theorem lw_p22 : lw_okq (⟨"SharesComing", "worthNow", "(II)J"⟩, 12) := ⟨⟨by decide +kernel, by decide +kernel⟩, List.mem_of_getElem? (i := 22) (by decide +kernel), List.mem_of_getElem? (i := 728) (by decide +kernel), List.mem_of_getElem? (i := 729) (by decide +kernel)⟩
theorem lw_p23 : lw_okq (⟨"SharesComing$Sight", "weighed", "(JI)J"⟩, 5) := ⟨⟨by decide +kernel, by decide +kernel⟩, List.mem_of_getElem? (i := 251) (by decide +kernel), List.mem_of_getElem? (i := 759) (by decide +kernel), List.mem_of_getElem? (i := 760) (by decide +kernel)⟩
theorem lw_p24 : lw_okq (⟨"SharesComing$Sight", "afterAlt", "(JII)J"⟩, 5) := ⟨⟨by decide +kernel, by decide +kernel⟩, List.mem_of_getElem? (i := 251) (by decide +kernel), List.mem_of_getElem? (i := 765) (by decide +kernel), List.mem_of_getElem? (i := 766) (by decide +kernel)⟩
theorem lw_p25 : lw_okq (⟨"SharesComing$Sight", "holdable", "()I"⟩, 5) := ⟨⟨by decide +kernel, by decide +kernel⟩, List.mem_of_getElem? (i := 251) (by decide +kernel), List.mem_of_getElem? (i := 776) (by decide +kernel), List.mem_of_getElem? (i := 777) (by decide +kernel)⟩
theorem lw_p26 : lw_okq (⟨"SharesComing$Sight", "least", "(JI)J"⟩, 5) := ⟨⟨by decide +kernel, by decide +kernel⟩, List.mem_of_getElem? (i := 251) (by decide +kernel), List.mem_of_getElem? (i := 783) (by decide +kernel), List.mem_of_getElem? (i := 784) (by decide +kernel)⟩
theorem lw_p27 : lw_okq (⟨"SharesComing", "thousandths", "(J)I"⟩, 12) := ⟨⟨by decide +kernel, by decide +kernel⟩, List.mem_of_getElem? (i := 22) (by decide +kernel), List.mem_of_getElem? (i := 793) (by decide +kernel), List.mem_of_getElem? (i := 794) (by decide +kernel)⟩
theorem lw_p28 : lw_okq (⟨"SharesComing$Rows", "traced", "(JII)J"⟩, 6) := ⟨⟨by decide +kernel, by decide +kernel⟩, List.mem_of_getElem? (i := 188) (by decide +kernel), List.mem_of_getElem? (i := 837) (by decide +kernel), List.mem_of_getElem? (i := 838) (by decide +kernel)⟩
theorem lw_p29 : lw_okq (⟨"SharesComing$Rows", "spread", "(JJIILSharesComing$Ends;)J"⟩, 6) := ⟨⟨by decide +kernel, by decide +kernel⟩, List.mem_of_getElem? (i := 188) (by decide +kernel), List.mem_of_getElem? (i := 849) (by decide +kernel), List.mem_of_getElem? (i := 850) (by decide +kernel)⟩
theorem lw_p30 : lw_okq (⟨"SharesComing$Rows", "walkOn", "(JJLSharesComing$Ends;)V"⟩, 6) := ⟨⟨by decide +kernel, by decide +kernel⟩, List.mem_of_getElem? (i := 188) (by decide +kernel), List.mem_of_getElem? (i := 878) (by decide +kernel), List.mem_of_getElem? (i := 879) (by decide +kernel)⟩
theorem lw_p31 : lw_okq (⟨"SharesComing$Rows", "wasWalked", "(I)Z"⟩, 6) := ⟨⟨by decide +kernel, by decide +kernel⟩, List.mem_of_getElem? (i := 188) (by decide +kernel), List.mem_of_getElem? (i := 883) (by decide +kernel), List.mem_of_getElem? (i := 884) (by decide +kernel)⟩
def lw_privs_2 : List (MethodName × Nat) := [(⟨"SharesComing", "daysToCome", "()I"⟩, 12), (⟨"SharesComing$Ranks", "cellPlace", "(JI)I"⟩, 12), (⟨"SharesComing$Ends", "find", "(J)J"⟩, 5), (⟨"SharesComing$Ends", "bestHandedOut", "(JI)J"⟩, 5), (⟨"SharesComing$Ends", "bestTakenBack", "(JLSharesComing$Ends;)J"⟩, 5), (⟨"SharesComing$Ends", "bestMoved", "(JIILSharesComing$Ends;)J"⟩, 5), (⟨"SharesComing", "worthNow", "(II)J"⟩, 12), (⟨"SharesComing$Sight", "weighed", "(JI)J"⟩, 5), (⟨"SharesComing$Sight", "afterAlt", "(JII)J"⟩, 5), (⟨"SharesComing$Sight", "holdable", "()I"⟩, 5), (⟨"SharesComing$Sight", "least", "(JI)J"⟩, 5), (⟨"SharesComing", "thousandths", "(J)I"⟩, 12), (⟨"SharesComing$Rows", "traced", "(JII)J"⟩, 6), (⟨"SharesComing$Rows", "spread", "(JJIILSharesComing$Ends;)J"⟩, 6), (⟨"SharesComing$Rows", "walkOn", "(JJLSharesComing$Ends;)V"⟩, 6), (⟨"SharesComing$Rows", "wasWalked", "(I)Z"⟩, 6)]
theorem lw_r2 : ∀ q ∈ lw_privs_2, lw_okq q := List.forall_mem_cons.mpr ⟨lw_p16, List.forall_mem_cons.mpr ⟨lw_p17, List.forall_mem_cons.mpr ⟨lw_p18, List.forall_mem_cons.mpr ⟨lw_p19, List.forall_mem_cons.mpr ⟨lw_p20, List.forall_mem_cons.mpr ⟨lw_p21, List.forall_mem_cons.mpr ⟨lw_p22, List.forall_mem_cons.mpr ⟨lw_p23, List.forall_mem_cons.mpr ⟨lw_p24, List.forall_mem_cons.mpr ⟨lw_p25, List.forall_mem_cons.mpr ⟨lw_p26, List.forall_mem_cons.mpr ⟨lw_p27, List.forall_mem_cons.mpr ⟨lw_p28, List.forall_mem_cons.mpr ⟨lw_p29, List.forall_mem_cons.mpr ⟨lw_p30, List.forall_mem_cons.mpr ⟨lw_p31, fun _ h => absurd h List.not_mem_nil⟩⟩⟩⟩⟩⟩⟩⟩⟩⟩⟩⟩⟩⟩⟩⟩
theorem lw_p32 : lw_okq (⟨"SharesComing$Ways", "gift", "(JI)I"⟩, 5) := ⟨⟨by decide +kernel, by decide +kernel⟩, List.mem_of_getElem? (i := 276) (by decide +kernel), List.mem_of_getElem? (i := 913) (by decide +kernel), List.mem_of_getElem? (i := 914) (by decide +kernel)⟩
theorem lw_p33 : lw_okq (⟨"SharesComing$Ways", "claim", "(JII)I"⟩, 5) := ⟨⟨by decide +kernel, by decide +kernel⟩, List.mem_of_getElem? (i := 276) (by decide +kernel), List.mem_of_getElem? (i := 919) (by decide +kernel), List.mem_of_getElem? (i := 920) (by decide +kernel)⟩
theorem lw_p34 : lw_okq (⟨"SharesComingModel", "next", "()V"⟩, 47) := ⟨⟨by decide +kernel, by decide +kernel⟩, List.mem_of_getElem? (i := 977) (by decide +kernel), List.mem_of_getElem? (i := 1143) (by decide +kernel), List.mem_of_getElem? (i := 1144) (by decide +kernel)⟩
theorem lw_p35 : lw_okq (⟨"SharesComingModel", "line", "()Z"⟩, 47) := ⟨⟨by decide +kernel, by decide +kernel⟩, List.mem_of_getElem? (i := 977) (by decide +kernel), List.mem_of_getElem? (i := 1156) (by decide +kernel), List.mem_of_getElem? (i := 1157) (by decide +kernel)⟩
theorem lw_p36 : lw_okq (⟨"SharesComingModel", "isWord", "(Ljava/lang/String;)Z"⟩, 47) := ⟨⟨by decide +kernel, by decide +kernel⟩, List.mem_of_getElem? (i := 977) (by decide +kernel), List.mem_of_getElem? (i := 1161) (by decide +kernel), List.mem_of_getElem? (i := 1162) (by decide +kernel)⟩
theorem lw_p37 : lw_okq (⟨"SharesComingModel", "heirLine", "(Z)Z"⟩, 47) := ⟨⟨by decide +kernel, by decide +kernel⟩, List.mem_of_getElem? (i := 977) (by decide +kernel), List.mem_of_getElem? (i := 1217) (by decide +kernel), List.mem_of_getElem? (i := 1218) (by decide +kernel)⟩
theorem lw_p38 : lw_okq (⟨"SharesComingModel", "isName", "()Z"⟩, 47) := ⟨⟨by decide +kernel, by decide +kernel⟩, List.mem_of_getElem? (i := 977) (by decide +kernel), List.mem_of_getElem? (i := 1221) (by decide +kernel), List.mem_of_getElem? (i := 1222) (by decide +kernel)⟩
theorem lw_p39 : lw_okq (⟨"SharesComingModel", "named", "(J)I"⟩, 47) := ⟨⟨by decide +kernel, by decide +kernel⟩, List.mem_of_getElem? (i := 977) (by decide +kernel), List.mem_of_getElem? (i := 1231) (by decide +kernel), List.mem_of_getElem? (i := 1232) (by decide +kernel)⟩
theorem lw_p40 : lw_okq (⟨"SharesComingModel", "isNumber", "(II)Z"⟩, 47) := ⟨⟨by decide +kernel, by decide +kernel⟩, List.mem_of_getElem? (i := 977) (by decide +kernel), List.mem_of_getElem? (i := 1235) (by decide +kernel), List.mem_of_getElem? (i := 1236) (by decide +kernel)⟩
theorem lw_p41 : lw_okq (⟨"SharesComingModel", "closes", "()Z"⟩, 47) := ⟨⟨by decide +kernel, by decide +kernel⟩, List.mem_of_getElem? (i := 977) (by decide +kernel), List.mem_of_getElem? (i := 1239) (by decide +kernel), List.mem_of_getElem? (i := 1240) (by decide +kernel)⟩
theorem lw_p42 : lw_okq (⟨"SharesComingModel", "isSign", "(I)Z"⟩, 47) := ⟨⟨by decide +kernel, by decide +kernel⟩, List.mem_of_getElem? (i := 977) (by decide +kernel), List.mem_of_getElem? (i := 1243) (by decide +kernel), List.mem_of_getElem? (i := 1244) (by decide +kernel)⟩
theorem lw_p43 : lw_okq (⟨"SharesComingModel", "dayLine", "()Z"⟩, 47) := ⟨⟨by decide +kernel, by decide +kernel⟩, List.mem_of_getElem? (i := 977) (by decide +kernel), List.mem_of_getElem? (i := 1247) (by decide +kernel), List.mem_of_getElem? (i := 1248) (by decide +kernel)⟩
theorem lw_p44 : lw_okq (⟨"SharesComingModel", "altHere", "()Z"⟩, 47) := ⟨⟨by decide +kernel, by decide +kernel⟩, List.mem_of_getElem? (i := 977) (by decide +kernel), List.mem_of_getElem? (i := 1251) (by decide +kernel), List.mem_of_getElem? (i := 1252) (by decide +kernel)⟩
theorem lw_p45 : lw_okq (⟨"SharesComingModel", "forgets", "()V"⟩, 47) := ⟨⟨by decide +kernel, by decide +kernel⟩, List.mem_of_getElem? (i := 977) (by decide +kernel), List.mem_of_getElem? (i := 1260) (by decide +kernel), List.mem_of_getElem? (i := 1261) (by decide +kernel)⟩
theorem lw_p46 : lw_okq (⟨"SharesComingModel", "isHeir", "(I)Z"⟩, 47) := ⟨⟨by decide +kernel, by decide +kernel⟩, List.mem_of_getElem? (i := 977) (by decide +kernel), List.mem_of_getElem? (i := 1268) (by decide +kernel), List.mem_of_getElem? (i := 1269) (by decide +kernel)⟩
theorem lw_p47 : lw_okq (⟨"SharesComingModel", "worthTo", "(JII)I"⟩, 47) := ⟨⟨by decide +kernel, by decide +kernel⟩, List.mem_of_getElem? (i := 977) (by decide +kernel), List.mem_of_getElem? (i := 1278) (by decide +kernel), List.mem_of_getElem? (i := 1279) (by decide +kernel)⟩
def lw_privs_3 : List (MethodName × Nat) := [(⟨"SharesComing$Ways", "gift", "(JI)I"⟩, 5), (⟨"SharesComing$Ways", "claim", "(JII)I"⟩, 5), (⟨"SharesComingModel", "next", "()V"⟩, 47), (⟨"SharesComingModel", "line", "()Z"⟩, 47), (⟨"SharesComingModel", "isWord", "(Ljava/lang/String;)Z"⟩, 47), (⟨"SharesComingModel", "heirLine", "(Z)Z"⟩, 47), (⟨"SharesComingModel", "isName", "()Z"⟩, 47), (⟨"SharesComingModel", "named", "(J)I"⟩, 47), (⟨"SharesComingModel", "isNumber", "(II)Z"⟩, 47), (⟨"SharesComingModel", "closes", "()Z"⟩, 47), (⟨"SharesComingModel", "isSign", "(I)Z"⟩, 47), (⟨"SharesComingModel", "dayLine", "()Z"⟩, 47), (⟨"SharesComingModel", "altHere", "()Z"⟩, 47), (⟨"SharesComingModel", "forgets", "()V"⟩, 47), (⟨"SharesComingModel", "isHeir", "(I)Z"⟩, 47), (⟨"SharesComingModel", "worthTo", "(JII)I"⟩, 47)]
theorem lw_r3 : ∀ q ∈ lw_privs_3, lw_okq q := List.forall_mem_cons.mpr ⟨lw_p32, List.forall_mem_cons.mpr ⟨lw_p33, List.forall_mem_cons.mpr ⟨lw_p34, List.forall_mem_cons.mpr ⟨lw_p35, List.forall_mem_cons.mpr ⟨lw_p36, List.forall_mem_cons.mpr ⟨lw_p37, List.forall_mem_cons.mpr ⟨lw_p38, List.forall_mem_cons.mpr ⟨lw_p39, List.forall_mem_cons.mpr ⟨lw_p40, List.forall_mem_cons.mpr ⟨lw_p41, List.forall_mem_cons.mpr ⟨lw_p42, List.forall_mem_cons.mpr ⟨lw_p43, List.forall_mem_cons.mpr ⟨lw_p44, List.forall_mem_cons.mpr ⟨lw_p45, List.forall_mem_cons.mpr ⟨lw_p46, List.forall_mem_cons.mpr ⟨lw_p47, fun _ h => absurd h List.not_mem_nil⟩⟩⟩⟩⟩⟩⟩⟩⟩⟩⟩⟩⟩⟩⟩⟩
theorem lw_p48 : lw_okq (⟨"SharesComingModel", "altOf", "(III)I"⟩, 47) := ⟨⟨by decide +kernel, by decide +kernel⟩, List.mem_of_getElem? (i := 977) (by decide +kernel), List.mem_of_getElem? (i := 1286) (by decide +kernel), List.mem_of_getElem? (i := 1287) (by decide +kernel)⟩
theorem lw_p49 : lw_okq (⟨"SharesComingModel", "ends", "(JII)I"⟩, 47) := ⟨⟨by decide +kernel, by decide +kernel⟩, List.mem_of_getElem? (i := 977) (by decide +kernel), List.mem_of_getElem? (i := 1314) (by decide +kernel), List.mem_of_getElem? (i := 1315) (by decide +kernel)⟩
theorem lw_p50 : lw_okq (⟨"SharesComingModel", "backed", "(JII)I"⟩, 47) := ⟨⟨by decide +kernel, by decide +kernel⟩, List.mem_of_getElem? (i := 977) (by decide +kernel), List.mem_of_getElem? (i := 1322) (by decide +kernel), List.mem_of_getElem? (i := 1323) (by decide +kernel)⟩
theorem lw_p51 : lw_okq (⟨"SharesComingModel", "goalOf", "(JI)I"⟩, 47) := ⟨⟨by decide +kernel, by decide +kernel⟩, List.mem_of_getElem? (i := 977) (by decide +kernel), List.mem_of_getElem? (i := 1326) (by decide +kernel), List.mem_of_getElem? (i := 1327) (by decide +kernel)⟩
theorem lw_p52 : lw_okq (⟨"SharesComingModel", "share", "(J)I"⟩, 47) := ⟨⟨by decide +kernel, by decide +kernel⟩, List.mem_of_getElem? (i := 977) (by decide +kernel), List.mem_of_getElem? (i := 1330) (by decide +kernel), List.mem_of_getElem? (i := 1331) (by decide +kernel)⟩
theorem lw_p53 : lw_okq (⟨"SharesComingModel", "manyCame", "(J)I"⟩, 47) := ⟨⟨by decide +kernel, by decide +kernel⟩, List.mem_of_getElem? (i := 977) (by decide +kernel), List.mem_of_getElem? (i := 1334) (by decide +kernel), List.mem_of_getElem? (i := 1335) (by decide +kernel)⟩
theorem lw_p54 : lw_okq (⟨"SharesComingModel", "leftOut", "(JII)I"⟩, 47) := ⟨⟨by decide +kernel, by decide +kernel⟩, List.mem_of_getElem? (i := 977) (by decide +kernel), List.mem_of_getElem? (i := 1338) (by decide +kernel), List.mem_of_getElem? (i := 1339) (by decide +kernel)⟩
theorem lw_p55 : lw_okq (⟨"SharesComingModel", "twice", "(JI)I"⟩, 47) := ⟨⟨by decide +kernel, by decide +kernel⟩, List.mem_of_getElem? (i := 977) (by decide +kernel), List.mem_of_getElem? (i := 1342) (by decide +kernel), List.mem_of_getElem? (i := 1343) (by decide +kernel)⟩
theorem lw_p56 : lw_okq (⟨"SharesComingModel", "solved", "(IZII)J"⟩, 47) := ⟨⟨by decide +kernel, by decide +kernel⟩, List.mem_of_getElem? (i := 977) (by decide +kernel), List.mem_of_getElem? (i := 1351) (by decide +kernel), List.mem_of_getElem? (i := 1352) (by decide +kernel)⟩
theorem lw_p57 : lw_okq (⟨"SharesComingModel", "laysAll", "(I)V"⟩, 47) := ⟨⟨by decide +kernel, by decide +kernel⟩, List.mem_of_getElem? (i := 977) (by decide +kernel), List.mem_of_getElem? (i := 1355) (by decide +kernel), List.mem_of_getElem? (i := 1356) (by decide +kernel)⟩
theorem lw_p58 : lw_okq (⟨"SharesComingModel", "lays", "(JI)V"⟩, 47) := ⟨⟨by decide +kernel, by decide +kernel⟩, List.mem_of_getElem? (i := 977) (by decide +kernel), List.mem_of_getElem? (i := 1359) (by decide +kernel), List.mem_of_getElem? (i := 1360) (by decide +kernel)⟩
theorem lw_p59 : lw_okq (⟨"SharesComingModel", "placeOf", "(JII)I"⟩, 47) := ⟨⟨by decide +kernel, by decide +kernel⟩, List.mem_of_getElem? (i := 977) (by decide +kernel), List.mem_of_getElem? (i := 1363) (by decide +kernel), List.mem_of_getElem? (i := 1364) (by decide +kernel)⟩
theorem lw_p60 : lw_okq (⟨"SharesComingModel", "after", "(JIII)J"⟩, 47) := ⟨⟨by decide +kernel, by decide +kernel⟩, List.mem_of_getElem? (i := 977) (by decide +kernel), List.mem_of_getElem? (i := 1369) (by decide +kernel), List.mem_of_getElem? (i := 1370) (by decide +kernel)⟩
theorem lw_p61 : lw_okq (⟨"SharesComingModel", "valueOf", "(JI)J"⟩, 47) := ⟨⟨by decide +kernel, by decide +kernel⟩, List.mem_of_getElem? (i := 977) (by decide +kernel), List.mem_of_getElem? (i := 1373) (by decide +kernel), List.mem_of_getElem? (i := 1374) (by decide +kernel)⟩
theorem lw_p62 : lw_okq (⟨"SharesComingModel", "given", "(JIII)J"⟩, 47) := ⟨⟨by decide +kernel, by decide +kernel⟩, List.mem_of_getElem? (i := 977) (by decide +kernel), List.mem_of_getElem? (i := 1377) (by decide +kernel), List.mem_of_getElem? (i := 1378) (by decide +kernel)⟩
theorem lw_p63 : lw_okq (⟨"SharesComingModel", "told", "(JZ)I"⟩, 47) := ⟨⟨by decide +kernel, by decide +kernel⟩, List.mem_of_getElem? (i := 977) (by decide +kernel), List.mem_of_getElem? (i := 1382) (by decide +kernel), List.mem_of_getElem? (i := 1383) (by decide +kernel)⟩
def lw_privs_4 : List (MethodName × Nat) := [(⟨"SharesComingModel", "altOf", "(III)I"⟩, 47), (⟨"SharesComingModel", "ends", "(JII)I"⟩, 47), (⟨"SharesComingModel", "backed", "(JII)I"⟩, 47), (⟨"SharesComingModel", "goalOf", "(JI)I"⟩, 47), (⟨"SharesComingModel", "share", "(J)I"⟩, 47), (⟨"SharesComingModel", "manyCame", "(J)I"⟩, 47), (⟨"SharesComingModel", "leftOut", "(JII)I"⟩, 47), (⟨"SharesComingModel", "twice", "(JI)I"⟩, 47), (⟨"SharesComingModel", "solved", "(IZII)J"⟩, 47), (⟨"SharesComingModel", "laysAll", "(I)V"⟩, 47), (⟨"SharesComingModel", "lays", "(JI)V"⟩, 47), (⟨"SharesComingModel", "placeOf", "(JII)I"⟩, 47), (⟨"SharesComingModel", "after", "(JIII)J"⟩, 47), (⟨"SharesComingModel", "valueOf", "(JI)J"⟩, 47), (⟨"SharesComingModel", "given", "(JIII)J"⟩, 47), (⟨"SharesComingModel", "told", "(JZ)I"⟩, 47)]
theorem lw_r4 : ∀ q ∈ lw_privs_4, lw_okq q := List.forall_mem_cons.mpr ⟨lw_p48, List.forall_mem_cons.mpr ⟨lw_p49, List.forall_mem_cons.mpr ⟨lw_p50, List.forall_mem_cons.mpr ⟨lw_p51, List.forall_mem_cons.mpr ⟨lw_p52, List.forall_mem_cons.mpr ⟨lw_p53, List.forall_mem_cons.mpr ⟨lw_p54, List.forall_mem_cons.mpr ⟨lw_p55, List.forall_mem_cons.mpr ⟨lw_p56, List.forall_mem_cons.mpr ⟨lw_p57, List.forall_mem_cons.mpr ⟨lw_p58, List.forall_mem_cons.mpr ⟨lw_p59, List.forall_mem_cons.mpr ⟨lw_p60, List.forall_mem_cons.mpr ⟨lw_p61, List.forall_mem_cons.mpr ⟨lw_p62, List.forall_mem_cons.mpr ⟨lw_p63, fun _ h => absurd h List.not_mem_nil⟩⟩⟩⟩⟩⟩⟩⟩⟩⟩⟩⟩⟩⟩⟩⟩
theorem lw_p64 : lw_okq (⟨"SharesComingModel", "isAltRow", "(I)Z"⟩, 47) := ⟨⟨by decide +kernel, by decide +kernel⟩, List.mem_of_getElem? (i := 977) (by decide +kernel), List.mem_of_getElem? (i := 1400) (by decide +kernel), List.mem_of_getElem? (i := 1401) (by decide +kernel)⟩
theorem lw_p65 : lw_okq (⟨"SharesComingModel", "isRow", "(I)Z"⟩, 47) := ⟨⟨by decide +kernel, by decide +kernel⟩, List.mem_of_getElem? (i := 977) (by decide +kernel), List.mem_of_getElem? (i := 1404) (by decide +kernel), List.mem_of_getElem? (i := 1405) (by decide +kernel)⟩
theorem lw_p66 : lw_okq (⟨"SharesComingModel", "knownBy", "(I)I"⟩, 47) := ⟨⟨by decide +kernel, by decide +kernel⟩, List.mem_of_getElem? (i := 977) (by decide +kernel), List.mem_of_getElem? (i := 1408) (by decide +kernel), List.mem_of_getElem? (i := 1409) (by decide +kernel)⟩
theorem lw_p67 : lw_okq (⟨"SharesComingModel", "goesTo", "(JIII)I"⟩, 47) := ⟨⟨by decide +kernel, by decide +kernel⟩, List.mem_of_getElem? (i := 977) (by decide +kernel), List.mem_of_getElem? (i := 1420) (by decide +kernel), List.mem_of_getElem? (i := 1421) (by decide +kernel)⟩
theorem lw_p68 : lw_okq (⟨"SharesComingModel", "isBefore", "(JIIII)Z"⟩, 47) := ⟨⟨by decide +kernel, by decide +kernel⟩, List.mem_of_getElem? (i := 977) (by decide +kernel), List.mem_of_getElem? (i := 1424) (by decide +kernel), List.mem_of_getElem? (i := 1425) (by decide +kernel)⟩
def lw_privs_5 : List (MethodName × Nat) := [(⟨"SharesComingModel", "isAltRow", "(I)Z"⟩, 47), (⟨"SharesComingModel", "isRow", "(I)Z"⟩, 47), (⟨"SharesComingModel", "knownBy", "(I)I"⟩, 47), (⟨"SharesComingModel", "goesTo", "(JIII)I"⟩, 47), (⟨"SharesComingModel", "isBefore", "(JIIII)Z"⟩, 47)]
theorem lw_r5 : ∀ q ∈ lw_privs_5, lw_okq q := List.forall_mem_cons.mpr ⟨lw_p64, List.forall_mem_cons.mpr ⟨lw_p65, List.forall_mem_cons.mpr ⟨lw_p66, List.forall_mem_cons.mpr ⟨lw_p67, List.forall_mem_cons.mpr ⟨lw_p68, fun _ h => absurd h List.not_mem_nil⟩⟩⟩⟩⟩
def lw_privs : List (MethodName × Nat) := lw_privs_1 ++ (lw_privs_2 ++ (lw_privs_3 ++ (lw_privs_4 ++ (lw_privs_5))))
def lw_tbl : List Cond := k2_sels lw_privs ++ tables_1
theorem lw_privs_ok : ∀ q ∈ lw_privs, lw_okq q := by
  show ∀ q ∈ lw_privs_1 ++ (lw_privs_2 ++ (lw_privs_3 ++ (lw_privs_4 ++ (lw_privs_5)))), lw_okq q
  exact List.forall_mem_append.mpr ⟨lw_r1, List.forall_mem_append.mpr ⟨lw_r2, List.forall_mem_append.mpr ⟨lw_r3, List.forall_mem_append.mpr ⟨lw_r4, lw_r5⟩⟩⟩⟩
end
section
/-! MEMORY: the objects and arrays that the claim's own classes make, by keys (numbers in the order of making); what each holds. -/
abbrev Wd : Type := ((Nat → Nat → Int32) × (Nat → Nat → Int64) × (Nat → Nat → Int32) × (Nat → Nat → Int64)) × ((Nat → Nat → Option Nat) × (Nat → Nat) × (Nat → Nat) × (Nat → Nat → Option Nat) × Nat × Nat)
/-- int field k of key a; long field; int array's place; long array's place; reference field; kind; length; reference array's place; how many keys; how many slots -/
def wI (w : Wd) (a k : Nat) : Int32 := w.1.1 a k
def wJ (w : Wd) (a k : Nat) : Int64 := w.1.2.1 a k
def wX (w : Wd) (a k : Nat) : Int32 := w.1.2.2.1 a k
def wY (w : Wd) (a k : Nat) : Int64 := w.1.2.2.2 a k
def wR (w : Wd) (a k : Nat) : Option Nat := w.2.1 a k
def wK (w : Wd) (a : Nat) : Nat := w.2.2.1 a
def wL (w : Wd) (a : Nat) : Nat := w.2.2.2.1 a
def wZ (w : Wd) (a k : Nat) : Option Nat := w.2.2.2.2.1 a k
def wN (w : Wd) : Nat := w.2.2.2.2.2.1
def wS (w : Wd) : Nat := w.2.2.2.2.2.2
def u2 {α : Type} (f : Nat → Nat → α) (a k : Nat) (v : α) : Nat → Nat → α := fun b j => if b = a ∧ j = k then v else f b j
def u1 {α : Type} (f : Nat → α) (a : Nat) (v : α) : Nat → α := fun b => if b = a then v else f b
/-- a whole row -/
def ur {α : Type} (f : Nat → Nat → α) (a : Nat) (v : Nat → α) : Nat → Nat → α := fun b j => if b = a then v j else f b j
def uI (w : Wd) (a k : Nat) (v : Int32) : Wd := ((u2 w.1.1 a k v, w.1.2), w.2)
def uJ (w : Wd) (a k : Nat) (v : Int64) : Wd := ((w.1.1, u2 w.1.2.1 a k v, w.1.2.2), w.2)
def uX (w : Wd) (a k : Nat) (v : Int32) : Wd := ((w.1.1, w.1.2.1, u2 w.1.2.2.1 a k v, w.1.2.2.2), w.2)
def uY (w : Wd) (a k : Nat) (v : Int64) : Wd := ((w.1.1, w.1.2.1, w.1.2.2.1, u2 w.1.2.2.2 a k v), w.2)
def uR (w : Wd) (a k : Nat) (v : Option Nat) : Wd := (w.1, u2 w.2.1 a k v, w.2.2)
def uZ (w : Wd) (a k : Nat) (v : Option Nat) : Wd := (w.1, w.2.1, w.2.2.1, w.2.2.2.1, u2 w.2.2.2.2.1 a k v, w.2.2.2.2.2)
/-- a new object of class c with n fields; its key is the next -/
def nO (w : Wd) (c n : Nat) : Wd := ((ur w.1.1 (wN w) (fun _ => 0), ur w.1.2.1 (wN w) (fun _ => 0), w.1.2.2), (ur w.2.1 (wN w) (fun _ => none), u1 w.2.2.1 (wN w) c, w.2.2.2.1, w.2.2.2.2.1, wN w + 1, wS w + n))
/-- a new array of kind t and length n -/
def nA (w : Wd) (t n : Nat) : Wd := ((w.1.1, w.1.2.1, ur w.1.2.2.1 (wN w) (fun _ => 0), ur w.1.2.2.2 (wN w) (fun _ => 0)), (w.2.1, u1 w.2.2.1 (wN w) t, u1 w.2.2.2.1 (wN w) n, ur w.2.2.2.2.1 (wN w) (fun _ => none), wN w + 1, wS w + n))
theorem u2_s {α : Type} (f : Nat → Nat → α) (a k : Nat) (v : α) : u2 f a k v a k = v := by simp [u2]
theorem u2_a {α : Type} (f : Nat → Nat → α) {a b : Nat} (k j : Nat) (v : α) (h : b ≠ a) : u2 f a k v b j = f b j := by simp [u2, h]
theorem u2_k {α : Type} (f : Nat → Nat → α) (a b : Nat) {k j : Nat} (v : α) (h : j ≠ k) : u2 f a k v b j = f b j := by simp [u2, h]
/-- key a is there, and of kind c -/
def Kd (w : Wd) (a c : Nat) : Prop := a < wN w ∧ wK w a = c
/-- abstract values: .ref a is a key; .retAddr i below 100 the i-th String constant, 100 + i its bytes, 1000 the script, 2000 a reference that nobody asks of -/
abbrev Lc : Type := List (Nat × Value)
/-- the context: addresses of the keys; of the Strings, of their bytes; of the script; classes; array classes -/
abbrev Gc : Type := (Nat → Nat) × (Nat → Nat) × (Nat → Nat) × Nat × Option Nat × va_G × (Nat → ClassId)
def gad (G : Gc) : Nat → Nat := G.1
def gsk (G : Gc) : Nat → Nat := G.2.1
def gsv (G : Gc) : Nat → Nat := G.2.2.1
def gsc (G : Gc) : Nat := G.2.2.2.1
def gfm (G : Gc) : Option Nat := G.2.2.2.2.1
def gD (G : Gc) : va_G := G.2.2.2.2.2.1
def gA (G : Gc) : Nat → ClassId := G.2.2.2.2.2.2
def cv (G : Gc) (v : Value) : Value := match v with
  | .ref a => .ref (gad G a)
  | .retAddr i => if i < 2000 then .ref (if i < 100 then gsk G i else if i < 1000 then gsv G (i - 100) else gsc G) else va_rf (gfm G)
  | v => v
theorem va_rf_cat (r : Option Nat) : (va_rf r).category = 1 := by cases r <;> rfl
theorem cv_cat (G : Gc) (v : Value) : (cv G v).category = v.category := by
  cases v <;> first | rfl | skip
  simp only [cv]
  split
  · rfl
  · exact va_rf_cat _
theorem cv_ret (G : Gc) {i : Nat} (h : i < 2000) : cv G (.retAddr i) = .ref (if i < 100 then gsk G i else if i < 1000 then gsv G (i - 100) else gsc G) := by simp only [cv, h, if_true]
def cvl (G : Gc) (l : Lc) : Lc := l.map (fun q => (q.1, cv G q.2))
def rfv (r : Option Nat) : Value := match r with
  | none => .null
  | some t => .ref t
theorem cv_rfv (G : Gc) (r : Option Nat) : cv G (rfv r) = va_rf (r.map (gad G)) := by cases r <;> rfl
theorem cvl_args (G : Gc) : ∀ (vs : List Value) (i : Nat), lv_args i (vs.map (cv G)) = cvl G (lv_args i vs)
  | [], _ => rfl
  | v :: vs, i => by
    simp only [List.map_cons, lv_args, cvl, cv_cat]
    congr 1
    exact cvl_args G vs _
theorem cvl_filter (G : Gc) (p : Nat × Value → Bool) (hp : ∀ i v v', v.category = v'.category → p (i, v) = p (i, v')) (l : Lc) : (cvl G l).filter p = cvl G (l.filter p) := by
  induction l with
  | nil => rfl
  | cons q l ih =>
    have h : p (q.1, cv G q.2) = p q := hp q.1 _ _ (cv_cat G q.2)
    simp only [cvl, List.map_cons, List.filter_cons] at ih ⊢
    rw [h]
    cases p q
    · simpa using ih
    · simpa using ih
/-- the local i, if it is listed -/
def lcg : Lc → Nat → Option Value
  | [], _ => none
  | q :: l, i => if q.1 = i then some q.2 else lcg l i
theorem lcg_mem : ∀ {l : Lc} {i : Nat} {v : Value}, lcg l i = some v → (i, v) ∈ l
  | [], _, _, h => by cases h
  | q :: l, i, v, h => by
    unfold lcg at h
    by_cases hq : q.1 = i
    · rw [if_pos hq] at h
      cases h
      rw [← hq]
      exact List.mem_cons_self
    · rw [if_neg hq] at h
      exact List.mem_cons_of_mem _ (lcg_mem h)
theorem lcg_ls {G : Gc} {l : Lc} {i nL : Nat} {v : Value} {ls : Array Slot} (h : lv_has ls nL (cvl G l)) (hg : lcg l i = some v) : ls[i]? = some (.val (cv G v)) := h.2.2 (i, cv G v) (List.mem_map.mpr ⟨(i, v), lcg_mem hg, rfl⟩)
/-- a store of one word, and of two -/
def lc1 (l : Lc) (i : Nat) (v : Value) : Lc := (i, v) :: l.filter (fun q => !(q.1 == i) && !(q.1 + 1 == i && q.2.category == 2))
def lc2 (l : Lc) (i : Nat) (v : Value) : Lc := (i, v) :: l.filter (fun q => !(q.1 == i) && (!(q.1 == i + 1) && !(q.1 + 1 == i && q.2.category == 2)))
theorem lc1_cv (G : Gc) (l : Lc) (i : Nat) (v : Value) : (i, cv G v) :: (cvl G l).filter (fun q => !(q.1 == i) && !(q.1 + 1 == i && q.2.category == 2)) = cvl G (lc1 l i v) := by
  rw [cvl_filter G _ (fun i v v' h => by simp [h])]
  rfl
theorem lc2_cv (G : Gc) (l : Lc) (i : Nat) (v : Value) : (i, cv G v) :: (cvl G l).filter (fun q => !(q.1 == i) && (!(q.1 == i + 1) && !(q.1 + 1 == i && q.2.category == 2))) = cvl G (lc2 l i v) := by
  rw [cvl_filter G _ (fun i v v' h => by simp [h])]
  rfl
end
section
/-! STEPS that touch no memory: the next pc, locals and stack. -/
abbrev Nx : Type := Nat × Lc × List Value
def bI (st : List Value) (f : Int32 → Int32 → Int32) : Option (List Value) := match st with
  | .int y :: .int x :: r => some (.int (f x y) :: r)
  | _ => none
def bJ (st : List Value) (f : Int64 → Int64 → Int64) : Option (List Value) := match st with
  | .long y :: .long x :: r => some (.long (f x y) :: r)
  | _ => none
def bS (st : List Value) (f : Int64 → Int32 → Int64) : Option (List Value) := match st with
  | .int y :: .long x :: r => some (.long (f x y) :: r)
  | _ => none
def bC (st : List Value) : Option (List Value) := match st with
  | .long y :: .long x :: r => some (.int (lg_cmp x y) :: r)
  | _ => none
def oI (st : List Value) (f : Int32 → Int32) : Option (List Value) := match st with
  | .int x :: r => some (.int (f x) :: r)
  | _ => none
def oJ (st : List Value) (f : Int64 → Int64) : Option (List Value) := match st with
  | .long x :: r => some (.long (f x) :: r)
  | _ => none
def oIJ (st : List Value) : Option (List Value) := match st with
  | .int x :: r => some (.long x.toInt64 :: r)
  | _ => none
def oJI (st : List Value) : Option (List Value) := match st with
  | .long x :: r => some (.int x.toInt32 :: r)
  | _ => none
/-- division: by what isn't 0 -/
def dI (st : List Value) (f : Int32 → Int32 → Int32) : Option (List Value) := match st with
  | .int y :: .int x :: r => if y = 0 then none else some (.int (f x y) :: r)
  | _ => none
def dJ (st : List Value) (f : Int64 → Int64 → Int64) : Option (List Value) := match st with
  | .long y :: .long x :: r => if y = 0 then none else some (.long (f x y) :: r)
  | _ => none
theorem bI_some {st st' : List Value} {f : Int32 → Int32 → Int32} (h : bI st f = some st') : ∃ x y r, st = .int y :: .int x :: r ∧ st' = .int (f x y) :: r := by
  unfold bI at h; split at h
  · cases h; exact ⟨_, _, _, rfl, rfl⟩
  · cases h
theorem bJ_some {st st' : List Value} {f : Int64 → Int64 → Int64} (h : bJ st f = some st') : ∃ x y r, st = .long y :: .long x :: r ∧ st' = .long (f x y) :: r := by
  unfold bJ at h; split at h
  · cases h; exact ⟨_, _, _, rfl, rfl⟩
  · cases h
theorem bS_some {st st' : List Value} {f : Int64 → Int32 → Int64} (h : bS st f = some st') : ∃ x y r, st = .int y :: .long x :: r ∧ st' = .long (f x y) :: r := by
  unfold bS at h; split at h
  · cases h; exact ⟨_, _, _, rfl, rfl⟩
  · cases h
theorem bC_some {st st' : List Value} (h : bC st = some st') : ∃ x y r, st = .long y :: .long x :: r ∧ st' = .int (lg_cmp x y) :: r := by
  unfold bC at h; split at h
  · cases h; exact ⟨_, _, _, rfl, rfl⟩
  · cases h
theorem oI_some {st st' : List Value} {f : Int32 → Int32} (h : oI st f = some st') : ∃ x r, st = .int x :: r ∧ st' = .int (f x) :: r := by
  unfold oI at h; split at h
  · cases h; exact ⟨_, _, rfl, rfl⟩
  · cases h
theorem oJ_some {st st' : List Value} {f : Int64 → Int64} (h : oJ st f = some st') : ∃ x r, st = .long x :: r ∧ st' = .long (f x) :: r := by
  unfold oJ at h; split at h
  · cases h; exact ⟨_, _, rfl, rfl⟩
  · cases h
theorem oIJ_some {st st' : List Value} (h : oIJ st = some st') : ∃ x r, st = .int x :: r ∧ st' = .long x.toInt64 :: r := by
  unfold oIJ at h; split at h
  · cases h; exact ⟨_, _, rfl, rfl⟩
  · cases h
theorem oJI_some {st st' : List Value} (h : oJI st = some st') : ∃ x r, st = .long x :: r ∧ st' = .int x.toInt32 :: r := by
  unfold oJI at h; split at h
  · cases h; exact ⟨_, _, rfl, rfl⟩
  · cases h
theorem dI_some {st st' : List Value} {f : Int32 → Int32 → Int32} (h : dI st f = some st') : ∃ x y r, st = .int y :: .int x :: r ∧ ¬ y = 0 ∧ st' = .int (f x y) :: r := by
  unfold dI at h; split at h
  · split at h
    · cases h
    · cases h; exact ⟨_, _, _, rfl, by assumption, rfl⟩
  · cases h
theorem dJ_some {st st' : List Value} {f : Int64 → Int64 → Int64} (h : dJ st f = some st') : ∃ x y r, st = .long y :: .long x :: r ∧ ¬ y = 0 ∧ st' = .long (f x y) :: r := by
  unfold dJ at h; split at h
  · split at h
    · cases h
    · cases h; exact ⟨_, _, _, rfl, by assumption, rfl⟩
  · cases h
/-- behind an instruction of length n -/
def nxt (len n pc : Nat) (lv : Lc) (st : Option (List Value)) : Option Nx := if len = n then st.map (fun t => (pc + n, lv, t)) else none
theorem nxt_some {len n pc : Nat} {lv : Lc} {st : Option (List Value)} {x : Nx} (h : nxt len n pc lv st = some x) : len = n ∧ ∃ t, st = some t ∧ x = (pc + n, lv, t) := by
  unfold nxt at h; split at h
  · cases st with
    | none => cases h
    | some t => cases h; exact ⟨by assumption, t, rfl, rfl⟩
  · cases h
def ldI (lv : Lc) (i : Nat) (st : List Value) : Option (List Value) := match lcg lv i with
  | some (.int x) => some (.int x :: st)
  | _ => none
def ldJ (lv : Lc) (i : Nat) (st : List Value) : Option (List Value) := match lcg lv i with
  | some (.long x) => some (.long x :: st)
  | _ => none
def ldA (lv : Lc) (i : Nat) (st : List Value) : Option (List Value) := match lcg lv i with
  | some (.ref x) => some (.ref x :: st)
  | some (.retAddr x) => if x < 2000 then some (.retAddr x :: st) else none
  | some .null => some (.null :: st)
  | _ => none
theorem ldI_some {lv : Lc} {i : Nat} {st t : List Value} (h : ldI lv i st = some t) : ∃ x, lcg lv i = some (.int x) ∧ t = .int x :: st := by
  unfold ldI at h; split at h
  · cases h; exact ⟨_, by assumption, rfl⟩
  · cases h
theorem ldJ_some {lv : Lc} {i : Nat} {st t : List Value} (h : ldJ lv i st = some t) : ∃ x, lcg lv i = some (.long x) ∧ t = .long x :: st := by
  unfold ldJ at h; split at h
  · cases h; exact ⟨_, by assumption, rfl⟩
  · cases h
theorem ldA_some {lv : Lc} {i : Nat} {st t : List Value} (h : ldA lv i st = some t) : ∃ v, lcg lv i = some v ∧ t = v :: st ∧ (v = .null ∨ (∃ x, v = .ref x) ∨ ∃ x, x < 2000 ∧ v = .retAddr x) := by
  unfold ldA at h; split at h
  · cases h; exact ⟨_, by assumption, rfl, Or.inr (Or.inl ⟨_, rfl⟩)⟩
  · split at h
    · cases h; exact ⟨_, by assumption, rfl, Or.inr (Or.inr ⟨_, by assumption, rfl⟩)⟩
    · cases h
  · cases h; exact ⟨_, by assumption, rfl, Or.inl rfl⟩
  · cases h
/-- stores: the place must be within nL -/
def stI (nL len n pc : Nat) (lv : Lc) (i : Nat) (st : List Value) : Option Nx := match st with
  | .int x :: r => if len = n ∧ i < nL then some (pc + n, lc1 lv i (.int x), r) else none
  | _ => none
def stJ (nL len n pc : Nat) (lv : Lc) (i : Nat) (st : List Value) : Option Nx := match st with
  | .long x :: r => if len = n ∧ i + 1 < nL then some (pc + n, lc2 lv i (.long x), r) else none
  | _ => none
def stA (nL len n pc : Nat) (lv : Lc) (i : Nat) (st : List Value) : Option Nx := match st with
  | .ref x :: r => if len = n ∧ i < nL then some (pc + n, lc1 lv i (.ref x), r) else none
  | .null :: r => if len = n ∧ i < nL then some (pc + n, lc1 lv i .null, r) else none
  | _ => none
theorem stI_some {nL len n pc : Nat} {lv : Lc} {i : Nat} {st : List Value} {t : Nx} (h : stI nL len n pc lv i st = some t) : ∃ x r, st = .int x :: r ∧ len = n ∧ i < nL ∧ t = (pc + n, lc1 lv i (.int x), r) := by
  unfold stI at h; split at h
  · split at h
    · next hc => cases h; exact ⟨_, _, rfl, hc.1, hc.2, rfl⟩
    · cases h
  · cases h
theorem stJ_some {nL len n pc : Nat} {lv : Lc} {i : Nat} {st : List Value} {t : Nx} (h : stJ nL len n pc lv i st = some t) : ∃ x r, st = .long x :: r ∧ len = n ∧ i + 1 < nL ∧ t = (pc + n, lc2 lv i (.long x), r) := by
  unfold stJ at h; split at h
  · split at h
    · next hc => cases h; exact ⟨_, _, rfl, hc.1, hc.2, rfl⟩
    · cases h
  · cases h
theorem stA_some {nL len n pc : Nat} {lv : Lc} {i : Nat} {st : List Value} {t : Nx} (h : stA nL len n pc lv i st = some t) : ∃ v r, st = v :: r ∧ len = n ∧ i < nL ∧ t = (pc + n, lc1 lv i v, r) ∧ (v = .null ∨ ∃ x, v = .ref x) := by
  unfold stA at h; split at h
  · split at h
    · next hc => cases h; exact ⟨_, _, rfl, hc.1, hc.2, rfl, Or.inr ⟨_, rfl⟩⟩
    · cases h
  · split at h
    · next hc => cases h; exact ⟨_, _, rfl, hc.1, hc.2, rfl, Or.inl rfl⟩
    · cases h
  · cases h
/-- where a jump goes -/
def tgt (pc : Nat) (off : Int) : Nat := ((pc : Int) + off).toNat
theorem tgt_ok {pc : Nat} {off : Int} (h : 0 ≤ (pc : Int) + off) : (pc : Int) + off = ((tgt pc off : Nat) : Int) := (Int.toNat_of_nonneg h).symm
def jmp (len pc : Nat) (off : Int) (lv : Lc) (c : Prop) [Decidable c] (r : List Value) : Option Nx := if len = 3 ∧ 0 ≤ (pc : Int) + off then (if c then some (tgt pc off, lv, r) else some (pc + 3, lv, r)) else none
theorem jmp_some {len pc : Nat} {off : Int} {lv : Lc} {c : Prop} [Decidable c] {r : List Value} {t : Nx} (h : jmp len pc off lv c r = some t) : len = 3 ∧ (pc : Int) + off = ((tgt pc off : Nat) : Int) ∧ ((c ∧ t = (tgt pc off, lv, r)) ∨ (¬ c ∧ t = (pc + 3, lv, r))) := by
  unfold jmp at h; split at h
  · next hl =>
    refine ⟨hl.1, tgt_ok hl.2, ?_⟩
    split at h
    · cases h; exact Or.inl ⟨by assumption, rfl⟩
    · cases h; exact Or.inr ⟨by assumption, rfl⟩
  · cases h
def ifZ (cd : Jvm.ClassFile.Cond) (len pc : Nat) (off : Int) (lv : Lc) (st : List Value) : Option Nx := match st with
  | .int x :: r => match cd with
    | .eq => jmp len pc off lv (x = 0) r
    | .ne => jmp len pc off lv (¬ x = 0) r
    | .lt => jmp len pc off lv (x < 0) r
    | .ge => jmp len pc off lv (0 ≤ x) r
    | .gt => jmp len pc off lv (0 < x) r
    | .le => jmp len pc off lv (x ≤ 0) r
  | _ => none
def ifC (cd : Jvm.ClassFile.Cond) (len pc : Nat) (off : Int) (lv : Lc) (st : List Value) : Option Nx := match st with
  | .int y :: .int x :: r => match cd with
    | .eq => jmp len pc off lv (x = y) r
    | .ne => jmp len pc off lv (¬ x = y) r
    | .lt => jmp len pc off lv (x < y) r
    | .ge => jmp len pc off lv (y ≤ x) r
    | .gt => jmp len pc off lv (y < x) r
    | .le => jmp len pc off lv (x ≤ y) r
  | _ => none
def ifN (len pc : Nat) (off : Int) (lv : Lc) (st : List Value) : Option Nx := match st with
  | .ref _ :: r => if len = 3 then some (pc + 3, lv, r) else none
  | .null :: r => if len = 3 ∧ 0 ≤ (pc : Int) + off then some (tgt pc off, lv, r) else none
  | _ => none
def dup1 (st : List Value) : Option (List Value) := match st with
  | v :: r => if v.category = 1 then some (v :: v :: r) else none
  | _ => none
def dup2c (st : List Value) : Option (List Value) := match st with
  | va :: vb :: r => if va.category = 1 ∧ vb.category = 1 then some (va :: vb :: va :: vb :: r) else none
  | _ => none
def pop1 (st : List Value) : Option (List Value) := match st with
  | v :: r => if v.category = 1 then some r else none
  | _ => none
def pop2c (st : List Value) : Option (List Value) := match st with
  | v :: r => if v.category = 2 then some r else none
  | _ => none
theorem dup1_some {st t : List Value} (h : dup1 st = some t) : ∃ v r, st = v :: r ∧ v.category = 1 ∧ t = v :: v :: r := by
  unfold dup1 at h; split at h
  · split at h
    · cases h; exact ⟨_, _, rfl, by assumption, rfl⟩
    · cases h
  · cases h
theorem dup2c_some {st t : List Value} (h : dup2c st = some t) : ∃ va vb r, st = va :: vb :: r ∧ va.category = 1 ∧ vb.category = 1 ∧ t = va :: vb :: va :: vb :: r := by
  unfold dup2c at h; split at h
  · split at h
    · next hc => cases h; exact ⟨_, _, _, rfl, hc.1, hc.2, rfl⟩
    · cases h
  · cases h
theorem pop1_some {st t : List Value} (h : pop1 st = some t) : ∃ v, st = v :: t ∧ v.category = 1 := by
  unfold pop1 at h; split at h
  · split at h
    · cases h; exact ⟨_, rfl, by assumption⟩
    · cases h
  · cases h
theorem pop2c_some {st t : List Value} (h : pop2c st = some t) : ∃ v, st = v :: t ∧ v.category = 2 := by
  unfold pop2c at h; split at h
  · split at h
    · cases h; exact ⟨_, rfl, by assumption⟩
    · cases h
  · cases h
def iincr (nL len pc : Nat) (lv : Lc) (i : Nat) (n : Int) (st : List Value) : Option Nx := match lcg lv i with
  | some (.int x) => if len = 3 ∧ i < nL then some (pc + 3, lc1 lv i (.int (x + Int32.ofInt n)), st) else none
  | _ => none
/-- one instruction that touches no memory; cI, cJ: the class's constants -/
def stp (nL : Nat) (cI : Nat → Option Int32) (cJ : Nat → Option Int64) (ins : Instr) (len pc : Nat) (lv : Lc) (st : List Value) : Option Nx := match ins with
  | .iconst n => nxt len 1 pc lv (some (.int (Int32.ofInt n) :: st))
  | .bipush n => nxt len 2 pc lv (some (.int (Int8.ofInt n).toInt32 :: st))
  | .sipush n => nxt len 3 pc lv (some (.int (Int16.ofInt n).toInt32 :: st))
  | .lconst n => nxt len 1 pc lv (some (.long (Int64.ofNat n) :: st))
  | .ldc i => nxt len 2 pc lv ((cI i).map (fun v => .int v :: st))
  | .ldc_w i => nxt len 3 pc lv ((cI i).map (fun v => .int v :: st))
  | .ldc2_w i => nxt len 3 pc lv ((cJ i).map (fun v => .long v :: st))
  | .aconst_null => nxt len 1 pc lv (some (.null :: st))
  | .iload_n k => nxt len 1 pc lv (ldI lv k st)
  | .iload i => nxt len 2 pc lv (ldI lv i st)
  | .lload_n k => nxt len 1 pc lv (ldJ lv k st)
  | .lload i => nxt len 2 pc lv (ldJ lv i st)
  | .aload_n k => nxt len 1 pc lv (ldA lv k st)
  | .aload i => nxt len 2 pc lv (ldA lv i st)
  | .istore_n k => stI nL len 1 pc lv k st
  | .istore i => stI nL len 2 pc lv i st
  | .lstore_n k => stJ nL len 1 pc lv k st
  | .lstore i => stJ nL len 2 pc lv i st
  | .astore_n k => stA nL len 1 pc lv k st
  | .astore i => stA nL len 2 pc lv i st
  | .iinc i n => iincr nL len pc lv i n st
  | .iadd => nxt len 1 pc lv (bI st (fun x y => x + y))
  | .isub => nxt len 1 pc lv (bI st (fun x y => x - y))
  | .imul => nxt len 1 pc lv (bI st (fun x y => x * y))
  | .iand => nxt len 1 pc lv (bI st (fun x y => x &&& y))
  | .ior => nxt len 1 pc lv (bI st (fun x y => x ||| y))
  | .ixor => nxt len 1 pc lv (bI st (fun x y => x ^^^ y))
  | .idiv => nxt len 1 pc lv (dI st (fun x y => x / y))
  | .irem => nxt len 1 pc lv (dI st (fun x y => x - x / y * y))
  | .ineg => nxt len 1 pc lv (oI st (fun x => -x))
  | .ladd => nxt len 1 pc lv (bJ st (fun x y => x + y))
  | .lsub => nxt len 1 pc lv (bJ st (fun x y => x - y))
  | .lmul => nxt len 1 pc lv (bJ st (fun x y => x * y))
  | .land => nxt len 1 pc lv (bJ st (fun x y => x &&& y))
  | .lor => nxt len 1 pc lv (bJ st (fun x y => x ||| y))
  | .lxor => nxt len 1 pc lv (bJ st (fun x y => x ^^^ y))
  | .ldiv => nxt len 1 pc lv (dJ st (fun x y => x / y))
  | .lrem => nxt len 1 pc lv (dJ st (fun x y => x - x / y * y))
  | .lneg => nxt len 1 pc lv (oJ st (fun x => -x))
  | .ishl => nxt len 1 pc lv (bI st (fun x y => x <<< (y &&& 31)))
  | .ishr => nxt len 1 pc lv (bI st (fun x y => x >>> (y &&& 31)))
  | .iushr => nxt len 1 pc lv (bI st (fun x y => (x.toUInt32 >>> (y.toUInt32 &&& Int32.toUInt32 31)).toInt32))
  | .lshl => nxt len 1 pc lv (bS st (fun x y => x <<< (y.toInt64 &&& 63)))
  | .lshr => nxt len 1 pc lv (bS st (fun x y => x >>> (y.toInt64 &&& 63)))
  | .lushr => nxt len 1 pc lv (bS st (fun x y => (x.toUInt64 >>> (y.toInt64.toUInt64 &&& Int64.toUInt64 63)).toInt64))
  | .lcmp => nxt len 1 pc lv (bC st)
  | .i2l => nxt len 1 pc lv (oIJ st)
  | .l2i => nxt len 1 pc lv (oJI st)
  | .i2b => nxt len 1 pc lv (oI st (fun x => x.toInt8.toInt32))
  | .i2c => nxt len 1 pc lv (oI st (fun x => (x.toUInt32 % 65536).toInt32))
  | .dup => nxt len 1 pc lv (dup1 st)
  | .dup2 => nxt len 1 pc lv (dup2c st)
  | .pop => nxt len 1 pc lv (pop1 st)
  | .pop2 => nxt len 1 pc lv (pop2c st)
  | .goto off => jmp len pc off lv True st
  | .ifCond cd off => ifZ cd len pc off lv st
  | .if_icmp cd off => ifC cd len pc off lv st
  | .ifnull off => ifN len pc off lv st
  | .tableswitch dflt lo hi offs => match st with
    | .int x :: r => if 0 ≤ (pc : Int) + dflt ∧ (offs.all fun o => decide (0 ≤ (pc : Int) + o)) = true then (if x.toInt < lo ∨ hi < x.toInt then some (tgt pc dflt, lv, r) else (offs[(x.toInt - lo).toNat]?).map (fun o => (tgt pc o, lv, r))) else none
    | _ => none
  | .lookupswitch dflt ps => match st with
    | .int x :: r => if (ps.toList.zip (ps.toList.drop 1)).all (fun (a, next) => a.1 < next.1) = true ∧ 0 ≤ (pc : Int) + Op.lookupswitch.offset ps.toList dflt x.toInt then some (tgt pc (Op.lookupswitch.offset ps.toList dflt x.toInt), lv, r) else none
    | _ => none
  | _ => none
end
section
/-! STEPS that touch no memory, on the machine. -/
section SNDP
variable {p : Program} {l : Launch} {e : Env} {R : Room} {s : State} {m : MethodId} {args : Array Value} {below : List Frame} {meth : Method} {c : Code} {H : Heap} {locs : List Loc} {cells slots : Nat} {Q : State → Prop}
variable {cc : ByteArray} {G : Gc}
theorem snd_ldA (hx : p.tables.exec = Jvm.exec) (hb : c.code = cc) {v : Value} {i pc n : Nat} {ls : Array Slot} {rest : List Value} (hv : v = .null ∨ (∃ x, v = .ref x) ∨ ∃ x, x < 2000 ∧ v = .retAddr x) (hl : ls[i]? = some (.val (cv G v)))
    (hd : (∃ k : Fin 4, (k : Nat) = i ∧ n = 1 ∧ decode cc pc = .ok (.aload_n k, 1)) ∨ (n = 2 ∧ decode cc pc = .ok (.aload i, 2)))
    (k : W p l e R s m args below meth c H locs cells slots Q (F0 m (pc + n) ls (cv G v :: rest))) : W p l e R s m args below meth c H locs cells slots Q (F0 m pc ls rest) := by
  rcases hd with ⟨kk, hk, rfl, hd⟩ | ⟨rfl, hd⟩
  · rcases hv with rfl | ⟨x, rfl⟩ | ⟨x, hx2, rfl⟩
    · exact lv_aload_nN hx hb hd hk hl k
    · exact lv_aload_n hx hb hd hk hl k
    · rw [cv_ret G hx2] at hl k
      exact lv_aload_n hx hb hd hk hl k
  · rcases hv with rfl | ⟨x, rfl⟩ | ⟨x, hx2, rfl⟩
    · exact lv_aloadN hx hb hd hl k
    · exact lv_aload hx hb hd hl k
    · rw [cv_ret G hx2] at hl k
      exact lv_aload hx hb hd hl k
theorem snd_stp (hx : p.tables.exec = Jvm.exec) (hb : c.code = cc) {own : String} (hown : s.vm.findClass own = some m.cls) {cI : Nat → Option Int32} {cJ : Nat → Option Int64} (hcI : ∀ i v, cI i = some v → (Jvm.Cond.constant own i v).before args s = true) (hcJ : ∀ i v, cJ i = some v → (Jvm.Cond.constantLong own i v).before args s = true)
    {nL : Nat} {ins : Instr} {len pc : Nat} {lv : Lc} {st : List Value} {t : Nx} (hdg : decode cc pc = .ok (ins, len)) (hs : stp nL cI cJ ins len pc lv st = some t) {ls : Array Slot} (hl : lv_has ls nL (cvl G lv))
    (kk : ∀ ls', lv_has ls' nL (cvl G t.2.1) → W p l e R s m args below meth c H locs cells slots Q (F0 m t.1 ls' (t.2.2.map (cv G)))) : W p l e R s m args below meth c H locs cells slots Q (F0 m pc ls (st.map (cv G))) := by
  have one : ∀ {n : Nat} {o : Option (List Value)}, nxt len n pc lv o = some t → len = n ∧ ∃ t', o = some t' ∧ W p l e R s m args below meth c H locs cells slots Q (F0 m (pc + n) ls (t'.map (cv G))) := by
    intro n o h
    obtain ⟨h1, t', h2, rfl⟩ := nxt_some h
    exact ⟨h1, t', h2, kk ls hl⟩
  have jp : ∀ {off : Int} {cd : Prop} {_ : Decidable cd} {r : List Value}, jmp len pc off lv cd r = some t → len = 3 ∧ (pc : Int) + off = ((tgt pc off : Nat) : Int) ∧ (cd → W p l e R s m args below meth c H locs cells slots Q (F0 m (tgt pc off) ls (r.map (cv G)))) ∧ (¬ cd → W p l e R s m args below meth c H locs cells slots Q (F0 m (pc + 3) ls (r.map (cv G)))) := by
    intro off cd _ r h
    obtain ⟨h1, h2, h3⟩ := jmp_some h
    refine ⟨h1, h2, fun hc => ?_, fun hc => ?_⟩
    · rcases h3 with ⟨_, rfl⟩ | ⟨h, _⟩
      · exact kk ls hl
      · exact absurd hc h
    · rcases h3 with ⟨h, _⟩ | ⟨_, rfl⟩
      · exact absurd h hc
      · exact kk ls hl
  cases ins <;> simp only [stp] at hs <;> try (cases hs; done)
  case iconst n => obtain ⟨rfl, t', h2, k⟩ := one hs; cases h2; exact lv_iconst hx hb hdg rfl k
  case bipush n => obtain ⟨rfl, t', h2, k⟩ := one hs; cases h2; exact lv_bipush hx hb hdg rfl k
  case sipush n => obtain ⟨rfl, t', h2, k⟩ := one hs; cases h2; exact lv_sipush hx hb hdg rfl k
  case lconst n => obtain ⟨rfl, t', h2, k⟩ := one hs; cases h2; exact lv_lconst hx hb hdg rfl k
  case aconst_null => obtain ⟨rfl, t', h2, k⟩ := one hs; cases h2; exact lv_null hx hb hdg k
  case ldc i =>
    obtain ⟨rfl, t', h2, k⟩ := one hs
    obtain ⟨v, hv, rfl⟩ := Option.map_eq_some_iff.mp h2
    exact lv_ldc hx hb hown (hcI _ _ hv) hdg k
  case ldc_w i =>
    obtain ⟨rfl, t', h2, k⟩ := one hs
    obtain ⟨v, hv, rfl⟩ := Option.map_eq_some_iff.mp h2
    exact lv_ldcw hx hb hown (hcI _ _ hv) hdg k
  case ldc2_w i =>
    obtain ⟨rfl, t', h2, k⟩ := one hs
    obtain ⟨v, hv, rfl⟩ := Option.map_eq_some_iff.mp h2
    exact lv_ldc2 hx hb hown (hcJ _ _ hv) hdg k
  case iload_n i => obtain ⟨rfl, t', h2, k⟩ := one hs; obtain ⟨x, h3, rfl⟩ := ldI_some h2; exact lv_iload_n hx hb hdg rfl (lcg_ls hl h3) k
  case iload i => obtain ⟨rfl, t', h2, k⟩ := one hs; obtain ⟨x, h3, rfl⟩ := ldI_some h2; exact lv_iload hx hb hdg (lcg_ls hl h3) k
  case lload_n i => obtain ⟨rfl, t', h2, k⟩ := one hs; obtain ⟨x, h3, rfl⟩ := ldJ_some h2; exact lv_lload_n hx hb hdg rfl (lcg_ls hl h3) k
  case lload i => obtain ⟨rfl, t', h2, k⟩ := one hs; obtain ⟨x, h3, rfl⟩ := ldJ_some h2; exact lv_lload hx hb hdg (lcg_ls hl h3) k
  case aload_n i => obtain ⟨rfl, t', h2, k⟩ := one hs; obtain ⟨v, h3, rfl, h4⟩ := ldA_some h2; exact snd_ldA hx hb h4 (lcg_ls hl h3) (Or.inl ⟨_, rfl, rfl, hdg⟩) k
  case aload i => obtain ⟨rfl, t', h2, k⟩ := one hs; obtain ⟨v, h3, rfl, h4⟩ := ldA_some h2; exact snd_ldA hx hb h4 (lcg_ls hl h3) (Or.inr ⟨rfl, hdg⟩) k
  case istore_n i => obtain ⟨x, r, rfl, rfl, hn, rfl⟩ := stI_some hs; exact lv_istore_n hx hb hdg rfl hl hn (lc1_cv G lv _ (.int x)) (fun ls' h => kk ls' h)
  case istore i => obtain ⟨x, r, rfl, rfl, hn, rfl⟩ := stI_some hs; exact lv_istore hx hb hdg hl hn (lc1_cv G lv _ (.int x)) (fun ls' h => kk ls' h)
  case lstore_n i => obtain ⟨x, r, rfl, rfl, hn, rfl⟩ := stJ_some hs; exact lv_lstore_n hx hb hdg rfl hl hn (lc2_cv G lv _ (.long x)) (fun ls' h => kk ls' h)
  case lstore i => obtain ⟨x, r, rfl, rfl, hn, rfl⟩ := stJ_some hs; exact lv_lstore hx hb hdg hl hn (lc2_cv G lv _ (.long x)) (fun ls' h => kk ls' h)
  case astore_n i =>
    obtain ⟨v, r, rfl, rfl, hn, rfl, rfl | ⟨x, rfl⟩⟩ := stA_some hs
    · exact lv_astore_nN hx hb hdg rfl hl hn (lc1_cv G lv _ .null) (fun ls' h => kk ls' h)
    · exact lv_astore_n hx hb hdg rfl hl hn (lc1_cv G lv _ (.ref x)) (fun ls' h => kk ls' h)
  case astore i =>
    obtain ⟨v, r, rfl, rfl, hn, rfl, rfl | ⟨x, rfl⟩⟩ := stA_some hs
    · exact lv_astoreN hx hb hdg hl hn (lc1_cv G lv _ .null) (fun ls' h => kk ls' h)
    · exact lv_astore hx hb hdg hl hn (lc1_cv G lv _ (.ref x)) (fun ls' h => kk ls' h)
  case iinc i n =>
    unfold iincr at hs
    split at hs
    · next x hg =>
      split at hs
      · next hc =>
        cases hs
        obtain ⟨rfl, hn⟩ := hc
        obtain ⟨k, hk⟩ := List.getElem?_of_mem (show (i, Value.int x) ∈ cvl G lv from List.mem_map.mpr ⟨(i, .int x), lcg_mem hg, rfl⟩)
        exact lv_iinc hx hb hdg hl hk rfl hn (lc1_cv G lv _ (.int (x + Int32.ofInt n))) (fun ls' h => kk ls' h)
      · cases hs
    · cases hs
  case iadd => obtain ⟨rfl, t', h2, k⟩ := one hs; obtain ⟨x, y, r, rfl, rfl⟩ := bI_some h2; exact lv_iadd hx hb hdg k
  case isub => obtain ⟨rfl, t', h2, k⟩ := one hs; obtain ⟨x, y, r, rfl, rfl⟩ := bI_some h2; exact lv_isub hx hb hdg k
  case imul => obtain ⟨rfl, t', h2, k⟩ := one hs; obtain ⟨x, y, r, rfl, rfl⟩ := bI_some h2; exact lv_imul hx hb hdg k
  case iand => obtain ⟨rfl, t', h2, k⟩ := one hs; obtain ⟨x, y, r, rfl, rfl⟩ := bI_some h2; exact lv_iand hx hb hdg k
  case ior => obtain ⟨rfl, t', h2, k⟩ := one hs; obtain ⟨x, y, r, rfl, rfl⟩ := bI_some h2; exact lv_ior hx hb hdg k
  case ixor => obtain ⟨rfl, t', h2, k⟩ := one hs; obtain ⟨x, y, r, rfl, rfl⟩ := bI_some h2; exact lv_ixor hx hb hdg k
  case idiv => obtain ⟨rfl, t', h2, k⟩ := one hs; obtain ⟨x, y, r, rfl, h0, rfl⟩ := dI_some h2; exact lv_idiv hx hb hdg h0 k
  case irem => obtain ⟨rfl, t', h2, k⟩ := one hs; obtain ⟨x, y, r, rfl, h0, rfl⟩ := dI_some h2; exact lv_irem hx hb hdg h0 k
  case ineg => obtain ⟨rfl, t', h2, k⟩ := one hs; obtain ⟨x, r, rfl, rfl⟩ := oI_some h2; exact lv_ineg hx hb hdg k
  case ladd => obtain ⟨rfl, t', h2, k⟩ := one hs; obtain ⟨x, y, r, rfl, rfl⟩ := bJ_some h2; exact lv_ladd hx hb hdg k
  case lsub => obtain ⟨rfl, t', h2, k⟩ := one hs; obtain ⟨x, y, r, rfl, rfl⟩ := bJ_some h2; exact lv_lsub hx hb hdg k
  case lmul => obtain ⟨rfl, t', h2, k⟩ := one hs; obtain ⟨x, y, r, rfl, rfl⟩ := bJ_some h2; exact lv_lmul hx hb hdg k
  case land => obtain ⟨rfl, t', h2, k⟩ := one hs; obtain ⟨x, y, r, rfl, rfl⟩ := bJ_some h2; exact lv_land hx hb hdg k
  case lor => obtain ⟨rfl, t', h2, k⟩ := one hs; obtain ⟨x, y, r, rfl, rfl⟩ := bJ_some h2; exact lv_lor hx hb hdg k
  case lxor => obtain ⟨rfl, t', h2, k⟩ := one hs; obtain ⟨x, y, r, rfl, rfl⟩ := bJ_some h2; exact lv_lxor hx hb hdg k
  case ldiv => obtain ⟨rfl, t', h2, k⟩ := one hs; obtain ⟨x, y, r, rfl, h0, rfl⟩ := dJ_some h2; exact lv_ldiv hx hb hdg h0 k
  case lrem => obtain ⟨rfl, t', h2, k⟩ := one hs; obtain ⟨x, y, r, rfl, h0, rfl⟩ := dJ_some h2; exact lv_lrem hx hb hdg h0 k
  case lneg => obtain ⟨rfl, t', h2, k⟩ := one hs; obtain ⟨x, r, rfl, rfl⟩ := oJ_some h2; exact lv_lneg hx hb hdg k
  case ishl => obtain ⟨rfl, t', h2, k⟩ := one hs; obtain ⟨x, y, r, rfl, rfl⟩ := bI_some h2; exact lv_ishl hx hb hdg k
  case ishr => obtain ⟨rfl, t', h2, k⟩ := one hs; obtain ⟨x, y, r, rfl, rfl⟩ := bI_some h2; exact lv_ishr hx hb hdg k
  case iushr => obtain ⟨rfl, t', h2, k⟩ := one hs; obtain ⟨x, y, r, rfl, rfl⟩ := bI_some h2; exact lv_iushr hx hb hdg rfl k
  case lshl => obtain ⟨rfl, t', h2, k⟩ := one hs; obtain ⟨x, y, r, rfl, rfl⟩ := bS_some h2; exact lv_lshl hx hb hdg rfl k
  case lshr => obtain ⟨rfl, t', h2, k⟩ := one hs; obtain ⟨x, y, r, rfl, rfl⟩ := bS_some h2; exact lv_lshr hx hb hdg rfl k
  case lushr => obtain ⟨rfl, t', h2, k⟩ := one hs; obtain ⟨x, y, r, rfl, rfl⟩ := bS_some h2; exact lv_lushr hx hb hdg rfl k
  case lcmp => obtain ⟨rfl, t', h2, k⟩ := one hs; obtain ⟨x, y, r, rfl, rfl⟩ := bC_some h2; exact W.lcmp hx hb hdg k
  case i2l => obtain ⟨rfl, t', h2, k⟩ := one hs; obtain ⟨x, r, rfl, rfl⟩ := oIJ_some h2; exact lv_i2l hx hb hdg rfl k
  case l2i => obtain ⟨rfl, t', h2, k⟩ := one hs; obtain ⟨x, r, rfl, rfl⟩ := oJI_some h2; exact lv_l2i hx hb hdg rfl k
  case i2b => obtain ⟨rfl, t', h2, k⟩ := one hs; obtain ⟨x, r, rfl, rfl⟩ := oI_some h2; exact lv_i2b hx hb hdg rfl k
  case i2c => obtain ⟨rfl, t', h2, k⟩ := one hs; obtain ⟨x, r, rfl, rfl⟩ := oI_some h2; exact lv_i2c hx hb hdg rfl k
  case dup => obtain ⟨rfl, t', h2, k⟩ := one hs; obtain ⟨v, r, rfl, hc, rfl⟩ := dup1_some h2; exact lv_dup hx hb hdg (by rw [cv_cat]; exact hc) k
  case dup2 => obtain ⟨rfl, t', h2, k⟩ := one hs; obtain ⟨va, vb, r, rfl, h3, h4, rfl⟩ := dup2c_some h2; exact lv_dup2_11 hx hb hdg (by rw [cv_cat]; exact h3) (by rw [cv_cat]; exact h4) k
  case pop => obtain ⟨rfl, t', h2, k⟩ := one hs; obtain ⟨v, rfl, hc⟩ := pop1_some h2; exact lv_pop hx hb hdg (by rw [cv_cat]; exact hc) k
  case pop2 => obtain ⟨rfl, t', h2, k⟩ := one hs; obtain ⟨v, rfl, hc⟩ := pop2c_some h2; exact lv_pop2_2 hx hb hdg (by rw [cv_cat]; exact hc) k
  case goto off => obtain ⟨rfl, h2, k1, _⟩ := jp hs; exact lv_goto hx hb hdg h2 (k1 trivial)
  case ifCond cd off =>
    unfold ifZ at hs
    split at hs
    · cases cd <;> (obtain ⟨rfl, h2, k1, k2⟩ := jp hs)
      · exact lv_if_eq hx hb hdg h2 k1 k2
      · exact lv_if_ne hx hb hdg h2 k1 (fun h => k2 (fun h' => h' h))
      · exact lv_if_lt hx hb hdg h2 k1 k2
      · exact lv_if_ge hx hb hdg h2 k1 k2
      · exact lv_if_gt hx hb hdg h2 k1 k2
      · exact lv_if_le hx hb hdg h2 k1 k2
    · cases hs
  case if_icmp cd off =>
    unfold ifC at hs
    split at hs
    · cases cd <;> (obtain ⟨rfl, h2, k1, k2⟩ := jp hs)
      · exact lv_icmp_eq hx hb hdg h2 k1 k2
      · exact lv_icmp_ne hx hb hdg h2 k1 (fun h => k2 (fun h' => h' h))
      · exact lv_icmp_lt hx hb hdg h2 k1 k2
      · exact lv_icmp_ge hx hb hdg h2 k1 k2
      · exact lv_icmp_gt hx hb hdg h2 k1 k2
      · exact lv_icmp_le hx hb hdg h2 k1 k2
    · cases hs
  case ifnull off =>
    unfold ifN at hs
    split at hs
    · split at hs
      · next hc => cases hs; subst hc; exact lv_ifnull hx hb hdg (kk ls hl)
      · cases hs
    · split at hs
      · next hc => cases hs; obtain ⟨rfl, h0⟩ := hc; exact lv_ifnullN hx hb hdg (tgt_ok h0) (kk ls hl)
      · cases hs
    · cases hs
  case tableswitch dflt lo hi offs =>
    split at hs
    · next x r =>
      split at hs
      · next hc =>
        split at hs
        · next h1 => cases hs; exact lv_tableOut hx hb hdg h1 (tgt_ok hc.1) (kk ls hl)
        · next h1 =>
          obtain ⟨o, ho, rfl⟩ := Option.map_eq_some_iff.mp hs
          have h0 : 0 ≤ (pc : Int) + o := by
            have := Array.all_eq_true_iff_forall_mem.mp hc.2 o (Array.mem_of_getElem? ho)
            exact of_decide_eq_true this
          exact lv_tableIn hx hb hdg (fun q => h1 (Or.inl q)) (fun q => h1 (Or.inr q)) ho (tgt_ok h0) (kk ls hl)
      · cases hs
    · cases hs
  case lookupswitch dflt ps =>
    split at hs
    · next x r =>
      split at hs
      · next hc => cases hs; exact lv_lookup hx hb hdg hc.1 rfl (tgt_ok hc.2) (kk ls hl)
      · cases hs
    · cases hs
end SNDP
end
section
/-! NAMES: classes and their fields, as printed of the program. -/
def RX0 : String := "SharesComing$Book"
def TX0 : u_T := fun k => match k with
  | 0 => ("SharesComing$Book", "rows", "LSharesComing$Rows;", true)
  | 1 => ("SharesComing$Book", "will", "LSharesComing$Will;", true)
  | 2 => ("SharesComing$Book", "ranks", "LSharesComing$Ranks;", true)
  | 3 => ("SharesComing$Book", "ways", "LSharesComing$Ways;", true)
  | 4 => ("SharesComing$Book", "ends", "[LSharesComing$Ends;", true)
  | _ => ("SharesComing$Book", "sights", "[LSharesComing$Sight;", true)
def tyX0 : Nat → FieldType := fun k => match k with
  | 0 => .object "SharesComing$Rows"
  | 1 => .object "SharesComing$Will"
  | 2 => .object "SharesComing$Ranks"
  | 3 => .object "SharesComing$Ways"
  | 4 => .array (.object "SharesComing$Ends")
  | _ => .array (.object "SharesComing$Sight")
abbrev wsX00 : List Cond := u_ws RX0 TX0 6
theorem nmX0 : ∀ a, a < 6 → ∀ b, b < 6 → a ≠ b → (TX0 a).2.1 ≠ (TX0 b).2.1 := by decide +kernel
theorem tyX0_ok : ∀ k, k < 6 → parseFieldDescriptor (TX0 k).2.2.1 = some (tyX0 k) := by decide +kernel
def RX1 : String := "SharesComing$Ends"
def TX1 : u_T := fun k => match k with
  | 0 => ("SharesComing$Ends", "table", "LSharesComing$Table;", true)
  | 1 => ("SharesComing$Ends", "will", "LSharesComing$Will;", true)
  | 2 => ("SharesComing$Ends", "ranks", "LSharesComing$Ranks;", true)
  | 3 => ("SharesComing$Ends", "goal", "I", true)
  | _ => ("SharesComing$Ends", "oneBackLess", "LSharesComing$Ends;", true)
def tyX1 : Nat → FieldType := fun k => match k with
  | 0 => .object "SharesComing$Table"
  | 1 => .object "SharesComing$Will"
  | 2 => .object "SharesComing$Ranks"
  | 3 => .int
  | _ => .object "SharesComing$Ends"
abbrev wsX10 : List Cond := u_ws RX1 TX1 5
theorem nmX1 : ∀ a, a < 5 → ∀ b, b < 5 → a ≠ b → (TX1 a).2.1 ≠ (TX1 b).2.1 := by decide +kernel
theorem tyX1_ok : ∀ k, k < 5 → parseFieldDescriptor (TX1 k).2.2.1 = some (tyX1 k) := by decide +kernel
def RX2 : String := "SharesComing$Goals"
def TX2 : u_T := fun k => match k with
  | _ => ("", "", "", false)
def tyX2 : Nat → FieldType := fun k => match k with
  | _ => .int
abbrev wsX20 : List Cond := u_ws RX2 TX2 0
theorem nmX2 : ∀ a, a < 0 → ∀ b, b < 0 → a ≠ b → (TX2 a).2.1 ≠ (TX2 b).2.1 := by decide +kernel
theorem tyX2_ok : ∀ k, k < 0 → parseFieldDescriptor (TX2 k).2.2.1 = some (tyX2 k) := by decide +kernel
def RX3 : String := "SharesComing$Ranks"
def TX3 : u_T := fun k => match k with
  | 0 => ("SharesComing$Ranks", "numberOf", "[I", true)
  | 1 => ("SharesComing$Ranks", "sumOf", "[I", true)
  | 2 => ("SharesComing$Ranks", "upTo", "[I", true)
  | 3 => ("SharesComing$Ranks", "middle", "[I", true)
  | 4 => ("SharesComing$Ranks", "first", "[I", true)
  | 5 => ("SharesComing$Ranks", "size", "[I", true)
  | 6 => ("SharesComing$Ranks", "limit", "[I", true)
  | 7 => ("SharesComing$Ranks", "start", "[I", true)
  | 8 => ("SharesComing$Ranks", "lateMask", "[I", true)
  | 9 => ("SharesComing$Ranks", "cameBy", "[I", true)
  | 10 => ("SharesComing$Ranks", "masks", "I", false)
  | _ => ("SharesComing$Ranks", "days", "I", false)
def tyX3 : Nat → FieldType := fun k => match k with
  | 0 => .array .int
  | 1 => .array .int
  | 2 => .array .int
  | 3 => .array .int
  | 4 => .array .int
  | 5 => .array .int
  | 6 => .array .int
  | 7 => .array .int
  | 8 => .array .int
  | 9 => .array .int
  | 10 => .int
  | _ => .int
abbrev wsX30 : List Cond := u_ws RX3 TX3 12
theorem nmX3 : ∀ a, a < 12 → ∀ b, b < 12 → a ≠ b → (TX3 a).2.1 ≠ (TX3 b).2.1 := by decide +kernel
theorem tyX3_ok : ∀ k, k < 12 → parseFieldDescriptor (TX3 k).2.2.1 = some (tyX3 k) := by decide +kernel
def RX4 : String := "SharesComing$Reader"
def TX4 : u_T := fun k => match k with
  | 0 => ("SharesComing$Reader", "text", "[B", true)
  | 1 => ("SharesComing$Reader", "length", "I", false)
  | 2 => ("SharesComing$Reader", "at", "I", false)
  | 3 => ("SharesComing$Reader", "token", "I", false)
  | 4 => ("SharesComing$Reader", "place", "I", false)
  | 5 => ("SharesComing$Reader", "number", "I", false)
  | 6 => ("SharesComing$Reader", "word", "J", false)
  | _ => ("SharesComing$Reader", "parts", "I", false)
def tyX4 : Nat → FieldType := fun k => match k with
  | 0 => .array .byte
  | 1 => .int
  | 2 => .int
  | 3 => .int
  | 4 => .int
  | 5 => .int
  | 6 => .long
  | _ => .int
abbrev wsX40 : List Cond := u_ws RX4 TX4 8
theorem nmX4 : ∀ a, a < 8 → ∀ b, b < 8 → a ≠ b → (TX4 a).2.1 ≠ (TX4 b).2.1 := by decide +kernel
theorem tyX4_ok : ∀ k, k < 8 → parseFieldDescriptor (TX4 k).2.2.1 = some (tyX4 k) := by decide +kernel
def RX5 : String := "SharesComing$Rows"
def TX5 : u_T := fun k => match k with
  | 0 => ("SharesComing$Rows", "will", "LSharesComing$Will;", true)
  | 1 => ("SharesComing$Rows", "ranks", "LSharesComing$Ranks;", true)
  | 2 => ("SharesComing$Rows", "walked", "[I", false)
  | 3 => ("SharesComing$Rows", "walk", "I", false)
  | 4 => ("SharesComing$Rows", "least", "J", false)
  | _ => ("SharesComing$Rows", "floor", "J", false)
def tyX5 : Nat → FieldType := fun k => match k with
  | 0 => .object "SharesComing$Will"
  | 1 => .object "SharesComing$Ranks"
  | 2 => .array .int
  | 3 => .int
  | 4 => .long
  | _ => .long
abbrev wsX50 : List Cond := u_ws RX5 TX5 6
theorem nmX5 : ∀ a, a < 6 → ∀ b, b < 6 → a ≠ b → (TX5 a).2.1 ≠ (TX5 b).2.1 := by decide +kernel
theorem tyX5_ok : ∀ k, k < 6 → parseFieldDescriptor (TX5 k).2.2.1 = some (tyX5 k) := by decide +kernel
def RX6 : String := "SharesComing$Sight"
def TX6 : u_T := fun k => match k with
  | 0 => ("SharesComing$Sight", "table", "LSharesComing$Table;", true)
  | 1 => ("SharesComing$Sight", "will", "LSharesComing$Will;", true)
  | 2 => ("SharesComing$Sight", "ranks", "LSharesComing$Ranks;", true)
  | 3 => ("SharesComing$Sight", "kind", "I", true)
  | _ => ("SharesComing$Sight", "ends", "LSharesComing$Ends;", false)
def tyX6 : Nat → FieldType := fun k => match k with
  | 0 => .object "SharesComing$Table"
  | 1 => .object "SharesComing$Will"
  | 2 => .object "SharesComing$Ranks"
  | 3 => .int
  | _ => .object "SharesComing$Ends"
abbrev wsX60 : List Cond := u_ws RX6 TX6 5
theorem nmX6 : ∀ a, a < 5 → ∀ b, b < 5 → a ≠ b → (TX6 a).2.1 ≠ (TX6 b).2.1 := by decide +kernel
theorem tyX6_ok : ∀ k, k < 5 → parseFieldDescriptor (TX6 k).2.2.1 = some (tyX6 k) := by decide +kernel
def RX7 : String := "SharesComing$State"
def TX7 : u_T := fun k => match k with
  | _ => ("", "", "", false)
def tyX7 : Nat → FieldType := fun k => match k with
  | _ => .int
abbrev wsX70 : List Cond := u_ws RX7 TX7 0
theorem nmX7 : ∀ a, a < 0 → ∀ b, b < 0 → a ≠ b → (TX7 a).2.1 ≠ (TX7 b).2.1 := by decide +kernel
theorem tyX7_ok : ∀ k, k < 0 → parseFieldDescriptor (TX7 k).2.2.1 = some (tyX7 k) := by decide +kernel
def RX8 : String := "SharesComing$Table"
def TX8 : u_T := fun k => match k with
  | 0 => ("SharesComing$Table", "found", "[J", false)
  | _ => ("SharesComing$Table", "ready", "Z", false)
def tyX8 : Nat → FieldType := fun k => match k with
  | 0 => .array .long
  | _ => .boolean
abbrev wsX80 : List Cond := u_ws RX8 TX8 2
theorem nmX8 : ∀ a, a < 2 → ∀ b, b < 2 → a ≠ b → (TX8 a).2.1 ≠ (TX8 b).2.1 := by decide +kernel
theorem tyX8_ok : ∀ k, k < 2 → parseFieldDescriptor (TX8 k).2.2.1 = some (tyX8 k) := by decide +kernel
def RX9 : String := "SharesComing$Ways"
def TX9 : u_T := fun k => match k with
  | 0 => ("SharesComing$Ways", "will", "LSharesComing$Will;", true)
  | 1 => ("SharesComing$Ways", "share", "LSharesComing$Sight;", true)
  | 2 => ("SharesComing$Ways", "way", "I", false)
  | 3 => ("SharesComing$Ways", "mean", "Z", false)
  | _ => ("SharesComing$Ways", "ends", "LSharesComing$Ends;", false)
def tyX9 : Nat → FieldType := fun k => match k with
  | 0 => .object "SharesComing$Will"
  | 1 => .object "SharesComing$Sight"
  | 2 => .int
  | 3 => .boolean
  | _ => .object "SharesComing$Ends"
abbrev wsX90 : List Cond := u_ws RX9 TX9 5
theorem nmX9 : ∀ a, a < 5 → ∀ b, b < 5 → a ≠ b → (TX9 a).2.1 ≠ (TX9 b).2.1 := by decide +kernel
theorem tyX9_ok : ∀ k, k < 5 → parseFieldDescriptor (TX9 k).2.2.1 = some (tyX9 k) := by decide +kernel
def RX10 : String := "SharesComing$Will"
def TX10 : u_T := fun k => match k with
  | 0 => ("SharesComing$Will", "heirs", "I", false)
  | 1 => ("SharesComing$Will", "days", "I", false)
  | 2 => ("SharesComing$Will", "hold", "I", false)
  | 3 => ("SharesComing$Will", "back", "I", false)
  | 4 => ("SharesComing$Will", "holdTold", "Z", false)
  | 5 => ("SharesComing$Will", "backTold", "Z", false)
  | 6 => ("SharesComing$Will", "late", "I", false)
  | 7 => ("SharesComing$Will", "names", "[J", true)
  | 8 => ("SharesComing$Will", "worths", "[I", true)
  | 9 => ("SharesComing$Will", "altCounts", "[I", true)
  | 10 => ("SharesComing$Will", "chances", "[I", true)
  | 11 => ("SharesComing$Will", "kinds", "[I", true)
  | _ => ("SharesComing$Will", "targets", "[I", true)
def tyX10 : Nat → FieldType := fun k => match k with
  | 0 => .int
  | 1 => .int
  | 2 => .int
  | 3 => .int
  | 4 => .boolean
  | 5 => .boolean
  | 6 => .int
  | 7 => .array .long
  | 8 => .array .int
  | 9 => .array .int
  | 10 => .array .int
  | 11 => .array .int
  | _ => .array .int
abbrev wsX100 : List Cond := u_ws RX10 TX10 13
theorem nmX10 : ∀ a, a < 13 → ∀ b, b < 13 → a ≠ b → (TX10 a).2.1 ≠ (TX10 b).2.1 := by decide +kernel
theorem tyX10_ok : ∀ k, k < 13 → parseFieldDescriptor (TX10 k).2.2.1 = some (tyX10 k) := by decide +kernel
def RX11 : String := "SharesComing"
def TX11 : u_T := fun k => match k with
  | 0 => ("SharesComing", "text", "[B", true)
  | 1 => ("SharesComing", "length", "I", false)
  | 2 => ("SharesComing", "reader", "LSharesComing$Reader;", true)
  | 3 => ("SharesComing", "draft", "LSharesComing$Will;", true)
  | 4 => ("SharesComing", "will", "LSharesComing$Will;", true)
  | 5 => ("SharesComing", "book", "LSharesComing$Book;", true)
  | 6 => ("SharesComing", "told", "Z", false)
  | 7 => ("SharesComing", "now", "J", false)
  | 8 => ("SharesComing", "waits", "I", false)
  | 9 => ("SharesComing", "imageKept", "[Z", true)
  | 10 => ("SharesComing", "imageState", "[J", true)
  | _ => ("SharesComing", "imageWaits", "[I", true)
def tyX11 : Nat → FieldType := fun k => match k with
  | 0 => .array .byte
  | 1 => .int
  | 2 => .object "SharesComing$Reader"
  | 3 => .object "SharesComing$Will"
  | 4 => .object "SharesComing$Will"
  | 5 => .object "SharesComing$Book"
  | 6 => .boolean
  | 7 => .long
  | 8 => .int
  | 9 => .array .boolean
  | 10 => .array .long
  | _ => .array .int
abbrev wsX110 : List Cond := u_ws RX11 TX11 12
theorem nmX11 : ∀ a, a < 12 → ∀ b, b < 12 → a ≠ b → (TX11 a).2.1 ≠ (TX11 b).2.1 := by decide +kernel
theorem tyX11_ok : ∀ k, k < 12 → parseFieldDescriptor (TX11 k).2.2.1 = some (tyX11 k) := by decide +kernel
def RX12 : String := "SharesComingModel"
def TX12 : u_T := fun k => match k with
  | 0 => ("SharesComingModel", "text", "[B", true)
  | 1 => ("SharesComingModel", "size", "I", false)
  | 2 => ("SharesComingModel", "at", "I", false)
  | 3 => ("SharesComingModel", "kind", "I", false)
  | 4 => ("SharesComingModel", "tokenAt", "I", false)
  | 5 => ("SharesComingModel", "value", "J", false)
  | 6 => ("SharesComingModel", "readHeirs", "I", false)
  | 7 => ("SharesComingModel", "readName", "[J", true)
  | 8 => ("SharesComingModel", "isLate", "[Z", true)
  | 9 => ("SharesComingModel", "readWorth", "[I", true)
  | 10 => ("SharesComingModel", "readDays", "I", false)
  | 11 => ("SharesComingModel", "readAlts", "[I", true)
  | 12 => ("SharesComingModel", "readAlt", "[I", true)
  | 13 => ("SharesComingModel", "readHold", "I", false)
  | 14 => ("SharesComingModel", "readBack", "I", false)
  | 15 => ("SharesComingModel", "isMatter", "Z", false)
  | 16 => ("SharesComingModel", "heirs", "I", false)
  | 17 => ("SharesComingModel", "worth", "[I", true)
  | 18 => ("SharesComingModel", "days", "I", false)
  | 19 => ("SharesComingModel", "alts", "[I", true)
  | 20 => ("SharesComingModel", "altRow", "[I", true)
  | 21 => ("SharesComingModel", "hold", "I", false)
  | 22 => ("SharesComingModel", "back", "I", false)
  | 23 => ("SharesComingModel", "now", "J", false)
  | 24 => ("SharesComingModel", "over", "I", false)
  | 25 => ("SharesComingModel", "waits", "I", false)
  | 26 => ("SharesComingModel", "imageNow", "[J", true)
  | 27 => ("SharesComingModel", "imageOver", "[I", true)
  | 28 => ("SharesComingModel", "imageWaits", "[I", true)
  | 29 => ("SharesComingModel", "isImage", "[Z", true)
  | 30 => ("SharesComingModel", "readSum", "I", false)
  | 31 => ("SharesComingModel", "endKey", "[J", true)
  | 32 => ("SharesComingModel", "endIs", "[I", true)
  | 33 => ("SharesComingModel", "endMany", "I", false)
  | 34 => ("SharesComingModel", "heldSort", "[I", true)
  | 35 => ("SharesComingModel", "state", "[J", true)
  | 36 => ("SharesComingModel", "worked", "[J", true)
  | 37 => ("SharesComingModel", "layer", "[I", true)
  | 38 => ("SharesComingModel", "table", "[I", true)
  | 39 => ("SharesComingModel", "layers", "I", false)
  | 40 => ("SharesComingModel", "states", "I", false)
  | 41 => ("SharesComingModel", "digit", "[I", true)
  | 42 => ("SharesComingModel", "wayState", "[J", true)
  | 43 => ("SharesComingModel", "wayNext", "[J", true)
  | 44 => ("SharesComingModel", "wayShare", "[J", true)
  | 45 => ("SharesComingModel", "wayShareNext", "[J", true)
  | _ => ("SharesComingModel", "judgedEnd", "J", false)
def tyX12 : Nat → FieldType := fun k => match k with
  | 0 => .array .byte
  | 1 => .int
  | 2 => .int
  | 3 => .int
  | 4 => .int
  | 5 => .long
  | 6 => .int
  | 7 => .array .long
  | 8 => .array .boolean
  | 9 => .array .int
  | 10 => .int
  | 11 => .array .int
  | 12 => .array .int
  | 13 => .int
  | 14 => .int
  | 15 => .boolean
  | 16 => .int
  | 17 => .array .int
  | 18 => .int
  | 19 => .array .int
  | 20 => .array .int
  | 21 => .int
  | 22 => .int
  | 23 => .long
  | 24 => .int
  | 25 => .int
  | 26 => .array .long
  | 27 => .array .int
  | 28 => .array .int
  | 29 => .array .boolean
  | 30 => .int
  | 31 => .array .long
  | 32 => .array .int
  | 33 => .int
  | 34 => .array .int
  | 35 => .array .long
  | 36 => .array .long
  | 37 => .array .int
  | 38 => .array .int
  | 39 => .int
  | 40 => .int
  | 41 => .array .int
  | 42 => .array .long
  | 43 => .array .long
  | 44 => .array .long
  | 45 => .array .long
  | _ => .long
abbrev wsX120 : List Cond := u_ws RX12 TX12 47
theorem nmX12 : ∀ a, a < 47 → ∀ b, b < 47 → a ≠ b → (TX12 a).2.1 ≠ (TX12 b).2.1 := by decide +kernel
theorem tyX12_ok : ∀ k, k < 47 → parseFieldDescriptor (TX12 k).2.2.1 = some (tyX12 k) := by decide +kernel
abbrev vwCl : List vw_C := [(RX0, TX0, 6), (RX1, TX1, 5), (RX3, TX3, 12), (RX4, TX4, 8), (RX5, TX5, 6), (RX6, TX6, 5), (RX8, TX8, 2), (RX9, TX9, 5), (RX10, TX10, 13), (RX11, TX11, 12), (RX12, TX12, 47)]
def tyc (c : Nat) : Nat → FieldType := match c with
  | 0 => tyX0
  | 1 => tyX1
  | 2 => tyX3
  | 3 => tyX4
  | 4 => tyX5
  | 5 => tyX6
  | 6 => tyX8
  | 7 => tyX9
  | 8 => tyX10
  | 9 => tyX11
  | 10 => tyX12
  | _ => fun _ => .int
/-- of a field: 1 a long, 2 a reference, 3 a boolean, 0 an int -/
def fty (c k : Nat) : Nat := match tyc c k with
  | .long => 1
  | .object _ => 2
  | .array _ => 2
  | .boolean => 3
  | .int => 0
  | _ => 4
end
section
/-! THE HEAP holds the memory. -/
theorem cl_ty : ∀ (c : Nat) (r : vw_C), vwCl[c]? = some r → (∀ k, k < r.2.2 → parseFieldDescriptor (r.2.1 k).2.2.1 = some (tyc c k)) ∧ (∀ a, a < r.2.2 → ∀ b, b < r.2.2 → a ≠ b → (r.2.1 a).2.1 ≠ (r.2.1 b).2.1) := by
  intro c r h
  match c, h with
  | 0, h => cases h; exact ⟨tyX0_ok, nmX0⟩
  | 1, h => cases h; exact ⟨tyX1_ok, nmX1⟩
  | 2, h => cases h; exact ⟨tyX3_ok, nmX3⟩
  | 3, h => cases h; exact ⟨tyX4_ok, nmX4⟩
  | 4, h => cases h; exact ⟨tyX5_ok, nmX5⟩
  | 5, h => cases h; exact ⟨tyX6_ok, nmX6⟩
  | 6, h => cases h; exact ⟨tyX8_ok, nmX8⟩
  | 7, h => cases h; exact ⟨tyX9_ok, nmX9⟩
  | 8, h => cases h; exact ⟨tyX10_ok, nmX10⟩
  | 9, h => cases h; exact ⟨tyX11_ok, nmX11⟩
  | 10, h => cases h; exact ⟨tyX12_ok, nmX12⟩
  | c + 11, h => simp [vwCl] at h
theorem cl_lt {c : Nat} {r : vw_C} (h : vwCl[c]? = some r) : c < 11 := (List.getElem?_eq_some_iff.mp h).1
/-- what field k of key a, an object of class c, holds -/
def gV (w : Wd) (a c k : Nat) : Value := if fty c k = 1 then .long (wJ w a k) else if fty c k = 2 then rfv (wR w a k) else .int (wI w a k)
def fV (G : Gc) (w : Wd) (a c k : Nat) : Value := cv G (gV w a c k)
/-- the array at key a -/
def arW (G : Gc) (w : Wd) (a : Nat) : Cell := if wK w a = 13 then arrV (gA G 2) (wL w a) (fun j => .long (wY w a j)) else if 15 ≤ wK w a then arrV (gA G (wK w a - 11)) (wL w a) (fun j => cv G (rfv (wZ w a j))) else arrV (gA G (wK w a - 11)) (wL w a) (fun j => .int (wX w a j))
def atW (G : Gc) (w : Wd) (a : Nat) (H : Heap) : Prop := (∃ r, vwCl[wK w a]? = some r ∧ t_OB (gad G a) ((gD G).1 (wK w a)) r.2.2 ((gD G).2 (wK w a)) H (fV G w a (wK w a))) ∨ (11 ≤ wK w a ∧ wK w a < 17 ∧ H[gad G a]? = some (arW G w a))
/-- al: new cells may be made -/
def HW (al : Bool) (G : Gc) (A : Nat → Prop) (w : Wd) (H : Heap) : Prop := (∀ a, a < wN w → atW G w a H ∧ A (gad G a)) ∧ (∀ a b, gad G a = gad G b → a = b) ∧ (al = true → H.size = gad G (wN w) ∧ (∀ n, wN w ≤ n → gad G (n + 1) = gad G n + 1) ∧ ∀ q, H.size ≤ q → A q)
def arty (t : Nat) : FieldType := match t with
  | 0 => .byte
  | 1 => .int
  | 2 => .long
  | 3 => .boolean
  | 4 => .object "SharesComing$Ends"
  | _ => .object "SharesComing$Sight"
abbrev tysG (G : Gc) : List (ClassId × FieldType) := [(gA G 0, .byte), (gA G 1, .int), (gA G 2, .long), (gA G 3, .boolean), (gA G 4, .object "SharesComing$Ends"), (gA G 5, .object "SharesComing$Sight")]
def KW (G : Gc) (U : State) : Prop := va_K (gD G) vwCl (tysG G) U
theorem KW.moved {G : Gc} {u U : State} (hvm : u.vm.Alike U.vm) (h : KW G u) : KW G U := va_K.moved hvm h
theorem KW.arr {G : Gc} {U : State} (h : KW G U) {t : Nat} (ht : t < 6) : ArrOfT U (gA G t) (arty t) := by
  rcases (show t = 0 ∨ t = 1 ∨ t = 2 ∨ t = 3 ∨ t = 4 ∨ t = 5 by omega) with rfl | rfl | rfl | rfl | rfl | rfl
  · exact (h.2 0 _ rfl).1
  · exact (h.2 1 _ rfl).1
  · exact (h.2 2 _ rfl).1
  · exact (h.2 3 _ rfl).1
  · exact (h.2 4 _ rfl).1
  · exact (h.2 5 _ rfl).1
/-- the same cells, but for key a -/
theorem HW.upd {al : Bool} {G : Gc} {A : Nat → Prop} {w w' : Wd} {H H1 : Heap} {a : Nat} (h : HW al G A w H) (hN : wN w' = wN w) (z : H1.size = H.size) (oq : ∀ q, q ≠ gad G a → H1[q]? = H[q]?) (hat : atW G w' a H1) (hK : ∀ b, b < wN w → b ≠ a → wK w' b = wK w b) (hf : ∀ b, b < wN w → b ≠ a → ∀ c k, fV G w' b c k = fV G w b c k) (hr : ∀ b, b < wN w → b ≠ a → arW G w' b = arW G w b) : HW al G A w' H1 := by
  refine ⟨fun b hb => ?_, h.2.1, fun hal => ?_⟩
  · rw [hN] at hb
    by_cases hba : b = a
    · subst hba
      exact ⟨hat, (h.1 b hb).2⟩
    · refine ⟨?_, (h.1 b hb).2⟩
      have hq : H1[gad G b]? = H[gad G b]? := oq _ (fun e => hba (h.2.1 _ _ e))
      rcases (h.1 b hb).1 with ⟨r, h1, h2⟩ | ⟨h1, h2, h3⟩
      · left
        refine ⟨r, by rw [hK b hb hba]; exact h1, ?_⟩
        rw [hK b hb hba]
        exact (h2.kept hq).to (fun k _ => (hf b hb hba _ k).symm)
      · right
        rw [hK b hb hba, hr b hb hba]
        exact ⟨h1, h2, hq.trans h3⟩
  · obtain ⟨h1, h2, h3⟩ := h.2.2 hal
    rw [hN, z]
    exact ⟨h1, h2, h3⟩
theorem fV_uI {G : Gc} {w : Wd} {a b k j c : Nat} {x : Int32} (h : b ≠ a) : fV G (uI w a k x) b c j = fV G w b c j := by
  simp only [fV, gV, wJ, wR, wI, uI, u2, h, false_and, if_false]
theorem arW_uI {G : Gc} {w : Wd} {a b k : Nat} {x : Int32} : arW G (uI w a k x) b = arW G w b := rfl
theorem fV_uJ {G : Gc} {w : Wd} {a b k j c : Nat} {x : Int64} (h : b ≠ a) : fV G (uJ w a k x) b c j = fV G w b c j := by
  simp only [fV, gV, wJ, wR, wI, uJ, u2, h, false_and, if_false]
theorem arW_uJ {G : Gc} {w : Wd} {a b k : Nat} {x : Int64} : arW G (uJ w a k x) b = arW G w b := rfl
theorem fV_uR {G : Gc} {w : Wd} {a b k j c : Nat} {x : Option Nat} (h : b ≠ a) : fV G (uR w a k x) b c j = fV G w b c j := by
  simp only [fV, gV, wJ, wR, wI, uR, u2, h, false_and, if_false]
theorem arW_uR {G : Gc} {w : Wd} {a b k : Nat} {x : Option Nat} : arW G (uR w a k x) b = arW G w b := rfl
theorem fV_uX {G : Gc} {w : Wd} {a b k j c : Nat} {x : Int32} : fV G (uX w a k x) b c j = fV G w b c j := rfl
theorem fV_uY {G : Gc} {w : Wd} {a b k j c : Nat} {x : Int64} : fV G (uY w a k x) b c j = fV G w b c j := rfl
theorem fV_uZ {G : Gc} {w : Wd} {a b k j c : Nat} {x : Option Nat} : fV G (uZ w a k x) b c j = fV G w b c j := rfl
theorem arW_uX {G : Gc} {w : Wd} {a b k : Nat} {x : Int32} (h : b ≠ a) : arW G (uX w a k x) b = arW G w b := by
  simp only [arW, wK, wL, wX, wY, wZ, uX, u2, h, false_and, if_false]
  rfl
theorem arW_uY {G : Gc} {w : Wd} {a b k : Nat} {x : Int64} (h : b ≠ a) : arW G (uY w a k x) b = arW G w b := by
  simp only [arW, wK, wL, wX, wY, wZ, uY, u2, h, false_and, if_false]
  rfl
theorem arW_uZ {G : Gc} {w : Wd} {a b k : Nat} {x : Option Nat} (h : b ≠ a) : arW G (uZ w a k x) b = arW G w b := by
  simp only [arW, wK, wL, wX, wY, wZ, uZ, u2, h, false_and, if_false]
  rfl
/-- a field is put -/
def pV (w : Wd) (a c k : Nat) (v : Value) : Option Wd := match v with
  | .int x => if fty c k = 0 ∨ (fty c k = 3 ∧ (x = 0 ∨ x = 1)) then some (uI w a k x) else none
  | .long x => if fty c k = 1 then some (uJ w a k x) else none
  | .ref t => if fty c k = 2 then some (uR w a k (some t)) else none
  | .null => if fty c k = 2 then some (uR w a k none) else none
  | _ => none
/-- what it needs and does -/
theorem pV_ok {w w' : Wd} {a c k : Nat} {v : Value} (h : pV w a c k v = some w') (G : Gc) : wN w' = wN w ∧ wS w' = wS w ∧ (∀ b, wK w' b = wK w b) ∧ (∀ b, b ≠ a → ∀ c j, fV G w' b c j = fV G w b c j) ∧ (∀ b, arW G w' b = arW G w b) ∧ fV G w' a c k = cv G v ∧ (∀ j, j ≠ k → fV G w' a c j = fV G w a c j) ∧ narrow (tyc c k) (cv G v) = cv G v ∧ fits (tyc c k) (cv G v) = true := by
  cases v with
  | int x =>
    simp only [pV] at h
    split at h
    · next hc =>
      cases h
      refine ⟨rfl, rfl, fun _ => rfl, fun b hb c j => fV_uI hb, fun _ => rfl, ?_, fun j hj => ?_, ?_⟩
      · have h1 : fty c k ≠ 1 := by rcases hc with h | h <;> omega
        have h2 : fty c k ≠ 2 := by rcases hc with h | h <;> omega
        simp only [fV, gV, h1, h2, if_false, wI, uI, u2_s]
      · simp only [fV, gV, wJ, wR, wI, uI, u2, hj, and_false, if_false]
      · unfold fty at hc
        show narrow (tyc c k) (.int x) = .int x ∧ fits (tyc c k) (.int x) = true
        cases hty : tyc c k <;> rw [hty] at hc <;> simp at hc
        · exact ⟨rfl, rfl⟩
        · rcases hc with rfl | rfl <;> exact ⟨rfl, rfl⟩
    · cases h
  | long x =>
    simp only [pV] at h
    split at h
    · next hc =>
      cases h
      refine ⟨rfl, rfl, fun _ => rfl, fun b hb c j => fV_uJ hb, fun _ => rfl, ?_, fun j hj => ?_, ?_⟩
      · simp only [fV, gV, hc, if_true, wJ, uJ, u2_s]
      · simp only [fV, gV, wJ, wR, wI, uJ, u2, hj, and_false, if_false]
      · unfold fty at hc
        show narrow (tyc c k) (.long x) = .long x ∧ fits (tyc c k) (.long x) = true
        cases hty : tyc c k <;> rw [hty] at hc <;> simp at hc <;> exact ⟨rfl, rfl⟩
    · cases h
  | ref t =>
    simp only [pV] at h
    split at h
    · next hc =>
      cases h
      refine ⟨rfl, rfl, fun _ => rfl, fun b hb c j => fV_uR hb, fun _ => rfl, ?_, fun j hj => ?_, ?_⟩
      · simp only [fV, gV, hc, wR, uR, u2_s]; rfl
      · simp only [fV, gV, wJ, wR, wI, uR, u2, hj, and_false, if_false]
      · unfold fty at hc
        show narrow (tyc c k) (.ref _) = .ref _ ∧ fits (tyc c k) (.ref _) = true
        cases hty : tyc c k <;> rw [hty] at hc <;> simp at hc <;> exact ⟨rfl, rfl⟩
    · cases h
  | null =>
    simp only [pV] at h
    split at h
    · next hc =>
      cases h
      refine ⟨rfl, rfl, fun _ => rfl, fun b hb c j => fV_uR hb, fun _ => rfl, ?_, fun j hj => ?_, ?_⟩
      · simp only [fV, gV, hc, wR, uR, u2_s]; rfl
      · simp only [fV, gV, wJ, wR, wI, uR, u2, hj, and_false, if_false]
      · unfold fty at hc
        show narrow (tyc c k) .null = .null ∧ fits (tyc c k) .null = true
        cases hty : tyc c k <;> rw [hty] at hc <;> simp at hc <;> exact ⟨rfl, rfl⟩
    · cases h
  | float _ => cases h
  | double _ => cases h
  | retAddr _ => cases h
end
section
/-! INSTRUCTIONS that touch memory, on the machine. -/
/-- what the fields' words need of a list of words -/
def inCl (Ts : List Cond) : Prop := ∀ (c : Nat) (r : vw_C), vwCl[c]? = some r → ∀ w ∈ u_ws r.1 r.2.1 r.2.2, w ∈ Ts
theorem HW.obj {al : Bool} {G : Gc} {A : Nat → Prop} {w : Wd} {H : Heap} {a c : Nat} {r : vw_C} (h : HW al G A w H) (hk : Kd w a c) (hc : vwCl[c]? = some r) : t_OB (gad G a) ((gD G).1 c) r.2.2 ((gD G).2 c) H (fV G w a c) := by
  obtain ⟨h1, h2⟩ := hk
  rcases (h.1 a h1).1 with ⟨r', e1, e2⟩ | ⟨e1, -⟩
  · rw [h2] at e1 e2
    cases e1.symm.trans hc
    exact e2
  · have := cl_lt hc
    omega
theorem HW.arr {al : Bool} {G : Gc} {A : Nat → Prop} {w : Wd} {H : Heap} {a c : Nat} (h : HW al G A w H) (hk : Kd w a c) (hc : 11 ≤ c) : c < 17 ∧ H[gad G a]? = some (arW G w a) := by
  obtain ⟨h1, h2⟩ := hk
  rcases (h.1 a h1).1 with ⟨r', e1, e2⟩ | ⟨e1, e2, e3⟩
  · have := cl_lt e1
    omega
  · exact ⟨by omega, e3⟩
section MROW
variable {p : Program} {l : Launch} {e : Env} {R : Room} {s : State} {m : MethodId} {args : Array Value} {below : List Frame} {meth : Method} {c0 : Code} {H : Heap} {locs : List Loc} {cells slots : Nat} {Q : State → Prop}
variable {cc : ByteArray} {G : Gc} {pc : Nat} {ls : Array Slot} {rest : List Value} {A : Nat → Prop} {al : Bool} {w : Wd} {H0 : Heap} {Ts : List Cond} {own : String}
theorem x_get (hx : p.tables.exec = Jvm.exec) (hb : c0.code = cc) (hts : ∀ w ∈ Ts, w.before args s = true) (hin : inCl Ts) (hown : s.vm.findClass own = some m.cls) (hK : KW G s) (hH : HW al G A w H) {a c k i : Nat} {r : vw_C} (hc : vwCl[c]? = some r) (hk : k < r.2.2) (hkd : Kd w a c)
    (hlink : (Cond.fieldLink own i (r.2.1 k).1 (r.2.1 k).2.1 (r.2.1 k).2.2.1).before args s = true) (hdg : decode cc pc = .ok (.getfield i, 3))
    (kk : W p l e R s m args below meth c0 H locs cells slots Q (F0 m (pc + 3) ls (cv G (gV w a c k) :: rest))) : W p l e R s m args below meth c0 H locs cells slots Q (F0 m pc ls (.ref (gad G a) :: rest)) := by
  obtain ⟨cell, q1, q2, q3, q4⟩ := hH.obj hkd hc
  obtain ⟨hS, hfc, kC, hkC, hkind⟩ := hK.1 c _ hc
  obtain ⟨cf, kf, fi, f, hi, hsl⟩ := hS k hk
  refine W.getf hx hb hown hlink hi (u_facts hfc hkC (u_lays hts (hin c r hc) hk) hi).1 q1 (by rw [q3]; exact fun h => by cases h) (v := cv G (gV w a c k)) ?_ rfl rfl hdg kk
  rw [hsl, q4 k hk]
  rfl
theorem x_put (hx : p.tables.exec = Jvm.exec) (hb : c0.code = cc) (hts : ∀ w ∈ Ts, w.before args s = true) (hin : inCl Ts) (hown : s.vm.findClass own = some m.cls) (hK : KW G s) (hH : HW al G A w H) (hS0 : va_S A H0 H locs) {a c k i : Nat} {r : vw_C} (hc : vwCl[c]? = some r) (hk : k < r.2.2) (hkd : Kd w a c)
    (hlink : (Cond.fieldLink own i (r.2.1 k).1 (r.2.1 k).2.1 (r.2.1 k).2.2.1).before args s = true) (hfin : (r.2.1 k).2.2.2 = false ∨ ((r.2.1 k).2.2.2 = true ∧ meth.name = "<init>" ∧ (r.2.1 k).1 = own)) {v : Value} {w' : Wd} (hv : pV w a c k v = some w') (hdg : decode cc pc = .ok (.putfield i, 3))
    (kk : ∀ (H1 : Heap) (locs1 : List Loc), HW al G A w' H1 → va_S A H0 H1 locs1 → W p l e R s m args below meth c0 H1 locs1 cells slots Q (F0 m (pc + 3) ls rest)) : W p l e R s m args below meth c0 H locs cells slots Q (F0 m pc ls (cv G v :: .ref (gad G a) :: rest)) := by
  obtain ⟨hty, hnm⟩ := cl_ty c r hc
  have hap := va_apart (own := own) hts (hin c r hc) (tyc c) hty hnm hK hc
  obtain ⟨cell, q1, q2, q3, q4⟩ := hH.obj hkd hc
  obtain ⟨hS, hfc, kC, hkC, hkind⟩ := hK.1 c _ hc
  obtain ⟨cf, kf, fi, f, hi, hsl⟩ := hS k hk
  obtain ⟨pN, pS, pK, pf, pr, pk, pj, pn, pt⟩ := pV_ok hv G
  have hst := (u_facts hfc hkC (u_lays hts (hin c r hc) hk) hi).1
  have fin : ∀ (H' : Heap) (locs' : List Loc), H'[gad G a]? = some (cell.setSlot f.slot (cv G v)) → H'.size = H.size → (∀ q, q ≠ gad G a → H'[q]? = H[q]?) → va_S A H0 H' locs' → W p l e R s m args below meth c0 H' locs' cells slots Q (F0 m (pc + 3) ls rest) := by
    intro H' locs' e1 e2 e3 hS'
    refine kk H' locs' (hH.upd (a := a) pN e2 e3 ?_ (fun b _ _ => pK b) (fun b _ hb => pf b hb) (fun b _ _ => pr b)) hS'
    left
    have e0 : wK w' a = c := (pK a).trans hkd.2
    rw [hsl] at e1
    refine ⟨r, by rw [e0]; exact hc, ?_⟩
    rw [e0]
    refine t_OB.to (V := updV (fV G w a c) k (cv G v)) ⟨_, e1, q2, q3, t_set q4 hap hk _⟩ (fun j hj => ?_)
    by_cases hjk : j = k
    · subst hjk
      rw [pk]
      simp [updV]
    · rw [pj j hjk]
      simp [updV, hjk]
  rcases hfin with hfin | ⟨hfin, hin2, hdecl⟩
  · have hlay := hts _ (hin c r hc _ (u_in_lay hk))
    unfold u_lay at hlay
    rw [if_neg (by rw [hfin]; decide)] at hlay
    have h6 := u_store hfc hkC hkind hlay hi (hty k hk) pn pt
    refine W.putK hx hb (f := f) ⟨hown, hlink, ⟨_, _, _, hi⟩, hst⟩ (by rw [q2]; exact h6) q1 q3 (by rw [hsl]; exact k2_hasslot (q4 k hk)) rfl rfl hdg fun H' e1 e2 e3 => ?_
    exact fin H' _ e1 e2 e3 (hS0.put e2 e3 (hH.1 a hkd.1).2)
  · have hlay := hts _ (hin c r hc _ (u_in_lay hk))
    unfold u_lay at hlay
    rw [if_pos hfin] at hlay
    have hcf : m.cls = cf := by
      obtain ⟨_, _, c', _, _, _, -, -, hf', -, -, -, hown2, -⟩ := Cond.laysFinal_spec hlay
      have e1 : c' = cf := by have := hi.symm.trans hf'; simp at this; exact this.1.symm
      rw [hdecl] at hown2
      rw [← e1]; exact Option.some.inj (hown.symm.trans hown2)
    have h6 := u_fits hfc hkC hkind (Or.inr hlay) hi (hty k hk) pn pt
    refine W.putFinK hx hb hown hlink hi hst hcf hin2 (by rw [q2]; exact h6) q1 q3 (by rw [hsl]; exact k2_hasslot (q4 k hk)) rfl rfl hdg fun H' e1 e2 e3 => ?_
    exact fin H' _ e1 e2 e3 (hS0.put e2 e3 (hH.1 a hkd.1).2)
/-- reading from arrays -/
theorem x_iald (hx : p.tables.exec = Jvm.exec) (hb : c0.code = cc) (hK : KW G s) (hH : HW al G A w H) {a : Nat} (hkd : Kd w a 12) {i : Int32} (hin : vp_in i (wL w a)) (hdg : decode cc pc = .ok (.iaload, 1))
    (kk : W p l e R s m args below meth c0 H locs cells slots Q (F0 m (pc + 1) ls (.int (wX w a i.toNatClampNeg) :: rest))) : W p l e R s m args below meth c0 H locs cells slots Q (F0 m pc ls (.int i :: .ref (gad G a) :: rest)) := by
  have hc := (hH.arr hkd (by omega)).2
  have hr : arW G w a = arrV (gA G 1) (wL w a) (fun j => .int (wX w a j)) := by simp [arW, hkd.2]
  rw [hr] at hc
  have hlt : i.toNatClampNeg < wL w a := Nat.not_le.mp fun q => hin (Or.inr q)
  exact W.iald (v := .int (wX w a i.toNatClampNeg)) hx hb hc (hK.arr (t := 1) (by omega) _ _) (fun q => by cases q) (by rw [arrV_size]; exact hin) (by rw [arrV_read _ _ hlt]) rfl rfl hdg kk
theorem x_lald (hx : p.tables.exec = Jvm.exec) (hb : c0.code = cc) (hK : KW G s) (hH : HW al G A w H) {a : Nat} (hkd : Kd w a 13) {i : Int32} (hin : vp_in i (wL w a)) (hdg : decode cc pc = .ok (.laload, 1))
    (kk : W p l e R s m args below meth c0 H locs cells slots Q (F0 m (pc + 1) ls (.long (wY w a i.toNatClampNeg) :: rest))) : W p l e R s m args below meth c0 H locs cells slots Q (F0 m pc ls (.int i :: .ref (gad G a) :: rest)) := by
  have hc := (hH.arr hkd (by omega)).2
  have hr : arW G w a = arrV (gA G 2) (wL w a) (fun j => .long (wY w a j)) := by simp [arW, hkd.2]
  rw [hr] at hc
  have hlt : i.toNatClampNeg < wL w a := Nat.not_le.mp fun q => hin (Or.inr q)
  exact W.lald (v := .long (wY w a i.toNatClampNeg)) hx hb hc (hK.arr (t := 2) (by omega) _ _) (fun q => by cases q) (by rw [arrV_size]; exact hin) (by rw [arrV_read _ _ hlt]) rfl rfl hdg kk
theorem x_bald (hx : p.tables.exec = Jvm.exec) (hb : c0.code = cc) (hK : KW G s) (hH : HW al G A w H) {a : Nat} (hkd : Kd w a 11 ∨ Kd w a 14) {i : Int32} (hin : vp_in i (wL w a)) (hdg : decode cc pc = .ok (.baload, 1))
    (kk : W p l e R s m args below meth c0 H locs cells slots Q (F0 m (pc + 1) ls (.int (wX w a i.toNatClampNeg) :: rest))) : W p l e R s m args below meth c0 H locs cells slots Q (F0 m pc ls (.int i :: .ref (gad G a) :: rest)) := by
  have hlt : i.toNatClampNeg < wL w a := Nat.not_le.mp fun q => hin (Or.inr q)
  rcases hkd with hkd | hkd
  · have hc := (hH.arr hkd (by omega)).2
    have hr : arW G w a = arrV (gA G 0) (wL w a) (fun j => .int (wX w a j)) := by simp [arW, hkd.2]
    rw [hr] at hc
    exact W.bald (v := .int (wX w a i.toNatClampNeg)) hx hb hc (hK.arr (t := 0) (by omega) _ _) (fun q => by cases q) (by rw [arrV_size]; exact hin) (by rw [arrV_read _ _ hlt]) rfl rfl hdg kk
  · have hc := (hH.arr hkd (by omega)).2
    have hr : arW G w a = arrV (gA G 3) (wL w a) (fun j => .int (wX w a j)) := by simp [arW, hkd.2]
    rw [hr] at hc
    exact W.zald (v := .int (wX w a i.toNatClampNeg)) hx hb hc (hK.arr (t := 3) (by omega) _ _) (fun q => by cases q) (by rw [arrV_size]; exact hin) (by rw [arrV_read _ _ hlt]) rfl rfl hdg kk
theorem x_aald (hx : p.tables.exec = Jvm.exec) (hb : c0.code = cc) (hK : KW G s) (hH : HW al G A w H) {a : Nat} (hkd : Kd w a 15 ∨ Kd w a 16) {i : Int32} (hin : vp_in i (wL w a)) (hdg : decode cc pc = .ok (.aaload, 1))
    (kk : W p l e R s m args below meth c0 H locs cells slots Q (F0 m (pc + 1) ls (cv G (rfv (wZ w a i.toNatClampNeg)) :: rest))) : W p l e R s m args below meth c0 H locs cells slots Q (F0 m pc ls (.int i :: .ref (gad G a) :: rest)) := by
  have hlt : i.toNatClampNeg < wL w a := Nat.not_le.mp fun q => hin (Or.inr q)
  rcases hkd with hkd | hkd
  · have hc := (hH.arr hkd (by omega)).2
    have hr : arW G w a = arrV (gA G 4) (wL w a) (fun j => cv G (rfv (wZ w a j))) := by simp [arW, hkd.2]
    rw [hr] at hc
    exact W.aald (v := cv G (rfv (wZ w a i.toNatClampNeg))) (ty := .object "SharesComing$Ends") hx hb hc (hK.arr (t := 4) (by omega) _ _) rfl (fun q => by cases q) (by rw [arrV_size]; exact hin) (by rw [arrV_read _ _ hlt]) rfl rfl hdg kk
  · have hc := (hH.arr hkd (by omega)).2
    have hr : arW G w a = arrV (gA G 5) (wL w a) (fun j => cv G (rfv (wZ w a j))) := by simp [arW, hkd.2]
    rw [hr] at hc
    exact W.aald (v := cv G (rfv (wZ w a i.toNatClampNeg))) (ty := .object "SharesComing$Sight") hx hb hc (hK.arr (t := 5) (by omega) _ _) rfl (fun q => by cases q) (by rw [arrV_size]; exact hin) (by rw [arrV_read _ _ hlt]) rfl rfl hdg kk
theorem x_alen (hx : p.tables.exec = Jvm.exec) (hb : c0.code = cc) (hK : KW G s) (hH : HW al G A w H) {a c : Nat} (hkd : Kd w a c) (h11 : 11 ≤ c) (hdg : decode cc pc = .ok (.arraylength, 1))
    (kk : W p l e R s m args below meth c0 H locs cells slots Q (F0 m (pc + 1) ls (.int (Int32.ofNat (wL w a)) :: rest))) : W p l e R s m args below meth c0 H locs cells slots Q (F0 m pc ls (.ref (gad G a) :: rest)) := by
  obtain ⟨h17, hc⟩ := hH.arr hkd h11
  have hr : ∃ (t : Nat) (f : Nat → Value), t < 6 ∧ arW G w a = arrV (gA G t) (wL w a) f := by
    unfold arW
    split
    · exact ⟨2, _, by omega, rfl⟩
    · split
      · exact ⟨_, _, by rw [hkd.2]; omega, rfl⟩
      · exact ⟨_, _, by rw [hkd.2]; omega, rfl⟩
  obtain ⟨t, f, ht, hr⟩ := hr
  rw [hr] at hc
  exact W.alen (n := Int32.ofNat (wL w a)) hx hb hc (hK.arr (t := t) ht _ _) (by rw [arrV_size]) rfl rfl hdg kk
/-- writing into arrays -/
theorem x_iast (hx : p.tables.exec = Jvm.exec) (hb : c0.code = cc) (hK : KW G s) (hH : HW al G A w H) (hS : va_S A H0 H locs) {a : Nat} (hkd : Kd w a 12) {i x : Int32} (hin : vp_in i (wL w a)) (hdg : decode cc pc = .ok (.iastore, 1))
    (kk : ∀ (H1 : Heap) (locs1 : List Loc), HW al G A (uX w a i.toNatClampNeg x) H1 → va_S A H0 H1 locs1 → W p l e R s m args below meth c0 H1 locs1 cells slots Q (F0 m (pc + 1) ls rest)) : W p l e R s m args below meth c0 H locs cells slots Q (F0 m pc ls (.int x :: .int i :: .ref (gad G a) :: rest)) := by
  have hc := (hH.arr hkd (by omega)).2
  have hr : arW G w a = arrV (gA G 1) (wL w a) (fun j => .int (wX w a j)) := by simp [arW, hkd.2]
  rw [hr] at hc
  refine W.iast hx hb hc (hK.arr (t := 1) (by omega) _ _) (fun q => by cases q) (by rw [arrV_size]; exact hin) rfl rfl hdg fun H1 e1 z oq => ?_
  refine kk H1 _ (hH.upd (a := a) rfl z oq (Or.inr ⟨by show 11 ≤ wK w a; rw [hkd.2]; omega, by show wK w a < 17; rw [hkd.2]; omega, ?_⟩) (fun _ _ _ => rfl) (fun _ _ _ _ _ => rfl) (fun b _ hb => arW_uX hb)) (hS.put z oq (hH.1 a hkd.1).2)
  rw [e1, arrV_store]
  have hr2 : arW G (uX w a i.toNatClampNeg x) a = arrV (gA G 1) (wL w a) (fun j => .int (wX (uX w a i.toNatClampNeg x) a j)) := by
    have : wK (uX w a i.toNatClampNeg x) a = 12 := hkd.2
    simp only [arW, this]
    rfl
  rw [hr2]
  congr 2
  funext q
  by_cases hq : q = i.toNatClampNeg
  · subst hq
    simp [updV, wX, uX, u2]
  · simp [updV, wX, uX, u2, hq]
theorem x_last (hx : p.tables.exec = Jvm.exec) (hb : c0.code = cc) (hK : KW G s) (hH : HW al G A w H) (hS : va_S A H0 H locs) {a : Nat} (hkd : Kd w a 13) {i : Int32} {x : Int64} (hin : vp_in i (wL w a)) (hdg : decode cc pc = .ok (.lastore, 1))
    (kk : ∀ (H1 : Heap) (locs1 : List Loc), HW al G A (uY w a i.toNatClampNeg x) H1 → va_S A H0 H1 locs1 → W p l e R s m args below meth c0 H1 locs1 cells slots Q (F0 m (pc + 1) ls rest)) : W p l e R s m args below meth c0 H locs cells slots Q (F0 m pc ls (.long x :: .int i :: .ref (gad G a) :: rest)) := by
  have hc := (hH.arr hkd (by omega)).2
  have hr : arW G w a = arrV (gA G 2) (wL w a) (fun j => .long (wY w a j)) := by simp [arW, hkd.2]
  rw [hr] at hc
  refine W.last hx hb hc (hK.arr (t := 2) (by omega) _ _) (fun q => by cases q) (by rw [arrV_size]; exact hin) rfl rfl hdg fun H1 e1 z oq => ?_
  refine kk H1 _ (hH.upd (a := a) rfl z oq (Or.inr ⟨by show 11 ≤ wK w a; rw [hkd.2]; omega, by show wK w a < 17; rw [hkd.2]; omega, ?_⟩) (fun _ _ _ => rfl) (fun _ _ _ _ _ => rfl) (fun b _ hb => arW_uY hb)) (hS.put z oq (hH.1 a hkd.1).2)
  rw [e1, arrV_store]
  have hr2 : arW G (uY w a i.toNatClampNeg x) a = arrV (gA G 2) (wL w a) (fun j => .long (wY (uY w a i.toNatClampNeg x) a j)) := by
    have : wK (uY w a i.toNatClampNeg x) a = 13 := hkd.2
    simp only [arW, this]
    rfl
  rw [hr2]
  congr 2
  funext q
  by_cases hq : q = i.toNatClampNeg
  · subst hq
    simp [updV, wY, uY, u2]
  · simp [updV, wY, uY, u2, hq]
theorem x_bast (hx : p.tables.exec = Jvm.exec) (hb : c0.code = cc) (hK : KW G s) (hH : HW al G A w H) (hS : va_S A H0 H locs) {a : Nat} {ty : FieldType} (hkd : (Kd w a 11 ∧ ty = .byte) ∨ (Kd w a 14 ∧ ty = .boolean)) {i x : Int32} (hin : vp_in i (wL w a)) (hdg : decode cc pc = .ok (.bastore, 1))
    (kk : ∀ (H1 : Heap) (locs1 : List Loc), HW al G A (uX w a i.toNatClampNeg (vp_nar ty x)) H1 → va_S A H0 H1 locs1 → W p l e R s m args below meth c0 H1 locs1 cells slots Q (F0 m (pc + 1) ls rest)) : W p l e R s m args below meth c0 H locs cells slots Q (F0 m pc ls (.int x :: .int i :: .ref (gad G a) :: rest)) := by
  rcases hkd with ⟨hkd, rfl⟩ | ⟨hkd, rfl⟩
  · have hc := (hH.arr hkd (by omega)).2
    have hr : arW G w a = arrV (gA G 0) (wL w a) (fun j => .int (wX w a j)) := by simp [arW, hkd.2]
    rw [hr] at hc
    refine W.bast hx hb hc (hK.arr (t := 0) (by omega) _ _) (fun q => by cases q) (by rw [arrV_size]; exact hin) rfl rfl hdg fun H1 e1 z oq => ?_
    refine kk H1 _ (hH.upd (a := a) rfl z oq (Or.inr ⟨by show 11 ≤ wK w a; rw [hkd.2]; omega, by show wK w a < 17; rw [hkd.2]; omega, ?_⟩) (fun _ _ _ => rfl) (fun _ _ _ _ _ => rfl) (fun b _ hb => arW_uX hb)) (hS.put z oq (hH.1 a hkd.1).2)
    rw [e1, arrV_store]
    have hr2 : arW G (uX w a i.toNatClampNeg (vp_nar .byte x)) a = arrV (gA G 0) (wL w a) (fun j => .int (wX (uX w a i.toNatClampNeg (vp_nar .byte x)) a j)) := by
      have : wK (uX w a i.toNatClampNeg (vp_nar .byte x)) a = 11 := hkd.2
      simp only [arW, this]
      rfl
    rw [hr2]
    congr 2
    funext q
    by_cases hq : q = i.toNatClampNeg
    · subst hq
      simp [updV, wX, uX, u2, vp_nar, narrow]
    · simp [updV, wX, uX, u2, hq]
  · have hc := (hH.arr hkd (by omega)).2
    have hr : arW G w a = arrV (gA G 3) (wL w a) (fun j => .int (wX w a j)) := by simp [arW, hkd.2]
    rw [hr] at hc
    refine W.zast hx hb hc (hK.arr (t := 3) (by omega) _ _) (fun q => by cases q) (by rw [arrV_size]; exact hin) rfl rfl hdg fun H1 e1 z oq => ?_
    refine kk H1 _ (hH.upd (a := a) rfl z oq (Or.inr ⟨by show 11 ≤ wK w a; rw [hkd.2]; omega, by show wK w a < 17; rw [hkd.2]; omega, ?_⟩) (fun _ _ _ => rfl) (fun _ _ _ _ _ => rfl) (fun b _ hb => arW_uX hb)) (hS.put z oq (hH.1 a hkd.1).2)
    rw [e1, arrV_store]
    have hr2 : arW G (uX w a i.toNatClampNeg (vp_nar .boolean x)) a = arrV (gA G 3) (wL w a) (fun j => .int (wX (uX w a i.toNatClampNeg (vp_nar .boolean x)) a j)) := by
      have : wK (uX w a i.toNatClampNeg (vp_nar .boolean x)) a = 14 := hkd.2
      simp only [arW, this]
      rfl
    rw [hr2]
    congr 2
    funext q
    by_cases hq : q = i.toNatClampNeg
    · subst hq
      simp [updV, wX, uX, u2, vp_nar, narrow]
    · simp [updV, wX, uX, u2, hq]
end MROW
end
section
/-! NEW objects and arrays, on the machine. -/
theorem cl_n4 : ∀ (c : Nat) (r : vw_C), vwCl[c]? = some r → ∀ k, k < r.2.2 → fty c k ≠ 4 := by
  intro c r h
  match c, h with
  | 0, h => cases h; decide
  | 1, h => cases h; decide
  | 2, h => cases h; decide
  | 3, h => cases h; decide
  | 4, h => cases h; decide
  | 5, h => cases h; decide
  | 6, h => cases h; decide
  | 7, h => cases h; decide
  | 8, h => cases h; decide
  | 9, h => cases h; decide
  | 10, h => cases h; decide
  | c + 11, h => simp [vwCl] at h
theorem nO_def {G : Gc} {w : Wd} {c n k : Nat} (h : fty c k ≠ 4) : fV G (nO w c n) (wN w) c k = defaultValue (tyc c k) := by
  have e1 : wJ (nO w c n) (wN w) k = 0 := by simp [wJ, nO, ur]
  have e2 : wR (nO w c n) (wN w) k = none := by simp [wR, nO, ur]
  have e3 : wI (nO w c n) (wN w) k = 0 := by simp [wI, nO, ur]
  simp only [fV, gV, e1, e2, e3]
  unfold fty at h ⊢
  cases ht : tyc c k <;> rw [ht] at h <;> simp at h <;> rfl
theorem HW.fresh {al : Bool} {G : Gc} {A : Nat → Prop} {w w' : Wd} {H H1 : Heap} (h : HW al G A w H) (hal : al = true) (hN : wN w' = wN w + 1) (z : H1.size = H.size + 1) (oq : ∀ q, q < H.size → H1[q]? = H[q]?) (hat : atW G w' (wN w) H1) (hK : ∀ b, b < wN w → wK w' b = wK w b) (hf : ∀ b, b < wN w → ∀ c k, fV G w' b c k = fV G w b c k) (hr : ∀ b, b < wN w → arW G w' b = arW G w b) : HW al G A w' H1 := by
  obtain ⟨h1, h2, h3⟩ := h.2.2 hal
  refine ⟨fun b hb => ?_, h.2.1, fun _ => ⟨?_, fun n hn => h2 n (by omega), fun q hq => h3 q (by omega)⟩⟩
  · rw [hN] at hb
    by_cases hba : b = wN w
    · subst hba
      exact ⟨hat, h3 _ (by rw [h1]; exact Nat.le_refl _)⟩
    · have hb' : b < wN w := by omega
      refine ⟨?_, (h.1 b hb').2⟩
      have lt : gad G b < H.size := by
        rcases (h.1 b hb').1 with ⟨r, -, cell, g1, -⟩ | ⟨-, -, g1⟩
        · exact (Array.getElem?_eq_some_iff.mp g1).1
        · exact (Array.getElem?_eq_some_iff.mp g1).1
      have hq : H1[gad G b]? = H[gad G b]? := oq _ lt
      rcases (h.1 b hb').1 with ⟨r, g1, g2⟩ | ⟨g1, g2, g3⟩
      · left
        refine ⟨r, by rw [hK b hb']; exact g1, ?_⟩
        rw [hK b hb']
        exact (g2.kept hq).to (fun k _ => (hf b hb' _ k).symm)
      · right
        rw [hK b hb', hr b hb']
        exact ⟨g1, g2, hq.trans g3⟩
  · rw [hN, h2 _ (Nat.le_refl _), z, h1]
theorem va_S.push {A : Nat → Prop} {H0 H H1 : Heap} {locs : List Loc} (hS : va_S A H0 H locs) (z : H1.size = H.size + 1) (oq : ∀ q, q < H.size → H1[q]? = H[q]?) : va_S A H0 H1 locs := ⟨Nat.le_trans hS.1 (by omega), fun x h1 h2 => (oq x (Nat.lt_of_lt_of_le h1 hS.1)).trans (hS.2.1 x h1 h2), hS.2.2⟩
theorem fV_nO {G : Gc} {w : Wd} {c n b : Nat} (h : b < wN w) (c' k : Nat) : fV G (nO w c n) b c' k = fV G w b c' k := by
  have hne : b ≠ wN w := Nat.ne_of_lt h
  simp only [fV, gV, wJ, wR, wI, nO, ur, hne, if_false]
theorem arW_nO {G : Gc} {w : Wd} {c n b : Nat} (h : b < wN w) : arW G (nO w c n) b = arW G w b := by
  have hne : b ≠ wN w := Nat.ne_of_lt h
  have e1 : wK (nO w c n) b = wK w b := by simp [wK, nO, u1, hne]
  unfold arW
  rw [e1]
  rfl
theorem fV_nA {G : Gc} {w : Wd} {t n b c k : Nat} : fV G (nA w t n) b c k = fV G w b c k := rfl
theorem arW_nA {G : Gc} {w : Wd} {t n b : Nat} (h : b < wN w) : arW G (nA w t n) b = arW G w b := by
  have hne : b ≠ wN w := Nat.ne_of_lt h
  have e1 : wK (nA w t n) b = wK w b := by simp [wK, nA, u1, hne]
  have e2 : wL (nA w t n) b = wL w b := by simp [wL, nA, u1, hne]
  have e3 : ∀ j, wX (nA w t n) b j = wX w b j := fun j => by simp [wX, nA, ur, hne]
  have e4 : ∀ j, wY (nA w t n) b j = wY w b j := fun j => by simp [wY, nA, ur, hne]
  have e5 : ∀ j, wZ (nA w t n) b j = wZ w b j := fun j => by simp [wZ, nA, ur, hne]
  unfold arW
  rw [e1, e2]
  simp only [e3, e4, e5]
/-- the kind of an array of numbers -/
def akd (t : ArrayType) : Option Nat := match t with
  | .byte => some 11
  | .int => some 12
  | .long => some 13
  | .boolean => some 14
  | _ => none
def abt (k : Nat) : Nat := if k = 12 then 4 else if k = 13 then 8 else 1
section MNEW
variable {p : Program} {l : Launch} {e : Env} {R : Room} {s : State} {m : MethodId} {args : Array Value} {below : List Frame} {meth : Method} {c0 : Code} {H : Heap} {locs : List Loc} {cells slots : Nat} {Q : State → Prop}
variable {cc : ByteArray} {G : Gc} {pc : Nat} {ls : Array Slot} {rest : List Value} {A : Nat → Prop} {w : Wd} {H0 : Heap} {Ts : List Cond} {own : String}
theorem x_new (hx : p.tables.exec = Jvm.exec) (hb : c0.code = cc) (hts : ∀ w ∈ Ts, w.before args s = true) (hin : inCl Ts) (hown : s.vm.findClass own = some m.cls) (hK : KW G s) (hH : HW true G A w H) (hS : va_S A H0 H locs) {c i : Nat} {r : vw_C} (hc : vwCl[c]? = some r)
    (hlink : (Cond.classLink own i r.1).before args s = true) (hinst : (Cond.instantiable r.1 r.2.2).before args s = true) (hini : (Cond.initialized r.1).before args s = true) (hcells : cells + 1 ≤ R.cells) (hslots : slots + r.2.2 ≤ R.slots) (hdg : decode cc pc = .ok (.new i, 3))
    (kk : ∀ H1 : Heap, HW true G A (nO w c r.2.2) H1 → va_S A H0 H1 locs → W p l e R s m args below meth c0 H1 locs (cells + 1) (slots + r.2.2) Q (F0 m (pc + 3) ls (.ref (gad G (wN w)) :: rest))) : W p l e R s m args below meth c0 H locs cells slots Q (F0 m pc ls rest) := by
  have hKn := hK.1 c _ hc
  obtain ⟨hty, -⟩ := cl_ty c r hc
  obtain ⟨s1, -, -⟩ := hH.2.2 rfl
  refine W.newcK hx hb hown hlink hinst hini rfl hdg hcells hslots hKn.2.1 s1 fun H1 kC hkC e1 z1 o1 => ?_
  rw [← s1] at z1 o1
  refine kk H1 (hH.fresh rfl rfl z1 o1 (Or.inl ⟨r, ?_, ?_⟩) (fun b hb' => ?_) (fun b hb' => fV_nO hb') (fun b hb' => arW_nO hb')) (hS.push z1 o1)
  · show vwCl[u1 w.2.2.1 (wN w) c (wN w)]? = some r
    rw [show u1 w.2.2.1 (wN w) c (wN w) = c by simp [u1]]
    exact hc
  · have e0 : wK (nO w c r.2.2) (wN w) = c := by simp [wK, nO, u1]
    rw [e0]
    exact (u_born (tyc c) hts (hin c r hc) hKn hkC e1 hty).to (fun k hk => (nO_def (cl_n4 c r hc k hk)).symm)
  · have hne : b ≠ wN w := Nat.ne_of_lt hb'
    simp [wK, nO, u1, hne]
theorem x_newa (hx : p.tables.exec = Jvm.exec) (hb : c0.code = cc) (hK : KW G s) (hH : HW true G A w H) (hS : va_S A H0 H locs) {t : ArrayType} {k : Nat} (ht : akd t = some k) (harr : (Cond.arrayClass (newarray.typeOf t)).before args s = true) {n : Int32} (hn : ¬ n < 0) (hbytes : n.toNatClampNeg * abt k ≤ 536870912) (hcells : cells + 1 ≤ R.cells) (hslots : slots + n.toNatClampNeg ≤ R.slots) (hdg : decode cc pc = .ok (.newarray t, 2))
    (kk : ∀ H1 : Heap, HW true G A (nA w k n.toNatClampNeg) H1 → va_S A H0 H1 locs → W p l e R s m args below meth c0 H1 locs (cells + 1) (slots + n.toNatClampNeg) Q (F0 m (pc + 2) ls (.ref (gad G (wN w)) :: rest))) : W p l e R s m args below meth c0 H locs cells slots Q (F0 m pc ls (.int n :: rest)) := by
  obtain ⟨s1, -, -⟩ := hH.2.2 rfl
  have hk : 11 ≤ k ∧ k < 15 := by cases t <;> cases ht <;> omega
  have hbt : componentBytes (newarray.typeOf t) = abt k := by cases t <;> cases ht <;> rfl
  refine va_newaK hx hb harr rfl hdg rfl hn rfl (by rw [hbt]; exact hbytes) hcells hslots s1 fun H1 cA e1 z1 o1 hAr hNm => ?_
  rw [← s1] at z1 o1
  have e0 : wK (nA w k n.toNatClampNeg) (wN w) = k := by simp [wK, nA, u1]
  have e2 : wL (nA w k n.toNatClampNeg) (wN w) = n.toNatClampNeg := by simp [wL, nA, u1]
  refine kk H1 (hH.fresh rfl rfl z1 o1 (Or.inr ⟨by rw [e0]; omega, by rw [e0]; omega, ?_⟩) (fun b hb' => ?_) (fun b hb' _ _ => rfl) (fun b hb' => arW_nA hb')) (hS.push z1 o1)
  · rw [e1]
    have e3 : ∀ j, wX (nA w k n.toNatClampNeg) (wN w) j = 0 := fun j => by simp [wX, nA, ur]
    have e4 : ∀ j, wY (nA w k n.toNatClampNeg) (wN w) j = 0 := fun j => by simp [wY, nA, ur]
    have key : cA = gA G (k - 11) ∧ arW G (nA w k n.toNatClampNeg) (wN w) = arrV (gA G (k - 11)) n.toNatClampNeg (fun _ => defaultValue (newarray.typeOf t)) := by
      unfold arW
      simp only [e0, e2, e3, e4]
      cases t <;> cases ht
      · exact ⟨Option.some.inj (hNm.symm.trans (hK.2 3 _ rfl).2), rfl⟩
      · exact ⟨Option.some.inj (hNm.symm.trans (hK.2 0 _ rfl).2), rfl⟩
      · exact ⟨Option.some.inj (hNm.symm.trans (hK.2 1 _ rfl).2), rfl⟩
      · exact ⟨Option.some.inj (hNm.symm.trans (hK.2 2 _ rfl).2), rfl⟩
    rw [key.2, key.1]
  · have hne : b ≠ wN w := Nat.ne_of_lt hb'
    simp [wK, nA, u1, hne]
/-- arrays of Ends (15) and of Sights (16) -/
theorem x_anew (hx : p.tables.exec = Jvm.exec) (hb : c0.code = cc) (hown : s.vm.findClass own = some m.cls) (hK : KW G s) (hH : HW true G A w H) (hS : va_S A H0 H locs) {i k : Nat} (hk : k = 15 ∨ k = 16) {C : String} (hC : arty (k - 11) = .object C) (hlink : (Cond.classLink own i C).before args s = true) (hover : (Cond.arrayOver (.object C)).before args s = true) {n : Int32} (hn : ¬ n < 0) (hbytes : n.toNatClampNeg * 4 ≤ 536870912) (hcells : cells + 1 ≤ R.cells) (hslots : slots + n.toNatClampNeg ≤ R.slots) (hdg : decode cc pc = .ok (.anewarray i, 3))
    (kk : ∀ H1 : Heap, HW true G A (nA w k n.toNatClampNeg) H1 → va_S A H0 H1 locs → W p l e R s m args below meth c0 H1 locs (cells + 1) (slots + n.toNatClampNeg) Q (F0 m (pc + 3) ls (.ref (gad G (wN w)) :: rest))) : W p l e R s m args below meth c0 H locs cells slots Q (F0 m pc ls (.int n :: rest)) := by
  obtain ⟨s1, -, -⟩ := hH.2.2 rfl
  refine W.anew hx hb hown hlink hover rfl hdg rfl hn hbytes hcells hslots fun cA kA comp f1 f2 f3 f4 => ?_
  generalize hH1 : H.push ({ cls := cA, slots := Array.replicate n.toNatClampNeg .null, vm := .none } : Cell) = H1
  have z1 : H1.size = H.size + 1 := by rw [← hH1, Array.size_push]
  have e1 : H1[H.size]? = some (arrV cA n.toNatClampNeg (fun _ => .null)) := by rw [← hH1, Array.getElem?_push_size, ← arrV_new]
  have o1 : ∀ q : Nat, q < H.size → H1[q]? = H[q]? := fun q hq => by rw [← hH1, Array.getElem?_push, if_neg (Nat.ne_of_lt hq)]
  have e0 : wK (nA w k n.toNatClampNeg) (wN w) = k := by simp [wK, nA, u1]
  have e2 : wL (nA w k n.toNatClampNeg) (wN w) = n.toNatClampNeg := by simp [wL, nA, u1]
  have e3 : ∀ j, wZ (nA w k n.toNatClampNeg) (wN w) j = none := fun j => by simp [wZ, nA, ur]
  have hcA : cA = gA G (k - 11) := by
    rcases hk with rfl | rfl
    · have hC' : C = "SharesComing$Ends" := by simpa [arty] using hC.symm
      subst hC'
      obtain ⟨_, _, -, -, -, h4⟩ := (hK.2 4 _ rfl).2
      exact Option.some.inj (f1.symm.trans h4)
    · have hC' : C = "SharesComing$Sight" := by simpa [arty] using hC.symm
      subst hC'
      obtain ⟨_, _, -, -, -, h4⟩ := (hK.2 5 _ rfl).2
      exact Option.some.inj (f1.symm.trans h4)
  rw [s1]
  refine kk H1 (hH.fresh rfl rfl z1 o1 (Or.inr ⟨by rw [e0]; omega, by rw [e0]; omega, ?_⟩) (fun b hb' => ?_) (fun b hb' _ _ => rfl) (fun b hb' => arW_nA hb')) (hS.push z1 o1)
  · rw [← s1, e1, hcA]
    unfold arW
    simp only [e0, e2, e3]
    rcases hk with rfl | rfl <;> rfl
  · have hne : b ≠ wN w := Nat.ne_of_lt hb'
    simp [wK, nA, u1, hne]
theorem x_aast {al : Bool} (hx : p.tables.exec = Jvm.exec) (hb : c0.code = cc) (hK : KW G s) (hH : HW al G A w H) (hS : va_S A H0 H locs) {a v : Nat} (hkd : (Kd w a 15 ∧ Kd w v 1) ∨ (Kd w a 16 ∧ Kd w v 5)) {i : Int32} (hin : vp_in i (wL w a)) (hdg : decode cc pc = .ok (.aastore, 1))
    (kk : ∀ (H1 : Heap) (locs1 : List Loc), HW al G A (uZ w a i.toNatClampNeg (some v)) H1 → va_S A H0 H1 locs1 → W p l e R s m args below meth c0 H1 locs1 cells slots Q (F0 m (pc + 1) ls rest)) : W p l e R s m args below meth c0 H locs cells slots Q (F0 m pc ls (.ref (gad G v) :: .int i :: .ref (gad G a) :: rest)) := by
  have hlt : i.toNatClampNeg < wL w a := Nat.not_le.mp fun q => hin (Or.inr q)
  have h0 : ¬ i < 0 := fun q => hin (Or.inl q)
  have go : ∀ (t cv0 : Nat) (C : String) (r : vw_C), t = 4 ∨ t = 5 → Kd w a (t + 11) → Kd w v cv0 → vwCl[cv0]? = some r → (tysG G)[t]? = some (gA G t, .object r.1) → W p l e R s m args below meth c0 H locs cells slots Q (F0 m pc ls (.ref (gad G v) :: .int i :: .ref (gad G a) :: rest)) := by
    intro t cv0 C r ht hka hkv hr htt
    have hc := (hH.arr hka (by omega)).2
    have hra : arW G w a = arrV (gA G t) (wL w a) (fun j => cv G (rfv (wZ w a j))) := by
      have := hka.2
      rcases ht with rfl | rfl <;> simp [arW, this]
    rw [hra] at hc
    obtain ⟨cellV, g1, g2, g3, -⟩ := hH.obj hkv hr
    have hcls := (hK.1 cv0 r hr).2
    obtain ⟨kA, comp, k1, k2, k3, -⟩ := (hK.2 t _ htt).2
    have hcomp : comp = (gD G).1 cv0 := Option.some.inj (k3.symm.trans hcls.1)
    subst hcomp
    obtain ⟨kC, hkC, -⟩ := hcls.2
    refine W.aast hx hb hc (fun q h => by cases h) (fun h => by cases h) k1 k2 rfl hkC ⟨h0, by rw [arrV_size]; exact hlt⟩ g1 (fun q h => by rw [g3] at h; cases h) (by rw [g2]; exact hkC) (by rw [g2]; exact va_assign hcls) rfl rfl hdg fun H1 e1 z oq => ?_
    refine kk H1 _ (hH.upd (a := a) rfl z oq (Or.inr ⟨by show 11 ≤ wK w a; rw [hka.2]; omega, by show wK w a < 17; rw [hka.2]; omega, ?_⟩) (fun _ _ _ => rfl) (fun _ _ _ _ _ => rfl) (fun b _ hb => arW_uZ hb)) (hS.put z oq (hH.1 a hka.1).2)
    rw [e1, arrV_store]
    have hr2 : arW G (uZ w a i.toNatClampNeg (some v)) a = arrV (gA G t) (wL w a) (fun j => cv G (rfv (wZ (uZ w a i.toNatClampNeg (some v)) a j))) := by
      have : wK (uZ w a i.toNatClampNeg (some v)) a = t + 11 := hka.2
      rcases ht with rfl | rfl <;> (simp only [arW, this]; rfl)
    rw [hr2]
    congr 2
    funext q
    by_cases hq : q = i.toNatClampNeg
    · subst hq
      simp [updV, wZ, uZ, u2, rfv, cv]
    · simp [updV, wZ, uZ, u2, hq]
  rcases hkd with ⟨h1, h2⟩ | ⟨h1, h2⟩
  · exact go 4 1 "" _ (Or.inl rfl) h1 h2 rfl rfl
  · exact go 5 5 "" _ (Or.inr rfl) h1 h2 rfl rfl
end MNEW
end
