/-! TABLES of the program, by number: classes, methods, links, constants (printed of the program). -/
def lk {α : Type} : List (Nat × α) → Nat → Option α
  | [], _ => none
  | e :: l, i => if e.1 = i then some e.2 else lk l i
theorem lk_mem {α : Type} : ∀ {l : List (Nat × α)} {i : Nat} {v : α}, lk l i = some v → (i, v) ∈ l
  | [], _, _, h => by cases h
  | e :: l, i, v, h => by
    unfold lk at h
    by_cases hq : e.1 = i
    · rw [if_pos hq] at h
      cases h
      rw [← hq]
      exact List.mem_cons_self
    · rw [if_neg hq] at h
      exact List.mem_cons_of_mem _ (lk_mem h)
/-- tables with an owner and an index -/
def lo {α : Type} : List (Nat × Nat × α) → Nat → Nat → Option α
  | [], _, _ => none
  | e :: l, o, i => if e.1 = o then (if e.2.1 = i then some e.2.2 else lo l o i) else lo l o i
theorem lo_mem {α : Type} : ∀ {l : List (Nat × Nat × α)} {o i : Nat} {v : α}, lo l o i = some v → (o, i, v) ∈ l
  | [], _, _, _, h => by cases h
  | e :: l, o, i, v, h => by
    unfold lo at h
    by_cases ho : e.1 = o
    · rw [if_pos ho] at h
      by_cases hq : e.2.1 = i
      · rw [if_pos hq] at h
        cases h
        rw [← hq, ← ho]
        exact List.mem_cons_self
      · rw [if_neg hq] at h
        exact List.mem_cons_of_mem _ (lo_mem h)
    · rw [if_neg ho] at h
      exact List.mem_cons_of_mem _ (lo_mem h)
def allP {α : Type} (P : α → Prop) : List α → Prop
  | [] => True
  | a :: l => P a ∧ allP P l
theorem allP_mem {α : Type} {P : α → Prop} : ∀ {l : List α}, allP P l → ∀ a ∈ l, P a
  | [], _, a, h => absurd h List.not_mem_nil
  | b :: l, hp, a, h => by
    rcases List.mem_cons.mp h with rfl | h
    · exact hp.1
    · exact allP_mem hp.2 a h
theorem memP_app {α : Type} {P : α → Prop} {l1 l2 : List α} (h1 : ∀ a ∈ l1, P a) (h2 : ∀ a ∈ l2, P a) : ∀ a ∈ l1 ++ l2, P a := fun a h => (List.mem_append.mp h).elim (h1 a) (h2 a)
def tq (q : Nat) : List Cond := match q with
  | 0 => k2_sels lw_privs
  | 1 => tables_1_1
  | 2 => tables_1_2
  | 3 => tables_1_3
  | 4 => tables_1_4
  | 5 => tables_1_5
  | 6 => tables_1_6
  | 7 => tables_1_7
  | _ => []
theorem tq_in {q : Nat} {w : Cond} (h : w ∈ tq q) : w ∈ lw_tbl := by
  unfold lw_tbl tables_1
  match q, h with
  | 0, h => exact List.mem_append_left _ h
  | 1, h => exact List.mem_append_right _ (List.mem_append_left _ h)
  | 2, h => exact List.mem_append_right _ (List.mem_append_right _ (List.mem_append_left _ h))
  | 3, h => exact List.mem_append_right _ (List.mem_append_right _ (List.mem_append_right _ (List.mem_append_left _ h)))
  | 4, h => exact List.mem_append_right _ (List.mem_append_right _ (List.mem_append_right _ (List.mem_append_right _ (List.mem_append_left _ h))))
  | 5, h => exact List.mem_append_right _ (List.mem_append_right _ (List.mem_append_right _ (List.mem_append_right _ (List.mem_append_right _ (List.mem_append_left _ h)))))
  | 6, h => exact List.mem_append_right _ (List.mem_append_right _ (List.mem_append_right _ (List.mem_append_right _ (List.mem_append_right _ (List.mem_append_right _ (List.mem_append_left _ h))))))
  | 7, h => exact List.mem_append_right _ (List.mem_append_right _ (List.mem_append_right _ (List.mem_append_right _ (List.mem_append_right _ (List.mem_append_right _ (List.mem_append_right _ h))))))
  | q + 8, h => exact absurd h List.not_mem_nil
def WL : List Cond := lw_tbl.filter goodWord
theorem WL_of {q j : Nat} {w : Cond} (h : (tq q)[j]? = some w) (hg : goodWord w = true) : w ∈ WL := List.mem_filter.mpr ⟨tq_in (List.mem_of_getElem? h), hg⟩
theorem WL_good {w : Cond} (h : w ∈ WL) : goodWord w = true := (List.mem_filter.mp h).2
theorem WL_tbl {w : Cond} (h : w ∈ WL) : w ∈ lw_tbl := (List.mem_filter.mp h).1
def oN (i : Nat) : String := (["SharesComing$Book", "SharesComing$Ends", "SharesComing$Ranks", "SharesComing$Reader", "SharesComing$Rows", "SharesComing$Sight", "SharesComing$Table", "SharesComing$Ways", "SharesComing$Will", "SharesComing", "SharesComingModel", "SharesComing$Goals", "SharesComing$State", "SharesComingLaw", "java/lang/Integer", "java/lang/Math", "java/lang/String", "java/lang/StringLatin1", "java/util/Arrays", "jdk/internal/util/Preconditions", "java/lang/StringUTF16"] : List String).getD i ""
def mtab_0 : List (MethodName × ByteArray × Nat × Option FieldType × Nat × Nat × Nat) := [(⟨"SharesComing", "<init>", "()V"⟩, prog_1_method_1_code, 1, none, 9, 0, 2),
  (⟨"SharesComing$Reader", "<init>", "([B)V"⟩, prog_6_method_1_code, 2, none, 3, 1, 2),
  (⟨"SharesComing$Will", "<init>", "()V"⟩, prog_12_method_1_code, 1, none, 8, 0, 2),
  (⟨"SharesComing$Book", "<init>", "(LSharesComing$Will;)V"⟩, prog_2_method_1_code, 5, none, 0, 1, 2),
  (⟨"SharesComing$Ranks", "<init>", "()V"⟩, prog_5_method_1_code, 2, none, 2, 0, 2),
  (⟨"SharesComing$Ranks", "numberAmounts", "([I[I[I)V"⟩, prog_5_method_2_code, 9, none, 2, 3, 0),
  (⟨"java/util/Arrays", "fill", "([II)V"⟩, prog_20_method_103_code, 4, none, 18, 2, 0),
  (⟨"SharesComing$Ranks", "sumUp", "([I[I[I[I)V"⟩, prog_5_method_3_code, 7, none, 2, 4, 0),
  (⟨"SharesComing$Rows", "<init>", "(LSharesComing$Will;LSharesComing$Ranks;)V"⟩, prog_7_method_1_code, 3, none, 4, 2, 2),
  (⟨"SharesComing$Ends", "<init>", "(LSharesComing$Will;LSharesComing$Ranks;ILSharesComing$Ends;)V"⟩, prog_3_method_1_code, 5, none, 1, 4, 2),
  (⟨"SharesComing$Table", "<init>", "()V"⟩, prog_10_method_1_code, 1, none, 6, 0, 2),
  (⟨"SharesComing$Sight", "<init>", "(LSharesComing$Will;LSharesComing$Ranks;ILSharesComing$Ends;)V"⟩, prog_8_method_1_code, 5, none, 5, 4, 2),
  (⟨"SharesComing$Ways", "<init>", "(LSharesComing$Will;LSharesComing$Sight;LSharesComing$Ends;)V"⟩, prog_11_method_1_code, 4, none, 7, 3, 2),
  (⟨"SharesComing", "feed", "(IIIII)I"⟩, prog_1_method_2_code, 6, some FieldType.int, 9, 5, 1),
  (⟨"SharesComing", "addBytes", "(I)V"⟩, prog_1_method_3_code, 3, none, 9, 1, 1),
  (⟨"SharesComing", "end", "(I)Z"⟩, prog_1_method_4_code, 2, some FieldType.boolean, 9, 1, 1)]
def mtab_1 : List (MethodName × ByteArray × Nat × Option FieldType × Nat × Nat × Nat) := [(⟨"SharesComing", "fault", "()I"⟩, prog_1_method_5_code, 1, some FieldType.int, 9, 0, 1),
  (⟨"SharesComing$Reader", "read", "(ILSharesComing$Will;)I"⟩, prog_6_method_2_code, 4, some FieldType.int, 3, 2, 1),
  (⟨"SharesComing$Will", "clear", "()V"⟩, prog_12_method_2_code, 1, none, 8, 0, 1),
  (⟨"SharesComing$Reader", "step", "()V"⟩, prog_6_method_12_code, 1, none, 3, 0, 1),
  (⟨"SharesComing$Reader", "isLetterAt", "(I)Z"⟩, prog_6_method_15_code, 2, some FieldType.boolean, 3, 1, 1),
  (⟨"SharesComing$Reader", "readWord", "()V"⟩, prog_6_method_13_code, 1, none, 3, 0, 1),
  (⟨"SharesComing$Reader", "isDigitAt", "(I)Z"⟩, prog_6_method_16_code, 2, some FieldType.boolean, 3, 1, 1),
  (⟨"SharesComing$Reader", "readNumber", "()V"⟩, prog_6_method_14_code, 1, none, 3, 0, 1),
  (⟨"SharesComing$Will", "early", "()I"⟩, prog_12_method_10_code, 1, some FieldType.int, 8, 0, 1),
  (⟨"SharesComing$Reader", "readPart", "(LSharesComing$Will;)Z"⟩, prog_6_method_3_code, 2, some FieldType.boolean, 3, 1, 1),
  (⟨"SharesComing$Reader", "readHeir", "(LSharesComing$Will;Z)Z"⟩, prog_6_method_4_code, 6, some FieldType.boolean, 3, 2, 1),
  (⟨"SharesComing$Will", "hasRoomForHeir", "()Z"⟩, prog_12_method_3_code, 1, some FieldType.boolean, 8, 0, 1),
  (⟨"SharesComing$Reader", "isName", "()Z"⟩, prog_6_method_11_code, 1, some FieldType.boolean, 3, 0, 1),
  (⟨"SharesComing$Will", "heirNamed", "(J)I"⟩, prog_12_method_6_code, 4, some FieldType.int, 8, 1, 1),
  (⟨"SharesComing$Reader", "isNumber", "(II)Z"⟩, prog_6_method_10_code, 3, some FieldType.boolean, 3, 2, 1),
  (⟨"SharesComing$Will", "putWorth", "(II)V"⟩, prog_12_method_4_code, 3, none, 8, 2, 1)]
def mtab_2 : List (MethodName × ByteArray × Nat × Option FieldType × Nat × Nat × Nat) := [(⟨"SharesComing$Will", "addHeir", "(JZ)V"⟩, prog_12_method_5_code, 4, none, 8, 2, 1),
  (⟨"SharesComing$Reader", "readDay", "(LSharesComing$Will;)Z"⟩, prog_6_method_8_code, 3, some FieldType.boolean, 3, 1, 1),
  (⟨"SharesComing$Will", "hasRoomForDay", "()Z"⟩, prog_12_method_7_code, 1, some FieldType.boolean, 8, 0, 1),
  (⟨"SharesComing$Reader", "readAlt", "(LSharesComing$Will;I)Z"⟩, prog_6_method_9_code, 6, some FieldType.boolean, 3, 2, 1),
  (⟨"SharesComing$Will", "isLate", "(I)Z"⟩, prog_12_method_11_code, 2, some FieldType.boolean, 8, 1, 1),
  (⟨"SharesComing$Will", "putAlt", "(IIII)V"⟩, prog_12_method_8_code, 6, none, 8, 4, 1),
  (⟨"SharesComing$Will", "addDay", "(I)V"⟩, prog_12_method_9_code, 2, none, 8, 1, 1),
  (⟨"SharesComing$Reader", "readHold", "(LSharesComing$Will;)Z"⟩, prog_6_method_5_code, 2, some FieldType.boolean, 3, 1, 1),
  (⟨"SharesComing$Reader", "passSemicolon", "()Z"⟩, prog_6_method_7_code, 1, some FieldType.boolean, 3, 0, 1),
  (⟨"SharesComing$Reader", "readBack", "(LSharesComing$Will;)Z"⟩, prog_6_method_6_code, 2, some FieldType.boolean, 3, 1, 1),
  (⟨"SharesComing", "matter", "()I"⟩, prog_1_method_6_code, 2, some FieldType.int, 9, 0, 1),
  (⟨"SharesComing$Will", "firstState", "()J"⟩, prog_12_method_22_code, 1, some FieldType.long, 8, 0, 1),
  (⟨"SharesComing$Book", "startAnew", "()V"⟩, prog_2_method_2_code, 2, none, 0, 0, 1),
  (⟨"SharesComing$Ranks", "layOut", "(LSharesComing$Will;)V"⟩, prog_5_method_4_code, 5, none, 2, 1, 1),
  (⟨"SharesComing$Ranks", "maskOf", "(LSharesComing$Will;I)I"⟩, prog_5_method_5_code, 5, some FieldType.int, 2, 2, 0),
  (⟨"SharesComing$Will", "mayBringThing", "(I)Z"⟩, prog_12_method_20_code, 3, some FieldType.boolean, 8, 1, 1)]
def mtab_3 : List (MethodName × ByteArray × Nat × Option FieldType × Nat × Nat × Nat) := [(⟨"SharesComing$Will", "alts", "(I)I"⟩, prog_12_method_14_code, 2, some FieldType.int, 8, 1, 1),
  (⟨"SharesComing$Will", "kind", "(II)I"⟩, prog_12_method_17_code, 3, some FieldType.int, 8, 2, 1),
  (⟨"SharesComing$Will", "isAlt", "(II)Z"⟩, prog_12_method_13_code, 3, some FieldType.boolean, 8, 2, 1),
  (⟨"SharesComing$Table", "startAnew", "()V"⟩, prog_10_method_2_code, 1, none, 6, 0, 1),
  (⟨"SharesComing", "heir", "(II)I"⟩, prog_1_method_7_code, 3, some FieldType.int, 9, 2, 1),
  (⟨"SharesComing$Will", "isHeir", "(I)Z"⟩, prog_12_method_12_code, 2, some FieldType.boolean, 8, 1, 1),
  (⟨"SharesComing$State", "isThere", "(JI)Z"⟩, prog_9_method_9_code, 3, some FieldType.boolean, 12, 2, 0),
  (⟨"SharesComing$State", "cameOf", "(J)I"⟩, prog_9_method_8_code, 2, some FieldType.int, 12, 1, 0),
  (⟨"SharesComing$Will", "worth", "(II)I"⟩, prog_12_method_15_code, 3, some FieldType.int, 8, 2, 1),
  (⟨"SharesComing$State", "amount", "(JII)I"⟩, prog_9_method_4_code, 4, some FieldType.int, 12, 3, 0),
  (⟨"SharesComing$Will", "valueOf", "(IJI)I"⟩, prog_12_method_25_code, 10, some FieldType.int, 8, 3, 1),
  (⟨"SharesComing", "alt", "(III)I"⟩, prog_1_method_8_code, 4, some FieldType.int, 9, 3, 1),
  (⟨"SharesComing$Will", "chance", "(II)I"⟩, prog_12_method_16_code, 3, some FieldType.int, 8, 2, 1),
  (⟨"SharesComing$Will", "target", "(II)I"⟩, prog_12_method_18_code, 3, some FieldType.int, 8, 2, 1),
  (⟨"SharesComing", "come", "(I)I"⟩, prog_1_method_9_code, 3, some FieldType.int, 9, 1, 1),
  (⟨"SharesComing$State", "dayOf", "(J)I"⟩, prog_9_method_10_code, 2, some FieldType.int, 12, 1, 0)]
def mtab_4 : List (MethodName × ByteArray × Nat × Option FieldType × Nat × Nat × Nat) := [(⟨"SharesComing$Will", "thing", "(II)I"⟩, prog_12_method_19_code, 3, some FieldType.int, 8, 2, 1),
  (⟨"SharesComing$Will", "passed", "(JII)J"⟩, prog_12_method_23_code, 7, some FieldType.long, 8, 3, 1),
  (⟨"SharesComing", "give", "(I)Z"⟩, prog_1_method_10_code, 2, some FieldType.boolean, 9, 1, 1),
  (⟨"SharesComing$Will", "mayGive", "(JII)Z"⟩, prog_12_method_24_code, 5, some FieldType.boolean, 8, 3, 1),
  (⟨"SharesComing$State", "heldOf", "(J)I"⟩, prog_9_method_6_code, 2, some FieldType.int, 12, 1, 0),
  (⟨"SharesComing$State", "thingsOf", "(JI)I"⟩, prog_9_method_5_code, 3, some FieldType.int, 12, 2, 0),
  (⟨"SharesComing$State", "with", "(JII)J"⟩, prog_9_method_3_code, 4, some FieldType.long, 12, 3, 0),
  (⟨"SharesComing$State", "one", "(II)J"⟩, prog_9_method_2_code, 2, some FieldType.long, 12, 2, 0),
  (⟨"SharesComing", "reached", "(I)I"⟩, prog_1_method_11_code, 2, some FieldType.int, 9, 1, 1),
  (⟨"SharesComing", "canLookAhead", "(I)Z"⟩, prog_1_method_26_code, 2, some FieldType.boolean, 9, 1, 1),
  (⟨"SharesComing", "isGoal", "(I)Z"⟩, prog_1_method_25_code, 1, some FieldType.boolean, 9, 1, 0),
  (⟨"SharesComing", "daysToCome", "()I"⟩, prog_1_method_27_code, 1, some FieldType.int, 9, 0, 1),
  (⟨"SharesComing$Book", "ends", "(II)LSharesComing$Ends;"⟩, prog_2_method_3_code, 5, some (FieldType.object "SharesComing$Ends"), 0, 2, 1),
  (⟨"SharesComing$Ranks", "endPlaces", "()I"⟩, prog_5_method_9_code, 1, some FieldType.int, 2, 0, 1),
  (⟨"SharesComing$Table", "makeReady", "(II)V"⟩, prog_10_method_3_code, 3, none, 6, 2, 1),
  (⟨"java/util/Arrays", "fill", "([JJ)V"⟩, prog_20_method_101_code, 5, none, 18, 2, 0)]
def mtab_5 : List (MethodName × ByteArray × Nat × Option FieldType × Nat × Nat × Nat) := [(⟨"SharesComing$Ends", "value", "(J)J"⟩, prog_3_method_2_code, 6, some FieldType.long, 1, 1, 1),
  (⟨"SharesComing$Ranks", "endPlaceOf", "(J)I"⟩, prog_5_method_12_code, 4, some FieldType.int, 2, 1, 1),
  (⟨"SharesComing$Ranks", "cellPlace", "(JI)I"⟩, prog_5_method_13_code, 7, some FieldType.int, 2, 2, 1),
  (⟨"SharesComing$Ranks", "lateOf", "(J)I"⟩, prog_5_method_6_code, 3, some FieldType.int, 2, 1, 1),
  (⟨"SharesComing$Table", "at", "(I)J"⟩, prog_10_method_4_code, 2, some FieldType.long, 6, 1, 1),
  (⟨"SharesComing$Ends", "find", "(J)J"⟩, prog_3_method_3_code, 4, some FieldType.long, 1, 1, 1),
  (⟨"SharesComing$State", "firstHeld", "(J)I"⟩, prog_9_method_7_code, 3, some FieldType.int, 12, 1, 0),
  (⟨"SharesComing$Ends", "bestHandedOut", "(JI)J"⟩, prog_3_method_4_code, 9, some FieldType.long, 1, 2, 1),
  (⟨"SharesComing$Ends", "bestTakenBack", "(JLSharesComing$Ends;)J"⟩, prog_3_method_5_code, 8, some FieldType.long, 1, 2, 1),
  (⟨"SharesComing$Ends", "bestMoved", "(JIILSharesComing$Ends;)J"⟩, prog_3_method_6_code, 11, some FieldType.long, 1, 4, 1),
  (⟨"SharesComing$Goals", "leastShare", "(LSharesComing$Will;J)I"⟩, prog_4_method_2_code, 9, some FieldType.int, 11, 2, 0),
  (⟨"java/lang/Integer", "bitCount", "(I)I"⟩, prog_15_method_49_code, 1, some FieldType.int, 14, 1, 0),
  (⟨"SharesComing$Goals", "mostLeftOut", "(LSharesComing$Will;J)I"⟩, prog_4_method_3_code, 6, some FieldType.int, 11, 2, 0),
  (⟨"SharesComing$Goals", "leftOut", "(LSharesComing$Will;JII)I"⟩, prog_4_method_4_code, 11, some FieldType.int, 11, 4, 0),
  (⟨"SharesComing$Goals", "sum", "(LSharesComing$Will;J)I"⟩, prog_4_method_5_code, 5, some FieldType.int, 11, 2, 0),
  (⟨"SharesComing$Table", "put", "(IJ)V"⟩, prog_10_method_5_code, 4, none, 6, 2, 1)]
def mtab_6 : List (MethodName × ByteArray × Nat × Option FieldType × Nat × Nat × Nat) := [(⟨"SharesComing", "sure", "(IZ)I"⟩, prog_1_method_12_code, 5, some FieldType.int, 9, 2, 1),
  (⟨"SharesComing", "worthNow", "(II)J"⟩, prog_1_method_28_code, 4, some FieldType.long, 9, 2, 1),
  (⟨"SharesComing$Book", "sight", "(II)LSharesComing$Sight;"⟩, prog_2_method_4_code, 4, some (FieldType.object "SharesComing$Sight"), 0, 2, 1),
  (⟨"SharesComing$Ranks", "dayPlaces", "()I"⟩, prog_5_method_8_code, 1, some FieldType.int, 2, 0, 1),
  (⟨"SharesComing$Sight", "endsBy", "(LSharesComing$Ends;)V"⟩, prog_8_method_2_code, 2, none, 5, 1, 1),
  (⟨"SharesComing$Sight", "worth", "(J)J"⟩, prog_8_method_3_code, 7, some FieldType.long, 5, 1, 1),
  (⟨"SharesComing$Ranks", "placeOf", "(J)I"⟩, prog_5_method_11_code, 5, some FieldType.int, 2, 1, 1),
  (⟨"SharesComing$Sight", "weighed", "(JI)J"⟩, prog_8_method_4_code, 7, some FieldType.long, 5, 2, 1),
  (⟨"SharesComing$Sight", "afterAlt", "(JII)J"⟩, prog_8_method_6_code, 8, some FieldType.long, 5, 3, 1),
  (⟨"SharesComing$Sight", "given", "(JI)J"⟩, prog_8_method_7_code, 7, some FieldType.long, 5, 2, 1),
  (⟨"SharesComing$Sight", "holdable", "()I"⟩, prog_8_method_10_code, 1, some FieldType.int, 5, 0, 1),
  (⟨"SharesComing$Sight", "least", "(JI)J"⟩, prog_8_method_5_code, 7, some FieldType.long, 5, 2, 1),
  (⟨"SharesComing", "thousandths", "(J)I"⟩, prog_1_method_29_code, 6, some FieldType.int, 9, 1, 1),
  (⟨"SharesComing", "best", "(IZ)I"⟩, prog_1_method_13_code, 3, some FieldType.int, 9, 2, 1),
  (⟨"SharesComing$Sight", "bestGift", "(JI)I"⟩, prog_8_method_8_code, 7, some FieldType.int, 5, 2, 1),
  (⟨"SharesComing", "proof", "(II)I"⟩, prog_1_method_14_code, 12, some FieldType.int, 9, 2, 1)]
def mtab_7 : List (MethodName × ByteArray × Nat × Option FieldType × Nat × Nat × Nat) := [(⟨"SharesComing$Sight", "worstAlt", "(JI)I"⟩, prog_8_method_9_code, 7, some FieldType.int, 5, 2, 1),
  (⟨"SharesComing", "known", "(II)I"⟩, prog_1_method_15_code, 3, some FieldType.int, 9, 2, 1),
  (⟨"SharesComing$Rows", "canBe", "(IJ)Z"⟩, prog_7_method_3_code, 6, some FieldType.boolean, 4, 2, 1),
  (⟨"SharesComing$Rows", "digit", "(II)I"⟩, prog_7_method_2_code, 2, some FieldType.int, 4, 2, 0),
  (⟨"SharesComing$Rows", "canHoldGifts", "(IJ)Z"⟩, prog_7_method_4_code, 4, some FieldType.boolean, 4, 2, 1),
  (⟨"SharesComing$Rows", "greatest", "(JILSharesComing$Ends;)J"⟩, prog_7_method_7_code, 9, some FieldType.long, 4, 3, 1),
  (⟨"SharesComing$Rows", "traced", "(JII)J"⟩, prog_7_method_11_code, 8, some FieldType.long, 4, 3, 1),
  (⟨"SharesComing$Rows", "ending", "(JJ)J"⟩, prog_7_method_12_code, 4, some FieldType.long, 4, 2, 0),
  (⟨"SharesComing$Rows", "spread", "(JJIILSharesComing$Ends;)J"⟩, prog_7_method_13_code, 16, some FieldType.long, 4, 5, 1),
  (⟨"SharesComing$Ranks", "cameWith", "(I)I"⟩, prog_5_method_7_code, 2, some FieldType.int, 2, 1, 1),
  (⟨"SharesComing", "cost", "(I)I"⟩, prog_1_method_16_code, 4, some FieldType.int, 9, 1, 1),
  (⟨"SharesComing$Rows", "leastGreatest", "(JLSharesComing$Ends;J)J"⟩, prog_7_method_8_code, 7, some FieldType.long, 4, 3, 1),
  (⟨"SharesComing$Ranks", "allPlaces", "()I"⟩, prog_5_method_10_code, 1, some FieldType.int, 2, 0, 1),
  (⟨"SharesComing$Rows", "walkOn", "(JJLSharesComing$Ends;)V"⟩, prog_7_method_9_code, 8, none, 4, 3, 1),
  (⟨"SharesComing$Rows", "wasWalked", "(I)Z"⟩, prog_7_method_10_code, 3, some FieldType.boolean, 4, 1, 1),
  (⟨"SharesComing", "fare", "(IIZ)I"⟩, prog_1_method_17_code, 6, some FieldType.int, 9, 3, 1)]
def mtab_8 : List (MethodName × ByteArray × Nat × Option FieldType × Nat × Nat × Nat) := [(⟨"SharesComing$Book", "ways", "(IIZ)LSharesComing$Ways;"⟩, prog_2_method_5_code, 4, some (FieldType.object "SharesComing$Ways"), 0, 3, 1),
  (⟨"SharesComing$Ways", "goBy", "(IZLSharesComing$Ends;)V"⟩, prog_11_method_2_code, 4, none, 7, 3, 1),
  (⟨"SharesComing$Ways", "outcome", "(J)J"⟩, prog_11_method_3_code, 14, some FieldType.long, 7, 1, 1),
  (⟨"SharesComing$Ways", "gift", "(JI)I"⟩, prog_11_method_4_code, 6, some FieldType.int, 7, 2, 1),
  (⟨"SharesComing$Ways", "claim", "(JII)I"⟩, prog_11_method_5_code, 5, some FieldType.int, 7, 3, 1),
  (⟨"SharesComing", "mended", "(II)I"⟩, prog_1_method_18_code, 4, some FieldType.int, 9, 2, 1),
  (⟨"SharesComing", "paper", "(II)I"⟩, prog_1_method_19_code, 3, some FieldType.int, 9, 2, 1),
  (⟨"SharesComing$Will", "chancesFrom", "(II)I"⟩, prog_12_method_21_code, 6, some FieldType.int, 8, 2, 1),
  (⟨"SharesComing", "judge", "(II)I"⟩, prog_1_method_20_code, 3, some FieldType.int, 9, 2, 1),
  (⟨"SharesComing$Rows", "firstUnlawful", "(JII)I"⟩, prog_7_method_5_code, 12, some FieldType.int, 4, 3, 1),
  (⟨"SharesComing", "judged", "(III)I"⟩, prog_1_method_21_code, 4, some FieldType.int, 9, 3, 1),
  (⟨"SharesComing$Rows", "stateAfter", "(JII)J"⟩, prog_7_method_6_code, 11, some FieldType.long, 4, 3, 1),
  (⟨"SharesComing", "image", "(I)Z"⟩, prog_1_method_22_code, 2, some FieldType.boolean, 9, 1, 1),
  (⟨"SharesComing", "on", "(I)Z"⟩, prog_1_method_23_code, 2, some FieldType.boolean, 9, 1, 1),
  (⟨"SharesComing", "count", "(I)I"⟩, prog_1_method_24_code, 2, some FieldType.int, 9, 1, 1),
  (⟨"SharesComingModel", "<init>", "()V"⟩, prog_14_method_1_code, 1, none, 10, 0, 2)]
def mtab_9 : List (MethodName × ByteArray × Nat × Option FieldType × Nat × Nat × Nat) := [(⟨"SharesComingModel", "feed", "(IIIII)I"⟩, prog_14_method_3_code, 8, some FieldType.int, 10, 5, 1),
  (⟨"SharesComingModel", "end", "(I)Z"⟩, prog_14_method_4_code, 2, some FieldType.boolean, 10, 1, 1),
  (⟨"SharesComingModel", "in", "(III)Z"⟩, prog_14_method_2_code, 3, some FieldType.boolean, 10, 3, 0),
  (⟨"SharesComingModel", "fault", "()I"⟩, prog_14_method_19_code, 2, some FieldType.int, 10, 0, 1),
  (⟨"SharesComingModel", "next", "()V"⟩, prog_14_method_7_code, 2, none, 10, 0, 1),
  (⟨"SharesComingModel", "isLetter", "(I)Z"⟩, prog_14_method_5_code, 1, some FieldType.boolean, 10, 1, 0),
  (⟨"SharesComingModel", "isDigit", "(I)Z"⟩, prog_14_method_6_code, 1, some FieldType.boolean, 10, 1, 0),
  (⟨"SharesComingModel", "line", "()Z"⟩, prog_14_method_18_code, 2, some FieldType.boolean, 10, 0, 1),
  (⟨"SharesComingModel", "isWord", "(Ljava/lang/String;)Z"⟩, prog_14_method_9_code, 2, some FieldType.boolean, 10, 1, 1),
  (⟨"SharesComingModel", "packed", "(Ljava/lang/String;)J"⟩, prog_14_method_8_code, 4, some FieldType.long, 10, 1, 0),
  (⟨"java/lang/String", "length", "()I"⟩, prog_17_method_54_code, 1, some FieldType.int, 16, 0, 1),
  (⟨"java/lang/String", "coder", "()B"⟩, prog_17_method_152_code, 1, some FieldType.byte, 16, 0, 1),
  (⟨"java/lang/String", "charAt", "(I)C"⟩, prog_17_method_56_code, 2, some FieldType.char, 16, 1, 1),
  (⟨"java/lang/String", "isLatin1", "()Z"⟩, prog_17_method_154_code, 1, some FieldType.boolean, 16, 0, 1),
  (⟨"java/lang/StringLatin1", "charAt", "([BI)C"⟩, prog_18_method_2_code, 2, some FieldType.char, 17, 2, 0),
  (⟨"java/lang/String", "checkIndex", "(II)V"⟩, prog_17_method_155_code, 2, none, 16, 2, 0)]
def mtab_10 : List (MethodName × ByteArray × Nat × Option FieldType × Nat × Nat × Nat) := [(⟨"jdk/internal/util/Preconditions", "checkIndex", "(IILjava/util/function/BiFunction;)I"⟩, prog_21_method_11_code, 3, some FieldType.int, 19, 3, 0),
  (⟨"SharesComingModel", "heirLine", "(Z)Z"⟩, prog_14_method_15_code, 3, some FieldType.boolean, 10, 1, 1),
  (⟨"SharesComingModel", "isName", "()Z"⟩, prog_14_method_12_code, 1, some FieldType.boolean, 10, 0, 1),
  (⟨"SharesComingModel", "named", "(J)I"⟩, prog_14_method_13_code, 4, some FieldType.int, 10, 1, 1),
  (⟨"SharesComingModel", "isNumber", "(II)Z"⟩, prog_14_method_11_code, 3, some FieldType.boolean, 10, 2, 1),
  (⟨"SharesComingModel", "closes", "()Z"⟩, prog_14_method_14_code, 1, some FieldType.boolean, 10, 0, 1),
  (⟨"SharesComingModel", "isSign", "(I)Z"⟩, prog_14_method_10_code, 2, some FieldType.boolean, 10, 1, 1),
  (⟨"SharesComingModel", "dayLine", "()Z"⟩, prog_14_method_17_code, 1, some FieldType.boolean, 10, 0, 1),
  (⟨"SharesComingModel", "altHere", "()Z"⟩, prog_14_method_16_code, 3, some FieldType.boolean, 10, 0, 1),
  (⟨"SharesComingModel", "matter", "()I"⟩, prog_14_method_20_code, 2, some FieldType.int, 10, 0, 1),
  (⟨"SharesComingModel", "forgets", "()V"⟩, prog_14_method_32_code, 2, none, 10, 0, 1),
  (⟨"SharesComingModel", "heir", "(II)I"⟩, prog_14_method_46_code, 3, some FieldType.int, 10, 2, 1),
  (⟨"SharesComingModel", "isHeir", "(I)Z"⟩, prog_14_method_45_code, 2, some FieldType.boolean, 10, 1, 1),
  (⟨"SharesComingModel", "hasCome", "(JI)Z"⟩, prog_14_method_23_code, 3, some FieldType.boolean, 10, 2, 0),
  (⟨"SharesComingModel", "things", "(JII)I"⟩, prog_14_method_21_code, 4, some FieldType.int, 10, 3, 0),
  (⟨"SharesComingModel", "worthTo", "(JII)I"⟩, prog_14_method_27_code, 7, some FieldType.int, 10, 3, 1)]
def mtab_11 : List (MethodName × ByteArray × Nat × Option FieldType × Nat × Nat × Nat) := [(⟨"SharesComingModel", "alt", "(III)I"⟩, prog_14_method_47_code, 4, some FieldType.int, 10, 3, 1),
  (⟨"SharesComingModel", "altOf", "(III)I"⟩, prog_14_method_26_code, 4, some FieldType.int, 10, 3, 1),
  (⟨"SharesComingModel", "come", "(I)I"⟩, prog_14_method_48_code, 3, some FieldType.int, 10, 1, 1),
  (⟨"SharesComingModel", "give", "(I)Z"⟩, prog_14_method_49_code, 2, some FieldType.boolean, 10, 1, 1),
  (⟨"SharesComingModel", "mayGive", "(JII)Z"⟩, prog_14_method_25_code, 4, some FieldType.boolean, 10, 3, 0),
  (⟨"SharesComingModel", "held", "(J)I"⟩, prog_14_method_24_code, 2, some FieldType.int, 10, 1, 0),
  (⟨"SharesComingModel", "one", "(II)J"⟩, prog_14_method_22_code, 2, some FieldType.long, 10, 2, 0),
  (⟨"SharesComingModel", "reached", "(I)I"⟩, prog_14_method_50_code, 2, some FieldType.int, 10, 1, 1),
  (⟨"SharesComingModel", "isGoal", "(I)Z"⟩, prog_14_method_43_code, 1, some FieldType.boolean, 10, 1, 0),
  (⟨"SharesComingModel", "ends", "(JII)I"⟩, prog_14_method_35_code, 19, some FieldType.int, 10, 3, 1),
  (⟨"SharesComingModel", "backed", "(JII)I"⟩, prog_14_method_33_code, 12, some FieldType.int, 10, 3, 1),
  (⟨"SharesComingModel", "goalOf", "(JI)I"⟩, prog_14_method_31_code, 8, some FieldType.int, 10, 2, 1),
  (⟨"SharesComingModel", "share", "(J)I"⟩, prog_14_method_29_code, 8, some FieldType.int, 10, 1, 1),
  (⟨"SharesComingModel", "manyCame", "(J)I"⟩, prog_14_method_28_code, 5, some FieldType.int, 10, 1, 1),
  (⟨"SharesComingModel", "leftOut", "(JII)I"⟩, prog_14_method_30_code, 12, some FieldType.int, 10, 3, 1),
  (⟨"SharesComingModel", "twice", "(JI)I"⟩, prog_14_method_34_code, 9, some FieldType.int, 10, 2, 1)]
def mtab_12 : List (MethodName × ByteArray × Nat × Option FieldType × Nat × Nat × Nat) := [(⟨"SharesComingModel", "sure", "(IZ)I"⟩, prog_14_method_51_code, 3, some FieldType.int, 10, 2, 1),
  (⟨"SharesComingModel", "solved", "(IZII)J"⟩, prog_14_method_42_code, 12, some FieldType.long, 10, 4, 1),
  (⟨"SharesComingModel", "laysAll", "(I)V"⟩, prog_14_method_39_code, 10, none, 10, 1, 1),
  (⟨"SharesComingModel", "lays", "(JI)V"⟩, prog_14_method_37_code, 5, none, 10, 2, 1),
  (⟨"SharesComingModel", "placeOf", "(JII)I"⟩, prog_14_method_36_code, 6, some FieldType.int, 10, 3, 1),
  (⟨"SharesComingModel", "after", "(JIII)J"⟩, prog_14_method_40_code, 7, some FieldType.long, 10, 4, 1),
  (⟨"SharesComingModel", "valueOf", "(JI)J"⟩, prog_14_method_38_code, 4, some FieldType.long, 10, 2, 1),
  (⟨"SharesComingModel", "given", "(JIII)J"⟩, prog_14_method_41_code, 12, some FieldType.long, 10, 4, 1),
  (⟨"SharesComingModel", "told", "(JZ)I"⟩, prog_14_method_44_code, 7, some FieldType.int, 10, 2, 1),
  (⟨"SharesComingModel", "best", "(IZ)I"⟩, prog_14_method_52_code, 6, some FieldType.int, 10, 2, 1),
  (⟨"SharesComingModel", "proof", "(II)I"⟩, prog_14_method_53_code, 15, some FieldType.int, 10, 2, 1),
  (⟨"SharesComingModel", "known", "(II)I"⟩, prog_14_method_57_code, 3, some FieldType.int, 10, 2, 1),
  (⟨"SharesComingModel", "isAltRow", "(I)Z"⟩, prog_14_method_55_code, 3, some FieldType.boolean, 10, 1, 1),
  (⟨"SharesComingModel", "isRow", "(I)Z"⟩, prog_14_method_54_code, 4, some FieldType.boolean, 10, 1, 1),
  (⟨"SharesComingModel", "knownBy", "(I)I"⟩, prog_14_method_56_code, 11, some FieldType.int, 10, 1, 1),
  (⟨"SharesComingModel", "cost", "(I)I"⟩, prog_14_method_58_code, 6, some FieldType.int, 10, 1, 1)]
def mtab_13 : List (MethodName × ByteArray × Nat × Option FieldType × Nat × Nat × Nat) := [(⟨"SharesComingModel", "fare", "(IIZ)I"⟩, prog_14_method_62_code, 13, some FieldType.int, 10, 3, 1),
  (⟨"SharesComingModel", "goesTo", "(JIII)I"⟩, prog_14_method_59_code, 8, some FieldType.int, 10, 4, 1),
  (⟨"SharesComingModel", "isBefore", "(JIIII)Z"⟩, prog_14_method_60_code, 7, some FieldType.boolean, 10, 5, 1),
  (⟨"SharesComingModel", "manyOf", "(JI)I"⟩, prog_14_method_61_code, 3, some FieldType.int, 10, 2, 0),
  (⟨"SharesComingModel", "mended", "(II)I"⟩, prog_14_method_63_code, 5, some FieldType.int, 10, 2, 1),
  (⟨"SharesComingModel", "paper", "(II)I"⟩, prog_14_method_64_code, 6, some FieldType.int, 10, 2, 1),
  (⟨"SharesComingModel", "judge", "(II)I"⟩, prog_14_method_65_code, 9, some FieldType.int, 10, 2, 1),
  (⟨"SharesComingModel", "judged", "(III)I"⟩, prog_14_method_66_code, 4, some FieldType.int, 10, 3, 1),
  (⟨"SharesComingModel", "image", "(I)Z"⟩, prog_14_method_67_code, 2, some FieldType.boolean, 10, 1, 1),
  (⟨"SharesComingModel", "on", "(I)Z"⟩, prog_14_method_68_code, 2, some FieldType.boolean, 10, 1, 1),
  (⟨"SharesComingModel", "count", "(I)I"⟩, prog_14_method_69_code, 2, some FieldType.int, 10, 1, 1),
  (⟨"SharesComingLaw", "law", "([I)Z"⟩, code, 4, some .boolean, 13, 1, 0)]
def mtab (i : Nat) : MethodName × ByteArray × Nat × Option FieldType × Nat × Nat × Nat := ((match i / 16 with
  | 0 => mtab_0
  | 1 => mtab_1
  | 2 => mtab_2
  | 3 => mtab_3
  | 4 => mtab_4
  | 5 => mtab_5
  | 6 => mtab_6
  | 7 => mtab_7
  | 8 => mtab_8
  | 9 => mtab_9
  | 10 => mtab_10
  | 11 => mtab_11
  | 12 => mtab_12
  | 13 => mtab_13
  | _ => []) : List (MethodName × ByteArray × Nat × Option FieldType × Nat × Nat × Nat)).getD (i % 16) (⟨"", "", ""⟩, ⟨#[]⟩, 0, none, 0, 0, 9)
def mY (i : Nat) : MethodName := (mtab i).1
def mB (i : Nat) : ByteArray := (mtab i).2.1
def mL (i : Nat) : Nat := (mtab i).2.2.1
def mT (i : Nat) : Option FieldType := (mtab i).2.2.2.1
/-- the class that it is of, how many arguments, and 0 static, 1 of an object, 2 a constructor -/
def mO (i : Nat) : Nat := (mtab i).2.2.2.2.1
def mA (i : Nat) : Nat := (mtab i).2.2.2.2.2.1
def mS (i : Nat) : Nat := (mtab i).2.2.2.2.2.2
/-- what the tables say of method i -/
def okM (i : Nat) : Prop := Cond.code (mY i) (mB i) (mL i) (mT i) ∈ WL ∧ Cond.initialized (mY i).cls ∈ WL ∧ (mS i = 0 ∧ Cond.static (mY i) ∈ WL ∨ mS i = 1 ∧ Cond.instanceMethod (mY i) ∈ WL ∧ Cond.selects (mY i).cls (mY i) (mY i) ∈ WL ∨ mS i = 2 ∧ Cond.instanceMethod (mY i) ∈ WL ∧ (mY i).name = "<init>" ∧ mT i = none) ∧ plainName (mY i).cls = true ∧ oN (mO i) = (mY i).cls ∧ ((mY i).cls ≠ "java/lang/invoke/MethodHandle" ∧ (mY i).cls ≠ "java/lang/invoke/VarHandle" ∧ (parseMethodDescriptor (mY i).desc).map (fun d => d.parameters.length) = some (mA i)) ∧ mL i ≤ 60
