-- any word of the tables, by its place
def lw_g : List Cond := lw_tbl.filter goodWord
def lw_x : List Cond := lw_tbl.filter (fun w => match w with | .castable .. => true | .methodLinkNest .. => true | _ => false)
theorem lw_c0 : ∀ w ∈ k2_sels lw_privs, w ∈ lw_tbl := fun _ h => List.mem_append_left _ h
theorem lw_c1 : ∀ w ∈ tables_1_1, w ∈ lw_tbl := fun _ h => List.mem_append_right _ (List.mem_append_left _ h)
theorem lw_c2 : ∀ w ∈ tables_1_2, w ∈ lw_tbl := fun _ h => List.mem_append_right _ (List.mem_append_right _ (List.mem_append_left _ h))
theorem lw_c3 : ∀ w ∈ tables_1_3, w ∈ lw_tbl := fun _ h => List.mem_append_right _ (List.mem_append_right _ (List.mem_append_right _ (List.mem_append_left _ h)))
theorem lw_c4 : ∀ w ∈ tables_1_4, w ∈ lw_tbl := fun _ h => List.mem_append_right _ (List.mem_append_right _ (List.mem_append_right _ (List.mem_append_right _ (List.mem_append_left _ h))))
theorem lw_c5 : ∀ w ∈ tables_1_5, w ∈ lw_tbl := fun _ h => List.mem_append_right _ (List.mem_append_right _ (List.mem_append_right _ (List.mem_append_right _ (List.mem_append_right _ (List.mem_append_left _ h)))))
theorem lw_c6 : ∀ w ∈ tables_1_6, w ∈ lw_tbl := fun _ h => List.mem_append_right _ (List.mem_append_right _ (List.mem_append_right _ (List.mem_append_right _ (List.mem_append_right _ (List.mem_append_right _ (List.mem_append_left _ h))))))
theorem lw_c7 : ∀ w ∈ tables_1_7, w ∈ lw_tbl := fun _ h => List.mem_append_right _ (List.mem_append_right _ (List.mem_append_right _ (List.mem_append_right _ (List.mem_append_right _ (List.mem_append_right _ (List.mem_append_right _ (h)))))))
theorem lw_gi {w : Cond} (h : w ∈ lw_g) : w ∈ lw_tbl := (List.mem_filter.mp h).1
set_option maxRecDepth 20000 in
theorem tw_0 : (Cond.selects "RockHeat" ⟨"RockHeat", "refuse", "(I)I"⟩ ⟨"RockHeat", "refuse", "(I)I"⟩) ∈ lw_g := List.mem_filter.mpr ⟨lw_c0 _ (List.mem_of_getElem? (i := 0) (by rfl)), rfl⟩
set_option maxRecDepth 20000 in
theorem tw_1 : (Cond.selects "RockHeat$Ground" ⟨"RockHeat$Ground", "layFlows", "()V"⟩ ⟨"RockHeat$Ground", "layFlows", "()V"⟩) ∈ lw_g := List.mem_filter.mpr ⟨lw_c0 _ (List.mem_of_getElem? (i := 1) (by rfl)), rfl⟩
set_option maxRecDepth 20000 in
theorem tw_2 : (Cond.selects "RockHeat$Ground" ⟨"RockHeat$Ground", "takeSun", "()V"⟩ ⟨"RockHeat$Ground", "takeSun", "()V"⟩) ∈ lw_g := List.mem_filter.mpr ⟨lw_c0 _ (List.mem_of_getElem? (i := 2) (by rfl)), rfl⟩
set_option maxRecDepth 20000 in
theorem tw_3 : (Cond.selects "RockHeat$Rules" ⟨"RockHeat$Rules", "workOut", "([II)J"⟩ ⟨"RockHeat$Rules", "workOut", "([II)J"⟩) ∈ lw_g := List.mem_filter.mpr ⟨lw_c0 _ (List.mem_of_getElem? (i := 3) (by rfl)), rfl⟩
set_option maxRecDepth 20000 in
theorem tw_4 : (Cond.selects "RockHeat$Rules" ⟨"RockHeat$Rules", "valueOf", "(I)J"⟩ ⟨"RockHeat$Rules", "valueOf", "(I)J"⟩) ∈ lw_g := List.mem_filter.mpr ⟨lw_c0 _ (List.mem_of_getElem? (i := 4) (by rfl)), rfl⟩
set_option maxRecDepth 20000 in
theorem tw_5 : (Cond.selects "RockHeat$Ground" ⟨"RockHeat$Ground", "meet", "(J)V"⟩ ⟨"RockHeat$Ground", "meet", "(J)V"⟩) ∈ lw_g := List.mem_filter.mpr ⟨lw_c0 _ (List.mem_of_getElem? (i := 5) (by rfl)), rfl⟩
set_option maxRecDepth 20000 in
theorem tw_6 : (Cond.selects "java/util/ArrayList" ⟨"java/util/ArrayList", "add", "(Ljava/lang/Object;[Ljava/lang/Object;I)V"⟩ ⟨"java/util/ArrayList", "add", "(Ljava/lang/Object;[Ljava/lang/Object;I)V"⟩) ∈ lw_g := List.mem_filter.mpr ⟨lw_c0 _ (List.mem_of_getElem? (i := 6) (by rfl)), rfl⟩
set_option maxRecDepth 20000 in
theorem tw_7 : (Cond.selects "java/util/ArrayList" ⟨"java/util/ArrayList", "grow", "()[Ljava/lang/Object;"⟩ ⟨"java/util/ArrayList", "grow", "()[Ljava/lang/Object;"⟩) ∈ lw_g := List.mem_filter.mpr ⟨lw_c0 _ (List.mem_of_getElem? (i := 7) (by rfl)), rfl⟩
set_option maxRecDepth 20000 in
theorem tw_8 : (Cond.selects "java/util/ArrayList" ⟨"java/util/ArrayList", "grow", "(I)[Ljava/lang/Object;"⟩ ⟨"java/util/ArrayList", "grow", "(I)[Ljava/lang/Object;"⟩) ∈ lw_g := List.mem_filter.mpr ⟨lw_c0 _ (List.mem_of_getElem? (i := 8) (by rfl)), rfl⟩
set_option maxRecDepth 20000 in
theorem tw_9 : (Cond.selects "RockHeat" ⟨"RockHeat", "findRing", "(II)LRockHeat$Ring;"⟩ ⟨"RockHeat", "findRing", "(II)LRockHeat$Ring;"⟩) ∈ lw_g := List.mem_filter.mpr ⟨lw_c0 _ (List.mem_of_getElem? (i := 9) (by rfl)), rfl⟩
set_option maxRecDepth 20000 in
theorem tw_10 : (Cond.selects "RockHeat" ⟨"RockHeat", "refuseLong", "(I)J"⟩ ⟨"RockHeat", "refuseLong", "(I)J"⟩) ∈ lw_g := List.mem_filter.mpr ⟨lw_c0 _ (List.mem_of_getElem? (i := 10) (by rfl)), rfl⟩
set_option maxRecDepth 20000 in
theorem tw_11 : (Cond.selects "RockHeat$Tape" ⟨"RockHeat$Tape", "readSum", "(I)V"⟩ ⟨"RockHeat$Tape", "readSum", "(I)V"⟩) ∈ lw_g := List.mem_filter.mpr ⟨lw_c0 _ (List.mem_of_getElem? (i := 11) (by rfl)), rfl⟩
set_option maxRecDepth 20000 in
theorem tw_12 : (Cond.selects "RockHeat$Tape" ⟨"RockHeat$Tape", "readTerm", "(I)V"⟩ ⟨"RockHeat$Tape", "readTerm", "(I)V"⟩) ∈ lw_g := List.mem_filter.mpr ⟨lw_c0 _ (List.mem_of_getElem? (i := 12) (by rfl)), rfl⟩
set_option maxRecDepth 20000 in
theorem tw_13 : (Cond.selects "RockHeat$Tape" ⟨"RockHeat$Tape", "readUnit", "(I)V"⟩ ⟨"RockHeat$Tape", "readUnit", "(I)V"⟩) ∈ lw_g := List.mem_filter.mpr ⟨lw_c0 _ (List.mem_of_getElem? (i := 13) (by rfl)), rfl⟩
set_option maxRecDepth 20000 in
theorem tw_14 : (Cond.selects "RockHeat$Tape" ⟨"RockHeat$Tape", "isAtDigit", "()Z"⟩ ⟨"RockHeat$Tape", "isAtDigit", "()Z"⟩) ∈ lw_g := List.mem_filter.mpr ⟨lw_c0 _ (List.mem_of_getElem? (i := 14) (by rfl)), rfl⟩
set_option maxRecDepth 20000 in
theorem tw_15 : (Cond.selects "RockHeat$Tape" ⟨"RockHeat$Tape", "seen", "()I"⟩ ⟨"RockHeat$Tape", "seen", "()I"⟩) ∈ lw_g := List.mem_filter.mpr ⟨lw_c0 _ (List.mem_of_getElem? (i := 15) (by rfl)), rfl⟩
set_option maxRecDepth 20000 in
theorem tw_16 : (Cond.selects "RockHeat$Tape" ⟨"RockHeat$Tape", "readNumber", "()V"⟩ ⟨"RockHeat$Tape", "readNumber", "()V"⟩) ∈ lw_g := List.mem_filter.mpr ⟨lw_c0 _ (List.mem_of_getElem? (i := 16) (by rfl)), rfl⟩
set_option maxRecDepth 20000 in
theorem tw_17 : (Cond.selects "RockHeat$Tape" ⟨"RockHeat$Tape", "emit", "(I)V"⟩ ⟨"RockHeat$Tape", "emit", "(I)V"⟩) ∈ lw_g := List.mem_filter.mpr ⟨lw_c0 _ (List.mem_of_getElem? (i := 17) (by rfl)), rfl⟩
set_option maxRecDepth 20000 in
theorem tw_18 : (Cond.selects "RockHeat$Tape" ⟨"RockHeat$Tape", "isAt", "(Ljava/lang/String;)Z"⟩ ⟨"RockHeat$Tape", "isAt", "(Ljava/lang/String;)Z"⟩) ∈ lw_g := List.mem_filter.mpr ⟨lw_c0 _ (List.mem_of_getElem? (i := 18) (by rfl)), rfl⟩
set_option maxRecDepth 20000 in
theorem tw_19 : (Cond.selects "RockHeat$Tape" ⟨"RockHeat$Tape", "readBracket", "(I)V"⟩ ⟨"RockHeat$Tape", "readBracket", "(I)V"⟩) ∈ lw_g := List.mem_filter.mpr ⟨lw_c0 _ (List.mem_of_getElem? (i := 19) (by rfl)), rfl⟩
set_option maxRecDepth 20000 in
theorem tw_20 : (Cond.selects "RockHeat$Tape" ⟨"RockHeat$Tape", "takeOperator", "()I"⟩ ⟨"RockHeat$Tape", "takeOperator", "()I"⟩) ∈ lw_g := List.mem_filter.mpr ⟨lw_c0 _ (List.mem_of_getElem? (i := 20) (by rfl)), rfl⟩
set_option maxRecDepth 20000 in
theorem tw_21 : (Cond.selects "RockHeat$Tape" ⟨"RockHeat$Tape", "fail", "()V"⟩ ⟨"RockHeat$Tape", "fail", "()V"⟩) ∈ lw_g := List.mem_filter.mpr ⟨lw_c0 _ (List.mem_of_getElem? (i := 21) (by rfl)), rfl⟩
set_option maxRecDepth 20000 in
theorem tw_22 : (Cond.selects "RockHeat" ⟨"RockHeat", "passColdest", "(I)V"⟩ ⟨"RockHeat", "passColdest", "(I)V"⟩) ∈ lw_g := List.mem_filter.mpr ⟨lw_c0 _ (List.mem_of_getElem? (i := 22) (by rfl)), rfl⟩
set_option maxRecDepth 20000 in
theorem tw_23 : (Cond.selects "RockHeat" ⟨"RockHeat", "isEnough", "(IIJ)Z"⟩ ⟨"RockHeat", "isEnough", "(IIJ)Z"⟩) ∈ lw_g := List.mem_filter.mpr ⟨lw_c0 _ (List.mem_of_getElem? (i := 23) (by rfl)), rfl⟩
set_option maxRecDepth 20000 in
theorem tw_24 : (Cond.selects "RockHeat" ⟨"RockHeat", "givenInMind", "(III)J"⟩ ⟨"RockHeat", "givenInMind", "(III)J"⟩) ∈ lw_g := List.mem_filter.mpr ⟨lw_c0 _ (List.mem_of_getElem? (i := 24) (by rfl)), rfl⟩
set_option maxRecDepth 20000 in
theorem tw_25 : (Cond.selects "RockHeat$Tank" ⟨"RockHeat$Tank", "leastFrom", "(II)J"⟩ ⟨"RockHeat$Tank", "leastFrom", "(II)J"⟩) ∈ lw_g := List.mem_filter.mpr ⟨lw_c0 _ (List.mem_of_getElem? (i := 25) (by rfl)), rfl⟩
set_option maxRecDepth 20000 in
theorem tw_26 : (Cond.selects "RockHeat$Tank" ⟨"RockHeat$Tank", "costOf", "(III)J"⟩ ⟨"RockHeat$Tank", "costOf", "(III)J"⟩) ∈ lw_g := List.mem_filter.mpr ⟨lw_c0 _ (List.mem_of_getElem? (i := 26) (by rfl)), rfl⟩
set_option maxRecDepth 20000 in
theorem tw_27 : (Cond.selects "RockHeat$Tank" ⟨"RockHeat$Tank", "firstBest", "(II)I"⟩ ⟨"RockHeat$Tank", "firstBest", "(II)I"⟩) ∈ lw_g := List.mem_filter.mpr ⟨lw_c0 _ (List.mem_of_getElem? (i := 27) (by rfl)), rfl⟩
set_option maxRecDepth 20000 in
theorem tw_28 : (Cond.selects "RockHeatModel" ⟨"RockHeatModel", "refuse", "(I)I"⟩ ⟨"RockHeatModel", "refuse", "(I)I"⟩) ∈ lw_g := List.mem_filter.mpr ⟨lw_c0 _ (List.mem_of_getElem? (i := 28) (by rfl)), rfl⟩
set_option maxRecDepth 20000 in
theorem tw_29 : (Cond.selects "RockHeatModel" ⟨"RockHeatModel", "goes", "()V"⟩ ⟨"RockHeatModel", "goes", "()V"⟩) ∈ lw_g := List.mem_filter.mpr ⟨lw_c0 _ (List.mem_of_getElem? (i := 29) (by rfl)), rfl⟩
set_option maxRecDepth 20000 in
theorem tw_30 : (Cond.selects "RockHeatModel" ⟨"RockHeatModel", "begins", "()V"⟩ ⟨"RockHeatModel", "begins", "()V"⟩) ∈ lw_g := List.mem_filter.mpr ⟨lw_c0 _ (List.mem_of_getElem? (i := 30) (by rfl)), rfl⟩
set_option maxRecDepth 20000 in
theorem tw_31 : (Cond.selects "RockHeatModel" ⟨"RockHeatModel", "mayOf", "(II)J"⟩ ⟨"RockHeatModel", "mayOf", "(II)J"⟩) ∈ lw_g := List.mem_filter.mpr ⟨lw_c0 _ (List.mem_of_getElem? (i := 31) (by rfl)), rfl⟩
set_option maxRecDepth 20000 in
theorem tw_32 : (Cond.selects "RockHeatModel" ⟨"RockHeatModel", "needOf", "(I)J"⟩ ⟨"RockHeatModel", "needOf", "(I)J"⟩) ∈ lw_g := List.mem_filter.mpr ⟨lw_c0 _ (List.mem_of_getElem? (i := 32) (by rfl)), rfl⟩
set_option maxRecDepth 20000 in
theorem tw_33 : (Cond.selects "RockHeatModel" ⟨"RockHeatModel", "isJoined", "(II)Z"⟩ ⟨"RockHeatModel", "isJoined", "(II)Z"⟩) ∈ lw_g := List.mem_filter.mpr ⟨lw_c0 _ (List.mem_of_getElem? (i := 33) (by rfl)), rfl⟩
set_option maxRecDepth 20000 in
theorem tw_34 : (Cond.selects "RockHeatModel" ⟨"RockHeatModel", "warmthOf", "(II)J"⟩ ⟨"RockHeatModel", "warmthOf", "(II)J"⟩) ∈ lw_g := List.mem_filter.mpr ⟨lw_c0 _ (List.mem_of_getElem? (i := 34) (by rfl)), rfl⟩
set_option maxRecDepth 20000 in
theorem tw_35 : (Cond.selects "RockHeatModel" ⟨"RockHeatModel", "holdOf", "(II)I"⟩ ⟨"RockHeatModel", "holdOf", "(II)I"⟩) ∈ lw_g := List.mem_filter.mpr ⟨lw_c0 _ (List.mem_of_getElem? (i := 35) (by rfl)), rfl⟩
set_option maxRecDepth 20000 in
theorem tw_36 : (Cond.selects "RockHeatModel" ⟨"RockHeatModel", "worth", "(I)J"⟩ ⟨"RockHeatModel", "worth", "(I)J"⟩) ∈ lw_g := List.mem_filter.mpr ⟨lw_c0 _ (List.mem_of_getElem? (i := 36) (by rfl)), rfl⟩
set_option maxRecDepth 20000 in
theorem tw_37 : (Cond.selects "RockHeatModel" ⟨"RockHeatModel", "liftAt", "(J)J"⟩ ⟨"RockHeatModel", "liftAt", "(J)J"⟩) ∈ lw_g := List.mem_filter.mpr ⟨lw_c0 _ (List.mem_of_getElem? (i := 37) (by rfl)), rfl⟩
set_option maxRecDepth 20000 in
theorem tw_38 : (Cond.selects "RockHeatModel" ⟨"RockHeatModel", "ground", "()V"⟩ ⟨"RockHeatModel", "ground", "()V"⟩) ∈ lw_g := List.mem_filter.mpr ⟨lw_c0 _ (List.mem_of_getElem? (i := 38) (by rfl)), rfl⟩
set_option maxRecDepth 20000 in
theorem tw_39 : (Cond.selects "RockHeatModel" ⟨"RockHeatModel", "atFirst", "(II)J"⟩ ⟨"RockHeatModel", "atFirst", "(II)J"⟩) ∈ lw_g := List.mem_filter.mpr ⟨lw_c0 _ (List.mem_of_getElem? (i := 39) (by rfl)), rfl⟩
set_option maxRecDepth 20000 in
theorem tw_40 : (Cond.selects "RockHeatModel" ⟨"RockHeatModel", "farOf", "(II)I"⟩ ⟨"RockHeatModel", "farOf", "(II)I"⟩) ∈ lw_g := List.mem_filter.mpr ⟨lw_c0 _ (List.mem_of_getElem? (i := 40) (by rfl)), rfl⟩
set_option maxRecDepth 20000 in
theorem tw_41 : (Cond.selects "RockHeatModel" ⟨"RockHeatModel", "isBore", "(I)Z"⟩ ⟨"RockHeatModel", "isBore", "(I)Z"⟩) ∈ lw_g := List.mem_filter.mpr ⟨lw_c0 _ (List.mem_of_getElem? (i := 41) (by rfl)), rfl⟩
set_option maxRecDepth 20000 in
theorem tw_42 : (Cond.selects "RockHeatModel" ⟨"RockHeatModel", "isRing", "(II)Z"⟩ ⟨"RockHeatModel", "isRing", "(II)Z"⟩) ∈ lw_g := List.mem_filter.mpr ⟨lw_c0 _ (List.mem_of_getElem? (i := 42) (by rfl)), rfl⟩
set_option maxRecDepth 20000 in
theorem tw_43 : (Cond.selects "RockHeatModel" ⟨"RockHeatModel", "refuseLong", "(I)J"⟩ ⟨"RockHeatModel", "refuseLong", "(I)J"⟩) ∈ lw_g := List.mem_filter.mpr ⟨lw_c0 _ (List.mem_of_getElem? (i := 43) (by rfl)), rfl⟩
set_option maxRecDepth 20000 in
theorem tw_44 : (Cond.selects "RockHeatModel" ⟨"RockHeatModel", "barred", "(III)I"⟩ ⟨"RockHeatModel", "barred", "(III)I"⟩) ∈ lw_g := List.mem_filter.mpr ⟨lw_c0 _ (List.mem_of_getElem? (i := 44) (by rfl)), rfl⟩
set_option maxRecDepth 20000 in
theorem tw_45 : (Cond.selects "RockHeatModel" ⟨"RockHeatModel", "sum", "(I)V"⟩ ⟨"RockHeatModel", "sum", "(I)V"⟩) ∈ lw_g := List.mem_filter.mpr ⟨lw_c0 _ (List.mem_of_getElem? (i := 45) (by rfl)), rfl⟩
set_option maxRecDepth 20000 in
theorem tw_46 : (Cond.selects "RockHeatModel" ⟨"RockHeatModel", "term", "(I)V"⟩ ⟨"RockHeatModel", "term", "(I)V"⟩) ∈ lw_g := List.mem_filter.mpr ⟨lw_c0 _ (List.mem_of_getElem? (i := 46) (by rfl)), rfl⟩
set_option maxRecDepth 20000 in
theorem tw_47 : (Cond.selects "RockHeatModel" ⟨"RockHeatModel", "unit", "(I)V"⟩ ⟨"RockHeatModel", "unit", "(I)V"⟩) ∈ lw_g := List.mem_filter.mpr ⟨lw_c0 _ (List.mem_of_getElem? (i := 47) (by rfl)), rfl⟩
set_option maxRecDepth 20000 in
theorem tw_48 : (Cond.selects "RockHeatModel" ⟨"RockHeatModel", "here", "()I"⟩ ⟨"RockHeatModel", "here", "()I"⟩) ∈ lw_g := List.mem_filter.mpr ⟨lw_c0 _ (List.mem_of_getElem? (i := 48) (by rfl)), rfl⟩
set_option maxRecDepth 20000 in
theorem tw_49 : (Cond.selects "RockHeatModel" ⟨"RockHeatModel", "puts", "(I)V"⟩ ⟨"RockHeatModel", "puts", "(I)V"⟩) ∈ lw_g := List.mem_filter.mpr ⟨lw_c0 _ (List.mem_of_getElem? (i := 49) (by rfl)), rfl⟩
set_option maxRecDepth 20000 in
theorem tw_50 : (Cond.selects "RockHeatModel" ⟨"RockHeatModel", "compares", "(I)V"⟩ ⟨"RockHeatModel", "compares", "(I)V"⟩) ∈ lw_g := List.mem_filter.mpr ⟨lw_c0 _ (List.mem_of_getElem? (i := 50) (by rfl)), rfl⟩
set_option maxRecDepth 20000 in
theorem tw_51 : (Cond.selects "RockHeatModel" ⟨"RockHeatModel", "bars", "(II)I"⟩ ⟨"RockHeatModel", "bars", "(II)I"⟩) ∈ lw_g := List.mem_filter.mpr ⟨lw_c0 _ (List.mem_of_getElem? (i := 51) (by rfl)), rfl⟩
set_option maxRecDepth 20000 in
theorem tw_52 : (Cond.selects "RockHeatModel" ⟨"RockHeatModel", "keeps", "()V"⟩ ⟨"RockHeatModel", "keeps", "()V"⟩) ∈ lw_g := List.mem_filter.mpr ⟨lw_c0 _ (List.mem_of_getElem? (i := 52) (by rfl)), rfl⟩
set_option maxRecDepth 20000 in
theorem tw_53 : (Cond.selects "RockHeatModel" ⟨"RockHeatModel", "laysBack", "()V"⟩ ⟨"RockHeatModel", "laysBack", "()V"⟩) ∈ lw_g := List.mem_filter.mpr ⟨lw_c0 _ (List.mem_of_getElem? (i := 53) (by rfl)), rfl⟩
set_option maxRecDepth 20000 in
theorem tw_54 : (Cond.selects "RockHeatModel" ⟨"RockHeatModel", "givenBy", "(III)J"⟩ ⟨"RockHeatModel", "givenBy", "(III)J"⟩) ∈ lw_g := List.mem_filter.mpr ⟨lw_c0 _ (List.mem_of_getElem? (i := 54) (by rfl)), rfl⟩
set_option maxRecDepth 20000 in
theorem tw_55 : (Cond.selects "RockHeatModel" ⟨"RockHeatModel", "plans", "()V"⟩ ⟨"RockHeatModel", "plans", "()V"⟩) ∈ lw_g := List.mem_filter.mpr ⟨lw_c0 _ (List.mem_of_getElem? (i := 55) (by rfl)), rfl⟩
set_option maxRecDepth 20000 in
theorem tw_56 : (Cond.selects "RockHeatModel" ⟨"RockHeatModel", "mayBe", "(III)Z"⟩ ⟨"RockHeatModel", "mayBe", "(III)Z"⟩) ∈ lw_g := List.mem_filter.mpr ⟨lw_c0 _ (List.mem_of_getElem? (i := 56) (by rfl)), rfl⟩
set_option maxRecDepth 20000 in
theorem tw_57 : (Cond.selects "RockHeatModel" ⟨"RockHeatModel", "boughtIn", "(II)J"⟩ ⟨"RockHeatModel", "boughtIn", "(II)J"⟩) ∈ lw_g := List.mem_filter.mpr ⟨lw_c0 _ (List.mem_of_getElem? (i := 57) (by rfl)), rfl⟩
set_option maxRecDepth 20000 in
theorem tw_58 : (Cond.selects "RockHeatModel" ⟨"RockHeatModel", "costIn", "(II)J"⟩ ⟨"RockHeatModel", "costIn", "(II)J"⟩) ∈ lw_g := List.mem_filter.mpr ⟨lw_c0 _ (List.mem_of_getElem? (i := 58) (by rfl)), rfl⟩
set_option maxRecDepth 20000 in
theorem tw_59 : (Jvm.Cond.initialized "RockHeatLaw") ∈ lw_g := List.mem_filter.mpr ⟨lw_c1 _ (List.mem_of_getElem? (i := 0) (by rfl)), rfl⟩
set_option maxRecDepth 20000 in
theorem tw_60 : (Jvm.Cond.initialized "RockHeat") ∈ lw_g := List.mem_filter.mpr ⟨lw_c1 _ (List.mem_of_getElem? (i := 1) (by rfl)), rfl⟩
set_option maxRecDepth 20000 in
theorem tw_61 : (Jvm.Cond.initialized "RockHeat$Town") ∈ lw_g := List.mem_filter.mpr ⟨lw_c1 _ (List.mem_of_getElem? (i := 2) (by rfl)), rfl⟩
set_option maxRecDepth 20000 in
theorem tw_62 : (Jvm.Cond.initialized "java/util/AbstractCollection") ∈ lw_g := List.mem_filter.mpr ⟨lw_c1 _ (List.mem_of_getElem? (i := 3) (by rfl)), rfl⟩
set_option maxRecDepth 20000 in
theorem tw_63 : (Jvm.Cond.initialized "java/util/AbstractList") ∈ lw_g := List.mem_filter.mpr ⟨lw_c1 _ (List.mem_of_getElem? (i := 4) (by rfl)), rfl⟩
set_option maxRecDepth 20000 in
theorem tw_64 : (Jvm.Cond.initialized "java/util/ArrayList") ∈ lw_g := List.mem_filter.mpr ⟨lw_c1 _ (List.mem_of_getElem? (i := 5) (by rfl)), rfl⟩
set_option maxRecDepth 20000 in
theorem tw_65 : (Jvm.Cond.initialized "RockHeat$Table") ∈ lw_g := List.mem_filter.mpr ⟨lw_c1 _ (List.mem_of_getElem? (i := 6) (by rfl)), rfl⟩
set_option maxRecDepth 20000 in
theorem tw_66 : (Jvm.Cond.initialized "RockHeat$Rules") ∈ lw_g := List.mem_filter.mpr ⟨lw_c1 _ (List.mem_of_getElem? (i := 7) (by rfl)), rfl⟩
set_option maxRecDepth 20000 in
theorem tw_67 : (Jvm.Cond.initialized "RockHeat$Tape") ∈ lw_g := List.mem_filter.mpr ⟨lw_c1 _ (List.mem_of_getElem? (i := 8) (by rfl)), rfl⟩
set_option maxRecDepth 20000 in
theorem tw_68 : (Jvm.Cond.initialized "RockHeat$Tank") ∈ lw_g := List.mem_filter.mpr ⟨lw_c1 _ (List.mem_of_getElem? (i := 9) (by rfl)), rfl⟩
set_option maxRecDepth 20000 in
theorem tw_69 : (Jvm.Cond.initialized "RockHeat$Ground") ∈ lw_g := List.mem_filter.mpr ⟨lw_c1 _ (List.mem_of_getElem? (i := 10) (by rfl)), rfl⟩
set_option maxRecDepth 20000 in
theorem tw_70 : (Jvm.Cond.initialized "RockHeatModel") ∈ lw_g := List.mem_filter.mpr ⟨lw_c1 _ (List.mem_of_getElem? (i := 11) (by rfl)), rfl⟩
set_option maxRecDepth 20000 in
theorem tw_71 : (Jvm.Cond.initialized "java/lang/Math") ∈ lw_g := List.mem_filter.mpr ⟨lw_c1 _ (List.mem_of_getElem? (i := 12) (by rfl)), rfl⟩
set_option maxRecDepth 20000 in
theorem tw_72 : (Jvm.Cond.initialized "java/util/Objects") ∈ lw_g := List.mem_filter.mpr ⟨lw_c1 _ (List.mem_of_getElem? (i := 13) (by rfl)), rfl⟩
set_option maxRecDepth 20000 in
theorem tw_73 : (Jvm.Cond.initialized "jdk/internal/util/Preconditions") ∈ lw_g := List.mem_filter.mpr ⟨lw_c1 _ (List.mem_of_getElem? (i := 14) (by rfl)), rfl⟩
set_option maxRecDepth 20000 in
theorem tw_74 : (Jvm.Cond.initialized "RockHeat$Bore") ∈ lw_g := List.mem_filter.mpr ⟨lw_c1 _ (List.mem_of_getElem? (i := 15) (by rfl)), rfl⟩
set_option maxRecDepth 20000 in
theorem tw_75 : (Jvm.Cond.initialized "RockHeat$Ring") ∈ lw_g := List.mem_filter.mpr ⟨lw_c1 _ (List.mem_of_getElem? (i := 16) (by rfl)), rfl⟩
set_option maxRecDepth 20000 in
theorem tw_76 : (Jvm.Cond.initialized "jdk/internal/util/ArraysSupport") ∈ lw_g := List.mem_filter.mpr ⟨lw_c1 _ (List.mem_of_getElem? (i := 17) (by rfl)), rfl⟩
set_option maxRecDepth 20000 in
theorem tw_77 : (Jvm.Cond.initialized "java/util/Arrays") ∈ lw_g := List.mem_filter.mpr ⟨lw_c1 _ (List.mem_of_getElem? (i := 18) (by rfl)), rfl⟩
set_option maxRecDepth 20000 in
theorem tw_78 : (Jvm.Cond.initialized "java/lang/System") ∈ lw_g := List.mem_filter.mpr ⟨lw_c1 _ (List.mem_of_getElem? (i := 19) (by rfl)), rfl⟩
set_option maxRecDepth 20000 in
theorem tw_79 : (Jvm.Cond.initialized "RockHeat$House") ∈ lw_g := List.mem_filter.mpr ⟨lw_c1 _ (List.mem_of_getElem? (i := 20) (by rfl)), rfl⟩
set_option maxRecDepth 20000 in
theorem tw_80 : (Jvm.Cond.initialized "java/lang/String") ∈ lw_g := List.mem_filter.mpr ⟨lw_c1 _ (List.mem_of_getElem? (i := 21) (by rfl)), rfl⟩
set_option maxRecDepth 20000 in
theorem tw_81 : (Jvm.Cond.initialized "java/lang/StringLatin1") ∈ lw_g := List.mem_filter.mpr ⟨lw_c1 _ (List.mem_of_getElem? (i := 22) (by rfl)), rfl⟩
set_option maxRecDepth 20000 in
theorem tw_82 : (Jvm.Cond.initialized "java/lang/StringUTF16") ∈ lw_g := List.mem_filter.mpr ⟨lw_c1 _ (List.mem_of_getElem? (i := 23) (by rfl)), rfl⟩
set_option maxRecDepth 20000 in
theorem tw_83 : (Jvm.Cond.initialized "java/lang/Character") ∈ lw_g := List.mem_filter.mpr ⟨lw_c1 _ (List.mem_of_getElem? (i := 24) (by rfl)), rfl⟩
set_option maxRecDepth 20000 in
theorem tw_84 : (Jvm.Cond.initialized "RockHeat$Rule") ∈ lw_g := List.mem_filter.mpr ⟨lw_c1 _ (List.mem_of_getElem? (i := 25) (by rfl)), rfl⟩
set_option maxRecDepth 20000 in
theorem tw_85 : (Jvm.Cond.initialized "java/lang/Integer") ∈ lw_g := List.mem_filter.mpr ⟨lw_c1 _ (List.mem_of_getElem? (i := 26) (by rfl)), rfl⟩
set_option maxRecDepth 20000 in
theorem tw_86 : (Jvm.Cond.initialized "RockHeat$Reading") ∈ lw_g := List.mem_filter.mpr ⟨lw_c1 _ (List.mem_of_getElem? (i := 27) (by rfl)), rfl⟩
set_option maxRecDepth 20000 in
theorem tw_87 : (Jvm.Cond.classLink "RockHeatLaw" (7 : Nat) "RockHeat") ∈ lw_g := List.mem_filter.mpr ⟨lw_c1 _ (List.mem_of_getElem? (i := 28) (by rfl)), rfl⟩
set_option maxRecDepth 20000 in
theorem tw_88 : (Jvm.Cond.instantiable "RockHeat" (11 : Nat)) ∈ lw_g := List.mem_filter.mpr ⟨lw_c1 _ (List.mem_of_getElem? (i := 29) (by rfl)), rfl⟩
set_option maxRecDepth 20000 in
theorem tw_89 : (Jvm.Cond.methodLink "RockHeatLaw" (9 : Nat) ({ cls := "RockHeat", name := "<init>", desc := "()V" } : Jvm.MethodName)) ∈ lw_g := List.mem_filter.mpr ⟨lw_c1 _ (List.mem_of_getElem? (i := 30) (by rfl)), rfl⟩
set_option maxRecDepth 20000 in
theorem tw_90 : (Jvm.Cond.instanceMethod ({ cls := "RockHeat", name := "<init>", desc := "()V" } : Jvm.MethodName)) ∈ lw_g := List.mem_filter.mpr ⟨lw_c1 _ (List.mem_of_getElem? (i := 31) (by rfl)), rfl⟩
set_option maxRecDepth 20000 in
theorem tw_91 : (Jvm.Cond.code ({ cls := "RockHeat", name := "<init>", desc := "()V" } : Jvm.MethodName) prog_1_method_1_code (1 : Nat) (Option.none : Option Jvm.ClassFile.FieldType)) ∈ lw_g := List.mem_filter.mpr ⟨lw_c1 _ (List.mem_of_getElem? (i := 32) (by rfl)), rfl⟩
set_option maxRecDepth 20000 in
theorem tw_92 : (Jvm.Cond.methodLink "RockHeat" (1 : Nat) ({ cls := "java/lang/Object", name := "<init>", desc := "()V" } : Jvm.MethodName)) ∈ lw_g := List.mem_filter.mpr ⟨lw_c1 _ (List.mem_of_getElem? (i := 33) (by rfl)), rfl⟩
set_option maxRecDepth 20000 in
theorem tw_93 : (Jvm.Cond.instanceMethod ({ cls := "java/lang/Object", name := "<init>", desc := "()V" } : Jvm.MethodName)) ∈ lw_g := List.mem_filter.mpr ⟨lw_c1 _ (List.mem_of_getElem? (i := 34) (by rfl)), rfl⟩
set_option maxRecDepth 20000 in
theorem tw_94 : (Jvm.Cond.code ({ cls := "java/lang/Object", name := "<init>", desc := "()V" } : Jvm.MethodName) object_method_1_code (1 : Nat) (Option.none : Option Jvm.ClassFile.FieldType)) ∈ lw_g := List.mem_filter.mpr ⟨lw_c1 _ (List.mem_of_getElem? (i := 35) (by rfl)), rfl⟩
set_option maxRecDepth 20000 in
theorem tw_95 : (Jvm.Cond.classLink "RockHeat" (7 : Nat) "RockHeat$Town") ∈ lw_g := List.mem_filter.mpr ⟨lw_c1 _ (List.mem_of_getElem? (i := 36) (by rfl)), rfl⟩
set_option maxRecDepth 20000 in
theorem tw_96 : (Jvm.Cond.instantiable "RockHeat$Town" (4 : Nat)) ∈ lw_g := List.mem_filter.mpr ⟨lw_c1 _ (List.mem_of_getElem? (i := 37) (by rfl)), rfl⟩
set_option maxRecDepth 20000 in
theorem tw_97 : (Jvm.Cond.methodLink "RockHeat" (9 : Nat) ({ cls := "RockHeat$Town", name := "<init>", desc := "()V" } : Jvm.MethodName)) ∈ lw_g := List.mem_filter.mpr ⟨lw_c1 _ (List.mem_of_getElem? (i := 38) (by rfl)), rfl⟩
set_option maxRecDepth 20000 in
theorem tw_98 : (Jvm.Cond.instanceMethod ({ cls := "RockHeat$Town", name := "<init>", desc := "()V" } : Jvm.MethodName)) ∈ lw_g := List.mem_filter.mpr ⟨lw_c1 _ (List.mem_of_getElem? (i := 39) (by rfl)), rfl⟩
set_option maxRecDepth 20000 in
theorem tw_99 : (Jvm.Cond.code ({ cls := "RockHeat$Town", name := "<init>", desc := "()V" } : Jvm.MethodName) prog_12_method_1_code (2 : Nat) (Option.none : Option Jvm.ClassFile.FieldType)) ∈ lw_g := List.mem_filter.mpr ⟨lw_c1 _ (List.mem_of_getElem? (i := 40) (by rfl)), rfl⟩
set_option maxRecDepth 20000 in
theorem tw_100 : (Jvm.Cond.methodLink "RockHeat$Town" (3 : Nat) ({ cls := "java/lang/Object", name := "<init>", desc := "()V" } : Jvm.MethodName)) ∈ lw_g := List.mem_filter.mpr ⟨lw_c1 _ (List.mem_of_getElem? (i := 41) (by rfl)), rfl⟩
set_option maxRecDepth 20000 in
theorem tw_101 : (Jvm.Cond.classLink "RockHeat$Town" (9 : Nat) "java/util/ArrayList") ∈ lw_g := List.mem_filter.mpr ⟨lw_c1 _ (List.mem_of_getElem? (i := 42) (by rfl)), rfl⟩
set_option maxRecDepth 20000 in
theorem tw_102 : (Jvm.Cond.instantiable "java/util/ArrayList" (3 : Nat)) ∈ lw_g := List.mem_filter.mpr ⟨lw_c1 _ (List.mem_of_getElem? (i := 43) (by rfl)), rfl⟩
set_option maxRecDepth 20000 in
theorem tw_103 : (Jvm.Cond.methodLink "RockHeat$Town" (11 : Nat) ({ cls := "java/util/ArrayList", name := "<init>", desc := "()V" } : Jvm.MethodName)) ∈ lw_g := List.mem_filter.mpr ⟨lw_c1 _ (List.mem_of_getElem? (i := 44) (by rfl)), rfl⟩
set_option maxRecDepth 20000 in
theorem tw_104 : (Jvm.Cond.instanceMethod ({ cls := "java/util/ArrayList", name := "<init>", desc := "()V" } : Jvm.MethodName)) ∈ lw_g := List.mem_filter.mpr ⟨lw_c1 _ (List.mem_of_getElem? (i := 45) (by rfl)), rfl⟩
set_option maxRecDepth 20000 in
theorem tw_105 : (Jvm.Cond.code ({ cls := "java/util/ArrayList", name := "<init>", desc := "()V" } : Jvm.MethodName) prog_31_method_2_code (1 : Nat) (Option.none : Option Jvm.ClassFile.FieldType)) ∈ lw_g := List.mem_filter.mpr ⟨lw_c1 _ (List.mem_of_getElem? (i := 46) (by rfl)), rfl⟩
set_option maxRecDepth 20000 in
theorem tw_106 : (Jvm.Cond.methodLink "java/util/ArrayList" (1 : Nat) ({ cls := "java/util/AbstractList", name := "<init>", desc := "()V" } : Jvm.MethodName)) ∈ lw_g := List.mem_filter.mpr ⟨lw_c1 _ (List.mem_of_getElem? (i := 47) (by rfl)), rfl⟩
set_option maxRecDepth 20000 in
theorem tw_107 : (Jvm.Cond.instanceMethod ({ cls := "java/util/AbstractList", name := "<init>", desc := "()V" } : Jvm.MethodName)) ∈ lw_g := List.mem_filter.mpr ⟨lw_c1 _ (List.mem_of_getElem? (i := 48) (by rfl)), rfl⟩
set_option maxRecDepth 20000 in
theorem tw_108 : (Jvm.Cond.code ({ cls := "java/util/AbstractList", name := "<init>", desc := "()V" } : Jvm.MethodName) prog_30_method_1_code (1 : Nat) (Option.none : Option Jvm.ClassFile.FieldType)) ∈ lw_g := List.mem_filter.mpr ⟨lw_c1 _ (List.mem_of_getElem? (i := 49) (by rfl)), rfl⟩
set_option maxRecDepth 20000 in
theorem tw_109 : (Jvm.Cond.methodLink "java/util/AbstractList" (1 : Nat) ({ cls := "java/util/AbstractCollection", name := "<init>", desc := "()V" } : Jvm.MethodName)) ∈ lw_g := List.mem_filter.mpr ⟨lw_c1 _ (List.mem_of_getElem? (i := 50) (by rfl)), rfl⟩
set_option maxRecDepth 20000 in
theorem tw_110 : (Jvm.Cond.instanceMethod ({ cls := "java/util/AbstractCollection", name := "<init>", desc := "()V" } : Jvm.MethodName)) ∈ lw_g := List.mem_filter.mpr ⟨lw_c1 _ (List.mem_of_getElem? (i := 51) (by rfl)), rfl⟩
set_option maxRecDepth 20000 in
theorem tw_111 : (Jvm.Cond.code ({ cls := "java/util/AbstractCollection", name := "<init>", desc := "()V" } : Jvm.MethodName) prog_29_method_1_code (1 : Nat) (Option.none : Option Jvm.ClassFile.FieldType)) ∈ lw_g := List.mem_filter.mpr ⟨lw_c1 _ (List.mem_of_getElem? (i := 52) (by rfl)), rfl⟩
set_option maxRecDepth 20000 in
theorem tw_112 : (Jvm.Cond.methodLink "java/util/AbstractCollection" (1 : Nat) ({ cls := "java/lang/Object", name := "<init>", desc := "()V" } : Jvm.MethodName)) ∈ lw_g := List.mem_filter.mpr ⟨lw_c1 _ (List.mem_of_getElem? (i := 53) (by rfl)), rfl⟩
set_option maxRecDepth 20000 in
theorem tw_113 : (Jvm.Cond.fieldLink "java/util/ArrayList" (39 : Nat) "java/util/ArrayList" "DEFAULTCAPACITY_EMPTY_ELEMENTDATA" "[Ljava/lang/Object;") ∈ lw_g := List.mem_filter.mpr ⟨lw_c1 _ (List.mem_of_getElem? (i := 54) (by rfl)), rfl⟩
set_option maxRecDepth 20000 in
theorem tw_115 : (Jvm.Cond.fieldLink "java/util/ArrayList" (9 : Nat) "java/util/ArrayList" "elementData" "[Ljava/lang/Object;") ∈ lw_g := List.mem_filter.mpr ⟨lw_c1 _ (List.mem_of_getElem? (i := 56) (by rfl)), rfl⟩
set_option maxRecDepth 20000 in
theorem tw_116 : (Jvm.Cond.fieldLink "java/util/ArrayList" (48 : Nat) "java/util/ArrayList" "size" "I") ∈ lw_g := List.mem_filter.mpr ⟨lw_c1 _ (List.mem_of_getElem? (i := 57) (by rfl)), rfl⟩
set_option maxRecDepth 20000 in
theorem tw_117 : (Jvm.Cond.fieldLink "java/util/AbstractList" (7 : Nat) "java/util/AbstractList" "modCount" "I") ∈ lw_g := List.mem_filter.mpr ⟨lw_c1 _ (List.mem_of_getElem? (i := 58) (by rfl)), rfl⟩
set_option maxRecDepth 20000 in
theorem tw_118 : (Jvm.Cond.fieldLink "java/util/ArrayList" (63 : Nat) "java/util/ArrayList" "modCount" "I") ∈ lw_g := List.mem_filter.mpr ⟨lw_c1 _ (List.mem_of_getElem? (i := 59) (by rfl)), rfl⟩
set_option maxRecDepth 20000 in
theorem tw_119 : (Jvm.Cond.sameField "java/util/ArrayList" "java/util/AbstractList" "modCount" "I") ∈ lw_g := List.mem_filter.mpr ⟨lw_c1 _ (List.mem_of_getElem? (i := 60) (by rfl)), rfl⟩
set_option maxRecDepth 20000 in
theorem tw_127 : (Jvm.Cond.fieldLink "RockHeat$Town" (12 : Nat) "RockHeat$Town" "houses" "Ljava/util/ArrayList;") ∈ lw_g := List.mem_filter.mpr ⟨lw_c1 _ (List.mem_of_getElem? (i := 68) (by rfl)), rfl⟩
set_option maxRecDepth 20000 in
theorem tw_128 : (Jvm.Cond.fieldLink "RockHeat" (136 : Nat) "RockHeat$Town" "houses" "Ljava/util/ArrayList;") ∈ lw_g := List.mem_filter.mpr ⟨lw_c1 _ (List.mem_of_getElem? (i := 69) (by rfl)), rfl⟩
set_option maxRecDepth 20000 in
theorem tw_129 : (Jvm.Cond.fieldLink "RockHeat$Town" (18 : Nat) "RockHeat$Town" "colds" "[I") ∈ lw_g := List.mem_filter.mpr ⟨lw_c1 _ (List.mem_of_getElem? (i := 70) (by rfl)), rfl⟩
set_option maxRecDepth 20000 in
theorem tw_130 : (Jvm.Cond.fieldLink "RockHeat$Rules" (52 : Nat) "RockHeat$Town" "colds" "[I") ∈ lw_g := List.mem_filter.mpr ⟨lw_c1 _ (List.mem_of_getElem? (i := 71) (by rfl)), rfl⟩
set_option maxRecDepth 20000 in
theorem tw_131 : (Jvm.Cond.fieldLink "RockHeat" (160 : Nat) "RockHeat$Town" "colds" "[I") ∈ lw_g := List.mem_filter.mpr ⟨lw_c1 _ (List.mem_of_getElem? (i := 72) (by rfl)), rfl⟩
set_option maxRecDepth 20000 in
theorem tw_132 : (Jvm.Cond.fieldLink "RockHeat$Town" (22 : Nat) "RockHeat$Town" "prices" "[I") ∈ lw_g := List.mem_filter.mpr ⟨lw_c1 _ (List.mem_of_getElem? (i := 73) (by rfl)), rfl⟩
set_option maxRecDepth 20000 in
theorem tw_133 : (Jvm.Cond.fieldLink "RockHeat$Tank" (36 : Nat) "RockHeat$Town" "prices" "[I") ∈ lw_g := List.mem_filter.mpr ⟨lw_c1 _ (List.mem_of_getElem? (i := 74) (by rfl)), rfl⟩
set_option maxRecDepth 20000 in
theorem tw_134 : (Jvm.Cond.fieldLink "RockHeat$Rules" (42 : Nat) "RockHeat$Town" "prices" "[I") ∈ lw_g := List.mem_filter.mpr ⟨lw_c1 _ (List.mem_of_getElem? (i := 75) (by rfl)), rfl⟩
set_option maxRecDepth 20000 in
theorem tw_135 : (Jvm.Cond.fieldLink "RockHeat$Ground" (149 : Nat) "RockHeat$Town" "prices" "[I") ∈ lw_g := List.mem_filter.mpr ⟨lw_c1 _ (List.mem_of_getElem? (i := 76) (by rfl)), rfl⟩
set_option maxRecDepth 20000 in
theorem tw_136 : (Jvm.Cond.fieldLink "RockHeat" (186 : Nat) "RockHeat$Town" "prices" "[I") ∈ lw_g := List.mem_filter.mpr ⟨lw_c1 _ (List.mem_of_getElem? (i := 77) (by rfl)), rfl⟩
set_option maxRecDepth 20000 in
theorem tw_137 : (Jvm.Cond.fieldLink "RockHeat$Town" (25 : Nat) "RockHeat$Town" "suns" "[I") ∈ lw_g := List.mem_filter.mpr ⟨lw_c1 _ (List.mem_of_getElem? (i := 78) (by rfl)), rfl⟩
set_option maxRecDepth 20000 in
theorem tw_138 : (Jvm.Cond.fieldLink "RockHeat$Ground" (91 : Nat) "RockHeat$Town" "suns" "[I") ∈ lw_g := List.mem_filter.mpr ⟨lw_c1 _ (List.mem_of_getElem? (i := 79) (by rfl)), rfl⟩
set_option maxRecDepth 20000 in
theorem tw_139 : (Jvm.Cond.fieldLink "RockHeat" (190 : Nat) "RockHeat$Town" "suns" "[I") ∈ lw_g := List.mem_filter.mpr ⟨lw_c1 _ (List.mem_of_getElem? (i := 80) (by rfl)), rfl⟩
set_option maxRecDepth 20000 in
theorem tw_149 : (Jvm.Cond.arrayClass Jvm.ClassFile.FieldType.int) ∈ lw_g := List.mem_filter.mpr ⟨lw_c1 _ (List.mem_of_getElem? (i := 90) (by rfl)), rfl⟩
set_option maxRecDepth 20000 in
theorem tw_150 : (Jvm.Cond.classLink "RockHeat" (16 : Nat) "RockHeat$Table") ∈ lw_g := List.mem_filter.mpr ⟨lw_c1 _ (List.mem_of_getElem? (i := 91) (by rfl)), rfl⟩
set_option maxRecDepth 20000 in
theorem tw_151 : (Jvm.Cond.instantiable "RockHeat$Table" (3 : Nat)) ∈ lw_g := List.mem_filter.mpr ⟨lw_c1 _ (List.mem_of_getElem? (i := 92) (by rfl)), rfl⟩
set_option maxRecDepth 20000 in
theorem tw_152 : (Jvm.Cond.methodLinkNest "RockHeat" (18 : Nat) ({ cls := "RockHeat$Table", name := "<init>", desc := "()V" } : Jvm.MethodName) "RockHeat") ∈ lw_x := List.mem_filter.mpr ⟨lw_c1 _ (List.mem_of_getElem? (i := 93) (by rfl)), rfl⟩
set_option maxRecDepth 20000 in
theorem tw_153 : (Jvm.Cond.instanceMethod ({ cls := "RockHeat$Table", name := "<init>", desc := "()V" } : Jvm.MethodName)) ∈ lw_g := List.mem_filter.mpr ⟨lw_c1 _ (List.mem_of_getElem? (i := 94) (by rfl)), rfl⟩
set_option maxRecDepth 20000 in
theorem tw_154 : (Jvm.Cond.code ({ cls := "RockHeat$Table", name := "<init>", desc := "()V" } : Jvm.MethodName) prog_9_method_1_code (1 : Nat) (Option.none : Option Jvm.ClassFile.FieldType)) ∈ lw_g := List.mem_filter.mpr ⟨lw_c1 _ (List.mem_of_getElem? (i := 95) (by rfl)), rfl⟩
set_option maxRecDepth 20000 in
theorem tw_155 : (Jvm.Cond.methodLink "RockHeat$Table" (3 : Nat) ({ cls := "java/lang/Object", name := "<init>", desc := "()V" } : Jvm.MethodName)) ∈ lw_g := List.mem_filter.mpr ⟨lw_c1 _ (List.mem_of_getElem? (i := 96) (by rfl)), rfl⟩
set_option maxRecDepth 20000 in
theorem tw_156 : (Jvm.Cond.fieldLink "RockHeat$Table" (9 : Nat) "RockHeat$Table" "warms" "[I") ∈ lw_g := List.mem_filter.mpr ⟨lw_c1 _ (List.mem_of_getElem? (i := 97) (by rfl)), rfl⟩
set_option maxRecDepth 20000 in
theorem tw_157 : (Jvm.Cond.fieldLink "RockHeat$Table" (15 : Nat) "RockHeat$Table" "lifts" "[I") ∈ lw_g := List.mem_filter.mpr ⟨lw_c1 _ (List.mem_of_getElem? (i := 98) (by rfl)), rfl⟩
set_option maxRecDepth 20000 in
theorem tw_158 : (Jvm.Cond.fieldLink "RockHeat$Table" (18 : Nat) "RockHeat$Table" "size" "I") ∈ lw_g := List.mem_filter.mpr ⟨lw_c1 _ (List.mem_of_getElem? (i := 99) (by rfl)), rfl⟩
set_option maxRecDepth 20000 in
theorem tw_159 : (Jvm.Cond.fieldLink "RockHeat" (174 : Nat) "RockHeat$Table" "size" "I") ∈ lw_g := List.mem_filter.mpr ⟨lw_c1 _ (List.mem_of_getElem? (i := 100) (by rfl)), rfl⟩
set_option maxRecDepth 20000 in
theorem tw_167 : (Jvm.Cond.classLink "RockHeat" (23 : Nat) "RockHeat$Rules") ∈ lw_g := List.mem_filter.mpr ⟨lw_c1 _ (List.mem_of_getElem? (i := 108) (by rfl)), rfl⟩
set_option maxRecDepth 20000 in
theorem tw_168 : (Jvm.Cond.instantiable "RockHeat$Rules" (3 : Nat)) ∈ lw_g := List.mem_filter.mpr ⟨lw_c1 _ (List.mem_of_getElem? (i := 109) (by rfl)), rfl⟩
set_option maxRecDepth 20000 in
theorem tw_169 : (Jvm.Cond.methodLinkNest "RockHeat" (25 : Nat) ({ cls := "RockHeat$Rules", name := "<init>", desc := "()V" } : Jvm.MethodName) "RockHeat") ∈ lw_x := List.mem_filter.mpr ⟨lw_c1 _ (List.mem_of_getElem? (i := 110) (by rfl)), rfl⟩
set_option maxRecDepth 20000 in
theorem tw_170 : (Jvm.Cond.instanceMethod ({ cls := "RockHeat$Rules", name := "<init>", desc := "()V" } : Jvm.MethodName)) ∈ lw_g := List.mem_filter.mpr ⟨lw_c1 _ (List.mem_of_getElem? (i := 111) (by rfl)), rfl⟩
set_option maxRecDepth 20000 in
theorem tw_171 : (Jvm.Cond.code ({ cls := "RockHeat$Rules", name := "<init>", desc := "()V" } : Jvm.MethodName) prog_8_method_1_code (1 : Nat) (Option.none : Option Jvm.ClassFile.FieldType)) ∈ lw_g := List.mem_filter.mpr ⟨lw_c1 _ (List.mem_of_getElem? (i := 112) (by rfl)), rfl⟩
set_option maxRecDepth 20000 in
theorem tw_172 : (Jvm.Cond.methodLink "RockHeat$Rules" (3 : Nat) ({ cls := "java/lang/Object", name := "<init>", desc := "()V" } : Jvm.MethodName)) ∈ lw_g := List.mem_filter.mpr ⟨lw_c1 _ (List.mem_of_getElem? (i := 113) (by rfl)), rfl⟩
set_option maxRecDepth 20000 in
theorem tw_173 : (Jvm.Cond.classLink "RockHeat$Rules" (9 : Nat) "java/util/ArrayList") ∈ lw_g := List.mem_filter.mpr ⟨lw_c1 _ (List.mem_of_getElem? (i := 114) (by rfl)), rfl⟩
set_option maxRecDepth 20000 in
theorem tw_174 : (Jvm.Cond.methodLink "RockHeat$Rules" (11 : Nat) ({ cls := "java/util/ArrayList", name := "<init>", desc := "()V" } : Jvm.MethodName)) ∈ lw_g := List.mem_filter.mpr ⟨lw_c1 _ (List.mem_of_getElem? (i := 115) (by rfl)), rfl⟩
set_option maxRecDepth 20000 in
theorem tw_175 : (Jvm.Cond.fieldLink "RockHeat$Rules" (12 : Nat) "RockHeat$Rules" "told" "Ljava/util/ArrayList;") ∈ lw_g := List.mem_filter.mpr ⟨lw_c1 _ (List.mem_of_getElem? (i := 116) (by rfl)), rfl⟩
set_option maxRecDepth 20000 in
theorem tw_176 : (Jvm.Cond.fieldLink "RockHeat" (198 : Nat) "RockHeat$Rules" "told" "Ljava/util/ArrayList;") ∈ lw_g := List.mem_filter.mpr ⟨lw_c1 _ (List.mem_of_getElem? (i := 117) (by rfl)), rfl⟩
set_option maxRecDepth 20000 in
theorem tw_177 : (Jvm.Cond.fieldLink "RockHeat$Rules" (18 : Nat) "RockHeat$Rules" "letters" "[J") ∈ lw_g := List.mem_filter.mpr ⟨lw_c1 _ (List.mem_of_getElem? (i := 118) (by rfl)), rfl⟩
set_option maxRecDepth 20000 in
theorem tw_178 : (Jvm.Cond.fieldLink "RockHeat$Rules" (22 : Nat) "RockHeat$Rules" "stack" "[J") ∈ lw_g := List.mem_filter.mpr ⟨lw_c1 _ (List.mem_of_getElem? (i := 119) (by rfl)), rfl⟩
set_option maxRecDepth 20000 in
theorem tw_186 : (Jvm.Cond.arrayClass Jvm.ClassFile.FieldType.long) ∈ lw_g := List.mem_filter.mpr ⟨lw_c1 _ (List.mem_of_getElem? (i := 127) (by rfl)), rfl⟩
set_option maxRecDepth 20000 in
theorem tw_187 : (Jvm.Cond.classLink "RockHeat" (30 : Nat) "RockHeat$Tape") ∈ lw_g := List.mem_filter.mpr ⟨lw_c1 _ (List.mem_of_getElem? (i := 128) (by rfl)), rfl⟩
set_option maxRecDepth 20000 in
theorem tw_188 : (Jvm.Cond.instantiable "RockHeat$Tape" (6 : Nat)) ∈ lw_g := List.mem_filter.mpr ⟨lw_c1 _ (List.mem_of_getElem? (i := 129) (by rfl)), rfl⟩
set_option maxRecDepth 20000 in
theorem tw_189 : (Jvm.Cond.methodLinkNest "RockHeat" (32 : Nat) ({ cls := "RockHeat$Tape", name := "<init>", desc := "()V" } : Jvm.MethodName) "RockHeat") ∈ lw_x := List.mem_filter.mpr ⟨lw_c1 _ (List.mem_of_getElem? (i := 130) (by rfl)), rfl⟩
set_option maxRecDepth 20000 in
theorem tw_190 : (Jvm.Cond.instanceMethod ({ cls := "RockHeat$Tape", name := "<init>", desc := "()V" } : Jvm.MethodName)) ∈ lw_g := List.mem_filter.mpr ⟨lw_c1 _ (List.mem_of_getElem? (i := 131) (by rfl)), rfl⟩
set_option maxRecDepth 20000 in
theorem tw_191 : (Jvm.Cond.code ({ cls := "RockHeat$Tape", name := "<init>", desc := "()V" } : Jvm.MethodName) prog_11_method_1_code (1 : Nat) (Option.none : Option Jvm.ClassFile.FieldType)) ∈ lw_g := List.mem_filter.mpr ⟨lw_c1 _ (List.mem_of_getElem? (i := 132) (by rfl)), rfl⟩
set_option maxRecDepth 20000 in
theorem tw_192 : (Jvm.Cond.methodLink "RockHeat$Tape" (3 : Nat) ({ cls := "java/lang/Object", name := "<init>", desc := "()V" } : Jvm.MethodName)) ∈ lw_g := List.mem_filter.mpr ⟨lw_c1 _ (List.mem_of_getElem? (i := 133) (by rfl)), rfl⟩
set_option maxRecDepth 20000 in
theorem tw_193 : (Jvm.Cond.fieldLink "RockHeat$Tape" (9 : Nat) "RockHeat$Tape" "bytes" "[I") ∈ lw_g := List.mem_filter.mpr ⟨lw_c1 _ (List.mem_of_getElem? (i := 134) (by rfl)), rfl⟩
set_option maxRecDepth 20000 in
theorem tw_194 : (Jvm.Cond.fieldLink "RockHeat$Tape" (15 : Nat) "RockHeat$Tape" "code" "[I") ∈ lw_g := List.mem_filter.mpr ⟨lw_c1 _ (List.mem_of_getElem? (i := 135) (by rfl)), rfl⟩
set_option maxRecDepth 20000 in
theorem tw_195 : (Jvm.Cond.fieldLink "RockHeat" (205 : Nat) "RockHeat$Tape" "code" "[I") ∈ lw_g := List.mem_filter.mpr ⟨lw_c1 _ (List.mem_of_getElem? (i := 136) (by rfl)), rfl⟩
set_option maxRecDepth 20000 in
theorem tw_196 : (Jvm.Cond.fieldLink "RockHeat$Tape" (18 : Nat) "RockHeat$Tape" "size" "I") ∈ lw_g := List.mem_filter.mpr ⟨lw_c1 _ (List.mem_of_getElem? (i := 137) (by rfl)), rfl⟩
set_option maxRecDepth 20000 in
theorem tw_197 : (Jvm.Cond.fieldLink "RockHeat" (193 : Nat) "RockHeat$Tape" "size" "I") ∈ lw_g := List.mem_filter.mpr ⟨lw_c1 _ (List.mem_of_getElem? (i := 138) (by rfl)), rfl⟩
set_option maxRecDepth 20000 in
theorem tw_198 : (Jvm.Cond.fieldLink "RockHeat$Tape" (25 : Nat) "RockHeat$Tape" "used" "I") ∈ lw_g := List.mem_filter.mpr ⟨lw_c1 _ (List.mem_of_getElem? (i := 139) (by rfl)), rfl⟩
set_option maxRecDepth 20000 in
theorem tw_199 : (Jvm.Cond.fieldLink "RockHeat" (213 : Nat) "RockHeat$Tape" "used" "I") ∈ lw_g := List.mem_filter.mpr ⟨lw_c1 _ (List.mem_of_getElem? (i := 140) (by rfl)), rfl⟩
set_option maxRecDepth 20000 in
theorem tw_200 : (Jvm.Cond.fieldLink "RockHeat$Tape" (22 : Nat) "RockHeat$Tape" "at" "I") ∈ lw_g := List.mem_filter.mpr ⟨lw_c1 _ (List.mem_of_getElem? (i := 141) (by rfl)), rfl⟩
set_option maxRecDepth 20000 in
theorem tw_201 : (Jvm.Cond.fieldLink "RockHeat$Tape" (28 : Nat) "RockHeat$Tape" "fault" "I") ∈ lw_g := List.mem_filter.mpr ⟨lw_c1 _ (List.mem_of_getElem? (i := 142) (by rfl)), rfl⟩
set_option maxRecDepth 20000 in
theorem tw_215 : (Jvm.Cond.classLink "RockHeat" (37 : Nat) "RockHeat$Tank") ∈ lw_g := List.mem_filter.mpr ⟨lw_c1 _ (List.mem_of_getElem? (i := 156) (by rfl)), rfl⟩
set_option maxRecDepth 20000 in
theorem tw_216 : (Jvm.Cond.instantiable "RockHeat$Tank" (6 : Nat)) ∈ lw_g := List.mem_filter.mpr ⟨lw_c1 _ (List.mem_of_getElem? (i := 157) (by rfl)), rfl⟩
set_option maxRecDepth 20000 in
theorem tw_217 : (Jvm.Cond.methodLinkNest "RockHeat" (39 : Nat) ({ cls := "RockHeat$Tank", name := "<init>", desc := "()V" } : Jvm.MethodName) "RockHeat") ∈ lw_x := List.mem_filter.mpr ⟨lw_c1 _ (List.mem_of_getElem? (i := 158) (by rfl)), rfl⟩
set_option maxRecDepth 20000 in
theorem tw_218 : (Jvm.Cond.instanceMethod ({ cls := "RockHeat$Tank", name := "<init>", desc := "()V" } : Jvm.MethodName)) ∈ lw_g := List.mem_filter.mpr ⟨lw_c1 _ (List.mem_of_getElem? (i := 159) (by rfl)), rfl⟩
set_option maxRecDepth 20000 in
theorem tw_219 : (Jvm.Cond.code ({ cls := "RockHeat$Tank", name := "<init>", desc := "()V" } : Jvm.MethodName) prog_10_method_1_code (1 : Nat) (Option.none : Option Jvm.ClassFile.FieldType)) ∈ lw_g := List.mem_filter.mpr ⟨lw_c1 _ (List.mem_of_getElem? (i := 160) (by rfl)), rfl⟩
set_option maxRecDepth 20000 in
theorem tw_220 : (Jvm.Cond.methodLink "RockHeat$Tank" (3 : Nat) ({ cls := "java/lang/Object", name := "<init>", desc := "()V" } : Jvm.MethodName)) ∈ lw_g := List.mem_filter.mpr ⟨lw_c1 _ (List.mem_of_getElem? (i := 161) (by rfl)), rfl⟩
set_option maxRecDepth 20000 in
theorem tw_221 : (Jvm.Cond.classLink "RockHeat$Tank" (25 : Nat) "[[J") ∈ lw_g := List.mem_filter.mpr ⟨lw_c1 _ (List.mem_of_getElem? (i := 162) (by rfl)), rfl⟩
set_option maxRecDepth 20000 in
theorem tw_222 : (Jvm.Cond.arrayOver (Jvm.ClassFile.FieldType.array Jvm.ClassFile.FieldType.long)) ∈ lw_tbl := lw_c1 _ (List.mem_of_getElem? (i := 163) (by rfl))
set_option maxRecDepth 20000 in
theorem tw_223 : (Jvm.Cond.fieldLink "RockHeat$Tank" (43 : Nat) "RockHeat$Tank" "crates" "I") ∈ lw_g := List.mem_filter.mpr ⟨lw_c1 _ (List.mem_of_getElem? (i := 164) (by rfl)), rfl⟩
set_option maxRecDepth 20000 in
theorem tw_224 : (Jvm.Cond.fieldLink "RockHeat" (274 : Nat) "RockHeat$Tank" "crates" "I") ∈ lw_g := List.mem_filter.mpr ⟨lw_c1 _ (List.mem_of_getElem? (i := 165) (by rfl)), rfl⟩
set_option maxRecDepth 20000 in
theorem tw_225 : (Jvm.Cond.fieldLink "RockHeat$Tank" (9 : Nat) "RockHeat$Tank" "size" "I") ∈ lw_g := List.mem_filter.mpr ⟨lw_c1 _ (List.mem_of_getElem? (i := 166) (by rfl)), rfl⟩
set_option maxRecDepth 20000 in
theorem tw_226 : (Jvm.Cond.fieldLink "RockHeat" (277 : Nat) "RockHeat$Tank" "size" "I") ∈ lw_g := List.mem_filter.mpr ⟨lw_c1 _ (List.mem_of_getElem? (i := 167) (by rfl)), rfl⟩
set_option maxRecDepth 20000 in
theorem tw_227 : (Jvm.Cond.fieldLink "RockHeat$Tank" (15 : Nat) "RockHeat$Tank" "bought" "[J") ∈ lw_g := List.mem_filter.mpr ⟨lw_c1 _ (List.mem_of_getElem? (i := 168) (by rfl)), rfl⟩
set_option maxRecDepth 20000 in
theorem tw_228 : (Jvm.Cond.fieldLink "RockHeat" (282 : Nat) "RockHeat$Tank" "bought" "[J") ∈ lw_g := List.mem_filter.mpr ⟨lw_c1 _ (List.mem_of_getElem? (i := 169) (by rfl)), rfl⟩
set_option maxRecDepth 20000 in
theorem tw_229 : (Jvm.Cond.fieldLink "RockHeat$Tank" (19 : Nat) "RockHeat$Tank" "needs" "[J") ∈ lw_g := List.mem_filter.mpr ⟨lw_c1 _ (List.mem_of_getElem? (i := 170) (by rfl)), rfl⟩
set_option maxRecDepth 20000 in
theorem tw_230 : (Jvm.Cond.fieldLink "RockHeat$Tank" (22 : Nat) "RockHeat$Tank" "prices" "[J") ∈ lw_g := List.mem_filter.mpr ⟨lw_c1 _ (List.mem_of_getElem? (i := 171) (by rfl)), rfl⟩
set_option maxRecDepth 20000 in
theorem tw_231 : (Jvm.Cond.fieldLink "RockHeat$Tank" (27 : Nat) "RockHeat$Tank" "costs" "[[J") ∈ lw_g := List.mem_filter.mpr ⟨lw_c1 _ (List.mem_of_getElem? (i := 172) (by rfl)), rfl⟩
set_option maxRecDepth 20000 in
theorem tw_245 : (Jvm.Cond.classLink "RockHeat" (44 : Nat) "RockHeat$Ground") ∈ lw_g := List.mem_filter.mpr ⟨lw_c1 _ (List.mem_of_getElem? (i := 186) (by rfl)), rfl⟩
set_option maxRecDepth 20000 in
theorem tw_246 : (Jvm.Cond.instantiable "RockHeat$Ground" (7 : Nat)) ∈ lw_g := List.mem_filter.mpr ⟨lw_c1 _ (List.mem_of_getElem? (i := 187) (by rfl)), rfl⟩
set_option maxRecDepth 20000 in
theorem tw_247 : (Jvm.Cond.methodLink "RockHeat" (46 : Nat) ({ cls := "RockHeat$Ground", name := "<init>", desc := "(LRockHeat$Town;LRockHeat$Table;LRockHeat$Rules;)V" } : Jvm.MethodName)) ∈ lw_g := List.mem_filter.mpr ⟨lw_c1 _ (List.mem_of_getElem? (i := 188) (by rfl)), rfl⟩
set_option maxRecDepth 20000 in
theorem tw_248 : (Jvm.Cond.instanceMethod ({ cls := "RockHeat$Ground", name := "<init>", desc := "(LRockHeat$Town;LRockHeat$Table;LRockHeat$Rules;)V" } : Jvm.MethodName)) ∈ lw_g := List.mem_filter.mpr ⟨lw_c1 _ (List.mem_of_getElem? (i := 189) (by rfl)), rfl⟩
set_option maxRecDepth 20000 in
theorem tw_249 : (Jvm.Cond.code ({ cls := "RockHeat$Ground", name := "<init>", desc := "(LRockHeat$Town;LRockHeat$Table;LRockHeat$Rules;)V" } : Jvm.MethodName) prog_3_method_1_code (4 : Nat) (Option.none : Option Jvm.ClassFile.FieldType)) ∈ lw_g := List.mem_filter.mpr ⟨lw_c1 _ (List.mem_of_getElem? (i := 190) (by rfl)), rfl⟩
set_option maxRecDepth 20000 in
theorem tw_250 : (Jvm.Cond.methodLink "RockHeat$Ground" (3 : Nat) ({ cls := "java/lang/Object", name := "<init>", desc := "()V" } : Jvm.MethodName)) ∈ lw_g := List.mem_filter.mpr ⟨lw_c1 _ (List.mem_of_getElem? (i := 191) (by rfl)), rfl⟩
set_option maxRecDepth 20000 in
theorem tw_251 : (Jvm.Cond.classLink "RockHeat$Ground" (9 : Nat) "java/util/ArrayList") ∈ lw_g := List.mem_filter.mpr ⟨lw_c1 _ (List.mem_of_getElem? (i := 192) (by rfl)), rfl⟩
set_option maxRecDepth 20000 in
theorem tw_252 : (Jvm.Cond.methodLink "RockHeat$Ground" (11 : Nat) ({ cls := "java/util/ArrayList", name := "<init>", desc := "()V" } : Jvm.MethodName)) ∈ lw_g := List.mem_filter.mpr ⟨lw_c1 _ (List.mem_of_getElem? (i := 193) (by rfl)), rfl⟩
set_option maxRecDepth 20000 in
theorem tw_253 : (Jvm.Cond.fieldLink "RockHeat$Ground" (22 : Nat) "RockHeat$Ground" "town" "LRockHeat$Town;") ∈ lw_g := List.mem_filter.mpr ⟨lw_c1 _ (List.mem_of_getElem? (i := 194) (by rfl)), rfl⟩
set_option maxRecDepth 20000 in
theorem tw_254 : (Jvm.Cond.fieldLink "RockHeat$Ground" (26 : Nat) "RockHeat$Ground" "table" "LRockHeat$Table;") ∈ lw_g := List.mem_filter.mpr ⟨lw_c1 _ (List.mem_of_getElem? (i := 195) (by rfl)), rfl⟩
set_option maxRecDepth 20000 in
theorem tw_255 : (Jvm.Cond.fieldLink "RockHeat$Ground" (30 : Nat) "RockHeat$Ground" "rules" "LRockHeat$Rules;") ∈ lw_g := List.mem_filter.mpr ⟨lw_c1 _ (List.mem_of_getElem? (i := 196) (by rfl)), rfl⟩
set_option maxRecDepth 20000 in
theorem tw_256 : (Jvm.Cond.fieldLink "RockHeat$Ground" (12 : Nat) "RockHeat$Ground" "bores" "Ljava/util/ArrayList;") ∈ lw_g := List.mem_filter.mpr ⟨lw_c1 _ (List.mem_of_getElem? (i := 197) (by rfl)), rfl⟩
set_option maxRecDepth 20000 in
theorem tw_257 : (Jvm.Cond.fieldLink "RockHeat" (82 : Nat) "RockHeat$Ground" "bores" "Ljava/util/ArrayList;") ∈ lw_g := List.mem_filter.mpr ⟨lw_c1 _ (List.mem_of_getElem? (i := 198) (by rfl)), rfl⟩
set_option maxRecDepth 20000 in
theorem tw_258 : (Jvm.Cond.fieldLink "RockHeat$Ground" (18 : Nat) "RockHeat$Ground" "totals" "[J") ∈ lw_g := List.mem_filter.mpr ⟨lw_c1 _ (List.mem_of_getElem? (i := 199) (by rfl)), rfl⟩
set_option maxRecDepth 20000 in
theorem tw_259 : (Jvm.Cond.fieldLink "RockHeat" (231 : Nat) "RockHeat$Ground" "totals" "[J") ∈ lw_g := List.mem_filter.mpr ⟨lw_c1 _ (List.mem_of_getElem? (i := 200) (by rfl)), rfl⟩
set_option maxRecDepth 20000 in
theorem tw_260 : (Jvm.Cond.fieldLink "RockHeat$Ground" (80 : Nat) "RockHeat$Ground" "share" "I") ∈ lw_g := List.mem_filter.mpr ⟨lw_c1 _ (List.mem_of_getElem? (i := 201) (by rfl)), rfl⟩
set_option maxRecDepth 20000 in
theorem tw_261 : (Jvm.Cond.fieldLink "RockHeat" (108 : Nat) "RockHeat$Ground" "share" "I") ∈ lw_g := List.mem_filter.mpr ⟨lw_c1 _ (List.mem_of_getElem? (i := 202) (by rfl)), rfl⟩
set_option maxRecDepth 20000 in
theorem tw_262 : (Jvm.Cond.fieldLink "RockHeat" (67 : Nat) "RockHeat$Ground" "hour" "I") ∈ lw_g := List.mem_filter.mpr ⟨lw_c1 _ (List.mem_of_getElem? (i := 203) (by rfl)), rfl⟩
set_option maxRecDepth 20000 in
theorem tw_263 : (Jvm.Cond.fieldLink "RockHeat$Ground" (44 : Nat) "RockHeat$Ground" "hour" "I") ∈ lw_g := List.mem_filter.mpr ⟨lw_c1 _ (List.mem_of_getElem? (i := 204) (by rfl)), rfl⟩
set_option maxRecDepth 20000 in
theorem tw_279 : (Jvm.Cond.classLink "RockHeat" (56 : Nat) "java/util/ArrayList") ∈ lw_g := List.mem_filter.mpr ⟨lw_c1 _ (List.mem_of_getElem? (i := 220) (by rfl)), rfl⟩
set_option maxRecDepth 20000 in
theorem tw_280 : (Jvm.Cond.methodLink "RockHeat" (58 : Nat) ({ cls := "java/util/ArrayList", name := "<init>", desc := "()V" } : Jvm.MethodName)) ∈ lw_g := List.mem_filter.mpr ⟨lw_c1 _ (List.mem_of_getElem? (i := 221) (by rfl)), rfl⟩
set_option maxRecDepth 20000 in
theorem tw_281 : (Jvm.Cond.fieldLink "RockHeat" (10 : Nat) "RockHeat" "town" "LRockHeat$Town;") ∈ lw_g := List.mem_filter.mpr ⟨lw_c1 _ (List.mem_of_getElem? (i := 222) (by rfl)), rfl⟩
set_option maxRecDepth 20000 in
theorem tw_282 : (Jvm.Cond.fieldLink "RockHeat" (19 : Nat) "RockHeat" "table" "LRockHeat$Table;") ∈ lw_g := List.mem_filter.mpr ⟨lw_c1 _ (List.mem_of_getElem? (i := 223) (by rfl)), rfl⟩
set_option maxRecDepth 20000 in
theorem tw_283 : (Jvm.Cond.fieldLink "RockHeat" (26 : Nat) "RockHeat" "rules" "LRockHeat$Rules;") ∈ lw_g := List.mem_filter.mpr ⟨lw_c1 _ (List.mem_of_getElem? (i := 224) (by rfl)), rfl⟩
set_option maxRecDepth 20000 in
theorem tw_284 : (Jvm.Cond.fieldLink "RockHeat" (33 : Nat) "RockHeat" "tape" "LRockHeat$Tape;") ∈ lw_g := List.mem_filter.mpr ⟨lw_c1 _ (List.mem_of_getElem? (i := 225) (by rfl)), rfl⟩
set_option maxRecDepth 20000 in
theorem tw_285 : (Jvm.Cond.fieldLink "RockHeat" (40 : Nat) "RockHeat" "tank" "LRockHeat$Tank;") ∈ lw_g := List.mem_filter.mpr ⟨lw_c1 _ (List.mem_of_getElem? (i := 226) (by rfl)), rfl⟩
set_option maxRecDepth 20000 in
theorem tw_286 : (Jvm.Cond.fieldLink "RockHeat" (49 : Nat) "RockHeat" "ground" "LRockHeat$Ground;") ∈ lw_g := List.mem_filter.mpr ⟨lw_c1 _ (List.mem_of_getElem? (i := 227) (by rfl)), rfl⟩
set_option maxRecDepth 20000 in
theorem tw_287 : (Jvm.Cond.fieldLink "RockHeat" (53 : Nat) "RockHeat" "mind" "LRockHeat$Ground;") ∈ lw_g := List.mem_filter.mpr ⟨lw_c1 _ (List.mem_of_getElem? (i := 228) (by rfl)), rfl⟩
set_option maxRecDepth 20000 in
theorem tw_288 : (Jvm.Cond.fieldLink "RockHeat" (59 : Nat) "RockHeat" "readings" "Ljava/util/ArrayList;") ∈ lw_g := List.mem_filter.mpr ⟨lw_c1 _ (List.mem_of_getElem? (i := 229) (by rfl)), rfl⟩
set_option maxRecDepth 20000 in
theorem tw_289 : (Jvm.Cond.fieldLink "RockHeat" (63 : Nat) "RockHeat" "refusals" "[I") ∈ lw_g := List.mem_filter.mpr ⟨lw_c1 _ (List.mem_of_getElem? (i := 230) (by rfl)), rfl⟩
set_option maxRecDepth 20000 in
theorem tw_290 : (Jvm.Cond.fieldLink "RockHeat" (255 : Nat) "RockHeat" "coldest" "J") ∈ lw_g := List.mem_filter.mpr ⟨lw_c1 _ (List.mem_of_getElem? (i := 231) (by rfl)), rfl⟩
set_option maxRecDepth 20000 in
theorem tw_291 : (Jvm.Cond.fieldLink "RockHeat" (258 : Nat) "RockHeat" "coldestHour" "I") ∈ lw_g := List.mem_filter.mpr ⟨lw_c1 _ (List.mem_of_getElem? (i := 232) (by rfl)), rfl⟩
set_option maxRecDepth 20000 in
theorem tw_315 : (Jvm.Cond.methodLink "RockHeatLaw" (13 : Nat) ({ cls := "RockHeat", name := "hours", desc := "(I)I" } : Jvm.MethodName)) ∈ lw_g := List.mem_filter.mpr ⟨lw_c2 _ (List.mem_of_getElem? (i := 16) (by rfl)), rfl⟩
set_option maxRecDepth 20000 in
theorem tw_316 : (Jvm.Cond.instanceMethod ({ cls := "RockHeat", name := "hours", desc := "(I)I" } : Jvm.MethodName)) ∈ lw_g := List.mem_filter.mpr ⟨lw_c2 _ (List.mem_of_getElem? (i := 17) (by rfl)), rfl⟩
set_option maxRecDepth 20000 in
theorem tw_317 : (Jvm.Cond.selects "RockHeat" ({ cls := "RockHeat", name := "hours", desc := "(I)I" } : Jvm.MethodName) ({ cls := "RockHeat", name := "hours", desc := "(I)I" } : Jvm.MethodName)) ∈ lw_g := List.mem_filter.mpr ⟨lw_c2 _ (List.mem_of_getElem? (i := 18) (by rfl)), rfl⟩
set_option maxRecDepth 20000 in
theorem tw_318 : (Jvm.Cond.code ({ cls := "RockHeat", name := "hours", desc := "(I)I" } : Jvm.MethodName) prog_1_method_2_code (4 : Nat) (Option.some Jvm.ClassFile.FieldType.int)) ∈ lw_g := List.mem_filter.mpr ⟨lw_c2 _ (List.mem_of_getElem? (i := 19) (by rfl)), rfl⟩
set_option maxRecDepth 20000 in
theorem tw_319 : (Jvm.Cond.methodLink "RockHeat" (71 : Nat) ({ cls := "RockHeat", name := "beyond", desc := "(III)I" } : Jvm.MethodName)) ∈ lw_g := List.mem_filter.mpr ⟨lw_c2 _ (List.mem_of_getElem? (i := 20) (by rfl)), rfl⟩
set_option maxRecDepth 20000 in
theorem tw_320 : (Jvm.Cond.static ({ cls := "RockHeat", name := "beyond", desc := "(III)I" } : Jvm.MethodName)) ∈ lw_g := List.mem_filter.mpr ⟨lw_c2 _ (List.mem_of_getElem? (i := 21) (by rfl)), rfl⟩
set_option maxRecDepth 20000 in
theorem tw_321 : (Jvm.Cond.code ({ cls := "RockHeat", name := "beyond", desc := "(III)I" } : Jvm.MethodName) prog_1_method_39_code (3 : Nat) (Option.some Jvm.ClassFile.FieldType.int)) ∈ lw_g := List.mem_filter.mpr ⟨lw_c2 _ (List.mem_of_getElem? (i := 22) (by rfl)), rfl⟩
set_option maxRecDepth 20000 in
theorem tw_322 : (Jvm.Cond.methodLink "RockHeat" (75 : Nat) ({ cls := "RockHeat", name := "refuse", desc := "(I)I" } : Jvm.MethodName)) ∈ lw_g := List.mem_filter.mpr ⟨lw_c2 _ (List.mem_of_getElem? (i := 23) (by rfl)), rfl⟩
set_option maxRecDepth 20000 in
theorem tw_324 : (Jvm.Cond.instanceMethod ({ cls := "RockHeat", name := "refuse", desc := "(I)I" } : Jvm.MethodName)) ∈ lw_g := List.mem_filter.mpr ⟨lw_c2 _ (List.mem_of_getElem? (i := 25) (by rfl)), rfl⟩
set_option maxRecDepth 20000 in
theorem tw_325 : (Jvm.Cond.code ({ cls := "RockHeat", name := "refuse", desc := "(I)I" } : Jvm.MethodName) prog_1_method_37_code (2 : Nat) (Option.some Jvm.ClassFile.FieldType.int)) ∈ lw_g := List.mem_filter.mpr ⟨lw_c2 _ (List.mem_of_getElem? (i := 26) (by rfl)), rfl⟩
set_option maxRecDepth 20000 in
theorem tw_326 : (Jvm.Cond.methodLink "RockHeat" (79 : Nat) ({ cls := "RockHeat$Ground", name := "pass", desc := "()V" } : Jvm.MethodName)) ∈ lw_g := List.mem_filter.mpr ⟨lw_c2 _ (List.mem_of_getElem? (i := 27) (by rfl)), rfl⟩
set_option maxRecDepth 20000 in
theorem tw_327 : (Jvm.Cond.instanceMethod ({ cls := "RockHeat$Ground", name := "pass", desc := "()V" } : Jvm.MethodName)) ∈ lw_g := List.mem_filter.mpr ⟨lw_c2 _ (List.mem_of_getElem? (i := 28) (by rfl)), rfl⟩
set_option maxRecDepth 20000 in
theorem tw_328 : (Jvm.Cond.selects "RockHeat$Ground" ({ cls := "RockHeat$Ground", name := "pass", desc := "()V" } : Jvm.MethodName) ({ cls := "RockHeat$Ground", name := "pass", desc := "()V" } : Jvm.MethodName)) ∈ lw_g := List.mem_filter.mpr ⟨lw_c2 _ (List.mem_of_getElem? (i := 29) (by rfl)), rfl⟩
set_option maxRecDepth 20000 in
theorem tw_329 : (Jvm.Cond.code ({ cls := "RockHeat$Ground", name := "pass", desc := "()V" } : Jvm.MethodName) prog_3_method_3_code (4 : Nat) (Option.none : Option Jvm.ClassFile.FieldType)) ∈ lw_g := List.mem_filter.mpr ⟨lw_c2 _ (List.mem_of_getElem? (i := 30) (by rfl)), rfl⟩
set_option maxRecDepth 20000 in
theorem tw_330 : (Jvm.Cond.methodLink "RockHeat$Ground" (48 : Nat) ({ cls := "RockHeat$Town", name := "needOf", desc := "(I)J" } : Jvm.MethodName)) ∈ lw_g := List.mem_filter.mpr ⟨lw_c2 _ (List.mem_of_getElem? (i := 31) (by rfl)), rfl⟩
set_option maxRecDepth 20000 in
theorem tw_331 : (Jvm.Cond.instanceMethod ({ cls := "RockHeat$Town", name := "needOf", desc := "(I)J" } : Jvm.MethodName)) ∈ lw_g := List.mem_filter.mpr ⟨lw_c2 _ (List.mem_of_getElem? (i := 32) (by rfl)), rfl⟩
set_option maxRecDepth 20000 in
theorem tw_332 : (Jvm.Cond.selects "RockHeat$Town" ({ cls := "RockHeat$Town", name := "needOf", desc := "(I)J" } : Jvm.MethodName) ({ cls := "RockHeat$Town", name := "needOf", desc := "(I)J" } : Jvm.MethodName)) ∈ lw_g := List.mem_filter.mpr ⟨lw_c2 _ (List.mem_of_getElem? (i := 33) (by rfl)), rfl⟩
set_option maxRecDepth 20000 in
theorem tw_333 : (Jvm.Cond.code ({ cls := "RockHeat$Town", name := "needOf", desc := "(I)J" } : Jvm.MethodName) prog_12_method_2_code (10 : Nat) (Option.some Jvm.ClassFile.FieldType.long)) ∈ lw_g := List.mem_filter.mpr ⟨lw_c2 _ (List.mem_of_getElem? (i := 34) (by rfl)), rfl⟩
set_option maxRecDepth 20000 in
theorem tw_334 : (Jvm.Cond.methodLinkNest "RockHeat$Town" (28 : Nat) ({ cls := "RockHeat", name := "inRound", desc := "([II)I" } : Jvm.MethodName) "RockHeat") ∈ lw_x := List.mem_filter.mpr ⟨lw_c2 _ (List.mem_of_getElem? (i := 35) (by rfl)), rfl⟩
set_option maxRecDepth 20000 in
theorem tw_335 : (Jvm.Cond.static ({ cls := "RockHeat", name := "inRound", desc := "([II)I" } : Jvm.MethodName)) ∈ lw_g := List.mem_filter.mpr ⟨lw_c2 _ (List.mem_of_getElem? (i := 36) (by rfl)), rfl⟩
set_option maxRecDepth 20000 in
theorem tw_336 : (Jvm.Cond.code ({ cls := "RockHeat", name := "inRound", desc := "([II)I" } : Jvm.MethodName) prog_1_method_42_code (2 : Nat) (Option.some Jvm.ClassFile.FieldType.int)) ∈ lw_g := List.mem_filter.mpr ⟨lw_c2 _ (List.mem_of_getElem? (i := 37) (by rfl)), rfl⟩
set_option maxRecDepth 20000 in
theorem tw_337 : (Jvm.Cond.methodLink "RockHeat" (329 : Nat) ({ cls := "java/lang/Math", name := "floorMod", desc := "(II)I" } : Jvm.MethodName)) ∈ lw_g := List.mem_filter.mpr ⟨lw_c2 _ (List.mem_of_getElem? (i := 38) (by rfl)), rfl⟩
set_option maxRecDepth 20000 in
theorem tw_338 : (Jvm.Cond.static ({ cls := "java/lang/Math", name := "floorMod", desc := "(II)I" } : Jvm.MethodName)) ∈ lw_g := List.mem_filter.mpr ⟨lw_c2 _ (List.mem_of_getElem? (i := 39) (by rfl)), rfl⟩
set_option maxRecDepth 20000 in
theorem tw_339 : (Jvm.Cond.code ({ cls := "java/lang/Math", name := "floorMod", desc := "(II)I" } : Jvm.MethodName) prog_22_method_50_code (3 : Nat) (Option.some Jvm.ClassFile.FieldType.int)) ∈ lw_g := List.mem_filter.mpr ⟨lw_c2 _ (List.mem_of_getElem? (i := 40) (by rfl)), rfl⟩
set_option maxRecDepth 20000 in
theorem tw_340 : (Jvm.Cond.methodLink "RockHeat$Town" (32 : Nat) ({ cls := "java/lang/Math", name := "max", desc := "(II)I" } : Jvm.MethodName)) ∈ lw_g := List.mem_filter.mpr ⟨lw_c2 _ (List.mem_of_getElem? (i := 41) (by rfl)), rfl⟩
set_option maxRecDepth 20000 in
theorem tw_341 : (Jvm.Cond.static ({ cls := "java/lang/Math", name := "max", desc := "(II)I" } : Jvm.MethodName)) ∈ lw_g := List.mem_filter.mpr ⟨lw_c2 _ (List.mem_of_getElem? (i := 42) (by rfl)), rfl⟩
set_option maxRecDepth 20000 in
theorem tw_342 : (Jvm.Cond.code ({ cls := "java/lang/Math", name := "max", desc := "(II)I" } : Jvm.MethodName) prog_22_method_65_code (2 : Nat) (Option.some Jvm.ClassFile.FieldType.int)) ∈ lw_g := List.mem_filter.mpr ⟨lw_c2 _ (List.mem_of_getElem? (i := 43) (by rfl)), rfl⟩
set_option maxRecDepth 20000 in
theorem tw_343 : (Jvm.Cond.methodLink "RockHeat$Town" (38 : Nat) ({ cls := "java/util/ArrayList", name := "size", desc := "()I" } : Jvm.MethodName)) ∈ lw_g := List.mem_filter.mpr ⟨lw_c2 _ (List.mem_of_getElem? (i := 44) (by rfl)), rfl⟩
set_option maxRecDepth 20000 in
theorem tw_344 : (Jvm.Cond.instanceMethod ({ cls := "java/util/ArrayList", name := "size", desc := "()I" } : Jvm.MethodName)) ∈ lw_g := List.mem_filter.mpr ⟨lw_c2 _ (List.mem_of_getElem? (i := 45) (by rfl)), rfl⟩
set_option maxRecDepth 20000 in
theorem tw_345 : (Jvm.Cond.selects "java/util/ArrayList" ({ cls := "java/util/ArrayList", name := "size", desc := "()I" } : Jvm.MethodName) ({ cls := "java/util/ArrayList", name := "size", desc := "()I" } : Jvm.MethodName)) ∈ lw_g := List.mem_filter.mpr ⟨lw_c2 _ (List.mem_of_getElem? (i := 46) (by rfl)), rfl⟩
set_option maxRecDepth 20000 in
theorem tw_346 : (Jvm.Cond.code ({ cls := "java/util/ArrayList", name := "size", desc := "()I" } : Jvm.MethodName) prog_31_method_8_code (1 : Nat) (Option.some Jvm.ClassFile.FieldType.int)) ∈ lw_g := List.mem_filter.mpr ⟨lw_c2 _ (List.mem_of_getElem? (i := 47) (by rfl)), rfl⟩
set_option maxRecDepth 20000 in
theorem tw_347 : (Jvm.Cond.methodLink "RockHeat$Town" (42 : Nat) ({ cls := "java/util/ArrayList", name := "get", desc := "(I)Ljava/lang/Object;" } : Jvm.MethodName)) ∈ lw_g := List.mem_filter.mpr ⟨lw_c2 _ (List.mem_of_getElem? (i := 48) (by rfl)), rfl⟩
set_option maxRecDepth 20000 in
theorem tw_348 : (Jvm.Cond.instanceMethod ({ cls := "java/util/ArrayList", name := "get", desc := "(I)Ljava/lang/Object;" } : Jvm.MethodName)) ∈ lw_g := List.mem_filter.mpr ⟨lw_c2 _ (List.mem_of_getElem? (i := 49) (by rfl)), rfl⟩
set_option maxRecDepth 20000 in
theorem tw_349 : (Jvm.Cond.selects "java/util/ArrayList" ({ cls := "java/util/ArrayList", name := "get", desc := "(I)Ljava/lang/Object;" } : Jvm.MethodName) ({ cls := "java/util/ArrayList", name := "get", desc := "(I)Ljava/lang/Object;" } : Jvm.MethodName)) ∈ lw_g := List.mem_filter.mpr ⟨lw_c2 _ (List.mem_of_getElem? (i := 50) (by rfl)), rfl⟩
set_option maxRecDepth 20000 in
theorem tw_350 : (Jvm.Cond.code ({ cls := "java/util/ArrayList", name := "get", desc := "(I)Ljava/lang/Object;" } : Jvm.MethodName) prog_31_method_20_code (2 : Nat) (Option.some (Jvm.ClassFile.FieldType.object "java/lang/Object"))) ∈ lw_g := List.mem_filter.mpr ⟨lw_c2 _ (List.mem_of_getElem? (i := 51) (by rfl)), rfl⟩
set_option maxRecDepth 20000 in
theorem tw_351 : (Jvm.Cond.methodLink "java/util/ArrayList" (118 : Nat) ({ cls := "java/util/Objects", name := "checkIndex", desc := "(II)I" } : Jvm.MethodName)) ∈ lw_g := List.mem_filter.mpr ⟨lw_c2 _ (List.mem_of_getElem? (i := 52) (by rfl)), rfl⟩
set_option maxRecDepth 20000 in
theorem tw_352 : (Jvm.Cond.static ({ cls := "java/util/Objects", name := "checkIndex", desc := "(II)I" } : Jvm.MethodName)) ∈ lw_g := List.mem_filter.mpr ⟨lw_c2 _ (List.mem_of_getElem? (i := 53) (by rfl)), rfl⟩
set_option maxRecDepth 20000 in
theorem tw_353 : (Jvm.Cond.code ({ cls := "java/util/Objects", name := "checkIndex", desc := "(II)I" } : Jvm.MethodName) prog_35_method_17_code (2 : Nat) (Option.some Jvm.ClassFile.FieldType.int)) ∈ lw_g := List.mem_filter.mpr ⟨lw_c2 _ (List.mem_of_getElem? (i := 54) (by rfl)), rfl⟩
set_option maxRecDepth 20000 in
theorem tw_354 : (Jvm.Cond.methodLink "java/util/Objects" (105 : Nat) ({ cls := "jdk/internal/util/Preconditions", name := "checkIndex", desc := "(IILjava/util/function/BiFunction;)I" } : Jvm.MethodName)) ∈ lw_g := List.mem_filter.mpr ⟨lw_c2 _ (List.mem_of_getElem? (i := 55) (by rfl)), rfl⟩
set_option maxRecDepth 20000 in
theorem tw_355 : (Jvm.Cond.static ({ cls := "jdk/internal/util/Preconditions", name := "checkIndex", desc := "(IILjava/util/function/BiFunction;)I" } : Jvm.MethodName)) ∈ lw_g := List.mem_filter.mpr ⟨lw_c2 _ (List.mem_of_getElem? (i := 56) (by rfl)), rfl⟩
set_option maxRecDepth 20000 in
theorem tw_356 : (Jvm.Cond.code ({ cls := "jdk/internal/util/Preconditions", name := "checkIndex", desc := "(IILjava/util/function/BiFunction;)I" } : Jvm.MethodName) prog_39_method_11_code (3 : Nat) (Option.some Jvm.ClassFile.FieldType.int)) ∈ lw_g := List.mem_filter.mpr ⟨lw_c2 _ (List.mem_of_getElem? (i := 57) (by rfl)), rfl⟩
set_option maxRecDepth 20000 in
theorem tw_357 : (Jvm.Cond.methodLink "java/util/ArrayList" (123 : Nat) ({ cls := "java/util/ArrayList", name := "elementData", desc := "(I)Ljava/lang/Object;" } : Jvm.MethodName)) ∈ lw_g := List.mem_filter.mpr ⟨lw_c2 _ (List.mem_of_getElem? (i := 58) (by rfl)), rfl⟩
set_option maxRecDepth 20000 in
theorem tw_358 : (Jvm.Cond.instanceMethod ({ cls := "java/util/ArrayList", name := "elementData", desc := "(I)Ljava/lang/Object;" } : Jvm.MethodName)) ∈ lw_g := List.mem_filter.mpr ⟨lw_c2 _ (List.mem_of_getElem? (i := 59) (by rfl)), rfl⟩
set_option maxRecDepth 20000 in
theorem tw_359 : (Jvm.Cond.selects "java/util/ArrayList" ({ cls := "java/util/ArrayList", name := "elementData", desc := "(I)Ljava/lang/Object;" } : Jvm.MethodName) ({ cls := "java/util/ArrayList", name := "elementData", desc := "(I)Ljava/lang/Object;" } : Jvm.MethodName)) ∈ lw_g := List.mem_filter.mpr ⟨lw_c2 _ (List.mem_of_getElem? (i := 60) (by rfl)), rfl⟩
set_option maxRecDepth 20000 in
theorem tw_360 : (Jvm.Cond.code ({ cls := "java/util/ArrayList", name := "elementData", desc := "(I)Ljava/lang/Object;" } : Jvm.MethodName) prog_31_method_18_code (2 : Nat) (Option.some (Jvm.ClassFile.FieldType.object "java/lang/Object"))) ∈ lw_g := List.mem_filter.mpr ⟨lw_c2 _ (List.mem_of_getElem? (i := 61) (by rfl)), rfl⟩
set_option maxRecDepth 20000 in
theorem tw_361 : (Jvm.Cond.classLink "RockHeat$Town" (46 : Nat) "RockHeat$House") ∈ lw_g := List.mem_filter.mpr ⟨lw_c2 _ (List.mem_of_getElem? (i := 62) (by rfl)), rfl⟩
set_option maxRecDepth 20000 in
theorem tw_362 : (Jvm.Cond.methodLink "RockHeat$Town" (48 : Nat) ({ cls := "RockHeat$House", name := "isJoinedOn", desc := "(I)Z" } : Jvm.MethodName)) ∈ lw_g := List.mem_filter.mpr ⟨lw_c2 _ (List.mem_of_getElem? (i := 63) (by rfl)), rfl⟩
set_option maxRecDepth 20000 in
theorem tw_363 : (Jvm.Cond.instanceMethod ({ cls := "RockHeat$House", name := "isJoinedOn", desc := "(I)Z" } : Jvm.MethodName)) ∈ lw_g := List.mem_filter.mpr ⟨lw_c2 _ (List.mem_of_getElem? (i := 64) (by rfl)), rfl⟩
set_option maxRecDepth 20000 in
theorem tw_364 : (Jvm.Cond.selects "RockHeat$House" ({ cls := "RockHeat$House", name := "isJoinedOn", desc := "(I)Z" } : Jvm.MethodName) ({ cls := "RockHeat$House", name := "isJoinedOn", desc := "(I)Z" } : Jvm.MethodName)) ∈ lw_g := List.mem_filter.mpr ⟨lw_c2 _ (List.mem_of_getElem? (i := 65) (by rfl)), rfl⟩
set_option maxRecDepth 20000 in
theorem tw_365 : (Jvm.Cond.code ({ cls := "RockHeat$House", name := "isJoinedOn", desc := "(I)Z" } : Jvm.MethodName) prog_4_method_2_code (2 : Nat) (Option.some Jvm.ClassFile.FieldType.boolean)) ∈ lw_g := List.mem_filter.mpr ⟨lw_c2 _ (List.mem_of_getElem? (i := 66) (by rfl)), rfl⟩
set_option maxRecDepth 20000 in
theorem tw_366 : (Jvm.Cond.methodLink "RockHeat$Ground" (54 : Nat) ({ cls := "RockHeat$Rules", name := "tellHour", desc := "(LRockHeat$Town;IJ)V" } : Jvm.MethodName)) ∈ lw_g := List.mem_filter.mpr ⟨lw_c2 _ (List.mem_of_getElem? (i := 67) (by rfl)), rfl⟩
set_option maxRecDepth 20000 in
theorem tw_367 : (Jvm.Cond.instanceMethod ({ cls := "RockHeat$Rules", name := "tellHour", desc := "(LRockHeat$Town;IJ)V" } : Jvm.MethodName)) ∈ lw_g := List.mem_filter.mpr ⟨lw_c2 _ (List.mem_of_getElem? (i := 68) (by rfl)), rfl⟩
set_option maxRecDepth 20000 in
theorem tw_368 : (Jvm.Cond.selects "RockHeat$Rules" ({ cls := "RockHeat$Rules", name := "tellHour", desc := "(LRockHeat$Town;IJ)V" } : Jvm.MethodName) ({ cls := "RockHeat$Rules", name := "tellHour", desc := "(LRockHeat$Town;IJ)V" } : Jvm.MethodName)) ∈ lw_g := List.mem_filter.mpr ⟨lw_c2 _ (List.mem_of_getElem? (i := 69) (by rfl)), rfl⟩
set_option maxRecDepth 20000 in
theorem tw_369 : (Jvm.Cond.code ({ cls := "RockHeat$Rules", name := "tellHour", desc := "(LRockHeat$Town;IJ)V" } : Jvm.MethodName) prog_8_method_3_code (5 : Nat) (Option.none : Option Jvm.ClassFile.FieldType)) ∈ lw_g := List.mem_filter.mpr ⟨lw_c2 _ (List.mem_of_getElem? (i := 70) (by rfl)), rfl⟩
set_option maxRecDepth 20000 in
theorem tw_370 : (Jvm.Cond.methodLinkNest "RockHeat$Rules" (48 : Nat) ({ cls := "RockHeat", name := "inRound", desc := "([II)I" } : Jvm.MethodName) "RockHeat") ∈ lw_x := List.mem_filter.mpr ⟨lw_c2 _ (List.mem_of_getElem? (i := 71) (by rfl)), rfl⟩
set_option maxRecDepth 20000 in
theorem tw_371 : (Jvm.Cond.methodLink "RockHeat$Ground" (60 : Nat) ({ cls := "RockHeat$Ground", name := "layFlows", desc := "()V" } : Jvm.MethodName)) ∈ lw_g := List.mem_filter.mpr ⟨lw_c2 _ (List.mem_of_getElem? (i := 72) (by rfl)), rfl⟩
set_option maxRecDepth 20000 in
theorem tw_373 : (Jvm.Cond.instanceMethod ({ cls := "RockHeat$Ground", name := "layFlows", desc := "()V" } : Jvm.MethodName)) ∈ lw_g := List.mem_filter.mpr ⟨lw_c2 _ (List.mem_of_getElem? (i := 74) (by rfl)), rfl⟩
set_option maxRecDepth 20000 in
theorem tw_374 : (Jvm.Cond.code ({ cls := "RockHeat$Ground", name := "layFlows", desc := "()V" } : Jvm.MethodName) prog_3_method_4_code (4 : Nat) (Option.none : Option Jvm.ClassFile.FieldType)) ∈ lw_g := List.mem_filter.mpr ⟨lw_c2 _ (List.mem_of_getElem? (i := 75) (by rfl)), rfl⟩
set_option maxRecDepth 20000 in
theorem tw_375 : (Jvm.Cond.methodLink "RockHeat$Ground" (34 : Nat) ({ cls := "java/util/ArrayList", name := "size", desc := "()I" } : Jvm.MethodName)) ∈ lw_g := List.mem_filter.mpr ⟨lw_c2 _ (List.mem_of_getElem? (i := 76) (by rfl)), rfl⟩
set_option maxRecDepth 20000 in
theorem tw_376 : (Jvm.Cond.methodLink "RockHeat$Ground" (38 : Nat) ({ cls := "java/util/ArrayList", name := "get", desc := "(I)Ljava/lang/Object;" } : Jvm.MethodName)) ∈ lw_g := List.mem_filter.mpr ⟨lw_c2 _ (List.mem_of_getElem? (i := 77) (by rfl)), rfl⟩
set_option maxRecDepth 20000 in
theorem tw_377 : (Jvm.Cond.classLink "RockHeat$Ground" (42 : Nat) "RockHeat$Bore") ∈ lw_g := List.mem_filter.mpr ⟨lw_c2 _ (List.mem_of_getElem? (i := 78) (by rfl)), rfl⟩
set_option maxRecDepth 20000 in
theorem tw_378 : (Jvm.Cond.methodLink "RockHeat$Ground" (73 : Nat) ({ cls := "RockHeat$Bore", name := "leadOut", desc := "()J" } : Jvm.MethodName)) ∈ lw_g := List.mem_filter.mpr ⟨lw_c2 _ (List.mem_of_getElem? (i := 79) (by rfl)), rfl⟩
set_option maxRecDepth 20000 in
theorem tw_379 : (Jvm.Cond.instanceMethod ({ cls := "RockHeat$Bore", name := "leadOut", desc := "()J" } : Jvm.MethodName)) ∈ lw_g := List.mem_filter.mpr ⟨lw_c2 _ (List.mem_of_getElem? (i := 80) (by rfl)), rfl⟩
set_option maxRecDepth 20000 in
theorem tw_380 : (Jvm.Cond.selects "RockHeat$Bore" ({ cls := "RockHeat$Bore", name := "leadOut", desc := "()J" } : Jvm.MethodName) ({ cls := "RockHeat$Bore", name := "leadOut", desc := "()J" } : Jvm.MethodName)) ∈ lw_g := List.mem_filter.mpr ⟨lw_c2 _ (List.mem_of_getElem? (i := 81) (by rfl)), rfl⟩
set_option maxRecDepth 20000 in
theorem tw_381 : (Jvm.Cond.code ({ cls := "RockHeat$Bore", name := "leadOut", desc := "()J" } : Jvm.MethodName) prog_2_method_3_code (8 : Nat) (Option.some Jvm.ClassFile.FieldType.long)) ∈ lw_g := List.mem_filter.mpr ⟨lw_c2 _ (List.mem_of_getElem? (i := 82) (by rfl)), rfl⟩
set_option maxRecDepth 20000 in
theorem tw_382 : (Jvm.Cond.constantLong "RockHeat$Bore" (55 : Nat) (1000 : Int64)) ∈ lw_g := List.mem_filter.mpr ⟨lw_c2 _ (List.mem_of_getElem? (i := 83) (by rfl)), rfl⟩
set_option maxRecDepth 20000 in
theorem tw_383 : (Jvm.Cond.methodLink "RockHeat$Bore" (57 : Nat) ({ cls := "java/util/ArrayList", name := "size", desc := "()I" } : Jvm.MethodName)) ∈ lw_g := List.mem_filter.mpr ⟨lw_c2 _ (List.mem_of_getElem? (i := 84) (by rfl)), rfl⟩
set_option maxRecDepth 20000 in
theorem tw_384 : (Jvm.Cond.methodLink "RockHeat$Bore" (61 : Nat) ({ cls := "java/util/ArrayList", name := "get", desc := "(I)Ljava/lang/Object;" } : Jvm.MethodName)) ∈ lw_g := List.mem_filter.mpr ⟨lw_c2 _ (List.mem_of_getElem? (i := 85) (by rfl)), rfl⟩
set_option maxRecDepth 20000 in
theorem tw_385 : (Jvm.Cond.classLink "RockHeat$Bore" (35 : Nat) "RockHeat$Ring") ∈ lw_g := List.mem_filter.mpr ⟨lw_c2 _ (List.mem_of_getElem? (i := 86) (by rfl)), rfl⟩
set_option maxRecDepth 20000 in
theorem tw_386 : (Jvm.Cond.constantLong "RockHeat$Bore" (68 : Nat) (100 : Int64)) ∈ lw_g := List.mem_filter.mpr ⟨lw_c2 _ (List.mem_of_getElem? (i := 87) (by rfl)), rfl⟩
set_option maxRecDepth 20000 in
theorem tw_387 : (Jvm.Cond.methodLink "RockHeat$Ground" (77 : Nat) ({ cls := "RockHeat$Bore", name := "wash", desc := "()J" } : Jvm.MethodName)) ∈ lw_g := List.mem_filter.mpr ⟨lw_c2 _ (List.mem_of_getElem? (i := 88) (by rfl)), rfl⟩
set_option maxRecDepth 20000 in
theorem tw_388 : (Jvm.Cond.instanceMethod ({ cls := "RockHeat$Bore", name := "wash", desc := "()J" } : Jvm.MethodName)) ∈ lw_g := List.mem_filter.mpr ⟨lw_c2 _ (List.mem_of_getElem? (i := 89) (by rfl)), rfl⟩
set_option maxRecDepth 20000 in
theorem tw_389 : (Jvm.Cond.selects "RockHeat$Bore" ({ cls := "RockHeat$Bore", name := "wash", desc := "()J" } : Jvm.MethodName) ({ cls := "RockHeat$Bore", name := "wash", desc := "()J" } : Jvm.MethodName)) ∈ lw_g := List.mem_filter.mpr ⟨lw_c2 _ (List.mem_of_getElem? (i := 90) (by rfl)), rfl⟩
set_option maxRecDepth 20000 in
theorem tw_390 : (Jvm.Cond.code ({ cls := "RockHeat$Bore", name := "wash", desc := "()J" } : Jvm.MethodName) prog_2_method_5_code (7 : Nat) (Option.some Jvm.ClassFile.FieldType.long)) ∈ lw_g := List.mem_filter.mpr ⟨lw_c2 _ (List.mem_of_getElem? (i := 91) (by rfl)), rfl⟩
set_option maxRecDepth 20000 in
theorem tw_391 : (Jvm.Cond.methodLink "RockHeat$Ground" (83 : Nat) ({ cls := "RockHeat$Bore", name := "shareWith", desc := "(LRockHeat$Bore;I)V" } : Jvm.MethodName)) ∈ lw_g := List.mem_filter.mpr ⟨lw_c2 _ (List.mem_of_getElem? (i := 92) (by rfl)), rfl⟩
set_option maxRecDepth 20000 in
theorem tw_392 : (Jvm.Cond.instanceMethod ({ cls := "RockHeat$Bore", name := "shareWith", desc := "(LRockHeat$Bore;I)V" } : Jvm.MethodName)) ∈ lw_g := List.mem_filter.mpr ⟨lw_c2 _ (List.mem_of_getElem? (i := 93) (by rfl)), rfl⟩
set_option maxRecDepth 20000 in
theorem tw_393 : (Jvm.Cond.selects "RockHeat$Bore" ({ cls := "RockHeat$Bore", name := "shareWith", desc := "(LRockHeat$Bore;I)V" } : Jvm.MethodName) ({ cls := "RockHeat$Bore", name := "shareWith", desc := "(LRockHeat$Bore;I)V" } : Jvm.MethodName)) ∈ lw_g := List.mem_filter.mpr ⟨lw_c2 _ (List.mem_of_getElem? (i := 94) (by rfl)), rfl⟩
set_option maxRecDepth 20000 in
theorem tw_394 : (Jvm.Cond.code ({ cls := "RockHeat$Bore", name := "shareWith", desc := "(LRockHeat$Bore;I)V" } : Jvm.MethodName) prog_2_method_4_code (6 : Nat) (Option.none : Option Jvm.ClassFile.FieldType)) ∈ lw_g := List.mem_filter.mpr ⟨lw_c2 _ (List.mem_of_getElem? (i := 95) (by rfl)), rfl⟩
set_option maxRecDepth 20000 in
theorem tw_395 : (Jvm.Cond.methodLink "RockHeat$Bore" (73 : Nat) ({ cls := "java/lang/Math", name := "abs", desc := "(I)I" } : Jvm.MethodName)) ∈ lw_g := List.mem_filter.mpr ⟨lw_c2 _ (List.mem_of_getElem? (i := 96) (by rfl)), rfl⟩
set_option maxRecDepth 20000 in
theorem tw_396 : (Jvm.Cond.static ({ cls := "java/lang/Math", name := "abs", desc := "(I)I" } : Jvm.MethodName)) ∈ lw_g := List.mem_filter.mpr ⟨lw_c2 _ (List.mem_of_getElem? (i := 97) (by rfl)), rfl⟩
set_option maxRecDepth 20000 in
theorem tw_397 : (Jvm.Cond.code ({ cls := "java/lang/Math", name := "abs", desc := "(I)I" } : Jvm.MethodName) prog_22_method_59_code (1 : Nat) (Option.some Jvm.ClassFile.FieldType.int)) ∈ lw_g := List.mem_filter.mpr ⟨lw_c2 _ (List.mem_of_getElem? (i := 98) (by rfl)), rfl⟩
set_option maxRecDepth 20000 in
theorem tw_398 : (Jvm.Cond.methodLink "RockHeat$Bore" (79 : Nat) ({ cls := "java/lang/Math", name := "max", desc := "(II)I" } : Jvm.MethodName)) ∈ lw_g := List.mem_filter.mpr ⟨lw_c2 _ (List.mem_of_getElem? (i := 99) (by rfl)), rfl⟩
set_option maxRecDepth 20000 in
theorem tw_399 : (Jvm.Cond.methodLinkNest "RockHeat$Bore" (83 : Nat) ({ cls := "RockHeat", name := "cut", desc := "(JJ)J" } : Jvm.MethodName) "RockHeat") ∈ lw_x := List.mem_filter.mpr ⟨lw_c2 _ (List.mem_of_getElem? (i := 100) (by rfl)), rfl⟩
set_option maxRecDepth 20000 in
theorem tw_400 : (Jvm.Cond.static ({ cls := "RockHeat", name := "cut", desc := "(JJ)J" } : Jvm.MethodName)) ∈ lw_g := List.mem_filter.mpr ⟨lw_c2 _ (List.mem_of_getElem? (i := 101) (by rfl)), rfl⟩
set_option maxRecDepth 20000 in
theorem tw_401 : (Jvm.Cond.code ({ cls := "RockHeat", name := "cut", desc := "(JJ)J" } : Jvm.MethodName) prog_1_method_43_code (4 : Nat) (Option.some Jvm.ClassFile.FieldType.long)) ∈ lw_g := List.mem_filter.mpr ⟨lw_c2 _ (List.mem_of_getElem? (i := 102) (by rfl)), rfl⟩
set_option maxRecDepth 20000 in
theorem tw_402 : (Jvm.Cond.methodLink "RockHeat$Ground" (63 : Nat) ({ cls := "RockHeat$Ground", name := "takeSun", desc := "()V" } : Jvm.MethodName)) ∈ lw_g := List.mem_filter.mpr ⟨lw_c2 _ (List.mem_of_getElem? (i := 103) (by rfl)), rfl⟩
set_option maxRecDepth 20000 in
theorem tw_404 : (Jvm.Cond.instanceMethod ({ cls := "RockHeat$Ground", name := "takeSun", desc := "()V" } : Jvm.MethodName)) ∈ lw_g := List.mem_filter.mpr ⟨lw_c2 _ (List.mem_of_getElem? (i := 105) (by rfl)), rfl⟩
set_option maxRecDepth 20000 in
theorem tw_405 : (Jvm.Cond.code ({ cls := "RockHeat$Ground", name := "takeSun", desc := "()V" } : Jvm.MethodName) prog_3_method_5_code (8 : Nat) (Option.none : Option Jvm.ClassFile.FieldType)) ∈ lw_g := List.mem_filter.mpr ⟨lw_c2 _ (List.mem_of_getElem? (i := 106) (by rfl)), rfl⟩
set_option maxRecDepth 20000 in
theorem tw_406 : (Jvm.Cond.methodLink "RockHeat$Ground" (87 : Nat) ({ cls := "RockHeat$Rules", name := "inForce", desc := "(II)LRockHeat$Rule;" } : Jvm.MethodName)) ∈ lw_g := List.mem_filter.mpr ⟨lw_c2 _ (List.mem_of_getElem? (i := 107) (by rfl)), rfl⟩
set_option maxRecDepth 20000 in
theorem tw_407 : (Jvm.Cond.instanceMethod ({ cls := "RockHeat$Rules", name := "inForce", desc := "(II)LRockHeat$Rule;" } : Jvm.MethodName)) ∈ lw_g := List.mem_filter.mpr ⟨lw_c2 _ (List.mem_of_getElem? (i := 108) (by rfl)), rfl⟩
set_option maxRecDepth 20000 in
theorem tw_408 : (Jvm.Cond.selects "RockHeat$Rules" ({ cls := "RockHeat$Rules", name := "inForce", desc := "(II)LRockHeat$Rule;" } : Jvm.MethodName) ({ cls := "RockHeat$Rules", name := "inForce", desc := "(II)LRockHeat$Rule;" } : Jvm.MethodName)) ∈ lw_g := List.mem_filter.mpr ⟨lw_c2 _ (List.mem_of_getElem? (i := 109) (by rfl)), rfl⟩
set_option maxRecDepth 20000 in
theorem tw_409 : (Jvm.Cond.code ({ cls := "RockHeat$Rules", name := "inForce", desc := "(II)LRockHeat$Rule;" } : Jvm.MethodName) prog_8_method_2_code (6 : Nat) (Option.some (Jvm.ClassFile.FieldType.object "RockHeat$Rule"))) ∈ lw_g := List.mem_filter.mpr ⟨lw_c2 _ (List.mem_of_getElem? (i := 110) (by rfl)), rfl⟩
set_option maxRecDepth 20000 in
theorem tw_410 : (Jvm.Cond.methodLink "RockHeat$Rules" (25 : Nat) ({ cls := "java/util/ArrayList", name := "size", desc := "()I" } : Jvm.MethodName)) ∈ lw_g := List.mem_filter.mpr ⟨lw_c2 _ (List.mem_of_getElem? (i := 111) (by rfl)), rfl⟩
set_option maxRecDepth 20000 in
theorem tw_411 : (Jvm.Cond.methodLink "RockHeat$Rules" (29 : Nat) ({ cls := "java/util/ArrayList", name := "get", desc := "(I)Ljava/lang/Object;" } : Jvm.MethodName)) ∈ lw_g := List.mem_filter.mpr ⟨lw_c2 _ (List.mem_of_getElem? (i := 112) (by rfl)), rfl⟩
set_option maxRecDepth 20000 in
theorem tw_412 : (Jvm.Cond.classLink "RockHeat$Rules" (33 : Nat) "RockHeat$Rule") ∈ lw_g := List.mem_filter.mpr ⟨lw_c2 _ (List.mem_of_getElem? (i := 113) (by rfl)), rfl⟩
set_option maxRecDepth 20000 in
theorem tw_413 : (Jvm.Cond.methodLinkNest "RockHeat$Ground" (95 : Nat) ({ cls := "RockHeat", name := "inRound", desc := "([II)I" } : Jvm.MethodName) "RockHeat") ∈ lw_x := List.mem_filter.mpr ⟨lw_c2 _ (List.mem_of_getElem? (i := 114) (by rfl)), rfl⟩
set_option maxRecDepth 20000 in
theorem tw_414 : (Jvm.Cond.methodLink "RockHeat$Ground" (103 : Nat) ({ cls := "RockHeat$Rules", name := "worth", desc := "(LRockHeat$Rule;LRockHeat$Bore;)J" } : Jvm.MethodName)) ∈ lw_g := List.mem_filter.mpr ⟨lw_c2 _ (List.mem_of_getElem? (i := 115) (by rfl)), rfl⟩
set_option maxRecDepth 20000 in
theorem tw_415 : (Jvm.Cond.instanceMethod ({ cls := "RockHeat$Rules", name := "worth", desc := "(LRockHeat$Rule;LRockHeat$Bore;)J" } : Jvm.MethodName)) ∈ lw_g := List.mem_filter.mpr ⟨lw_c2 _ (List.mem_of_getElem? (i := 116) (by rfl)), rfl⟩
set_option maxRecDepth 20000 in
theorem tw_416 : (Jvm.Cond.selects "RockHeat$Rules" ({ cls := "RockHeat$Rules", name := "worth", desc := "(LRockHeat$Rule;LRockHeat$Bore;)J" } : Jvm.MethodName) ({ cls := "RockHeat$Rules", name := "worth", desc := "(LRockHeat$Rule;LRockHeat$Bore;)J" } : Jvm.MethodName)) ∈ lw_g := List.mem_filter.mpr ⟨lw_c2 _ (List.mem_of_getElem? (i := 117) (by rfl)), rfl⟩
set_option maxRecDepth 20000 in
theorem tw_417 : (Jvm.Cond.code ({ cls := "RockHeat$Rules", name := "worth", desc := "(LRockHeat$Rule;LRockHeat$Bore;)J" } : Jvm.MethodName) prog_8_method_4_code (5 : Nat) (Option.some Jvm.ClassFile.FieldType.long)) ∈ lw_g := List.mem_filter.mpr ⟨lw_c2 _ (List.mem_of_getElem? (i := 118) (by rfl)), rfl⟩
set_option maxRecDepth 20000 in
theorem tw_418 : (Jvm.Cond.constantLong "RockHeat$Rules" (67 : Nat) (1000 : Int64)) ∈ lw_g := List.mem_filter.mpr ⟨lw_c2 _ (List.mem_of_getElem? (i := 119) (by rfl)), rfl⟩
set_option maxRecDepth 20000 in
theorem tw_419 : (Jvm.Cond.methodLink "RockHeat$Rules" (84 : Nat) ({ cls := "RockHeat$Rules", name := "workOut", desc := "([II)J" } : Jvm.MethodName)) ∈ lw_g := List.mem_filter.mpr ⟨lw_c2 _ (List.mem_of_getElem? (i := 120) (by rfl)), rfl⟩
set_option maxRecDepth 20000 in
theorem tw_421 : (Jvm.Cond.instanceMethod ({ cls := "RockHeat$Rules", name := "workOut", desc := "([II)J" } : Jvm.MethodName)) ∈ lw_g := List.mem_filter.mpr ⟨lw_c2 _ (List.mem_of_getElem? (i := 122) (by rfl)), rfl⟩
set_option maxRecDepth 20000 in
theorem tw_422 : (Jvm.Cond.code ({ cls := "RockHeat$Rules", name := "workOut", desc := "([II)J" } : Jvm.MethodName) prog_8_method_5_code (6 : Nat) (Option.some Jvm.ClassFile.FieldType.long)) ∈ lw_g := List.mem_filter.mpr ⟨lw_c2 _ (List.mem_of_getElem? (i := 123) (by rfl)), rfl⟩
set_option maxRecDepth 20000 in
theorem tw_423 : (Jvm.Cond.methodLink "RockHeat$Rules" (90 : Nat) ({ cls := "RockHeat$Rules", name := "step", desc := "(IJJ)J" } : Jvm.MethodName)) ∈ lw_g := List.mem_filter.mpr ⟨lw_c2 _ (List.mem_of_getElem? (i := 124) (by rfl)), rfl⟩
set_option maxRecDepth 20000 in
theorem tw_424 : (Jvm.Cond.static ({ cls := "RockHeat$Rules", name := "step", desc := "(IJJ)J" } : Jvm.MethodName)) ∈ lw_g := List.mem_filter.mpr ⟨lw_c2 _ (List.mem_of_getElem? (i := 125) (by rfl)), rfl⟩
set_option maxRecDepth 20000 in
theorem tw_425 : (Jvm.Cond.code ({ cls := "RockHeat$Rules", name := "step", desc := "(IJJ)J" } : Jvm.MethodName) prog_8_method_7_code (7 : Nat) (Option.some Jvm.ClassFile.FieldType.long)) ∈ lw_g := List.mem_filter.mpr ⟨lw_c2 _ (List.mem_of_getElem? (i := 126) (by rfl)), rfl⟩
set_option maxRecDepth 20000 in
theorem tw_426 : (Jvm.Cond.constantLong "RockHeat$Rules" (98 : Nat) (-1000000000 : Int64)) ∈ lw_g := List.mem_filter.mpr ⟨lw_c2 _ (List.mem_of_getElem? (i := 127) (by rfl)), rfl⟩
set_option maxRecDepth 20000 in
theorem tw_427 : (Jvm.Cond.constantLong "RockHeat$Rules" (100 : Nat) (1000000000 : Int64)) ∈ lw_g := List.mem_filter.mpr ⟨lw_c2 _ (List.mem_of_getElem? (i := 128) (by rfl)), rfl⟩
set_option maxRecDepth 20000 in
theorem tw_428 : (Jvm.Cond.methodLink "RockHeat$Rules" (94 : Nat) ({ cls := "RockHeat$Rules", name := "valueOf", desc := "(I)J" } : Jvm.MethodName)) ∈ lw_g := List.mem_filter.mpr ⟨lw_c2 _ (List.mem_of_getElem? (i := 129) (by rfl)), rfl⟩
set_option maxRecDepth 20000 in
theorem tw_430 : (Jvm.Cond.instanceMethod ({ cls := "RockHeat$Rules", name := "valueOf", desc := "(I)J" } : Jvm.MethodName)) ∈ lw_g := List.mem_filter.mpr ⟨lw_c2 _ (List.mem_of_getElem? (i := 131) (by rfl)), rfl⟩
set_option maxRecDepth 20000 in
theorem tw_431 : (Jvm.Cond.code ({ cls := "RockHeat$Rules", name := "valueOf", desc := "(I)J" } : Jvm.MethodName) prog_8_method_6_code (3 : Nat) (Option.some Jvm.ClassFile.FieldType.long)) ∈ lw_g := List.mem_filter.mpr ⟨lw_c2 _ (List.mem_of_getElem? (i := 132) (by rfl)), rfl⟩
set_option maxRecDepth 20000 in
theorem tw_432 : (Jvm.Cond.constantLong "RockHeat$Rules" (88 : Nat) (99999 : Int64)) ∈ lw_g := List.mem_filter.mpr ⟨lw_c2 _ (List.mem_of_getElem? (i := 133) (by rfl)), rfl⟩
set_option maxRecDepth 20000 in
theorem tw_433 : (Jvm.Cond.methodLink "RockHeat$Ground" (107 : Nat) ({ cls := "java/lang/Math", name := "min", desc := "(JJ)J" } : Jvm.MethodName)) ∈ lw_g := List.mem_filter.mpr ⟨lw_c2 _ (List.mem_of_getElem? (i := 134) (by rfl)), rfl⟩
set_option maxRecDepth 20000 in
theorem tw_434 : (Jvm.Cond.static ({ cls := "java/lang/Math", name := "min", desc := "(JJ)J" } : Jvm.MethodName)) ∈ lw_g := List.mem_filter.mpr ⟨lw_c2 _ (List.mem_of_getElem? (i := 135) (by rfl)), rfl⟩
set_option maxRecDepth 20000 in
theorem tw_435 : (Jvm.Cond.code ({ cls := "java/lang/Math", name := "min", desc := "(JJ)J" } : Jvm.MethodName) prog_22_method_70_code (4 : Nat) (Option.some Jvm.ClassFile.FieldType.long)) ∈ lw_g := List.mem_filter.mpr ⟨lw_c2 _ (List.mem_of_getElem? (i := 136) (by rfl)), rfl⟩
set_option maxRecDepth 20000 in
theorem tw_436 : (Jvm.Cond.methodLink "RockHeat$Ground" (66 : Nat) ({ cls := "RockHeat$Ground", name := "meet", desc := "(J)V" } : Jvm.MethodName)) ∈ lw_g := List.mem_filter.mpr ⟨lw_c2 _ (List.mem_of_getElem? (i := 137) (by rfl)), rfl⟩
set_option maxRecDepth 20000 in
theorem tw_438 : (Jvm.Cond.instanceMethod ({ cls := "RockHeat$Ground", name := "meet", desc := "(J)V" } : Jvm.MethodName)) ∈ lw_g := List.mem_filter.mpr ⟨lw_c2 _ (List.mem_of_getElem? (i := 139) (by rfl)), rfl⟩
set_option maxRecDepth 20000 in
theorem tw_439 : (Jvm.Cond.code ({ cls := "RockHeat$Ground", name := "meet", desc := "(J)V" } : Jvm.MethodName) prog_3_method_6_code (20 : Nat) (Option.none : Option Jvm.ClassFile.FieldType)) ∈ lw_g := List.mem_filter.mpr ⟨lw_c2 _ (List.mem_of_getElem? (i := 140) (by rfl)), rfl⟩
set_option maxRecDepth 20000 in
theorem tw_440 : (Jvm.Cond.methodLink "RockHeat$Ground" (123 : Nat) ({ cls := "RockHeat$Bore", name := "isFrozen", desc := "()Z" } : Jvm.MethodName)) ∈ lw_g := List.mem_filter.mpr ⟨lw_c2 _ (List.mem_of_getElem? (i := 141) (by rfl)), rfl⟩
set_option maxRecDepth 20000 in
theorem tw_441 : (Jvm.Cond.instanceMethod ({ cls := "RockHeat$Bore", name := "isFrozen", desc := "()Z" } : Jvm.MethodName)) ∈ lw_g := List.mem_filter.mpr ⟨lw_c2 _ (List.mem_of_getElem? (i := 142) (by rfl)), rfl⟩
set_option maxRecDepth 20000 in
theorem tw_442 : (Jvm.Cond.selects "RockHeat$Bore" ({ cls := "RockHeat$Bore", name := "isFrozen", desc := "()Z" } : Jvm.MethodName) ({ cls := "RockHeat$Bore", name := "isFrozen", desc := "()Z" } : Jvm.MethodName)) ∈ lw_g := List.mem_filter.mpr ⟨lw_c2 _ (List.mem_of_getElem? (i := 143) (by rfl)), rfl⟩
set_option maxRecDepth 20000 in
theorem tw_443 : (Jvm.Cond.code ({ cls := "RockHeat$Bore", name := "isFrozen", desc := "()Z" } : Jvm.MethodName) prog_2_method_2_code (1 : Nat) (Option.some Jvm.ClassFile.FieldType.boolean)) ∈ lw_g := List.mem_filter.mpr ⟨lw_c2 _ (List.mem_of_getElem? (i := 144) (by rfl)), rfl⟩
set_option maxRecDepth 20000 in
theorem tw_444 : (Jvm.Cond.methodLink "RockHeat$Ground" (130 : Nat) ({ cls := "RockHeat$Table", name := "liftAt", desc := "(J)J" } : Jvm.MethodName)) ∈ lw_g := List.mem_filter.mpr ⟨lw_c2 _ (List.mem_of_getElem? (i := 145) (by rfl)), rfl⟩
set_option maxRecDepth 20000 in
theorem tw_445 : (Jvm.Cond.instanceMethod ({ cls := "RockHeat$Table", name := "liftAt", desc := "(J)J" } : Jvm.MethodName)) ∈ lw_g := List.mem_filter.mpr ⟨lw_c2 _ (List.mem_of_getElem? (i := 146) (by rfl)), rfl⟩
set_option maxRecDepth 20000 in
theorem tw_446 : (Jvm.Cond.selects "RockHeat$Table" ({ cls := "RockHeat$Table", name := "liftAt", desc := "(J)J" } : Jvm.MethodName) ({ cls := "RockHeat$Table", name := "liftAt", desc := "(J)J" } : Jvm.MethodName)) ∈ lw_g := List.mem_filter.mpr ⟨lw_c2 _ (List.mem_of_getElem? (i := 147) (by rfl)), rfl⟩
set_option maxRecDepth 20000 in
theorem tw_447 : (Jvm.Cond.code ({ cls := "RockHeat$Table", name := "liftAt", desc := "(J)J" } : Jvm.MethodName) prog_9_method_4_code (10 : Nat) (Option.some Jvm.ClassFile.FieldType.long)) ∈ lw_g := List.mem_filter.mpr ⟨lw_c2 _ (List.mem_of_getElem? (i := 148) (by rfl)), rfl⟩
set_option maxRecDepth 20000 in
theorem tw_448 : (Jvm.Cond.constantLong "RockHeat$Table" (22 : Nat) (100 : Int64)) ∈ lw_g := List.mem_filter.mpr ⟨lw_c2 _ (List.mem_of_getElem? (i := 149) (by rfl)), rfl⟩
set_option maxRecDepth 20000 in
theorem tw_449 : (Jvm.Cond.constantLong "RockHeat$Table" (24 : Nat) (1000 : Int64)) ∈ lw_g := List.mem_filter.mpr ⟨lw_c2 _ (List.mem_of_getElem? (i := 150) (by rfl)), rfl⟩
set_option maxRecDepth 20000 in
theorem tw_450 : (Jvm.Cond.methodLinkNest "RockHeat$Table" (26 : Nat) ({ cls := "RockHeat", name := "cut", desc := "(JJ)J" } : Jvm.MethodName) "RockHeat") ∈ lw_x := List.mem_filter.mpr ⟨lw_c2 _ (List.mem_of_getElem? (i := 151) (by rfl)), rfl⟩
set_option maxRecDepth 20000 in
theorem tw_451 : (Jvm.Cond.constantLong "RockHeat$Ground" (136 : Nat) (100 : Int64)) ∈ lw_g := List.mem_filter.mpr ⟨lw_c2 _ (List.mem_of_getElem? (i := 152) (by rfl)), rfl⟩
set_option maxRecDepth 20000 in
theorem tw_452 : (Jvm.Cond.constantLong "RockHeat$Ground" (138 : Nat) (99 : Int64)) ∈ lw_g := List.mem_filter.mpr ⟨lw_c2 _ (List.mem_of_getElem? (i := 153) (by rfl)), rfl⟩
set_option maxRecDepth 20000 in
theorem tw_453 : (Jvm.Cond.methodLinkNest "RockHeat$Ground" (140 : Nat) ({ cls := "RockHeat", name := "cut", desc := "(JJ)J" } : Jvm.MethodName) "RockHeat") ∈ lw_x := List.mem_filter.mpr ⟨lw_c2 _ (List.mem_of_getElem? (i := 154) (by rfl)), rfl⟩
set_option maxRecDepth 20000 in
theorem tw_454 : (Jvm.Cond.methodLink "RockHeat$Ground" (143 : Nat) ({ cls := "java/lang/Math", name := "max", desc := "(JJ)J" } : Jvm.MethodName)) ∈ lw_g := List.mem_filter.mpr ⟨lw_c2 _ (List.mem_of_getElem? (i := 155) (by rfl)), rfl⟩
set_option maxRecDepth 20000 in
theorem tw_455 : (Jvm.Cond.static ({ cls := "java/lang/Math", name := "max", desc := "(JJ)J" } : Jvm.MethodName)) ∈ lw_g := List.mem_filter.mpr ⟨lw_c2 _ (List.mem_of_getElem? (i := 156) (by rfl)), rfl⟩
set_option maxRecDepth 20000 in
theorem tw_456 : (Jvm.Cond.code ({ cls := "java/lang/Math", name := "max", desc := "(JJ)J" } : Jvm.MethodName) prog_22_method_66_code (4 : Nat) (Option.some Jvm.ClassFile.FieldType.long)) ∈ lw_g := List.mem_filter.mpr ⟨lw_c2 _ (List.mem_of_getElem? (i := 157) (by rfl)), rfl⟩
set_option maxRecDepth 20000 in
theorem tw_457 : (Jvm.Cond.methodLink "RockHeat$Ground" (70 : Nat) ({ cls := "RockHeat$Bore", name := "settle", desc := "()V" } : Jvm.MethodName)) ∈ lw_g := List.mem_filter.mpr ⟨lw_c2 _ (List.mem_of_getElem? (i := 158) (by rfl)), rfl⟩
set_option maxRecDepth 20000 in
theorem tw_458 : (Jvm.Cond.instanceMethod ({ cls := "RockHeat$Bore", name := "settle", desc := "()V" } : Jvm.MethodName)) ∈ lw_g := List.mem_filter.mpr ⟨lw_c2 _ (List.mem_of_getElem? (i := 159) (by rfl)), rfl⟩
set_option maxRecDepth 20000 in
theorem tw_459 : (Jvm.Cond.selects "RockHeat$Bore" ({ cls := "RockHeat$Bore", name := "settle", desc := "()V" } : Jvm.MethodName) ({ cls := "RockHeat$Bore", name := "settle", desc := "()V" } : Jvm.MethodName)) ∈ lw_g := List.mem_filter.mpr ⟨lw_c2 _ (List.mem_of_getElem? (i := 160) (by rfl)), rfl⟩
set_option maxRecDepth 20000 in
theorem tw_460 : (Jvm.Cond.code ({ cls := "RockHeat$Bore", name := "settle", desc := "()V" } : Jvm.MethodName) prog_2_method_6_code (2 : Nat) (Option.none : Option Jvm.ClassFile.FieldType)) ∈ lw_g := List.mem_filter.mpr ⟨lw_c2 _ (List.mem_of_getElem? (i := 161) (by rfl)), rfl⟩
set_option maxRecDepth 20000 in
theorem tw_461 : (Jvm.Cond.methodLink "RockHeat$Bore" (96 : Nat) ({ cls := "RockHeat$Ring", name := "settle", desc := "()V" } : Jvm.MethodName)) ∈ lw_g := List.mem_filter.mpr ⟨lw_c2 _ (List.mem_of_getElem? (i := 162) (by rfl)), rfl⟩
set_option maxRecDepth 20000 in
theorem tw_462 : (Jvm.Cond.instanceMethod ({ cls := "RockHeat$Ring", name := "settle", desc := "()V" } : Jvm.MethodName)) ∈ lw_g := List.mem_filter.mpr ⟨lw_c2 _ (List.mem_of_getElem? (i := 163) (by rfl)), rfl⟩
set_option maxRecDepth 20000 in
theorem tw_463 : (Jvm.Cond.selects "RockHeat$Ring" ({ cls := "RockHeat$Ring", name := "settle", desc := "()V" } : Jvm.MethodName) ({ cls := "RockHeat$Ring", name := "settle", desc := "()V" } : Jvm.MethodName)) ∈ lw_g := List.mem_filter.mpr ⟨lw_c2 _ (List.mem_of_getElem? (i := 164) (by rfl)), rfl⟩
set_option maxRecDepth 20000 in
theorem tw_464 : (Jvm.Cond.code ({ cls := "RockHeat$Ring", name := "settle", desc := "()V" } : Jvm.MethodName) prog_6_method_2_code (1 : Nat) (Option.none : Option Jvm.ClassFile.FieldType)) ∈ lw_g := List.mem_filter.mpr ⟨lw_c2 _ (List.mem_of_getElem? (i := 165) (by rfl)), rfl⟩
set_option maxRecDepth 20000 in
theorem tw_465 : (Jvm.Cond.methodLinkNest "RockHeat$Ring" (21 : Nat) ({ cls := "RockHeat", name := "cut", desc := "(JJ)J" } : Jvm.MethodName) "RockHeat") ∈ lw_x := List.mem_filter.mpr ⟨lw_c2 _ (List.mem_of_getElem? (i := 166) (by rfl)), rfl⟩
set_option maxRecDepth 20000 in
theorem tw_466 : (Jvm.Cond.methodLink "RockHeatLaw" (18 : Nat) ({ cls := "RockHeat", name := "bore", desc := "(IIIII)I" } : Jvm.MethodName)) ∈ lw_g := List.mem_filter.mpr ⟨lw_c2 _ (List.mem_of_getElem? (i := 167) (by rfl)), rfl⟩
set_option maxRecDepth 20000 in
theorem tw_467 : (Jvm.Cond.instanceMethod ({ cls := "RockHeat", name := "bore", desc := "(IIIII)I" } : Jvm.MethodName)) ∈ lw_g := List.mem_filter.mpr ⟨lw_c2 _ (List.mem_of_getElem? (i := 168) (by rfl)), rfl⟩
set_option maxRecDepth 20000 in
theorem tw_468 : (Jvm.Cond.selects "RockHeat" ({ cls := "RockHeat", name := "bore", desc := "(IIIII)I" } : Jvm.MethodName) ({ cls := "RockHeat", name := "bore", desc := "(IIIII)I" } : Jvm.MethodName)) ∈ lw_g := List.mem_filter.mpr ⟨lw_c2 _ (List.mem_of_getElem? (i := 169) (by rfl)), rfl⟩
set_option maxRecDepth 20000 in
theorem tw_469 : (Jvm.Cond.code ({ cls := "RockHeat", name := "bore", desc := "(IIIII)I" } : Jvm.MethodName) prog_1_method_3_code (7 : Nat) (Option.some Jvm.ClassFile.FieldType.int)) ∈ lw_g := List.mem_filter.mpr ⟨lw_c2 _ (List.mem_of_getElem? (i := 170) (by rfl)), rfl⟩
set_option maxRecDepth 20000 in
theorem tw_470 : (Jvm.Cond.methodLink "RockHeat" (85 : Nat) ({ cls := "java/util/ArrayList", name := "size", desc := "()I" } : Jvm.MethodName)) ∈ lw_g := List.mem_filter.mpr ⟨lw_c2 _ (List.mem_of_getElem? (i := 171) (by rfl)), rfl⟩
set_option maxRecDepth 20000 in
theorem tw_471 : (Jvm.Cond.classLink "RockHeat" (89 : Nat) "RockHeat$Bore") ∈ lw_g := List.mem_filter.mpr ⟨lw_c2 _ (List.mem_of_getElem? (i := 172) (by rfl)), rfl⟩
set_option maxRecDepth 20000 in
theorem tw_472 : (Jvm.Cond.instantiable "RockHeat$Bore" (11 : Nat)) ∈ lw_g := List.mem_filter.mpr ⟨lw_c2 _ (List.mem_of_getElem? (i := 173) (by rfl)), rfl⟩
set_option maxRecDepth 20000 in
theorem tw_473 : (Jvm.Cond.methodLink "RockHeat" (91 : Nat) ({ cls := "RockHeat$Bore", name := "<init>", desc := "(IIIIII)V" } : Jvm.MethodName)) ∈ lw_g := List.mem_filter.mpr ⟨lw_c2 _ (List.mem_of_getElem? (i := 174) (by rfl)), rfl⟩
set_option maxRecDepth 20000 in
theorem tw_474 : (Jvm.Cond.instanceMethod ({ cls := "RockHeat$Bore", name := "<init>", desc := "(IIIIII)V" } : Jvm.MethodName)) ∈ lw_g := List.mem_filter.mpr ⟨lw_c2 _ (List.mem_of_getElem? (i := 175) (by rfl)), rfl⟩
set_option maxRecDepth 20000 in
theorem tw_475 : (Jvm.Cond.code ({ cls := "RockHeat$Bore", name := "<init>", desc := "(IIIIII)V" } : Jvm.MethodName) prog_2_method_1_code (9 : Nat) (Option.none : Option Jvm.ClassFile.FieldType)) ∈ lw_g := List.mem_filter.mpr ⟨lw_c2 _ (List.mem_of_getElem? (i := 176) (by rfl)), rfl⟩
set_option maxRecDepth 20000 in
theorem tw_476 : (Jvm.Cond.methodLink "RockHeat$Bore" (3 : Nat) ({ cls := "java/lang/Object", name := "<init>", desc := "()V" } : Jvm.MethodName)) ∈ lw_g := List.mem_filter.mpr ⟨lw_c2 _ (List.mem_of_getElem? (i := 177) (by rfl)), rfl⟩
set_option maxRecDepth 20000 in
theorem tw_477 : (Jvm.Cond.classLink "RockHeat$Bore" (9 : Nat) "java/util/ArrayList") ∈ lw_g := List.mem_filter.mpr ⟨lw_c2 _ (List.mem_of_getElem? (i := 178) (by rfl)), rfl⟩
set_option maxRecDepth 20000 in
theorem tw_478 : (Jvm.Cond.methodLink "RockHeat$Bore" (11 : Nat) ({ cls := "java/util/ArrayList", name := "<init>", desc := "()V" } : Jvm.MethodName)) ∈ lw_g := List.mem_filter.mpr ⟨lw_c2 _ (List.mem_of_getElem? (i := 179) (by rfl)), rfl⟩
set_option maxRecDepth 20000 in
theorem tw_479 : (Jvm.Cond.instantiable "RockHeat$Ring" (5 : Nat)) ∈ lw_g := List.mem_filter.mpr ⟨lw_c2 _ (List.mem_of_getElem? (i := 180) (by rfl)), rfl⟩
set_option maxRecDepth 20000 in
theorem tw_480 : (Jvm.Cond.methodLink "RockHeat$Bore" (37 : Nat) ({ cls := "RockHeat$Ring", name := "<init>", desc := "(JJ)V" } : Jvm.MethodName)) ∈ lw_g := List.mem_filter.mpr ⟨lw_c2 _ (List.mem_of_getElem? (i := 181) (by rfl)), rfl⟩
set_option maxRecDepth 20000 in
theorem tw_481 : (Jvm.Cond.instanceMethod ({ cls := "RockHeat$Ring", name := "<init>", desc := "(JJ)V" } : Jvm.MethodName)) ∈ lw_g := List.mem_filter.mpr ⟨lw_c2 _ (List.mem_of_getElem? (i := 182) (by rfl)), rfl⟩
set_option maxRecDepth 20000 in
theorem tw_482 : (Jvm.Cond.code ({ cls := "RockHeat$Ring", name := "<init>", desc := "(JJ)V" } : Jvm.MethodName) prog_6_method_1_code (5 : Nat) (Option.none : Option Jvm.ClassFile.FieldType)) ∈ lw_g := List.mem_filter.mpr ⟨lw_c2 _ (List.mem_of_getElem? (i := 183) (by rfl)), rfl⟩
set_option maxRecDepth 20000 in
theorem tw_483 : (Jvm.Cond.methodLink "RockHeat$Ring" (1 : Nat) ({ cls := "java/lang/Object", name := "<init>", desc := "()V" } : Jvm.MethodName)) ∈ lw_g := List.mem_filter.mpr ⟨lw_c2 _ (List.mem_of_getElem? (i := 184) (by rfl)), rfl⟩
set_option maxRecDepth 20000 in
theorem tw_484 : (Jvm.Cond.constantLong "RockHeat$Ring" (13 : Nat) (1000 : Int64)) ∈ lw_g := List.mem_filter.mpr ⟨lw_c2 _ (List.mem_of_getElem? (i := 185) (by rfl)), rfl⟩
set_option maxRecDepth 20000 in
theorem tw_485 : (Jvm.Cond.fieldLink "RockHeat$Ring" (7 : Nat) "RockHeat$Ring" "hold" "J") ∈ lw_g := List.mem_filter.mpr ⟨lw_c2 _ (List.mem_of_getElem? (i := 186) (by rfl)), rfl⟩
set_option maxRecDepth 20000 in
theorem tw_486 : (Jvm.Cond.fieldLink "RockHeat" (305 : Nat) "RockHeat$Ring" "hold" "J") ∈ lw_g := List.mem_filter.mpr ⟨lw_c2 _ (List.mem_of_getElem? (i := 187) (by rfl)), rfl⟩
set_option maxRecDepth 20000 in
theorem tw_487 : (Jvm.Cond.fieldLink "RockHeat$Ring" (15 : Nat) "RockHeat$Ring" "first" "J") ∈ lw_g := List.mem_filter.mpr ⟨lw_c2 _ (List.mem_of_getElem? (i := 188) (by rfl)), rfl⟩
set_option maxRecDepth 20000 in
theorem tw_488 : (Jvm.Cond.fieldLink "RockHeat$Bore" (93 : Nat) "RockHeat$Ring" "first" "J") ∈ lw_g := List.mem_filter.mpr ⟨lw_c2 _ (List.mem_of_getElem? (i := 189) (by rfl)), rfl⟩
set_option maxRecDepth 20000 in
theorem tw_489 : (Jvm.Cond.fieldLink "RockHeat$Ground" (161 : Nat) "RockHeat$Ring" "first" "J") ∈ lw_g := List.mem_filter.mpr ⟨lw_c2 _ (List.mem_of_getElem? (i := 190) (by rfl)), rfl⟩
set_option maxRecDepth 20000 in
theorem tw_490 : (Jvm.Cond.fieldLink "RockHeat$Ring" (18 : Nat) "RockHeat$Ring" "heat" "J") ∈ lw_g := List.mem_filter.mpr ⟨lw_c2 _ (List.mem_of_getElem? (i := 191) (by rfl)), rfl⟩
set_option maxRecDepth 20000 in
theorem tw_491 : (Jvm.Cond.fieldLink "RockHeat$Bore" (90 : Nat) "RockHeat$Ring" "heat" "J") ∈ lw_g := List.mem_filter.mpr ⟨lw_c2 _ (List.mem_of_getElem? (i := 192) (by rfl)), rfl⟩
set_option maxRecDepth 20000 in
theorem tw_492 : (Jvm.Cond.fieldLink "RockHeat$Ground" (117 : Nat) "RockHeat$Ring" "heat" "J") ∈ lw_g := List.mem_filter.mpr ⟨lw_c2 _ (List.mem_of_getElem? (i := 193) (by rfl)), rfl⟩
set_option maxRecDepth 20000 in
theorem tw_493 : (Jvm.Cond.fieldLink "RockHeat" (123 : Nat) "RockHeat$Ring" "heat" "J") ∈ lw_g := List.mem_filter.mpr ⟨lw_c2 _ (List.mem_of_getElem? (i := 194) (by rfl)), rfl⟩
set_option maxRecDepth 20000 in
theorem tw_494 : (Jvm.Cond.fieldLink "RockHeat$Ring" (27 : Nat) "RockHeat$Ring" "warm" "J") ∈ lw_g := List.mem_filter.mpr ⟨lw_c2 _ (List.mem_of_getElem? (i := 195) (by rfl)), rfl⟩
set_option maxRecDepth 20000 in
theorem tw_495 : (Jvm.Cond.fieldLink "RockHeat$Bore" (51 : Nat) "RockHeat$Ring" "warm" "J") ∈ lw_g := List.mem_filter.mpr ⟨lw_c2 _ (List.mem_of_getElem? (i := 196) (by rfl)), rfl⟩
set_option maxRecDepth 20000 in
theorem tw_496 : (Jvm.Cond.fieldLink "RockHeat$Rules" (61 : Nat) "RockHeat$Ring" "warm" "J") ∈ lw_g := List.mem_filter.mpr ⟨lw_c2 _ (List.mem_of_getElem? (i := 197) (by rfl)), rfl⟩
set_option maxRecDepth 20000 in
theorem tw_497 : (Jvm.Cond.fieldLink "RockHeat$Ground" (127 : Nat) "RockHeat$Ring" "warm" "J") ∈ lw_g := List.mem_filter.mpr ⟨lw_c2 _ (List.mem_of_getElem? (i := 198) (by rfl)), rfl⟩
set_option maxRecDepth 20000 in
theorem tw_498 : (Jvm.Cond.fieldLink "RockHeat" (129 : Nat) "RockHeat$Ring" "warm" "J") ∈ lw_g := List.mem_filter.mpr ⟨lw_c2 _ (List.mem_of_getElem? (i := 199) (by rfl)), rfl⟩
set_option maxRecDepth 20000 in
theorem tw_499 : (Jvm.Cond.fieldLink "RockHeat$Ring" (30 : Nat) "RockHeat$Ring" "flow" "J") ∈ lw_g := List.mem_filter.mpr ⟨lw_c2 _ (List.mem_of_getElem? (i := 200) (by rfl)), rfl⟩
set_option maxRecDepth 20000 in
theorem tw_500 : (Jvm.Cond.fieldLink "RockHeat$Bore" (70 : Nat) "RockHeat$Ring" "flow" "J") ∈ lw_g := List.mem_filter.mpr ⟨lw_c2 _ (List.mem_of_getElem? (i := 201) (by rfl)), rfl⟩
set_option maxRecDepth 20000 in
theorem tw_512 : (Jvm.Cond.methodLink "RockHeat$Bore" (44 : Nat) ({ cls := "java/util/ArrayList", name := "add", desc := "(Ljava/lang/Object;)Z" } : Jvm.MethodName)) ∈ lw_g := List.mem_filter.mpr ⟨lw_c2 _ (List.mem_of_getElem? (i := 213) (by rfl)), rfl⟩
set_option maxRecDepth 20000 in
theorem tw_513 : (Jvm.Cond.instanceMethod ({ cls := "java/util/ArrayList", name := "add", desc := "(Ljava/lang/Object;)Z" } : Jvm.MethodName)) ∈ lw_g := List.mem_filter.mpr ⟨lw_c2 _ (List.mem_of_getElem? (i := 214) (by rfl)), rfl⟩
set_option maxRecDepth 20000 in
theorem tw_514 : (Jvm.Cond.selects "java/util/ArrayList" ({ cls := "java/util/ArrayList", name := "add", desc := "(Ljava/lang/Object;)Z" } : Jvm.MethodName) ({ cls := "java/util/ArrayList", name := "add", desc := "(Ljava/lang/Object;)Z" } : Jvm.MethodName)) ∈ lw_g := List.mem_filter.mpr ⟨lw_c2 _ (List.mem_of_getElem? (i := 215) (by rfl)), rfl⟩
set_option maxRecDepth 20000 in
theorem tw_515 : (Jvm.Cond.code ({ cls := "java/util/ArrayList", name := "add", desc := "(Ljava/lang/Object;)Z" } : Jvm.MethodName) prog_31_method_25_code (2 : Nat) (Option.some Jvm.ClassFile.FieldType.boolean)) ∈ lw_g := List.mem_filter.mpr ⟨lw_c2 _ (List.mem_of_getElem? (i := 216) (by rfl)), rfl⟩
set_option maxRecDepth 20000 in
theorem tw_516 : (Jvm.Cond.methodLink "java/util/ArrayList" (131 : Nat) ({ cls := "java/util/ArrayList", name := "add", desc := "(Ljava/lang/Object;[Ljava/lang/Object;I)V" } : Jvm.MethodName)) ∈ lw_g := List.mem_filter.mpr ⟨lw_c2 _ (List.mem_of_getElem? (i := 217) (by rfl)), rfl⟩
set_option maxRecDepth 20000 in
theorem tw_518 : (Jvm.Cond.instanceMethod ({ cls := "java/util/ArrayList", name := "add", desc := "(Ljava/lang/Object;[Ljava/lang/Object;I)V" } : Jvm.MethodName)) ∈ lw_g := List.mem_filter.mpr ⟨lw_c2 _ (List.mem_of_getElem? (i := 219) (by rfl)), rfl⟩
set_option maxRecDepth 20000 in
theorem tw_519 : (Jvm.Cond.code ({ cls := "java/util/ArrayList", name := "add", desc := "(Ljava/lang/Object;[Ljava/lang/Object;I)V" } : Jvm.MethodName) prog_31_method_24_code (4 : Nat) (Option.none : Option Jvm.ClassFile.FieldType)) ∈ lw_g := List.mem_filter.mpr ⟨lw_c2 _ (List.mem_of_getElem? (i := 220) (by rfl)), rfl⟩
set_option maxRecDepth 20000 in
theorem tw_520 : (Jvm.Cond.methodLink "java/util/ArrayList" (129 : Nat) ({ cls := "java/util/ArrayList", name := "grow", desc := "()[Ljava/lang/Object;" } : Jvm.MethodName)) ∈ lw_g := List.mem_filter.mpr ⟨lw_c2 _ (List.mem_of_getElem? (i := 221) (by rfl)), rfl⟩
set_option maxRecDepth 20000 in
theorem tw_522 : (Jvm.Cond.instanceMethod ({ cls := "java/util/ArrayList", name := "grow", desc := "()[Ljava/lang/Object;" } : Jvm.MethodName)) ∈ lw_g := List.mem_filter.mpr ⟨lw_c2 _ (List.mem_of_getElem? (i := 223) (by rfl)), rfl⟩
set_option maxRecDepth 20000 in
theorem tw_523 : (Jvm.Cond.code ({ cls := "java/util/ArrayList", name := "grow", desc := "()[Ljava/lang/Object;" } : Jvm.MethodName) prog_31_method_7_code (1 : Nat) (Option.some (Jvm.ClassFile.FieldType.array (Jvm.ClassFile.FieldType.object "java/lang/Object")))) ∈ lw_g := List.mem_filter.mpr ⟨lw_c2 _ (List.mem_of_getElem? (i := 224) (by rfl)), rfl⟩
set_option maxRecDepth 20000 in
theorem tw_524 : (Jvm.Cond.methodLink "java/util/ArrayList" (69 : Nat) ({ cls := "java/util/ArrayList", name := "grow", desc := "(I)[Ljava/lang/Object;" } : Jvm.MethodName)) ∈ lw_g := List.mem_filter.mpr ⟨lw_c2 _ (List.mem_of_getElem? (i := 225) (by rfl)), rfl⟩
set_option maxRecDepth 20000 in
theorem tw_526 : (Jvm.Cond.instanceMethod ({ cls := "java/util/ArrayList", name := "grow", desc := "(I)[Ljava/lang/Object;" } : Jvm.MethodName)) ∈ lw_g := List.mem_filter.mpr ⟨lw_c2 _ (List.mem_of_getElem? (i := 227) (by rfl)), rfl⟩
set_option maxRecDepth 20000 in
theorem tw_527 : (Jvm.Cond.code ({ cls := "java/util/ArrayList", name := "grow", desc := "(I)[Ljava/lang/Object;" } : Jvm.MethodName) prog_31_method_6_code (4 : Nat) (Option.some (Jvm.ClassFile.FieldType.array (Jvm.ClassFile.FieldType.object "java/lang/Object")))) ∈ lw_g := List.mem_filter.mpr ⟨lw_c2 _ (List.mem_of_getElem? (i := 228) (by rfl)), rfl⟩
set_option maxRecDepth 20000 in
theorem tw_528 : (Jvm.Cond.methodLink "java/util/ArrayList" (73 : Nat) ({ cls := "jdk/internal/util/ArraysSupport", name := "newLength", desc := "(III)I" } : Jvm.MethodName)) ∈ lw_g := List.mem_filter.mpr ⟨lw_c2 _ (List.mem_of_getElem? (i := 229) (by rfl)), rfl⟩
set_option maxRecDepth 20000 in
theorem tw_529 : (Jvm.Cond.static ({ cls := "jdk/internal/util/ArraysSupport", name := "newLength", desc := "(III)I" } : Jvm.MethodName)) ∈ lw_g := List.mem_filter.mpr ⟨lw_c2 _ (List.mem_of_getElem? (i := 230) (by rfl)), rfl⟩
set_option maxRecDepth 20000 in
theorem tw_530 : (Jvm.Cond.code ({ cls := "jdk/internal/util/ArraysSupport", name := "newLength", desc := "(III)I" } : Jvm.MethodName) prog_38_method_27_code (4 : Nat) (Option.some Jvm.ClassFile.FieldType.int)) ∈ lw_g := List.mem_filter.mpr ⟨lw_c2 _ (List.mem_of_getElem? (i := 231) (by rfl)), rfl⟩
set_option maxRecDepth 20000 in
theorem tw_531 : (Jvm.Cond.methodLink "jdk/internal/util/ArraysSupport" (194 : Nat) ({ cls := "java/lang/Math", name := "max", desc := "(II)I" } : Jvm.MethodName)) ∈ lw_g := List.mem_filter.mpr ⟨lw_c2 _ (List.mem_of_getElem? (i := 232) (by rfl)), rfl⟩
set_option maxRecDepth 20000 in
theorem tw_532 : (Jvm.Cond.constant "jdk/internal/util/ArraysSupport" (200 : Nat) (2147483639 : Int32)) ∈ lw_g := List.mem_filter.mpr ⟨lw_c2 _ (List.mem_of_getElem? (i := 233) (by rfl)), rfl⟩
set_option maxRecDepth 20000 in
theorem tw_533 : (Jvm.Cond.methodLink "jdk/internal/util/ArraysSupport" (201 : Nat) ({ cls := "jdk/internal/util/ArraysSupport", name := "hugeLength", desc := "(II)I" } : Jvm.MethodName)) ∈ lw_g := List.mem_filter.mpr ⟨lw_c2 _ (List.mem_of_getElem? (i := 234) (by rfl)), rfl⟩
set_option maxRecDepth 20000 in
theorem tw_534 : (Jvm.Cond.static ({ cls := "jdk/internal/util/ArraysSupport", name := "hugeLength", desc := "(II)I" } : Jvm.MethodName)) ∈ lw_g := List.mem_filter.mpr ⟨lw_c2 _ (List.mem_of_getElem? (i := 235) (by rfl)), rfl⟩
set_option maxRecDepth 20000 in
theorem tw_535 : (Jvm.Cond.code ({ cls := "jdk/internal/util/ArraysSupport", name := "hugeLength", desc := "(II)I" } : Jvm.MethodName) prog_38_method_28_code (3 : Nat) (Option.some Jvm.ClassFile.FieldType.int)) ∈ lw_g := List.mem_filter.mpr ⟨lw_c2 _ (List.mem_of_getElem? (i := 236) (by rfl)), rfl⟩
set_option maxRecDepth 20000 in
theorem tw_536 : (Jvm.Cond.methodLink "java/util/ArrayList" (66 : Nat) ({ cls := "java/util/Arrays", name := "copyOf", desc := "([Ljava/lang/Object;I)[Ljava/lang/Object;" } : Jvm.MethodName)) ∈ lw_g := List.mem_filter.mpr ⟨lw_c2 _ (List.mem_of_getElem? (i := 237) (by rfl)), rfl⟩
set_option maxRecDepth 20000 in
theorem tw_537 : (Jvm.Cond.static ({ cls := "java/util/Arrays", name := "copyOf", desc := "([Ljava/lang/Object;I)[Ljava/lang/Object;" } : Jvm.MethodName)) ∈ lw_g := List.mem_filter.mpr ⟨lw_c2 _ (List.mem_of_getElem? (i := 238) (by rfl)), rfl⟩
set_option maxRecDepth 20000 in
theorem tw_538 : (Jvm.Cond.code ({ cls := "java/util/Arrays", name := "copyOf", desc := "([Ljava/lang/Object;I)[Ljava/lang/Object;" } : Jvm.MethodName) prog_32_method_119_code (2 : Nat) (Option.some (Jvm.ClassFile.FieldType.array (Jvm.ClassFile.FieldType.object "java/lang/Object")))) ∈ lw_g := List.mem_filter.mpr ⟨lw_c2 _ (List.mem_of_getElem? (i := 239) (by rfl)), rfl⟩
set_option maxRecDepth 20000 in
theorem tw_539 : (Jvm.Cond.methodLink "java/util/Arrays" (86 : Nat) ({ cls := "java/lang/Object", name := "getClass", desc := "()Ljava/lang/Class;" } : Jvm.MethodName)) ∈ lw_g := List.mem_filter.mpr ⟨lw_c3 _ (List.mem_of_getElem? (i := 0) (by rfl)), rfl⟩
set_option maxRecDepth 20000 in
theorem tw_540 : (Jvm.Cond.instanceMethod ({ cls := "java/lang/Object", name := "getClass", desc := "()Ljava/lang/Class;" } : Jvm.MethodName)) ∈ lw_g := List.mem_filter.mpr ⟨lw_c3 _ (List.mem_of_getElem? (i := 1) (by rfl)), rfl⟩
set_option maxRecDepth 20000 in
theorem tw_541 : (Jvm.Cond.sameMethod "java/lang/Object" "java/lang/Object" "getClass" "()Ljava/lang/Class;") ∈ lw_g := List.mem_filter.mpr ⟨lw_c3 _ (List.mem_of_getElem? (i := 2) (by rfl)), rfl⟩
set_option maxRecDepth 20000 in
theorem tw_542 : (Jvm.Cond.selects "RockHeat" ({ cls := "java/lang/Object", name := "getClass", desc := "()Ljava/lang/Class;" } : Jvm.MethodName) ({ cls := "java/lang/Object", name := "getClass", desc := "()Ljava/lang/Class;" } : Jvm.MethodName)) ∈ lw_g := List.mem_filter.mpr ⟨lw_c3 _ (List.mem_of_getElem? (i := 3) (by rfl)), rfl⟩
set_option maxRecDepth 20000 in
theorem tw_543 : (Jvm.Cond.selects "RockHeat$Bore" ({ cls := "java/lang/Object", name := "getClass", desc := "()Ljava/lang/Class;" } : Jvm.MethodName) ({ cls := "java/lang/Object", name := "getClass", desc := "()Ljava/lang/Class;" } : Jvm.MethodName)) ∈ lw_g := List.mem_filter.mpr ⟨lw_c3 _ (List.mem_of_getElem? (i := 4) (by rfl)), rfl⟩
set_option maxRecDepth 20000 in
theorem tw_544 : (Jvm.Cond.selects "RockHeat$Ground" ({ cls := "java/lang/Object", name := "getClass", desc := "()Ljava/lang/Class;" } : Jvm.MethodName) ({ cls := "java/lang/Object", name := "getClass", desc := "()Ljava/lang/Class;" } : Jvm.MethodName)) ∈ lw_g := List.mem_filter.mpr ⟨lw_c3 _ (List.mem_of_getElem? (i := 5) (by rfl)), rfl⟩
set_option maxRecDepth 20000 in
theorem tw_545 : (Jvm.Cond.selects "RockHeat$House" ({ cls := "java/lang/Object", name := "getClass", desc := "()Ljava/lang/Class;" } : Jvm.MethodName) ({ cls := "java/lang/Object", name := "getClass", desc := "()Ljava/lang/Class;" } : Jvm.MethodName)) ∈ lw_g := List.mem_filter.mpr ⟨lw_c3 _ (List.mem_of_getElem? (i := 6) (by rfl)), rfl⟩
set_option maxRecDepth 20000 in
theorem tw_546 : (Jvm.Cond.selects "RockHeat$Reading" ({ cls := "java/lang/Object", name := "getClass", desc := "()Ljava/lang/Class;" } : Jvm.MethodName) ({ cls := "java/lang/Object", name := "getClass", desc := "()Ljava/lang/Class;" } : Jvm.MethodName)) ∈ lw_g := List.mem_filter.mpr ⟨lw_c3 _ (List.mem_of_getElem? (i := 7) (by rfl)), rfl⟩
set_option maxRecDepth 20000 in
theorem tw_547 : (Jvm.Cond.selects "RockHeat$Ring" ({ cls := "java/lang/Object", name := "getClass", desc := "()Ljava/lang/Class;" } : Jvm.MethodName) ({ cls := "java/lang/Object", name := "getClass", desc := "()Ljava/lang/Class;" } : Jvm.MethodName)) ∈ lw_g := List.mem_filter.mpr ⟨lw_c3 _ (List.mem_of_getElem? (i := 8) (by rfl)), rfl⟩
set_option maxRecDepth 20000 in
theorem tw_548 : (Jvm.Cond.selects "RockHeat$Rule" ({ cls := "java/lang/Object", name := "getClass", desc := "()Ljava/lang/Class;" } : Jvm.MethodName) ({ cls := "java/lang/Object", name := "getClass", desc := "()Ljava/lang/Class;" } : Jvm.MethodName)) ∈ lw_g := List.mem_filter.mpr ⟨lw_c3 _ (List.mem_of_getElem? (i := 9) (by rfl)), rfl⟩
set_option maxRecDepth 20000 in
theorem tw_549 : (Jvm.Cond.selects "RockHeat$Rules" ({ cls := "java/lang/Object", name := "getClass", desc := "()Ljava/lang/Class;" } : Jvm.MethodName) ({ cls := "java/lang/Object", name := "getClass", desc := "()Ljava/lang/Class;" } : Jvm.MethodName)) ∈ lw_g := List.mem_filter.mpr ⟨lw_c3 _ (List.mem_of_getElem? (i := 10) (by rfl)), rfl⟩
set_option maxRecDepth 20000 in
theorem tw_550 : (Jvm.Cond.selects "RockHeat$Table" ({ cls := "java/lang/Object", name := "getClass", desc := "()Ljava/lang/Class;" } : Jvm.MethodName) ({ cls := "java/lang/Object", name := "getClass", desc := "()Ljava/lang/Class;" } : Jvm.MethodName)) ∈ lw_g := List.mem_filter.mpr ⟨lw_c3 _ (List.mem_of_getElem? (i := 11) (by rfl)), rfl⟩
set_option maxRecDepth 20000 in
theorem tw_551 : (Jvm.Cond.selects "RockHeat$Tank" ({ cls := "java/lang/Object", name := "getClass", desc := "()Ljava/lang/Class;" } : Jvm.MethodName) ({ cls := "java/lang/Object", name := "getClass", desc := "()Ljava/lang/Class;" } : Jvm.MethodName)) ∈ lw_g := List.mem_filter.mpr ⟨lw_c3 _ (List.mem_of_getElem? (i := 12) (by rfl)), rfl⟩
set_option maxRecDepth 20000 in
theorem tw_552 : (Jvm.Cond.selects "RockHeat$Tape" ({ cls := "java/lang/Object", name := "getClass", desc := "()Ljava/lang/Class;" } : Jvm.MethodName) ({ cls := "java/lang/Object", name := "getClass", desc := "()Ljava/lang/Class;" } : Jvm.MethodName)) ∈ lw_g := List.mem_filter.mpr ⟨lw_c3 _ (List.mem_of_getElem? (i := 13) (by rfl)), rfl⟩
set_option maxRecDepth 20000 in
theorem tw_553 : (Jvm.Cond.selects "RockHeat$Town" ({ cls := "java/lang/Object", name := "getClass", desc := "()Ljava/lang/Class;" } : Jvm.MethodName) ({ cls := "java/lang/Object", name := "getClass", desc := "()Ljava/lang/Class;" } : Jvm.MethodName)) ∈ lw_g := List.mem_filter.mpr ⟨lw_c3 _ (List.mem_of_getElem? (i := 14) (by rfl)), rfl⟩
set_option maxRecDepth 20000 in
theorem tw_554 : (Jvm.Cond.selects "RockHeatModel" ({ cls := "java/lang/Object", name := "getClass", desc := "()Ljava/lang/Class;" } : Jvm.MethodName) ({ cls := "java/lang/Object", name := "getClass", desc := "()Ljava/lang/Class;" } : Jvm.MethodName)) ∈ lw_g := List.mem_filter.mpr ⟨lw_c3 _ (List.mem_of_getElem? (i := 15) (by rfl)), rfl⟩
set_option maxRecDepth 20000 in
theorem tw_555 : (Jvm.Cond.selects "java/util/ArrayList" ({ cls := "java/lang/Object", name := "getClass", desc := "()Ljava/lang/Class;" } : Jvm.MethodName) ({ cls := "java/lang/Object", name := "getClass", desc := "()Ljava/lang/Class;" } : Jvm.MethodName)) ∈ lw_g := List.mem_filter.mpr ⟨lw_c3 _ (List.mem_of_getElem? (i := 16) (by rfl)), rfl⟩
set_option maxRecDepth 20000 in
theorem tw_556 : (Jvm.Cond.native ({ cls := "java/lang/Object", name := "getClass", desc := "()Ljava/lang/Class;" } : Jvm.MethodName)) ∈ lw_g := List.mem_filter.mpr ⟨lw_c3 _ (List.mem_of_getElem? (i := 17) (by rfl)), rfl⟩
set_option maxRecDepth 20000 in
theorem tw_557 : (Jvm.Cond.methodLink "java/util/Arrays" (300 : Nat) ({ cls := "java/util/Arrays", name := "copyOf", desc := "([Ljava/lang/Object;ILjava/lang/Class;)[Ljava/lang/Object;" } : Jvm.MethodName)) ∈ lw_g := List.mem_filter.mpr ⟨lw_c3 _ (List.mem_of_getElem? (i := 18) (by rfl)), rfl⟩
set_option maxRecDepth 20000 in
theorem tw_558 : (Jvm.Cond.static ({ cls := "java/util/Arrays", name := "copyOf", desc := "([Ljava/lang/Object;ILjava/lang/Class;)[Ljava/lang/Object;" } : Jvm.MethodName)) ∈ lw_g := List.mem_filter.mpr ⟨lw_c3 _ (List.mem_of_getElem? (i := 19) (by rfl)), rfl⟩
set_option maxRecDepth 20000 in
theorem tw_559 : (Jvm.Cond.code ({ cls := "java/util/Arrays", name := "copyOf", desc := "([Ljava/lang/Object;ILjava/lang/Class;)[Ljava/lang/Object;" } : Jvm.MethodName) prog_32_method_120_code (4 : Nat) (Option.some (Jvm.ClassFile.FieldType.array (Jvm.ClassFile.FieldType.object "java/lang/Object")))) ∈ lw_g := List.mem_filter.mpr ⟨lw_c3 _ (List.mem_of_getElem? (i := 20) (by rfl)), rfl⟩
set_option maxRecDepth 20000 in
theorem tw_560 : (Jvm.Cond.classLink "java/util/Arrays" (110 : Nat) "[Ljava/lang/Object;") ∈ lw_g := List.mem_filter.mpr ⟨lw_c3 _ (List.mem_of_getElem? (i := 21) (by rfl)), rfl⟩
set_option maxRecDepth 20000 in
theorem tw_561 : (Jvm.Cond.arrayOver (Jvm.ClassFile.FieldType.object "java/lang/Object")) ∈ lw_tbl := lw_c3 _ (List.mem_of_getElem? (i := 22) (by rfl))
set_option maxRecDepth 20000 in
theorem tw_562 : (Jvm.Cond.classLink "java/util/Arrays" (2 : Nat) "java/lang/Object") ∈ lw_g := List.mem_filter.mpr ⟨lw_c3 _ (List.mem_of_getElem? (i := 23) (by rfl)), rfl⟩
set_option maxRecDepth 20000 in
theorem tw_563 : (Jvm.Cond.methodLink "java/util/Arrays" (304 : Nat) ({ cls := "java/lang/Math", name := "min", desc := "(II)I" } : Jvm.MethodName)) ∈ lw_g := List.mem_filter.mpr ⟨lw_c3 _ (List.mem_of_getElem? (i := 24) (by rfl)), rfl⟩
set_option maxRecDepth 20000 in
theorem tw_564 : (Jvm.Cond.static ({ cls := "java/lang/Math", name := "min", desc := "(II)I" } : Jvm.MethodName)) ∈ lw_g := List.mem_filter.mpr ⟨lw_c3 _ (List.mem_of_getElem? (i := 25) (by rfl)), rfl⟩
set_option maxRecDepth 20000 in
theorem tw_565 : (Jvm.Cond.code ({ cls := "java/lang/Math", name := "min", desc := "(II)I" } : Jvm.MethodName) prog_22_method_69_code (2 : Nat) (Option.some Jvm.ClassFile.FieldType.int)) ∈ lw_g := List.mem_filter.mpr ⟨lw_c3 _ (List.mem_of_getElem? (i := 26) (by rfl)), rfl⟩
set_option maxRecDepth 20000 in
theorem tw_566 : (Jvm.Cond.methodLink "java/util/Arrays" (150 : Nat) ({ cls := "java/lang/System", name := "arraycopy", desc := "(Ljava/lang/Object;ILjava/lang/Object;II)V" } : Jvm.MethodName)) ∈ lw_g := List.mem_filter.mpr ⟨lw_c3 _ (List.mem_of_getElem? (i := 27) (by rfl)), rfl⟩
set_option maxRecDepth 20000 in
theorem tw_567 : (Jvm.Cond.static ({ cls := "java/lang/System", name := "arraycopy", desc := "(Ljava/lang/Object;ILjava/lang/Object;II)V" } : Jvm.MethodName)) ∈ lw_g := List.mem_filter.mpr ⟨lw_c3 _ (List.mem_of_getElem? (i := 28) (by rfl)), rfl⟩
set_option maxRecDepth 20000 in
theorem tw_568 : (Jvm.Cond.native ({ cls := "java/lang/System", name := "arraycopy", desc := "(Ljava/lang/Object;ILjava/lang/Object;II)V" } : Jvm.MethodName)) ∈ lw_g := List.mem_filter.mpr ⟨lw_c3 _ (List.mem_of_getElem? (i := 29) (by rfl)), rfl⟩
set_option maxRecDepth 20000 in
theorem tw_569 : (Jvm.Cond.methodLink "java/util/ArrayList" (79 : Nat) ({ cls := "java/lang/Math", name := "max", desc := "(II)I" } : Jvm.MethodName)) ∈ lw_g := List.mem_filter.mpr ⟨lw_c3 _ (List.mem_of_getElem? (i := 30) (by rfl)), rfl⟩
set_option maxRecDepth 20000 in
theorem tw_570 : (Jvm.Cond.classLink "java/util/ArrayList" (7 : Nat) "java/lang/Object") ∈ lw_g := List.mem_filter.mpr ⟨lw_c3 _ (List.mem_of_getElem? (i := 31) (by rfl)), rfl⟩
set_option maxRecDepth 20000 in
theorem tw_571 : (Jvm.Cond.fieldLink "RockHeat$Bore" (22 : Nat) "RockHeat$Bore" "number" "I") ∈ lw_g := List.mem_filter.mpr ⟨lw_c3 _ (List.mem_of_getElem? (i := 32) (by rfl)), rfl⟩
set_option maxRecDepth 20000 in
theorem tw_572 : (Jvm.Cond.fieldLink "RockHeat$Rules" (72 : Nat) "RockHeat$Bore" "number" "I") ∈ lw_g := List.mem_filter.mpr ⟨lw_c3 _ (List.mem_of_getElem? (i := 33) (by rfl)), rfl⟩
set_option maxRecDepth 20000 in
theorem tw_573 : (Jvm.Cond.fieldLink "RockHeat$Bore" (26 : Nat) "RockHeat$Bore" "x" "I") ∈ lw_g := List.mem_filter.mpr ⟨lw_c3 _ (List.mem_of_getElem? (i := 34) (by rfl)), rfl⟩
set_option maxRecDepth 20000 in
theorem tw_574 : (Jvm.Cond.fieldLink "RockHeat$Bore" (29 : Nat) "RockHeat$Bore" "y" "I") ∈ lw_g := List.mem_filter.mpr ⟨lw_c3 _ (List.mem_of_getElem? (i := 35) (by rfl)), rfl⟩
set_option maxRecDepth 20000 in
theorem tw_575 : (Jvm.Cond.fieldLink "RockHeat$Bore" (32 : Nat) "RockHeat$Bore" "degrees" "I") ∈ lw_g := List.mem_filter.mpr ⟨lw_c3 _ (List.mem_of_getElem? (i := 36) (by rfl)), rfl⟩
set_option maxRecDepth 20000 in
theorem tw_576 : (Jvm.Cond.fieldLink "RockHeat$Rules" (75 : Nat) "RockHeat$Bore" "degrees" "I") ∈ lw_g := List.mem_filter.mpr ⟨lw_c3 _ (List.mem_of_getElem? (i := 37) (by rfl)), rfl⟩
set_option maxRecDepth 20000 in
theorem tw_577 : (Jvm.Cond.fieldLink "RockHeat$Bore" (12 : Nat) "RockHeat$Bore" "rings" "Ljava/util/ArrayList;") ∈ lw_g := List.mem_filter.mpr ⟨lw_c3 _ (List.mem_of_getElem? (i := 38) (by rfl)), rfl⟩
set_option maxRecDepth 20000 in
theorem tw_578 : (Jvm.Cond.fieldLink "RockHeat$Ground" (158 : Nat) "RockHeat$Bore" "rings" "Ljava/util/ArrayList;") ∈ lw_g := List.mem_filter.mpr ⟨lw_c3 _ (List.mem_of_getElem? (i := 39) (by rfl)), rfl⟩
set_option maxRecDepth 20000 in
theorem tw_579 : (Jvm.Cond.fieldLink "RockHeat" (318 : Nat) "RockHeat$Bore" "rings" "Ljava/util/ArrayList;") ∈ lw_g := List.mem_filter.mpr ⟨lw_c3 _ (List.mem_of_getElem? (i := 40) (by rfl)), rfl⟩
set_option maxRecDepth 20000 in
theorem tw_580 : (Jvm.Cond.fieldLink "RockHeat$Bore" (40 : Nat) "RockHeat$Bore" "top" "LRockHeat$Ring;") ∈ lw_g := List.mem_filter.mpr ⟨lw_c3 _ (List.mem_of_getElem? (i := 41) (by rfl)), rfl⟩
set_option maxRecDepth 20000 in
theorem tw_581 : (Jvm.Cond.fieldLink "RockHeat$Rules" (55 : Nat) "RockHeat$Bore" "top" "LRockHeat$Ring;") ∈ lw_g := List.mem_filter.mpr ⟨lw_c3 _ (List.mem_of_getElem? (i := 42) (by rfl)), rfl⟩
set_option maxRecDepth 20000 in
theorem tw_582 : (Jvm.Cond.fieldLink "RockHeat$Ground" (113 : Nat) "RockHeat$Bore" "top" "LRockHeat$Ring;") ∈ lw_g := List.mem_filter.mpr ⟨lw_c3 _ (List.mem_of_getElem? (i := 43) (by rfl)), rfl⟩
set_option maxRecDepth 20000 in
theorem tw_583 : (Jvm.Cond.fieldLink "RockHeat" (291 : Nat) "RockHeat$Bore" "top" "LRockHeat$Ring;") ∈ lw_g := List.mem_filter.mpr ⟨lw_c3 _ (List.mem_of_getElem? (i := 44) (by rfl)), rfl⟩
set_option maxRecDepth 20000 in
theorem tw_584 : (Jvm.Cond.fieldLink "RockHeat$Bore" (48 : Nat) "RockHeat$Bore" "last" "LRockHeat$Ring;") ∈ lw_g := List.mem_filter.mpr ⟨lw_c3 _ (List.mem_of_getElem? (i := 45) (by rfl)), rfl⟩
set_option maxRecDepth 20000 in
theorem tw_585 : (Jvm.Cond.fieldLink "RockHeat$Rules" (69 : Nat) "RockHeat$Bore" "last" "LRockHeat$Ring;") ∈ lw_g := List.mem_filter.mpr ⟨lw_c3 _ (List.mem_of_getElem? (i := 46) (by rfl)), rfl⟩
set_option maxRecDepth 20000 in
theorem tw_586 : (Jvm.Cond.fieldLink "RockHeat$Bore" (65 : Nat) "RockHeat$Bore" "lead" "I") ∈ lw_g := List.mem_filter.mpr ⟨lw_c3 _ (List.mem_of_getElem? (i := 47) (by rfl)), rfl⟩
set_option maxRecDepth 20000 in
theorem tw_587 : (Jvm.Cond.fieldLink "RockHeat" (102 : Nat) "RockHeat$Bore" "lead" "I") ∈ lw_g := List.mem_filter.mpr ⟨lw_c3 _ (List.mem_of_getElem? (i := 48) (by rfl)), rfl⟩
set_option maxRecDepth 20000 in
theorem tw_588 : (Jvm.Cond.fieldLink "RockHeat" (105 : Nat) "RockHeat$Bore" "water" "I") ∈ lw_g := List.mem_filter.mpr ⟨lw_c3 _ (List.mem_of_getElem? (i := 49) (by rfl)), rfl⟩
set_option maxRecDepth 20000 in
theorem tw_589 : (Jvm.Cond.fieldLink "RockHeat$Bore" (87 : Nat) "RockHeat$Bore" "water" "I") ∈ lw_g := List.mem_filter.mpr ⟨lw_c3 _ (List.mem_of_getElem? (i := 50) (by rfl)), rfl⟩
set_option maxRecDepth 20000 in
theorem tw_590 : (Jvm.Cond.fieldLink "RockHeat$Bore" (18 : Nat) "RockHeat$Bore" "open" "Z") ∈ lw_g := List.mem_filter.mpr ⟨lw_c3 _ (List.mem_of_getElem? (i := 51) (by rfl)), rfl⟩
set_option maxRecDepth 20000 in
theorem tw_591 : (Jvm.Cond.fieldLink "RockHeat$Ground" (99 : Nat) "RockHeat$Bore" "open" "Z") ∈ lw_g := List.mem_filter.mpr ⟨lw_c3 _ (List.mem_of_getElem? (i := 52) (by rfl)), rfl⟩
set_option maxRecDepth 20000 in
theorem tw_592 : (Jvm.Cond.fieldLink "RockHeat" (111 : Nat) "RockHeat$Bore" "open" "Z") ∈ lw_g := List.mem_filter.mpr ⟨lw_c3 _ (List.mem_of_getElem? (i := 53) (by rfl)), rfl⟩
set_option maxRecDepth 20000 in
theorem tw_593 : (Jvm.Cond.fieldLink "RockHeat$Ground" (146 : Nat) "RockHeat$Bore" "given" "J") ∈ lw_g := List.mem_filter.mpr ⟨lw_c3 _ (List.mem_of_getElem? (i := 54) (by rfl)), rfl⟩
set_option maxRecDepth 20000 in
theorem tw_594 : (Jvm.Cond.fieldLink "RockHeat$Bore" (99 : Nat) "RockHeat$Bore" "given" "J") ∈ lw_g := List.mem_filter.mpr ⟨lw_c3 _ (List.mem_of_getElem? (i := 55) (by rfl)), rfl⟩
set_option maxRecDepth 20000 in
theorem tw_595 : (Jvm.Cond.fieldLink "RockHeat" (239 : Nat) "RockHeat$Bore" "given" "J") ∈ lw_g := List.mem_filter.mpr ⟨lw_c3 _ (List.mem_of_getElem? (i := 56) (by rfl)), rfl⟩
set_option maxRecDepth 20000 in
theorem tw_619 : (Jvm.Cond.methodLink "RockHeat" (94 : Nat) ({ cls := "java/util/ArrayList", name := "add", desc := "(Ljava/lang/Object;)Z" } : Jvm.MethodName)) ∈ lw_g := List.mem_filter.mpr ⟨lw_c3 _ (List.mem_of_getElem? (i := 80) (by rfl)), rfl⟩
set_option maxRecDepth 20000 in
theorem tw_620 : (Jvm.Cond.methodLink "RockHeatLaw" (23 : Nat) ({ cls := "RockHeat", name := "soil", desc := "(III)I" } : Jvm.MethodName)) ∈ lw_g := List.mem_filter.mpr ⟨lw_c3 _ (List.mem_of_getElem? (i := 81) (by rfl)), rfl⟩
set_option maxRecDepth 20000 in
theorem tw_621 : (Jvm.Cond.instanceMethod ({ cls := "RockHeat", name := "soil", desc := "(III)I" } : Jvm.MethodName)) ∈ lw_g := List.mem_filter.mpr ⟨lw_c3 _ (List.mem_of_getElem? (i := 82) (by rfl)), rfl⟩
set_option maxRecDepth 20000 in
theorem tw_622 : (Jvm.Cond.selects "RockHeat" ({ cls := "RockHeat", name := "soil", desc := "(III)I" } : Jvm.MethodName) ({ cls := "RockHeat", name := "soil", desc := "(III)I" } : Jvm.MethodName)) ∈ lw_g := List.mem_filter.mpr ⟨lw_c3 _ (List.mem_of_getElem? (i := 83) (by rfl)), rfl⟩
set_option maxRecDepth 20000 in
theorem tw_623 : (Jvm.Cond.code ({ cls := "RockHeat", name := "soil", desc := "(III)I" } : Jvm.MethodName) prog_1_method_4_code (6 : Nat) (Option.some Jvm.ClassFile.FieldType.int)) ∈ lw_g := List.mem_filter.mpr ⟨lw_c3 _ (List.mem_of_getElem? (i := 84) (by rfl)), rfl⟩
set_option maxRecDepth 20000 in
theorem tw_624 : (Jvm.Cond.methodLink "RockHeat" (98 : Nat) ({ cls := "RockHeat$Ground", name := "find", desc := "(I)LRockHeat$Bore;" } : Jvm.MethodName)) ∈ lw_g := List.mem_filter.mpr ⟨lw_c3 _ (List.mem_of_getElem? (i := 85) (by rfl)), rfl⟩
set_option maxRecDepth 20000 in
theorem tw_625 : (Jvm.Cond.instanceMethod ({ cls := "RockHeat$Ground", name := "find", desc := "(I)LRockHeat$Bore;" } : Jvm.MethodName)) ∈ lw_g := List.mem_filter.mpr ⟨lw_c3 _ (List.mem_of_getElem? (i := 86) (by rfl)), rfl⟩
set_option maxRecDepth 20000 in
theorem tw_626 : (Jvm.Cond.selects "RockHeat$Ground" ({ cls := "RockHeat$Ground", name := "find", desc := "(I)LRockHeat$Bore;" } : Jvm.MethodName) ({ cls := "RockHeat$Ground", name := "find", desc := "(I)LRockHeat$Bore;" } : Jvm.MethodName)) ∈ lw_g := List.mem_filter.mpr ⟨lw_c3 _ (List.mem_of_getElem? (i := 87) (by rfl)), rfl⟩
set_option maxRecDepth 20000 in
theorem tw_627 : (Jvm.Cond.code ({ cls := "RockHeat$Ground", name := "find", desc := "(I)LRockHeat$Bore;" } : Jvm.MethodName) prog_3_method_2_code (2 : Nat) (Option.some (Jvm.ClassFile.FieldType.object "RockHeat$Bore"))) ∈ lw_g := List.mem_filter.mpr ⟨lw_c3 _ (List.mem_of_getElem? (i := 88) (by rfl)), rfl⟩
set_option maxRecDepth 20000 in
theorem tw_628 : (Jvm.Cond.methodLink "RockHeatLaw" (28 : Nat) ({ cls := "RockHeat", name := "share", desc := "(I)I" } : Jvm.MethodName)) ∈ lw_g := List.mem_filter.mpr ⟨lw_c3 _ (List.mem_of_getElem? (i := 89) (by rfl)), rfl⟩
set_option maxRecDepth 20000 in
theorem tw_629 : (Jvm.Cond.instanceMethod ({ cls := "RockHeat", name := "share", desc := "(I)I" } : Jvm.MethodName)) ∈ lw_g := List.mem_filter.mpr ⟨lw_c3 _ (List.mem_of_getElem? (i := 90) (by rfl)), rfl⟩
set_option maxRecDepth 20000 in
theorem tw_630 : (Jvm.Cond.selects "RockHeat" ({ cls := "RockHeat", name := "share", desc := "(I)I" } : Jvm.MethodName) ({ cls := "RockHeat", name := "share", desc := "(I)I" } : Jvm.MethodName)) ∈ lw_g := List.mem_filter.mpr ⟨lw_c3 _ (List.mem_of_getElem? (i := 91) (by rfl)), rfl⟩
set_option maxRecDepth 20000 in
theorem tw_631 : (Jvm.Cond.code ({ cls := "RockHeat", name := "share", desc := "(I)I" } : Jvm.MethodName) prog_1_method_5_code (4 : Nat) (Option.some Jvm.ClassFile.FieldType.int)) ∈ lw_g := List.mem_filter.mpr ⟨lw_c3 _ (List.mem_of_getElem? (i := 92) (by rfl)), rfl⟩
set_option maxRecDepth 20000 in
theorem tw_632 : (Jvm.Cond.methodLink "RockHeatLaw" (32 : Nat) ({ cls := "RockHeat", name := "open", desc := "(IZ)I" } : Jvm.MethodName)) ∈ lw_g := List.mem_filter.mpr ⟨lw_c3 _ (List.mem_of_getElem? (i := 93) (by rfl)), rfl⟩
set_option maxRecDepth 20000 in
theorem tw_633 : (Jvm.Cond.instanceMethod ({ cls := "RockHeat", name := "open", desc := "(IZ)I" } : Jvm.MethodName)) ∈ lw_g := List.mem_filter.mpr ⟨lw_c3 _ (List.mem_of_getElem? (i := 94) (by rfl)), rfl⟩
set_option maxRecDepth 20000 in
theorem tw_634 : (Jvm.Cond.selects "RockHeat" ({ cls := "RockHeat", name := "open", desc := "(IZ)I" } : Jvm.MethodName) ({ cls := "RockHeat", name := "open", desc := "(IZ)I" } : Jvm.MethodName)) ∈ lw_g := List.mem_filter.mpr ⟨lw_c3 _ (List.mem_of_getElem? (i := 95) (by rfl)), rfl⟩
set_option maxRecDepth 20000 in
theorem tw_635 : (Jvm.Cond.code ({ cls := "RockHeat", name := "open", desc := "(IZ)I" } : Jvm.MethodName) prog_1_method_6_code (4 : Nat) (Option.some Jvm.ClassFile.FieldType.int)) ∈ lw_g := List.mem_filter.mpr ⟨lw_c3 _ (List.mem_of_getElem? (i := 96) (by rfl)), rfl⟩
set_option maxRecDepth 20000 in
theorem tw_636 : (Jvm.Cond.methodLink "RockHeatLaw" (37 : Nat) ({ cls := "RockHeat", name := "heat", desc := "(II)J" } : Jvm.MethodName)) ∈ lw_g := List.mem_filter.mpr ⟨lw_c3 _ (List.mem_of_getElem? (i := 97) (by rfl)), rfl⟩
set_option maxRecDepth 20000 in
theorem tw_637 : (Jvm.Cond.instanceMethod ({ cls := "RockHeat", name := "heat", desc := "(II)J" } : Jvm.MethodName)) ∈ lw_g := List.mem_filter.mpr ⟨lw_c3 _ (List.mem_of_getElem? (i := 98) (by rfl)), rfl⟩
set_option maxRecDepth 20000 in
theorem tw_638 : (Jvm.Cond.selects "RockHeat" ({ cls := "RockHeat", name := "heat", desc := "(II)J" } : Jvm.MethodName) ({ cls := "RockHeat", name := "heat", desc := "(II)J" } : Jvm.MethodName)) ∈ lw_g := List.mem_filter.mpr ⟨lw_c3 _ (List.mem_of_getElem? (i := 99) (by rfl)), rfl⟩
set_option maxRecDepth 20000 in
theorem tw_639 : (Jvm.Cond.code ({ cls := "RockHeat", name := "heat", desc := "(II)J" } : Jvm.MethodName) prog_1_method_7_code (4 : Nat) (Option.some Jvm.ClassFile.FieldType.long)) ∈ lw_g := List.mem_filter.mpr ⟨lw_c3 _ (List.mem_of_getElem? (i := 100) (by rfl)), rfl⟩
set_option maxRecDepth 20000 in
theorem tw_640 : (Jvm.Cond.methodLink "RockHeat" (115 : Nat) ({ cls := "RockHeat", name := "findRing", desc := "(II)LRockHeat$Ring;" } : Jvm.MethodName)) ∈ lw_g := List.mem_filter.mpr ⟨lw_c3 _ (List.mem_of_getElem? (i := 101) (by rfl)), rfl⟩
set_option maxRecDepth 20000 in
theorem tw_642 : (Jvm.Cond.instanceMethod ({ cls := "RockHeat", name := "findRing", desc := "(II)LRockHeat$Ring;" } : Jvm.MethodName)) ∈ lw_g := List.mem_filter.mpr ⟨lw_c3 _ (List.mem_of_getElem? (i := 103) (by rfl)), rfl⟩
set_option maxRecDepth 20000 in
theorem tw_643 : (Jvm.Cond.code ({ cls := "RockHeat", name := "findRing", desc := "(II)LRockHeat$Ring;" } : Jvm.MethodName) prog_1_method_33_code (4 : Nat) (Option.some (Jvm.ClassFile.FieldType.object "RockHeat$Ring"))) ∈ lw_g := List.mem_filter.mpr ⟨lw_c3 _ (List.mem_of_getElem? (i := 104) (by rfl)), rfl⟩
set_option maxRecDepth 20000 in
theorem tw_644 : (Jvm.Cond.methodLink "RockHeat" (145 : Nat) ({ cls := "java/util/ArrayList", name := "get", desc := "(I)Ljava/lang/Object;" } : Jvm.MethodName)) ∈ lw_g := List.mem_filter.mpr ⟨lw_c3 _ (List.mem_of_getElem? (i := 105) (by rfl)), rfl⟩
set_option maxRecDepth 20000 in
theorem tw_645 : (Jvm.Cond.classLink "RockHeat" (124 : Nat) "RockHeat$Ring") ∈ lw_g := List.mem_filter.mpr ⟨lw_c3 _ (List.mem_of_getElem? (i := 106) (by rfl)), rfl⟩
set_option maxRecDepth 20000 in
theorem tw_646 : (Jvm.Cond.methodLink "RockHeat" (119 : Nat) ({ cls := "RockHeat", name := "refuseLong", desc := "(I)J" } : Jvm.MethodName)) ∈ lw_g := List.mem_filter.mpr ⟨lw_c3 _ (List.mem_of_getElem? (i := 107) (by rfl)), rfl⟩
set_option maxRecDepth 20000 in
theorem tw_648 : (Jvm.Cond.instanceMethod ({ cls := "RockHeat", name := "refuseLong", desc := "(I)J" } : Jvm.MethodName)) ∈ lw_g := List.mem_filter.mpr ⟨lw_c3 _ (List.mem_of_getElem? (i := 109) (by rfl)), rfl⟩
set_option maxRecDepth 20000 in
theorem tw_649 : (Jvm.Cond.code ({ cls := "RockHeat", name := "refuseLong", desc := "(I)J" } : Jvm.MethodName) prog_1_method_38_code (2 : Nat) (Option.some Jvm.ClassFile.FieldType.long)) ∈ lw_g := List.mem_filter.mpr ⟨lw_c3 _ (List.mem_of_getElem? (i := 110) (by rfl)), rfl⟩
set_option maxRecDepth 20000 in
theorem tw_650 : (Jvm.Cond.constantLong "RockHeat" (321 : Nat) (4000000000000000000 : Int64)) ∈ lw_g := List.mem_filter.mpr ⟨lw_c3 _ (List.mem_of_getElem? (i := 111) (by rfl)), rfl⟩
set_option maxRecDepth 20000 in
theorem tw_651 : (Jvm.Cond.methodLink "RockHeatLaw" (42 : Nat) ({ cls := "RockHeat", name := "warmth", desc := "(II)J" } : Jvm.MethodName)) ∈ lw_g := List.mem_filter.mpr ⟨lw_c3 _ (List.mem_of_getElem? (i := 112) (by rfl)), rfl⟩
set_option maxRecDepth 20000 in
theorem tw_652 : (Jvm.Cond.instanceMethod ({ cls := "RockHeat", name := "warmth", desc := "(II)J" } : Jvm.MethodName)) ∈ lw_g := List.mem_filter.mpr ⟨lw_c3 _ (List.mem_of_getElem? (i := 113) (by rfl)), rfl⟩
set_option maxRecDepth 20000 in
theorem tw_653 : (Jvm.Cond.selects "RockHeat" ({ cls := "RockHeat", name := "warmth", desc := "(II)J" } : Jvm.MethodName) ({ cls := "RockHeat", name := "warmth", desc := "(II)J" } : Jvm.MethodName)) ∈ lw_g := List.mem_filter.mpr ⟨lw_c3 _ (List.mem_of_getElem? (i := 114) (by rfl)), rfl⟩
set_option maxRecDepth 20000 in
theorem tw_654 : (Jvm.Cond.code ({ cls := "RockHeat", name := "warmth", desc := "(II)J" } : Jvm.MethodName) prog_1_method_8_code (4 : Nat) (Option.some Jvm.ClassFile.FieldType.long)) ∈ lw_g := List.mem_filter.mpr ⟨lw_c3 _ (List.mem_of_getElem? (i := 115) (by rfl)), rfl⟩
set_option maxRecDepth 20000 in
theorem tw_655 : (Jvm.Cond.methodLink "RockHeatLaw" (46 : Nat) ({ cls := "RockHeat", name := "frozen", desc := "(I)I" } : Jvm.MethodName)) ∈ lw_g := List.mem_filter.mpr ⟨lw_c3 _ (List.mem_of_getElem? (i := 116) (by rfl)), rfl⟩
set_option maxRecDepth 20000 in
theorem tw_656 : (Jvm.Cond.instanceMethod ({ cls := "RockHeat", name := "frozen", desc := "(I)I" } : Jvm.MethodName)) ∈ lw_g := List.mem_filter.mpr ⟨lw_c3 _ (List.mem_of_getElem? (i := 117) (by rfl)), rfl⟩
set_option maxRecDepth 20000 in
theorem tw_657 : (Jvm.Cond.selects "RockHeat" ({ cls := "RockHeat", name := "frozen", desc := "(I)I" } : Jvm.MethodName) ({ cls := "RockHeat", name := "frozen", desc := "(I)I" } : Jvm.MethodName)) ∈ lw_g := List.mem_filter.mpr ⟨lw_c3 _ (List.mem_of_getElem? (i := 118) (by rfl)), rfl⟩
set_option maxRecDepth 20000 in
theorem tw_658 : (Jvm.Cond.code ({ cls := "RockHeat", name := "frozen", desc := "(I)I" } : Jvm.MethodName) prog_1_method_9_code (3 : Nat) (Option.some Jvm.ClassFile.FieldType.int)) ∈ lw_g := List.mem_filter.mpr ⟨lw_c3 _ (List.mem_of_getElem? (i := 119) (by rfl)), rfl⟩
set_option maxRecDepth 20000 in
theorem tw_659 : (Jvm.Cond.methodLink "RockHeat" (132 : Nat) ({ cls := "RockHeat$Bore", name := "isFrozen", desc := "()Z" } : Jvm.MethodName)) ∈ lw_g := List.mem_filter.mpr ⟨lw_c3 _ (List.mem_of_getElem? (i := 120) (by rfl)), rfl⟩
set_option maxRecDepth 20000 in
theorem tw_660 : (Jvm.Cond.methodLink "RockHeatLaw" (50 : Nat) ({ cls := "RockHeat", name := "house", desc := "(III)I" } : Jvm.MethodName)) ∈ lw_g := List.mem_filter.mpr ⟨lw_c3 _ (List.mem_of_getElem? (i := 121) (by rfl)), rfl⟩
set_option maxRecDepth 20000 in
theorem tw_661 : (Jvm.Cond.instanceMethod ({ cls := "RockHeat", name := "house", desc := "(III)I" } : Jvm.MethodName)) ∈ lw_g := List.mem_filter.mpr ⟨lw_c3 _ (List.mem_of_getElem? (i := 122) (by rfl)), rfl⟩
set_option maxRecDepth 20000 in
theorem tw_662 : (Jvm.Cond.selects "RockHeat" ({ cls := "RockHeat", name := "house", desc := "(III)I" } : Jvm.MethodName) ({ cls := "RockHeat", name := "house", desc := "(III)I" } : Jvm.MethodName)) ∈ lw_g := List.mem_filter.mpr ⟨lw_c3 _ (List.mem_of_getElem? (i := 123) (by rfl)), rfl⟩
set_option maxRecDepth 20000 in
theorem tw_663 : (Jvm.Cond.code ({ cls := "RockHeat", name := "house", desc := "(III)I" } : Jvm.MethodName) prog_1_method_10_code (5 : Nat) (Option.some Jvm.ClassFile.FieldType.int)) ∈ lw_g := List.mem_filter.mpr ⟨lw_c3 _ (List.mem_of_getElem? (i := 124) (by rfl)), rfl⟩
set_option maxRecDepth 20000 in
theorem tw_664 : (Jvm.Cond.constant "RockHeat" (139 : Nat) (16777215 : Int32)) ∈ lw_g := List.mem_filter.mpr ⟨lw_c3 _ (List.mem_of_getElem? (i := 125) (by rfl)), rfl⟩
set_option maxRecDepth 20000 in
theorem tw_665 : (Jvm.Cond.classLink "RockHeat" (140 : Nat) "RockHeat$House") ∈ lw_g := List.mem_filter.mpr ⟨lw_c3 _ (List.mem_of_getElem? (i := 126) (by rfl)), rfl⟩
set_option maxRecDepth 20000 in
theorem tw_666 : (Jvm.Cond.instantiable "RockHeat$House" (5 : Nat)) ∈ lw_g := List.mem_filter.mpr ⟨lw_c3 _ (List.mem_of_getElem? (i := 127) (by rfl)), rfl⟩
set_option maxRecDepth 20000 in
theorem tw_667 : (Jvm.Cond.methodLink "RockHeat" (142 : Nat) ({ cls := "RockHeat$House", name := "<init>", desc := "(III)V" } : Jvm.MethodName)) ∈ lw_g := List.mem_filter.mpr ⟨lw_c3 _ (List.mem_of_getElem? (i := 128) (by rfl)), rfl⟩
set_option maxRecDepth 20000 in
theorem tw_668 : (Jvm.Cond.instanceMethod ({ cls := "RockHeat$House", name := "<init>", desc := "(III)V" } : Jvm.MethodName)) ∈ lw_g := List.mem_filter.mpr ⟨lw_c3 _ (List.mem_of_getElem? (i := 129) (by rfl)), rfl⟩
set_option maxRecDepth 20000 in
theorem tw_669 : (Jvm.Cond.code ({ cls := "RockHeat$House", name := "<init>", desc := "(III)V" } : Jvm.MethodName) prog_4_method_1_code (4 : Nat) (Option.none : Option Jvm.ClassFile.FieldType)) ∈ lw_g := List.mem_filter.mpr ⟨lw_c3 _ (List.mem_of_getElem? (i := 130) (by rfl)), rfl⟩
set_option maxRecDepth 20000 in
theorem tw_670 : (Jvm.Cond.methodLink "RockHeat$House" (1 : Nat) ({ cls := "java/lang/Object", name := "<init>", desc := "()V" } : Jvm.MethodName)) ∈ lw_g := List.mem_filter.mpr ⟨lw_c3 _ (List.mem_of_getElem? (i := 131) (by rfl)), rfl⟩
set_option maxRecDepth 20000 in
theorem tw_671 : (Jvm.Cond.fieldLink "RockHeat$House" (7 : Nat) "RockHeat$House" "base" "I") ∈ lw_g := List.mem_filter.mpr ⟨lw_c3 _ (List.mem_of_getElem? (i := 132) (by rfl)), rfl⟩
set_option maxRecDepth 20000 in
theorem tw_672 : (Jvm.Cond.fieldLink "RockHeat$Town" (52 : Nat) "RockHeat$House" "base" "I") ∈ lw_g := List.mem_filter.mpr ⟨lw_c3 _ (List.mem_of_getElem? (i := 133) (by rfl)), rfl⟩
set_option maxRecDepth 20000 in
theorem tw_673 : (Jvm.Cond.fieldLink "RockHeat$House" (13 : Nat) "RockHeat$House" "more" "I") ∈ lw_g := List.mem_filter.mpr ⟨lw_c3 _ (List.mem_of_getElem? (i := 134) (by rfl)), rfl⟩
set_option maxRecDepth 20000 in
theorem tw_674 : (Jvm.Cond.fieldLink "RockHeat$Town" (56 : Nat) "RockHeat$House" "more" "I") ∈ lw_g := List.mem_filter.mpr ⟨lw_c3 _ (List.mem_of_getElem? (i := 135) (by rfl)), rfl⟩
set_option maxRecDepth 20000 in
theorem tw_675 : (Jvm.Cond.fieldLink "RockHeat$House" (16 : Nat) "RockHeat$House" "wake" "I") ∈ lw_g := List.mem_filter.mpr ⟨lw_c3 _ (List.mem_of_getElem? (i := 136) (by rfl)), rfl⟩
set_option maxRecDepth 20000 in
theorem tw_676 : (Jvm.Cond.fieldLink "RockHeat$Town" (59 : Nat) "RockHeat$House" "wake" "I") ∈ lw_g := List.mem_filter.mpr ⟨lw_c3 _ (List.mem_of_getElem? (i := 137) (by rfl)), rfl⟩
set_option maxRecDepth 20000 in
theorem tw_677 : (Jvm.Cond.fieldLink "RockHeat$House" (19 : Nat) "RockHeat$House" "told" "Z") ∈ lw_g := List.mem_filter.mpr ⟨lw_c3 _ (List.mem_of_getElem? (i := 138) (by rfl)), rfl⟩
set_option maxRecDepth 20000 in
theorem tw_678 : (Jvm.Cond.fieldLink "RockHeat" (149 : Nat) "RockHeat$House" "told" "Z") ∈ lw_g := List.mem_filter.mpr ⟨lw_c3 _ (List.mem_of_getElem? (i := 139) (by rfl)), rfl⟩
set_option maxRecDepth 20000 in
theorem tw_679 : (Jvm.Cond.fieldLink "RockHeat$House" (23 : Nat) "RockHeat$House" "day" "I") ∈ lw_g := List.mem_filter.mpr ⟨lw_c3 _ (List.mem_of_getElem? (i := 140) (by rfl)), rfl⟩
set_option maxRecDepth 20000 in
theorem tw_680 : (Jvm.Cond.fieldLink "RockHeat" (152 : Nat) "RockHeat$House" "day" "I") ∈ lw_g := List.mem_filter.mpr ⟨lw_c3 _ (List.mem_of_getElem? (i := 141) (by rfl)), rfl⟩
set_option maxRecDepth 20000 in
theorem tw_692 : (Jvm.Cond.methodLink "RockHeatLaw" (54 : Nat) ({ cls := "RockHeat", name := "join", desc := "(II)I" } : Jvm.MethodName)) ∈ lw_g := List.mem_filter.mpr ⟨lw_c3 _ (List.mem_of_getElem? (i := 153) (by rfl)), rfl⟩
set_option maxRecDepth 20000 in
theorem tw_693 : (Jvm.Cond.instanceMethod ({ cls := "RockHeat", name := "join", desc := "(II)I" } : Jvm.MethodName)) ∈ lw_g := List.mem_filter.mpr ⟨lw_c3 _ (List.mem_of_getElem? (i := 154) (by rfl)), rfl⟩
set_option maxRecDepth 20000 in
theorem tw_694 : (Jvm.Cond.selects "RockHeat" ({ cls := "RockHeat", name := "join", desc := "(II)I" } : Jvm.MethodName) ({ cls := "RockHeat", name := "join", desc := "(II)I" } : Jvm.MethodName)) ∈ lw_g := List.mem_filter.mpr ⟨lw_c3 _ (List.mem_of_getElem? (i := 155) (by rfl)), rfl⟩
set_option maxRecDepth 20000 in
theorem tw_695 : (Jvm.Cond.code ({ cls := "RockHeat", name := "join", desc := "(II)I" } : Jvm.MethodName) prog_1_method_11_code (5 : Nat) (Option.some Jvm.ClassFile.FieldType.int)) ∈ lw_g := List.mem_filter.mpr ⟨lw_c3 _ (List.mem_of_getElem? (i := 156) (by rfl)), rfl⟩
set_option maxRecDepth 20000 in
theorem tw_696 : (Jvm.Cond.methodLink "RockHeatLaw" (59 : Nat) ({ cls := "RockHeat", name := "cold", desc := "(II)I" } : Jvm.MethodName)) ∈ lw_g := List.mem_filter.mpr ⟨lw_c3 _ (List.mem_of_getElem? (i := 157) (by rfl)), rfl⟩
set_option maxRecDepth 20000 in
theorem tw_697 : (Jvm.Cond.instanceMethod ({ cls := "RockHeat", name := "cold", desc := "(II)I" } : Jvm.MethodName)) ∈ lw_g := List.mem_filter.mpr ⟨lw_c3 _ (List.mem_of_getElem? (i := 158) (by rfl)), rfl⟩
set_option maxRecDepth 20000 in
theorem tw_698 : (Jvm.Cond.selects "RockHeat" ({ cls := "RockHeat", name := "cold", desc := "(II)I" } : Jvm.MethodName) ({ cls := "RockHeat", name := "cold", desc := "(II)I" } : Jvm.MethodName)) ∈ lw_g := List.mem_filter.mpr ⟨lw_c3 _ (List.mem_of_getElem? (i := 159) (by rfl)), rfl⟩
set_option maxRecDepth 20000 in
theorem tw_699 : (Jvm.Cond.code ({ cls := "RockHeat", name := "cold", desc := "(II)I" } : Jvm.MethodName) prog_1_method_12_code (4 : Nat) (Option.some Jvm.ClassFile.FieldType.int)) ∈ lw_g := List.mem_filter.mpr ⟨lw_c3 _ (List.mem_of_getElem? (i := 160) (by rfl)), rfl⟩
set_option maxRecDepth 20000 in
theorem tw_700 : (Jvm.Cond.methodLink "RockHeat" (155 : Nat) ({ cls := "RockHeat", name := "firstOf", desc := "(II)I" } : Jvm.MethodName)) ∈ lw_g := List.mem_filter.mpr ⟨lw_c3 _ (List.mem_of_getElem? (i := 161) (by rfl)), rfl⟩
set_option maxRecDepth 20000 in
theorem tw_701 : (Jvm.Cond.static ({ cls := "RockHeat", name := "firstOf", desc := "(II)I" } : Jvm.MethodName)) ∈ lw_g := List.mem_filter.mpr ⟨lw_c3 _ (List.mem_of_getElem? (i := 162) (by rfl)), rfl⟩
set_option maxRecDepth 20000 in
theorem tw_702 : (Jvm.Cond.code ({ cls := "RockHeat", name := "firstOf", desc := "(II)I" } : Jvm.MethodName) prog_1_method_40_code (2 : Nat) (Option.some Jvm.ClassFile.FieldType.int)) ∈ lw_g := List.mem_filter.mpr ⟨lw_c3 _ (List.mem_of_getElem? (i := 163) (by rfl)), rfl⟩
set_option maxRecDepth 20000 in
theorem tw_703 : (Jvm.Cond.constant "RockHeat" (159 : Nat) (1000000000 : Int32)) ∈ lw_g := List.mem_filter.mpr ⟨lw_c3 _ (List.mem_of_getElem? (i := 164) (by rfl)), rfl⟩
set_option maxRecDepth 20000 in
theorem tw_704 : (Jvm.Cond.methodLink "RockHeat" (163 : Nat) ({ cls := "RockHeat", name := "replace", desc := "([III)I" } : Jvm.MethodName)) ∈ lw_g := List.mem_filter.mpr ⟨lw_c3 _ (List.mem_of_getElem? (i := 165) (by rfl)), rfl⟩
set_option maxRecDepth 20000 in
theorem tw_705 : (Jvm.Cond.static ({ cls := "RockHeat", name := "replace", desc := "([III)I" } : Jvm.MethodName)) ∈ lw_g := List.mem_filter.mpr ⟨lw_c3 _ (List.mem_of_getElem? (i := 166) (by rfl)), rfl⟩
set_option maxRecDepth 20000 in
theorem tw_706 : (Jvm.Cond.code ({ cls := "RockHeat", name := "replace", desc := "([III)I" } : Jvm.MethodName) prog_1_method_41_code (4 : Nat) (Option.some Jvm.ClassFile.FieldType.int)) ∈ lw_g := List.mem_filter.mpr ⟨lw_c3 _ (List.mem_of_getElem? (i := 167) (by rfl)), rfl⟩
set_option maxRecDepth 20000 in
theorem tw_707 : (Jvm.Cond.methodLink "RockHeatLaw" (63 : Nat) ({ cls := "RockHeat", name := "need", desc := "(I)J" } : Jvm.MethodName)) ∈ lw_g := List.mem_filter.mpr ⟨lw_c3 _ (List.mem_of_getElem? (i := 168) (by rfl)), rfl⟩
set_option maxRecDepth 20000 in
theorem tw_708 : (Jvm.Cond.instanceMethod ({ cls := "RockHeat", name := "need", desc := "(I)J" } : Jvm.MethodName)) ∈ lw_g := List.mem_filter.mpr ⟨lw_c3 _ (List.mem_of_getElem? (i := 169) (by rfl)), rfl⟩
set_option maxRecDepth 20000 in
theorem tw_709 : (Jvm.Cond.selects "RockHeat" ({ cls := "RockHeat", name := "need", desc := "(I)J" } : Jvm.MethodName) ({ cls := "RockHeat", name := "need", desc := "(I)J" } : Jvm.MethodName)) ∈ lw_g := List.mem_filter.mpr ⟨lw_c3 _ (List.mem_of_getElem? (i := 170) (by rfl)), rfl⟩
set_option maxRecDepth 20000 in
theorem tw_710 : (Jvm.Cond.code ({ cls := "RockHeat", name := "need", desc := "(I)J" } : Jvm.MethodName) prog_1_method_13_code (3 : Nat) (Option.some Jvm.ClassFile.FieldType.long)) ∈ lw_g := List.mem_filter.mpr ⟨lw_c3 _ (List.mem_of_getElem? (i := 171) (by rfl)), rfl⟩
set_option maxRecDepth 20000 in
theorem tw_711 : (Jvm.Cond.methodLink "RockHeat" (167 : Nat) ({ cls := "RockHeat$Town", name := "needOf", desc := "(I)J" } : Jvm.MethodName)) ∈ lw_g := List.mem_filter.mpr ⟨lw_c3 _ (List.mem_of_getElem? (i := 172) (by rfl)), rfl⟩
set_option maxRecDepth 20000 in
theorem tw_712 : (Jvm.Cond.methodLink "RockHeatLaw" (68 : Nat) ({ cls := "RockHeat", name := "point", desc := "(II)I" } : Jvm.MethodName)) ∈ lw_g := List.mem_filter.mpr ⟨lw_c3 _ (List.mem_of_getElem? (i := 173) (by rfl)), rfl⟩
set_option maxRecDepth 20000 in
theorem tw_713 : (Jvm.Cond.instanceMethod ({ cls := "RockHeat", name := "point", desc := "(II)I" } : Jvm.MethodName)) ∈ lw_g := List.mem_filter.mpr ⟨lw_c3 _ (List.mem_of_getElem? (i := 174) (by rfl)), rfl⟩
set_option maxRecDepth 20000 in
theorem tw_714 : (Jvm.Cond.selects "RockHeat" ({ cls := "RockHeat", name := "point", desc := "(II)I" } : Jvm.MethodName) ({ cls := "RockHeat", name := "point", desc := "(II)I" } : Jvm.MethodName)) ∈ lw_g := List.mem_filter.mpr ⟨lw_c3 _ (List.mem_of_getElem? (i := 175) (by rfl)), rfl⟩
set_option maxRecDepth 20000 in
theorem tw_715 : (Jvm.Cond.code ({ cls := "RockHeat", name := "point", desc := "(II)I" } : Jvm.MethodName) prog_1_method_14_code (3 : Nat) (Option.some Jvm.ClassFile.FieldType.int)) ∈ lw_g := List.mem_filter.mpr ⟨lw_c3 _ (List.mem_of_getElem? (i := 176) (by rfl)), rfl⟩
set_option maxRecDepth 20000 in
theorem tw_716 : (Jvm.Cond.methodLink "RockHeat" (170 : Nat) ({ cls := "RockHeat$Table", name := "isAboveLast", desc := "(I)Z" } : Jvm.MethodName)) ∈ lw_g := List.mem_filter.mpr ⟨lw_c3 _ (List.mem_of_getElem? (i := 177) (by rfl)), rfl⟩
set_option maxRecDepth 20000 in
theorem tw_717 : (Jvm.Cond.instanceMethod ({ cls := "RockHeat$Table", name := "isAboveLast", desc := "(I)Z" } : Jvm.MethodName)) ∈ lw_g := List.mem_filter.mpr ⟨lw_c3 _ (List.mem_of_getElem? (i := 178) (by rfl)), rfl⟩
set_option maxRecDepth 20000 in
theorem tw_718 : (Jvm.Cond.selects "RockHeat$Table" ({ cls := "RockHeat$Table", name := "isAboveLast", desc := "(I)Z" } : Jvm.MethodName) ({ cls := "RockHeat$Table", name := "isAboveLast", desc := "(I)Z" } : Jvm.MethodName)) ∈ lw_g := List.mem_filter.mpr ⟨lw_c3 _ (List.mem_of_getElem? (i := 179) (by rfl)), rfl⟩
set_option maxRecDepth 20000 in
theorem tw_719 : (Jvm.Cond.code ({ cls := "RockHeat$Table", name := "isAboveLast", desc := "(I)Z" } : Jvm.MethodName) prog_9_method_2_code (3 : Nat) (Option.some Jvm.ClassFile.FieldType.boolean)) ∈ lw_g := List.mem_filter.mpr ⟨lw_c3 _ (List.mem_of_getElem? (i := 180) (by rfl)), rfl⟩
set_option maxRecDepth 20000 in
theorem tw_720 : (Jvm.Cond.methodLink "RockHeat" (176 : Nat) ({ cls := "RockHeat$Table", name := "addPoint", desc := "(II)V" } : Jvm.MethodName)) ∈ lw_g := List.mem_filter.mpr ⟨lw_c3 _ (List.mem_of_getElem? (i := 181) (by rfl)), rfl⟩
set_option maxRecDepth 20000 in
theorem tw_721 : (Jvm.Cond.instanceMethod ({ cls := "RockHeat$Table", name := "addPoint", desc := "(II)V" } : Jvm.MethodName)) ∈ lw_g := List.mem_filter.mpr ⟨lw_c3 _ (List.mem_of_getElem? (i := 182) (by rfl)), rfl⟩
set_option maxRecDepth 20000 in
theorem tw_722 : (Jvm.Cond.selects "RockHeat$Table" ({ cls := "RockHeat$Table", name := "addPoint", desc := "(II)V" } : Jvm.MethodName) ({ cls := "RockHeat$Table", name := "addPoint", desc := "(II)V" } : Jvm.MethodName)) ∈ lw_g := List.mem_filter.mpr ⟨lw_c3 _ (List.mem_of_getElem? (i := 183) (by rfl)), rfl⟩
set_option maxRecDepth 20000 in
theorem tw_723 : (Jvm.Cond.code ({ cls := "RockHeat$Table", name := "addPoint", desc := "(II)V" } : Jvm.MethodName) prog_9_method_3_code (3 : Nat) (Option.none : Option Jvm.ClassFile.FieldType)) ∈ lw_g := List.mem_filter.mpr ⟨lw_c3 _ (List.mem_of_getElem? (i := 184) (by rfl)), rfl⟩
set_option maxRecDepth 20000 in
theorem tw_724 : (Jvm.Cond.methodLink "RockHeatLaw" (72 : Nat) ({ cls := "RockHeat", name := "untable", desc := "()I" } : Jvm.MethodName)) ∈ lw_g := List.mem_filter.mpr ⟨lw_c3 _ (List.mem_of_getElem? (i := 185) (by rfl)), rfl⟩
set_option maxRecDepth 20000 in
theorem tw_725 : (Jvm.Cond.instanceMethod ({ cls := "RockHeat", name := "untable", desc := "()I" } : Jvm.MethodName)) ∈ lw_g := List.mem_filter.mpr ⟨lw_c3 _ (List.mem_of_getElem? (i := 186) (by rfl)), rfl⟩
set_option maxRecDepth 20000 in
theorem tw_726 : (Jvm.Cond.selects "RockHeat" ({ cls := "RockHeat", name := "untable", desc := "()I" } : Jvm.MethodName) ({ cls := "RockHeat", name := "untable", desc := "()I" } : Jvm.MethodName)) ∈ lw_g := List.mem_filter.mpr ⟨lw_c3 _ (List.mem_of_getElem? (i := 187) (by rfl)), rfl⟩
set_option maxRecDepth 20000 in
theorem tw_727 : (Jvm.Cond.code ({ cls := "RockHeat", name := "untable", desc := "()I" } : Jvm.MethodName) prog_1_method_15_code (2 : Nat) (Option.some Jvm.ClassFile.FieldType.int)) ∈ lw_g := List.mem_filter.mpr ⟨lw_c3 _ (List.mem_of_getElem? (i := 188) (by rfl)), rfl⟩
set_option maxRecDepth 20000 in
theorem tw_728 : (Jvm.Cond.methodLink "RockHeatLaw" (77 : Nat) ({ cls := "RockHeat", name := "lift", desc := "(I)I" } : Jvm.MethodName)) ∈ lw_g := List.mem_filter.mpr ⟨lw_c3 _ (List.mem_of_getElem? (i := 189) (by rfl)), rfl⟩
set_option maxRecDepth 20000 in
theorem tw_729 : (Jvm.Cond.instanceMethod ({ cls := "RockHeat", name := "lift", desc := "(I)I" } : Jvm.MethodName)) ∈ lw_g := List.mem_filter.mpr ⟨lw_c3 _ (List.mem_of_getElem? (i := 190) (by rfl)), rfl⟩
set_option maxRecDepth 20000 in
theorem tw_730 : (Jvm.Cond.selects "RockHeat" ({ cls := "RockHeat", name := "lift", desc := "(I)I" } : Jvm.MethodName) ({ cls := "RockHeat", name := "lift", desc := "(I)I" } : Jvm.MethodName)) ∈ lw_g := List.mem_filter.mpr ⟨lw_c3 _ (List.mem_of_getElem? (i := 191) (by rfl)), rfl⟩
set_option maxRecDepth 20000 in
theorem tw_731 : (Jvm.Cond.code ({ cls := "RockHeat", name := "lift", desc := "(I)I" } : Jvm.MethodName) prog_1_method_16_code (3 : Nat) (Option.some Jvm.ClassFile.FieldType.int)) ∈ lw_g := List.mem_filter.mpr ⟨lw_c3 _ (List.mem_of_getElem? (i := 192) (by rfl)), rfl⟩
set_option maxRecDepth 20000 in
theorem tw_732 : (Jvm.Cond.constant "RockHeat" (180 : Nat) (-100000 : Int32)) ∈ lw_g := List.mem_filter.mpr ⟨lw_c3 _ (List.mem_of_getElem? (i := 193) (by rfl)), rfl⟩
set_option maxRecDepth 20000 in
theorem tw_733 : (Jvm.Cond.constant "RockHeat" (181 : Nat) (200000 : Int32)) ∈ lw_g := List.mem_filter.mpr ⟨lw_c3 _ (List.mem_of_getElem? (i := 194) (by rfl)), rfl⟩
set_option maxRecDepth 20000 in
theorem tw_734 : (Jvm.Cond.methodLink "RockHeat" (182 : Nat) ({ cls := "RockHeat$Table", name := "liftAt", desc := "(J)J" } : Jvm.MethodName)) ∈ lw_g := List.mem_filter.mpr ⟨lw_c3 _ (List.mem_of_getElem? (i := 195) (by rfl)), rfl⟩
set_option maxRecDepth 20000 in
theorem tw_735 : (Jvm.Cond.methodLink "RockHeatLaw" (81 : Nat) ({ cls := "RockHeat", name := "price", desc := "(II)I" } : Jvm.MethodName)) ∈ lw_g := List.mem_filter.mpr ⟨lw_c3 _ (List.mem_of_getElem? (i := 196) (by rfl)), rfl⟩
set_option maxRecDepth 20000 in
theorem tw_736 : (Jvm.Cond.instanceMethod ({ cls := "RockHeat", name := "price", desc := "(II)I" } : Jvm.MethodName)) ∈ lw_g := List.mem_filter.mpr ⟨lw_c3 _ (List.mem_of_getElem? (i := 197) (by rfl)), rfl⟩
set_option maxRecDepth 20000 in
theorem tw_737 : (Jvm.Cond.selects "RockHeat" ({ cls := "RockHeat", name := "price", desc := "(II)I" } : Jvm.MethodName) ({ cls := "RockHeat", name := "price", desc := "(II)I" } : Jvm.MethodName)) ∈ lw_g := List.mem_filter.mpr ⟨lw_c3 _ (List.mem_of_getElem? (i := 198) (by rfl)), rfl⟩
set_option maxRecDepth 20000 in
theorem tw_738 : (Jvm.Cond.code ({ cls := "RockHeat", name := "price", desc := "(II)I" } : Jvm.MethodName) prog_1_method_17_code (4 : Nat) (Option.some Jvm.ClassFile.FieldType.int)) ∈ lw_g := List.mem_filter.mpr ⟨lw_c3 _ (List.mem_of_getElem? (i := 199) (by rfl)), rfl⟩
set_option maxRecDepth 20000 in
theorem tw_739 : (Jvm.Cond.methodLink "RockHeatLaw" (85 : Nat) ({ cls := "RockHeat", name := "sun", desc := "(II)I" } : Jvm.MethodName)) ∈ lw_g := List.mem_filter.mpr ⟨lw_c3 _ (List.mem_of_getElem? (i := 200) (by rfl)), rfl⟩
set_option maxRecDepth 20000 in
theorem tw_740 : (Jvm.Cond.instanceMethod ({ cls := "RockHeat", name := "sun", desc := "(II)I" } : Jvm.MethodName)) ∈ lw_g := List.mem_filter.mpr ⟨lw_c3 _ (List.mem_of_getElem? (i := 201) (by rfl)), rfl⟩
set_option maxRecDepth 20000 in
theorem tw_741 : (Jvm.Cond.selects "RockHeat" ({ cls := "RockHeat", name := "sun", desc := "(II)I" } : Jvm.MethodName) ({ cls := "RockHeat", name := "sun", desc := "(II)I" } : Jvm.MethodName)) ∈ lw_g := List.mem_filter.mpr ⟨lw_c3 _ (List.mem_of_getElem? (i := 202) (by rfl)), rfl⟩
set_option maxRecDepth 20000 in
theorem tw_742 : (Jvm.Cond.code ({ cls := "RockHeat", name := "sun", desc := "(II)I" } : Jvm.MethodName) prog_1_method_18_code (4 : Nat) (Option.some Jvm.ClassFile.FieldType.int)) ∈ lw_g := List.mem_filter.mpr ⟨lw_c3 _ (List.mem_of_getElem? (i := 203) (by rfl)), rfl⟩
set_option maxRecDepth 20000 in
theorem tw_743 : (Jvm.Cond.constant "RockHeat" (189 : Nat) (99999 : Int32)) ∈ lw_g := List.mem_filter.mpr ⟨lw_c3 _ (List.mem_of_getElem? (i := 204) (by rfl)), rfl⟩
set_option maxRecDepth 20000 in
theorem tw_744 : (Jvm.Cond.methodLink "RockHeatLaw" (91 : Nat) ({ cls := "RockHeat", name := "feed", desc := "(IJ)I" } : Jvm.MethodName)) ∈ lw_g := List.mem_filter.mpr ⟨lw_c3 _ (List.mem_of_getElem? (i := 205) (by rfl)), rfl⟩
set_option maxRecDepth 20000 in
theorem tw_745 : (Jvm.Cond.instanceMethod ({ cls := "RockHeat", name := "feed", desc := "(IJ)I" } : Jvm.MethodName)) ∈ lw_g := List.mem_filter.mpr ⟨lw_c3 _ (List.mem_of_getElem? (i := 206) (by rfl)), rfl⟩
set_option maxRecDepth 20000 in
theorem tw_746 : (Jvm.Cond.selects "RockHeat" ({ cls := "RockHeat", name := "feed", desc := "(IJ)I" } : Jvm.MethodName) ({ cls := "RockHeat", name := "feed", desc := "(IJ)I" } : Jvm.MethodName)) ∈ lw_g := List.mem_filter.mpr ⟨lw_c3 _ (List.mem_of_getElem? (i := 207) (by rfl)), rfl⟩
set_option maxRecDepth 20000 in
theorem tw_747 : (Jvm.Cond.code ({ cls := "RockHeat", name := "feed", desc := "(IJ)I" } : Jvm.MethodName) prog_1_method_19_code (5 : Nat) (Option.some Jvm.ClassFile.FieldType.int)) ∈ lw_g := List.mem_filter.mpr ⟨lw_c3 _ (List.mem_of_getElem? (i := 208) (by rfl)), rfl⟩
set_option maxRecDepth 20000 in
theorem tw_748 : (Jvm.Cond.methodLink "RockHeat" (194 : Nat) ({ cls := "RockHeat$Tape", name := "put", desc := "(I)V" } : Jvm.MethodName)) ∈ lw_g := List.mem_filter.mpr ⟨lw_c3 _ (List.mem_of_getElem? (i := 209) (by rfl)), rfl⟩
set_option maxRecDepth 20000 in
theorem tw_749 : (Jvm.Cond.instanceMethod ({ cls := "RockHeat$Tape", name := "put", desc := "(I)V" } : Jvm.MethodName)) ∈ lw_g := List.mem_filter.mpr ⟨lw_c3 _ (List.mem_of_getElem? (i := 210) (by rfl)), rfl⟩
set_option maxRecDepth 20000 in
theorem tw_750 : (Jvm.Cond.selects "RockHeat$Tape" ({ cls := "RockHeat$Tape", name := "put", desc := "(I)V" } : Jvm.MethodName) ({ cls := "RockHeat$Tape", name := "put", desc := "(I)V" } : Jvm.MethodName)) ∈ lw_g := List.mem_filter.mpr ⟨lw_c3 _ (List.mem_of_getElem? (i := 211) (by rfl)), rfl⟩
set_option maxRecDepth 20000 in
theorem tw_751 : (Jvm.Cond.code ({ cls := "RockHeat$Tape", name := "put", desc := "(I)V" } : Jvm.MethodName) prog_11_method_2_code (2 : Nat) (Option.none : Option Jvm.ClassFile.FieldType)) ∈ lw_g := List.mem_filter.mpr ⟨lw_c3 _ (List.mem_of_getElem? (i := 212) (by rfl)), rfl⟩
set_option maxRecDepth 20000 in
theorem tw_752 : (Jvm.Cond.methodLink "RockHeatLaw" (96 : Nat) ({ cls := "RockHeat", name := "rule", desc := "(II)I" } : Jvm.MethodName)) ∈ lw_g := List.mem_filter.mpr ⟨lw_c3 _ (List.mem_of_getElem? (i := 213) (by rfl)), rfl⟩
set_option maxRecDepth 20000 in
theorem tw_753 : (Jvm.Cond.instanceMethod ({ cls := "RockHeat", name := "rule", desc := "(II)I" } : Jvm.MethodName)) ∈ lw_g := List.mem_filter.mpr ⟨lw_c3 _ (List.mem_of_getElem? (i := 214) (by rfl)), rfl⟩
set_option maxRecDepth 20000 in
theorem tw_754 : (Jvm.Cond.selects "RockHeat" ({ cls := "RockHeat", name := "rule", desc := "(II)I" } : Jvm.MethodName) ({ cls := "RockHeat", name := "rule", desc := "(II)I" } : Jvm.MethodName)) ∈ lw_g := List.mem_filter.mpr ⟨lw_c3 _ (List.mem_of_getElem? (i := 215) (by rfl)), rfl⟩
set_option maxRecDepth 20000 in
theorem tw_755 : (Jvm.Cond.code ({ cls := "RockHeat", name := "rule", desc := "(II)I" } : Jvm.MethodName) prog_1_method_20_code (4 : Nat) (Option.some Jvm.ClassFile.FieldType.int)) ∈ lw_g := List.mem_filter.mpr ⟨lw_c3 _ (List.mem_of_getElem? (i := 216) (by rfl)), rfl⟩
set_option maxRecDepth 20000 in
theorem tw_756 : (Jvm.Cond.methodLink "RockHeat" (200 : Nat) ({ cls := "RockHeat$Tape", name := "compile", desc := "()I" } : Jvm.MethodName)) ∈ lw_g := List.mem_filter.mpr ⟨lw_c3 _ (List.mem_of_getElem? (i := 217) (by rfl)), rfl⟩
set_option maxRecDepth 20000 in
theorem tw_757 : (Jvm.Cond.instanceMethod ({ cls := "RockHeat$Tape", name := "compile", desc := "()I" } : Jvm.MethodName)) ∈ lw_g := List.mem_filter.mpr ⟨lw_c3 _ (List.mem_of_getElem? (i := 218) (by rfl)), rfl⟩
set_option maxRecDepth 20000 in
theorem tw_758 : (Jvm.Cond.selects "RockHeat$Tape" ({ cls := "RockHeat$Tape", name := "compile", desc := "()I" } : Jvm.MethodName) ({ cls := "RockHeat$Tape", name := "compile", desc := "()I" } : Jvm.MethodName)) ∈ lw_g := List.mem_filter.mpr ⟨lw_c3 _ (List.mem_of_getElem? (i := 219) (by rfl)), rfl⟩
set_option maxRecDepth 20000 in
theorem tw_759 : (Jvm.Cond.code ({ cls := "RockHeat$Tape", name := "compile", desc := "()I" } : Jvm.MethodName) prog_11_method_3_code (1 : Nat) (Option.some Jvm.ClassFile.FieldType.int)) ∈ lw_g := List.mem_filter.mpr ⟨lw_c3 _ (List.mem_of_getElem? (i := 220) (by rfl)), rfl⟩
set_option maxRecDepth 20000 in
theorem tw_760 : (Jvm.Cond.methodLink "RockHeat$Tape" (31 : Nat) ({ cls := "RockHeat$Tape", name := "readSum", desc := "(I)V" } : Jvm.MethodName)) ∈ lw_g := List.mem_filter.mpr ⟨lw_c3 _ (List.mem_of_getElem? (i := 221) (by rfl)), rfl⟩
set_option maxRecDepth 20000 in
theorem tw_762 : (Jvm.Cond.instanceMethod ({ cls := "RockHeat$Tape", name := "readSum", desc := "(I)V" } : Jvm.MethodName)) ∈ lw_g := List.mem_filter.mpr ⟨lw_c3 _ (List.mem_of_getElem? (i := 223) (by rfl)), rfl⟩
set_option maxRecDepth 20000 in
theorem tw_763 : (Jvm.Cond.code ({ cls := "RockHeat$Tape", name := "readSum", desc := "(I)V" } : Jvm.MethodName) prog_11_method_4_code (4 : Nat) (Option.none : Option Jvm.ClassFile.FieldType)) ∈ lw_g := List.mem_filter.mpr ⟨lw_c3 _ (List.mem_of_getElem? (i := 224) (by rfl)), rfl⟩
set_option maxRecDepth 20000 in
theorem tw_764 : (Jvm.Cond.methodLink "RockHeat$Tape" (38 : Nat) ({ cls := "RockHeat$Tape", name := "readTerm", desc := "(I)V" } : Jvm.MethodName)) ∈ lw_g := List.mem_filter.mpr ⟨lw_c3 _ (List.mem_of_getElem? (i := 225) (by rfl)), rfl⟩
set_option maxRecDepth 20000 in
theorem tw_766 : (Jvm.Cond.instanceMethod ({ cls := "RockHeat$Tape", name := "readTerm", desc := "(I)V" } : Jvm.MethodName)) ∈ lw_g := List.mem_filter.mpr ⟨lw_c3 _ (List.mem_of_getElem? (i := 227) (by rfl)), rfl⟩
set_option maxRecDepth 20000 in
theorem tw_767 : (Jvm.Cond.code ({ cls := "RockHeat$Tape", name := "readTerm", desc := "(I)V" } : Jvm.MethodName) prog_11_method_5_code (4 : Nat) (Option.none : Option Jvm.ClassFile.FieldType)) ∈ lw_g := List.mem_filter.mpr ⟨lw_c3 _ (List.mem_of_getElem? (i := 228) (by rfl)), rfl⟩
set_option maxRecDepth 20000 in
theorem tw_768 : (Jvm.Cond.methodLink "RockHeat$Tape" (54 : Nat) ({ cls := "RockHeat$Tape", name := "readUnit", desc := "(I)V" } : Jvm.MethodName)) ∈ lw_g := List.mem_filter.mpr ⟨lw_c3 _ (List.mem_of_getElem? (i := 229) (by rfl)), rfl⟩
set_option maxRecDepth 20000 in
theorem tw_770 : (Jvm.Cond.instanceMethod ({ cls := "RockHeat$Tape", name := "readUnit", desc := "(I)V" } : Jvm.MethodName)) ∈ lw_g := List.mem_filter.mpr ⟨lw_c3 _ (List.mem_of_getElem? (i := 231) (by rfl)), rfl⟩
set_option maxRecDepth 20000 in
theorem tw_771 : (Jvm.Cond.code ({ cls := "RockHeat$Tape", name := "readUnit", desc := "(I)V" } : Jvm.MethodName) prog_11_method_6_code (2 : Nat) (Option.none : Option Jvm.ClassFile.FieldType)) ∈ lw_g := List.mem_filter.mpr ⟨lw_c3 _ (List.mem_of_getElem? (i := 232) (by rfl)), rfl⟩
set_option maxRecDepth 20000 in
theorem tw_772 : (Jvm.Cond.methodLink "RockHeat$Tape" (59 : Nat) ({ cls := "RockHeat$Tape", name := "isAtDigit", desc := "()Z" } : Jvm.MethodName)) ∈ lw_g := List.mem_filter.mpr ⟨lw_c3 _ (List.mem_of_getElem? (i := 233) (by rfl)), rfl⟩
set_option maxRecDepth 20000 in
theorem tw_774 : (Jvm.Cond.instanceMethod ({ cls := "RockHeat$Tape", name := "isAtDigit", desc := "()Z" } : Jvm.MethodName)) ∈ lw_g := List.mem_filter.mpr ⟨lw_c3 _ (List.mem_of_getElem? (i := 235) (by rfl)), rfl⟩
set_option maxRecDepth 20000 in
theorem tw_775 : (Jvm.Cond.code ({ cls := "RockHeat$Tape", name := "isAtDigit", desc := "()Z" } : Jvm.MethodName) prog_11_method_12_code (2 : Nat) (Option.some Jvm.ClassFile.FieldType.boolean)) ∈ lw_g := List.mem_filter.mpr ⟨lw_c3 _ (List.mem_of_getElem? (i := 236) (by rfl)), rfl⟩
set_option maxRecDepth 20000 in
theorem tw_776 : (Jvm.Cond.methodLink "RockHeat$Tape" (68 : Nat) ({ cls := "RockHeat$Tape", name := "seen", desc := "()I" } : Jvm.MethodName)) ∈ lw_g := List.mem_filter.mpr ⟨lw_c3 _ (List.mem_of_getElem? (i := 237) (by rfl)), rfl⟩
set_option maxRecDepth 20000 in
theorem tw_778 : (Jvm.Cond.instanceMethod ({ cls := "RockHeat$Tape", name := "seen", desc := "()I" } : Jvm.MethodName)) ∈ lw_g := List.mem_filter.mpr ⟨lw_c3 _ (List.mem_of_getElem? (i := 239) (by rfl)), rfl⟩
set_option maxRecDepth 20000 in
theorem tw_779 : (Jvm.Cond.code ({ cls := "RockHeat$Tape", name := "seen", desc := "()I" } : Jvm.MethodName) prog_11_method_10_code (2 : Nat) (Option.some Jvm.ClassFile.FieldType.int)) ∈ lw_g := List.mem_filter.mpr ⟨lw_c4 _ (List.mem_of_getElem? (i := 0) (by rfl)), rfl⟩
set_option maxRecDepth 20000 in
theorem tw_780 : (Jvm.Cond.methodLink "RockHeat$Tape" (63 : Nat) ({ cls := "RockHeat$Tape", name := "readNumber", desc := "()V" } : Jvm.MethodName)) ∈ lw_g := List.mem_filter.mpr ⟨lw_c4 _ (List.mem_of_getElem? (i := 1) (by rfl)), rfl⟩
set_option maxRecDepth 20000 in
theorem tw_782 : (Jvm.Cond.instanceMethod ({ cls := "RockHeat$Tape", name := "readNumber", desc := "()V" } : Jvm.MethodName)) ∈ lw_g := List.mem_filter.mpr ⟨lw_c4 _ (List.mem_of_getElem? (i := 3) (by rfl)), rfl⟩
set_option maxRecDepth 20000 in
theorem tw_783 : (Jvm.Cond.code ({ cls := "RockHeat$Tape", name := "readNumber", desc := "()V" } : Jvm.MethodName) prog_11_method_8_code (3 : Nat) (Option.none : Option Jvm.ClassFile.FieldType)) ∈ lw_g := List.mem_filter.mpr ⟨lw_c4 _ (List.mem_of_getElem? (i := 4) (by rfl)), rfl⟩
set_option maxRecDepth 20000 in
theorem tw_784 : (Jvm.Cond.methodLink "RockHeat$Tape" (51 : Nat) ({ cls := "RockHeat$Tape", name := "emit", desc := "(I)V" } : Jvm.MethodName)) ∈ lw_g := List.mem_filter.mpr ⟨lw_c4 _ (List.mem_of_getElem? (i := 5) (by rfl)), rfl⟩
set_option maxRecDepth 20000 in
theorem tw_786 : (Jvm.Cond.instanceMethod ({ cls := "RockHeat$Tape", name := "emit", desc := "(I)V" } : Jvm.MethodName)) ∈ lw_g := List.mem_filter.mpr ⟨lw_c4 _ (List.mem_of_getElem? (i := 7) (by rfl)), rfl⟩
set_option maxRecDepth 20000 in
theorem tw_787 : (Jvm.Cond.code ({ cls := "RockHeat$Tape", name := "emit", desc := "(I)V" } : Jvm.MethodName) prog_11_method_13_code (2 : Nat) (Option.none : Option Jvm.ClassFile.FieldType)) ∈ lw_g := List.mem_filter.mpr ⟨lw_c4 _ (List.mem_of_getElem? (i := 8) (by rfl)), rfl⟩
set_option maxRecDepth 20000 in
theorem tw_788 : (Jvm.Cond.stringRef "RockHeat$Tape" (66 : Nat) "hdpcntrbf") ∈ lw_tbl := lw_c4 _ (List.mem_of_getElem? (i := 9) (by rfl))
set_option maxRecDepth 20000 in
theorem tw_789 : (Jvm.Cond.methodLink "RockHeat$Tape" (43 : Nat) ({ cls := "RockHeat$Tape", name := "isAt", desc := "(Ljava/lang/String;)Z" } : Jvm.MethodName)) ∈ lw_g := List.mem_filter.mpr ⟨lw_c4 _ (List.mem_of_getElem? (i := 10) (by rfl)), rfl⟩
set_option maxRecDepth 20000 in
theorem tw_791 : (Jvm.Cond.instanceMethod ({ cls := "RockHeat$Tape", name := "isAt", desc := "(Ljava/lang/String;)Z" } : Jvm.MethodName)) ∈ lw_g := List.mem_filter.mpr ⟨lw_c4 _ (List.mem_of_getElem? (i := 12) (by rfl)), rfl⟩
set_option maxRecDepth 20000 in
theorem tw_792 : (Jvm.Cond.code ({ cls := "RockHeat$Tape", name := "isAt", desc := "(Ljava/lang/String;)Z" } : Jvm.MethodName) prog_11_method_11_code (3 : Nat) (Option.some Jvm.ClassFile.FieldType.boolean)) ∈ lw_g := List.mem_filter.mpr ⟨lw_c4 _ (List.mem_of_getElem? (i := 13) (by rfl)), rfl⟩
set_option maxRecDepth 20000 in
theorem tw_793 : (Jvm.Cond.methodLink "RockHeat$Tape" (71 : Nat) ({ cls := "java/lang/String", name := "indexOf", desc := "(I)I" } : Jvm.MethodName)) ∈ lw_g := List.mem_filter.mpr ⟨lw_c4 _ (List.mem_of_getElem? (i := 14) (by rfl)), rfl⟩
set_option maxRecDepth 20000 in
theorem tw_794 : (Jvm.Cond.instanceMethod ({ cls := "java/lang/String", name := "indexOf", desc := "(I)I" } : Jvm.MethodName)) ∈ lw_g := List.mem_filter.mpr ⟨lw_c4 _ (List.mem_of_getElem? (i := 15) (by rfl)), rfl⟩
set_option maxRecDepth 20000 in
theorem tw_795 : (Jvm.Cond.selects "java/lang/String" ({ cls := "java/lang/String", name := "indexOf", desc := "(I)I" } : Jvm.MethodName) ({ cls := "java/lang/String", name := "indexOf", desc := "(I)I" } : Jvm.MethodName)) ∈ lw_g := List.mem_filter.mpr ⟨lw_c4 _ (List.mem_of_getElem? (i := 16) (by rfl)), rfl⟩
set_option maxRecDepth 20000 in
theorem tw_796 : (Jvm.Cond.code ({ cls := "java/lang/String", name := "indexOf", desc := "(I)I" } : Jvm.MethodName) prog_23_method_79_code (2 : Nat) (Option.some Jvm.ClassFile.FieldType.int)) ∈ lw_g := List.mem_filter.mpr ⟨lw_c4 _ (List.mem_of_getElem? (i := 17) (by rfl)), rfl⟩
set_option maxRecDepth 20000 in
theorem tw_797 : (Jvm.Cond.methodLink "java/lang/String" (633 : Nat) ({ cls := "java/lang/String", name := "indexOf", desc := "(II)I" } : Jvm.MethodName)) ∈ lw_g := List.mem_filter.mpr ⟨lw_c4 _ (List.mem_of_getElem? (i := 18) (by rfl)), rfl⟩
set_option maxRecDepth 20000 in
theorem tw_798 : (Jvm.Cond.instanceMethod ({ cls := "java/lang/String", name := "indexOf", desc := "(II)I" } : Jvm.MethodName)) ∈ lw_g := List.mem_filter.mpr ⟨lw_c4 _ (List.mem_of_getElem? (i := 19) (by rfl)), rfl⟩
set_option maxRecDepth 20000 in
theorem tw_799 : (Jvm.Cond.selects "java/lang/String" ({ cls := "java/lang/String", name := "indexOf", desc := "(II)I" } : Jvm.MethodName) ({ cls := "java/lang/String", name := "indexOf", desc := "(II)I" } : Jvm.MethodName)) ∈ lw_g := List.mem_filter.mpr ⟨lw_c4 _ (List.mem_of_getElem? (i := 20) (by rfl)), rfl⟩
set_option maxRecDepth 20000 in
theorem tw_800 : (Jvm.Cond.code ({ cls := "java/lang/String", name := "indexOf", desc := "(II)I" } : Jvm.MethodName) prog_23_method_80_code (3 : Nat) (Option.some Jvm.ClassFile.FieldType.int)) ∈ lw_g := List.mem_filter.mpr ⟨lw_c4 _ (List.mem_of_getElem? (i := 21) (by rfl)), rfl⟩
set_option maxRecDepth 20000 in
theorem tw_801 : (Jvm.Cond.methodLink "java/lang/String" (492 : Nat) ({ cls := "java/lang/String", name := "isLatin1", desc := "()Z" } : Jvm.MethodName)) ∈ lw_g := List.mem_filter.mpr ⟨lw_c4 _ (List.mem_of_getElem? (i := 22) (by rfl)), rfl⟩
set_option maxRecDepth 20000 in
theorem tw_802 : (Jvm.Cond.instanceMethod ({ cls := "java/lang/String", name := "isLatin1", desc := "()Z" } : Jvm.MethodName)) ∈ lw_g := List.mem_filter.mpr ⟨lw_c4 _ (List.mem_of_getElem? (i := 23) (by rfl)), rfl⟩
set_option maxRecDepth 20000 in
theorem tw_803 : (Jvm.Cond.selects "java/lang/String" ({ cls := "java/lang/String", name := "isLatin1", desc := "()Z" } : Jvm.MethodName) ({ cls := "java/lang/String", name := "isLatin1", desc := "()Z" } : Jvm.MethodName)) ∈ lw_g := List.mem_filter.mpr ⟨lw_c4 _ (List.mem_of_getElem? (i := 24) (by rfl)), rfl⟩
set_option maxRecDepth 20000 in
theorem tw_804 : (Jvm.Cond.code ({ cls := "java/lang/String", name := "isLatin1", desc := "()Z" } : Jvm.MethodName) prog_23_method_154_code (1 : Nat) (Option.some Jvm.ClassFile.FieldType.boolean)) ∈ lw_g := List.mem_filter.mpr ⟨lw_c4 _ (List.mem_of_getElem? (i := 25) (by rfl)), rfl⟩
set_option maxRecDepth 20000 in
theorem tw_805 : (Jvm.Cond.fieldLink "java/lang/String" (38 : Nat) "java/lang/String" "COMPACT_STRINGS" "Z") ∈ lw_g := List.mem_filter.mpr ⟨lw_c4 _ (List.mem_of_getElem? (i := 26) (by rfl)), rfl⟩
set_option maxRecDepth 20000 in
theorem tw_807 : (Jvm.Cond.methodLink "java/lang/String" (505 : Nat) ({ cls := "java/lang/String", name := "length", desc := "()I" } : Jvm.MethodName)) ∈ lw_g := List.mem_filter.mpr ⟨lw_c4 _ (List.mem_of_getElem? (i := 28) (by rfl)), rfl⟩
set_option maxRecDepth 20000 in
theorem tw_808 : (Jvm.Cond.instanceMethod ({ cls := "java/lang/String", name := "length", desc := "()I" } : Jvm.MethodName)) ∈ lw_g := List.mem_filter.mpr ⟨lw_c4 _ (List.mem_of_getElem? (i := 29) (by rfl)), rfl⟩
set_option maxRecDepth 20000 in
theorem tw_809 : (Jvm.Cond.selects "java/lang/String" ({ cls := "java/lang/String", name := "length", desc := "()I" } : Jvm.MethodName) ({ cls := "java/lang/String", name := "length", desc := "()I" } : Jvm.MethodName)) ∈ lw_g := List.mem_filter.mpr ⟨lw_c4 _ (List.mem_of_getElem? (i := 30) (by rfl)), rfl⟩
set_option maxRecDepth 20000 in
theorem tw_810 : (Jvm.Cond.code ({ cls := "java/lang/String", name := "length", desc := "()I" } : Jvm.MethodName) prog_23_method_54_code (1 : Nat) (Option.some Jvm.ClassFile.FieldType.int)) ∈ lw_g := List.mem_filter.mpr ⟨lw_c4 _ (List.mem_of_getElem? (i := 31) (by rfl)), rfl⟩
set_option maxRecDepth 20000 in
theorem tw_811 : (Jvm.Cond.methodLink "java/lang/String" (335 : Nat) ({ cls := "java/lang/String", name := "coder", desc := "()B" } : Jvm.MethodName)) ∈ lw_g := List.mem_filter.mpr ⟨lw_c4 _ (List.mem_of_getElem? (i := 32) (by rfl)), rfl⟩
set_option maxRecDepth 20000 in
theorem tw_812 : (Jvm.Cond.instanceMethod ({ cls := "java/lang/String", name := "coder", desc := "()B" } : Jvm.MethodName)) ∈ lw_g := List.mem_filter.mpr ⟨lw_c4 _ (List.mem_of_getElem? (i := 33) (by rfl)), rfl⟩
set_option maxRecDepth 20000 in
theorem tw_813 : (Jvm.Cond.selects "java/lang/String" ({ cls := "java/lang/String", name := "coder", desc := "()B" } : Jvm.MethodName) ({ cls := "java/lang/String", name := "coder", desc := "()B" } : Jvm.MethodName)) ∈ lw_g := List.mem_filter.mpr ⟨lw_c4 _ (List.mem_of_getElem? (i := 34) (by rfl)), rfl⟩
set_option maxRecDepth 20000 in
theorem tw_814 : (Jvm.Cond.code ({ cls := "java/lang/String", name := "coder", desc := "()B" } : Jvm.MethodName) prog_23_method_152_code (1 : Nat) (Option.some Jvm.ClassFile.FieldType.byte)) ∈ lw_g := List.mem_filter.mpr ⟨lw_c4 _ (List.mem_of_getElem? (i := 35) (by rfl)), rfl⟩
set_option maxRecDepth 20000 in
theorem tw_815 : (Jvm.Cond.methodLink "java/lang/String" (637 : Nat) ({ cls := "java/lang/StringLatin1", name := "indexOf", desc := "([BIII)I" } : Jvm.MethodName)) ∈ lw_g := List.mem_filter.mpr ⟨lw_c4 _ (List.mem_of_getElem? (i := 36) (by rfl)), rfl⟩
set_option maxRecDepth 20000 in
theorem tw_816 : (Jvm.Cond.static ({ cls := "java/lang/StringLatin1", name := "indexOf", desc := "([BIII)I" } : Jvm.MethodName)) ∈ lw_g := List.mem_filter.mpr ⟨lw_c4 _ (List.mem_of_getElem? (i := 37) (by rfl)), rfl⟩
set_option maxRecDepth 20000 in
theorem tw_817 : (Jvm.Cond.code ({ cls := "java/lang/StringLatin1", name := "indexOf", desc := "([BIII)I" } : Jvm.MethodName) prog_24_method_22_code (4 : Nat) (Option.some Jvm.ClassFile.FieldType.int)) ∈ lw_g := List.mem_filter.mpr ⟨lw_c4 _ (List.mem_of_getElem? (i := 38) (by rfl)), rfl⟩
set_option maxRecDepth 20000 in
theorem tw_818 : (Jvm.Cond.methodLink "java/lang/StringLatin1" (88 : Nat) ({ cls := "java/lang/StringLatin1", name := "canEncode", desc := "(I)Z" } : Jvm.MethodName)) ∈ lw_g := List.mem_filter.mpr ⟨lw_c4 _ (List.mem_of_getElem? (i := 39) (by rfl)), rfl⟩
set_option maxRecDepth 20000 in
theorem tw_819 : (Jvm.Cond.static ({ cls := "java/lang/StringLatin1", name := "canEncode", desc := "(I)Z" } : Jvm.MethodName)) ∈ lw_g := List.mem_filter.mpr ⟨lw_c4 _ (List.mem_of_getElem? (i := 40) (by rfl)), rfl⟩
set_option maxRecDepth 20000 in
theorem tw_820 : (Jvm.Cond.code ({ cls := "java/lang/StringLatin1", name := "canEncode", desc := "(I)Z" } : Jvm.MethodName) prog_24_method_4_code (1 : Nat) (Option.some Jvm.ClassFile.FieldType.boolean)) ∈ lw_g := List.mem_filter.mpr ⟨lw_c4 _ (List.mem_of_getElem? (i := 41) (by rfl)), rfl⟩
set_option maxRecDepth 20000 in
theorem tw_821 : (Jvm.Cond.methodLink "java/lang/StringLatin1" (92 : Nat) ({ cls := "java/lang/Math", name := "max", desc := "(II)I" } : Jvm.MethodName)) ∈ lw_g := List.mem_filter.mpr ⟨lw_c4 _ (List.mem_of_getElem? (i := 42) (by rfl)), rfl⟩
set_option maxRecDepth 20000 in
theorem tw_822 : (Jvm.Cond.methodLink "java/lang/StringLatin1" (38 : Nat) ({ cls := "java/lang/Math", name := "min", desc := "(II)I" } : Jvm.MethodName)) ∈ lw_g := List.mem_filter.mpr ⟨lw_c4 _ (List.mem_of_getElem? (i := 43) (by rfl)), rfl⟩
set_option maxRecDepth 20000 in
theorem tw_823 : (Jvm.Cond.methodLink "java/lang/StringLatin1" (95 : Nat) ({ cls := "java/lang/StringLatin1", name := "indexOfChar", desc := "([BIII)I" } : Jvm.MethodName)) ∈ lw_g := List.mem_filter.mpr ⟨lw_c4 _ (List.mem_of_getElem? (i := 44) (by rfl)), rfl⟩
set_option maxRecDepth 20000 in
theorem tw_824 : (Jvm.Cond.static ({ cls := "java/lang/StringLatin1", name := "indexOfChar", desc := "([BIII)I" } : Jvm.MethodName)) ∈ lw_g := List.mem_filter.mpr ⟨lw_c4 _ (List.mem_of_getElem? (i := 45) (by rfl)), rfl⟩
set_option maxRecDepth 20000 in
theorem tw_825 : (Jvm.Cond.code ({ cls := "java/lang/StringLatin1", name := "indexOfChar", desc := "([BIII)I" } : Jvm.MethodName) prog_24_method_23_code (6 : Nat) (Option.some Jvm.ClassFile.FieldType.int)) ∈ lw_g := List.mem_filter.mpr ⟨lw_c4 _ (List.mem_of_getElem? (i := 46) (by rfl)), rfl⟩
set_option maxRecDepth 20000 in
theorem tw_826 : (Jvm.Cond.methodLink "java/lang/String" (640 : Nat) ({ cls := "java/lang/StringUTF16", name := "indexOf", desc := "([BIII)I" } : Jvm.MethodName)) ∈ lw_g := List.mem_filter.mpr ⟨lw_c4 _ (List.mem_of_getElem? (i := 47) (by rfl)), rfl⟩
set_option maxRecDepth 20000 in
theorem tw_827 : (Jvm.Cond.static ({ cls := "java/lang/StringUTF16", name := "indexOf", desc := "([BIII)I" } : Jvm.MethodName)) ∈ lw_g := List.mem_filter.mpr ⟨lw_c4 _ (List.mem_of_getElem? (i := 48) (by rfl)), rfl⟩
set_option maxRecDepth 20000 in
theorem tw_828 : (Jvm.Cond.code ({ cls := "java/lang/StringUTF16", name := "indexOf", desc := "([BIII)I" } : Jvm.MethodName) prog_25_method_40_code (4 : Nat) (Option.some Jvm.ClassFile.FieldType.int)) ∈ lw_g := List.mem_filter.mpr ⟨lw_c4 _ (List.mem_of_getElem? (i := 49) (by rfl)), rfl⟩
set_option maxRecDepth 20000 in
theorem tw_829 : (Jvm.Cond.methodLink "java/lang/StringUTF16" (224 : Nat) ({ cls := "java/lang/Math", name := "max", desc := "(II)I" } : Jvm.MethodName)) ∈ lw_g := List.mem_filter.mpr ⟨lw_c4 _ (List.mem_of_getElem? (i := 50) (by rfl)), rfl⟩
set_option maxRecDepth 20000 in
theorem tw_830 : (Jvm.Cond.methodLink "java/lang/StringUTF16" (183 : Nat) ({ cls := "java/lang/Math", name := "min", desc := "(II)I" } : Jvm.MethodName)) ∈ lw_g := List.mem_filter.mpr ⟨lw_c4 _ (List.mem_of_getElem? (i := 51) (by rfl)), rfl⟩
set_option maxRecDepth 20000 in
theorem tw_831 : (Jvm.Cond.constant "java/lang/StringUTF16" (227 : Nat) (65536 : Int32)) ∈ lw_g := List.mem_filter.mpr ⟨lw_c4 _ (List.mem_of_getElem? (i := 52) (by rfl)), rfl⟩
set_option maxRecDepth 20000 in
theorem tw_832 : (Jvm.Cond.methodLink "java/lang/StringUTF16" (228 : Nat) ({ cls := "java/lang/StringUTF16", name := "indexOfChar", desc := "([BIII)I" } : Jvm.MethodName)) ∈ lw_g := List.mem_filter.mpr ⟨lw_c4 _ (List.mem_of_getElem? (i := 53) (by rfl)), rfl⟩
set_option maxRecDepth 20000 in
theorem tw_833 : (Jvm.Cond.static ({ cls := "java/lang/StringUTF16", name := "indexOfChar", desc := "([BIII)I" } : Jvm.MethodName)) ∈ lw_g := List.mem_filter.mpr ⟨lw_c4 _ (List.mem_of_getElem? (i := 54) (by rfl)), rfl⟩
set_option maxRecDepth 20000 in
theorem tw_834 : (Jvm.Cond.code ({ cls := "java/lang/StringUTF16", name := "indexOfChar", desc := "([BIII)I" } : Jvm.MethodName) prog_25_method_47_code (4 : Nat) (Option.some Jvm.ClassFile.FieldType.int)) ∈ lw_g := List.mem_filter.mpr ⟨lw_c4 _ (List.mem_of_getElem? (i := 55) (by rfl)), rfl⟩
set_option maxRecDepth 20000 in
theorem tw_835 : (Jvm.Cond.methodLink "java/lang/StringUTF16" (96 : Nat) ({ cls := "java/lang/StringUTF16", name := "checkBoundsBeginEnd", desc := "(II[B)V" } : Jvm.MethodName)) ∈ lw_g := List.mem_filter.mpr ⟨lw_c4 _ (List.mem_of_getElem? (i := 56) (by rfl)), rfl⟩
set_option maxRecDepth 20000 in
theorem tw_836 : (Jvm.Cond.static ({ cls := "java/lang/StringUTF16", name := "checkBoundsBeginEnd", desc := "(II[B)V" } : Jvm.MethodName)) ∈ lw_g := List.mem_filter.mpr ⟨lw_c4 _ (List.mem_of_getElem? (i := 57) (by rfl)), rfl⟩
set_option maxRecDepth 20000 in
theorem tw_837 : (Jvm.Cond.code ({ cls := "java/lang/StringUTF16", name := "checkBoundsBeginEnd", desc := "(II[B)V" } : Jvm.MethodName) prog_25_method_93_code (3 : Nat) (Option.none : Option Jvm.ClassFile.FieldType)) ∈ lw_g := List.mem_filter.mpr ⟨lw_c4 _ (List.mem_of_getElem? (i := 58) (by rfl)), rfl⟩
set_option maxRecDepth 20000 in
theorem tw_838 : (Jvm.Cond.methodLink "java/lang/StringUTF16" (48 : Nat) ({ cls := "java/lang/StringUTF16", name := "length", desc := "([B)I" } : Jvm.MethodName)) ∈ lw_g := List.mem_filter.mpr ⟨lw_c4 _ (List.mem_of_getElem? (i := 59) (by rfl)), rfl⟩
set_option maxRecDepth 20000 in
theorem tw_839 : (Jvm.Cond.static ({ cls := "java/lang/StringUTF16", name := "length", desc := "([B)I" } : Jvm.MethodName)) ∈ lw_g := List.mem_filter.mpr ⟨lw_c4 _ (List.mem_of_getElem? (i := 60) (by rfl)), rfl⟩
set_option maxRecDepth 20000 in
theorem tw_840 : (Jvm.Cond.code ({ cls := "java/lang/StringUTF16", name := "length", desc := "([B)I" } : Jvm.MethodName) prog_25_method_6_code (1 : Nat) (Option.some Jvm.ClassFile.FieldType.int)) ∈ lw_g := List.mem_filter.mpr ⟨lw_c4 _ (List.mem_of_getElem? (i := 61) (by rfl)), rfl⟩
set_option maxRecDepth 20000 in
theorem tw_841 : (Jvm.Cond.methodLink "java/lang/StringUTF16" (241 : Nat) ({ cls := "java/lang/String", name := "checkBoundsBeginEnd", desc := "(III)V" } : Jvm.MethodName)) ∈ lw_g := List.mem_filter.mpr ⟨lw_c4 _ (List.mem_of_getElem? (i := 62) (by rfl)), rfl⟩
set_option maxRecDepth 20000 in
theorem tw_842 : (Jvm.Cond.static ({ cls := "java/lang/String", name := "checkBoundsBeginEnd", desc := "(III)V" } : Jvm.MethodName)) ∈ lw_g := List.mem_filter.mpr ⟨lw_c4 _ (List.mem_of_getElem? (i := 63) (by rfl)), rfl⟩
set_option maxRecDepth 20000 in
theorem tw_843 : (Jvm.Cond.code ({ cls := "java/lang/String", name := "checkBoundsBeginEnd", desc := "(III)V" } : Jvm.MethodName) prog_23_method_158_code (3 : Nat) (Option.none : Option Jvm.ClassFile.FieldType)) ∈ lw_g := List.mem_filter.mpr ⟨lw_c4 _ (List.mem_of_getElem? (i := 64) (by rfl)), rfl⟩
set_option maxRecDepth 20000 in
theorem tw_844 : (Jvm.Cond.fieldLink "java/lang/String" (1053 : Nat) "jdk/internal/util/Preconditions" "SIOOBE_FORMATTER" "Ljava/util/function/BiFunction;") ∈ lw_g := List.mem_filter.mpr ⟨lw_c4 _ (List.mem_of_getElem? (i := 65) (by rfl)), rfl⟩
set_option maxRecDepth 20000 in
theorem tw_846 : (Jvm.Cond.methodLink "java/lang/String" (1062 : Nat) ({ cls := "jdk/internal/util/Preconditions", name := "checkFromToIndex", desc := "(IIILjava/util/function/BiFunction;)I" } : Jvm.MethodName)) ∈ lw_g := List.mem_filter.mpr ⟨lw_c4 _ (List.mem_of_getElem? (i := 67) (by rfl)), rfl⟩
set_option maxRecDepth 20000 in
theorem tw_847 : (Jvm.Cond.static ({ cls := "jdk/internal/util/Preconditions", name := "checkFromToIndex", desc := "(IIILjava/util/function/BiFunction;)I" } : Jvm.MethodName)) ∈ lw_g := List.mem_filter.mpr ⟨lw_c4 _ (List.mem_of_getElem? (i := 68) (by rfl)), rfl⟩
set_option maxRecDepth 20000 in
theorem tw_848 : (Jvm.Cond.code ({ cls := "jdk/internal/util/Preconditions", name := "checkFromToIndex", desc := "(IIILjava/util/function/BiFunction;)I" } : Jvm.MethodName) prog_39_method_12_code (4 : Nat) (Option.some Jvm.ClassFile.FieldType.int)) ∈ lw_g := List.mem_filter.mpr ⟨lw_c4 _ (List.mem_of_getElem? (i := 69) (by rfl)), rfl⟩
set_option maxRecDepth 20000 in
theorem tw_849 : (Jvm.Cond.methodLink "java/lang/StringUTF16" (244 : Nat) ({ cls := "java/lang/StringUTF16", name := "indexOfCharUnsafe", desc := "([BIII)I" } : Jvm.MethodName)) ∈ lw_g := List.mem_filter.mpr ⟨lw_c4 _ (List.mem_of_getElem? (i := 70) (by rfl)), rfl⟩
set_option maxRecDepth 20000 in
theorem tw_850 : (Jvm.Cond.static ({ cls := "java/lang/StringUTF16", name := "indexOfCharUnsafe", desc := "([BIII)I" } : Jvm.MethodName)) ∈ lw_g := List.mem_filter.mpr ⟨lw_c4 _ (List.mem_of_getElem? (i := 71) (by rfl)), rfl⟩
set_option maxRecDepth 20000 in
theorem tw_851 : (Jvm.Cond.code ({ cls := "java/lang/StringUTF16", name := "indexOfCharUnsafe", desc := "([BIII)I" } : Jvm.MethodName) prog_25_method_48_code (5 : Nat) (Option.some Jvm.ClassFile.FieldType.int)) ∈ lw_g := List.mem_filter.mpr ⟨lw_c4 _ (List.mem_of_getElem? (i := 72) (by rfl)), rfl⟩
set_option maxRecDepth 20000 in
theorem tw_852 : (Jvm.Cond.methodLink "java/lang/StringUTF16" (71 : Nat) ({ cls := "java/lang/StringUTF16", name := "getChar", desc := "([BI)C" } : Jvm.MethodName)) ∈ lw_g := List.mem_filter.mpr ⟨lw_c4 _ (List.mem_of_getElem? (i := 73) (by rfl)), rfl⟩
set_option maxRecDepth 20000 in
theorem tw_853 : (Jvm.Cond.static ({ cls := "java/lang/StringUTF16", name := "getChar", desc := "([BI)C" } : Jvm.MethodName)) ∈ lw_g := List.mem_filter.mpr ⟨lw_c4 _ (List.mem_of_getElem? (i := 74) (by rfl)), rfl⟩
set_option maxRecDepth 20000 in
theorem tw_854 : (Jvm.Cond.code ({ cls := "java/lang/StringUTF16", name := "getChar", desc := "([BI)C" } : Jvm.MethodName) prog_25_method_5_code (2 : Nat) (Option.some Jvm.ClassFile.FieldType.char)) ∈ lw_g := List.mem_filter.mpr ⟨lw_c4 _ (List.mem_of_getElem? (i := 75) (by rfl)), rfl⟩
set_option maxRecDepth 20000 in
theorem tw_855 : (Jvm.Cond.fieldLink "java/lang/StringUTF16" (44 : Nat) "java/lang/StringUTF16" "$assertionsDisabled" "Z") ∈ lw_g := List.mem_filter.mpr ⟨lw_c4 _ (List.mem_of_getElem? (i := 76) (by rfl)), rfl⟩
set_option maxRecDepth 20000 in
theorem tw_857 : (Jvm.Cond.fieldLink "java/lang/StringUTF16" (59 : Nat) "java/lang/StringUTF16" "HI_BYTE_SHIFT" "I") ∈ lw_g := List.mem_filter.mpr ⟨lw_c4 _ (List.mem_of_getElem? (i := 78) (by rfl)), rfl⟩
set_option maxRecDepth 20000 in
theorem tw_859 : (Jvm.Cond.fieldLink "java/lang/StringUTF16" (63 : Nat) "java/lang/StringUTF16" "LO_BYTE_SHIFT" "I") ∈ lw_g := List.mem_filter.mpr ⟨lw_c4 _ (List.mem_of_getElem? (i := 80) (by rfl)), rfl⟩
set_option maxRecDepth 20000 in
theorem tw_861 : (Jvm.Cond.methodLink "java/lang/StringUTF16" (232 : Nat) ({ cls := "java/lang/StringUTF16", name := "indexOfSupplementary", desc := "([BIII)I" } : Jvm.MethodName)) ∈ lw_g := List.mem_filter.mpr ⟨lw_c4 _ (List.mem_of_getElem? (i := 82) (by rfl)), rfl⟩
set_option maxRecDepth 20000 in
theorem tw_862 : (Jvm.Cond.static ({ cls := "java/lang/StringUTF16", name := "indexOfSupplementary", desc := "([BIII)I" } : Jvm.MethodName)) ∈ lw_g := List.mem_filter.mpr ⟨lw_c4 _ (List.mem_of_getElem? (i := 83) (by rfl)), rfl⟩
set_option maxRecDepth 20000 in
theorem tw_863 : (Jvm.Cond.code ({ cls := "java/lang/StringUTF16", name := "indexOfSupplementary", desc := "([BIII)I" } : Jvm.MethodName) prog_25_method_49_code (7 : Nat) (Option.some Jvm.ClassFile.FieldType.int)) ∈ lw_g := List.mem_filter.mpr ⟨lw_c4 _ (List.mem_of_getElem? (i := 84) (by rfl)), rfl⟩
set_option maxRecDepth 20000 in
theorem tw_864 : (Jvm.Cond.methodLink "java/lang/StringUTF16" (164 : Nat) ({ cls := "java/lang/Character", name := "isValidCodePoint", desc := "(I)Z" } : Jvm.MethodName)) ∈ lw_g := List.mem_filter.mpr ⟨lw_c4 _ (List.mem_of_getElem? (i := 85) (by rfl)), rfl⟩
set_option maxRecDepth 20000 in
theorem tw_865 : (Jvm.Cond.static ({ cls := "java/lang/Character", name := "isValidCodePoint", desc := "(I)Z" } : Jvm.MethodName)) ∈ lw_g := List.mem_filter.mpr ⟨lw_c4 _ (List.mem_of_getElem? (i := 86) (by rfl)), rfl⟩
set_option maxRecDepth 20000 in
theorem tw_866 : (Jvm.Cond.code ({ cls := "java/lang/Character", name := "isValidCodePoint", desc := "(I)Z" } : Jvm.MethodName) prog_17_method_11_code (2 : Nat) (Option.some Jvm.ClassFile.FieldType.boolean)) ∈ lw_g := List.mem_filter.mpr ⟨lw_c4 _ (List.mem_of_getElem? (i := 87) (by rfl)), rfl⟩
set_option maxRecDepth 20000 in
theorem tw_867 : (Jvm.Cond.methodLink "java/lang/StringUTF16" (157 : Nat) ({ cls := "java/lang/Character", name := "highSurrogate", desc := "(I)C" } : Jvm.MethodName)) ∈ lw_g := List.mem_filter.mpr ⟨lw_c4 _ (List.mem_of_getElem? (i := 88) (by rfl)), rfl⟩
set_option maxRecDepth 20000 in
theorem tw_868 : (Jvm.Cond.static ({ cls := "java/lang/Character", name := "highSurrogate", desc := "(I)C" } : Jvm.MethodName)) ∈ lw_g := List.mem_filter.mpr ⟨lw_c4 _ (List.mem_of_getElem? (i := 89) (by rfl)), rfl⟩
set_option maxRecDepth 20000 in
theorem tw_869 : (Jvm.Cond.code ({ cls := "java/lang/Character", name := "highSurrogate", desc := "(I)C" } : Jvm.MethodName) prog_17_method_28_code (1 : Nat) (Option.some Jvm.ClassFile.FieldType.char)) ∈ lw_g := List.mem_filter.mpr ⟨lw_c4 _ (List.mem_of_getElem? (i := 90) (by rfl)), rfl⟩
set_option maxRecDepth 20000 in
theorem tw_870 : (Jvm.Cond.constant "java/lang/Character" (110 : Nat) (55232 : Int32)) ∈ lw_g := List.mem_filter.mpr ⟨lw_c4 _ (List.mem_of_getElem? (i := 91) (by rfl)), rfl⟩
set_option maxRecDepth 20000 in
theorem tw_871 : (Jvm.Cond.methodLink "java/lang/StringUTF16" (161 : Nat) ({ cls := "java/lang/Character", name := "lowSurrogate", desc := "(I)C" } : Jvm.MethodName)) ∈ lw_g := List.mem_filter.mpr ⟨lw_c4 _ (List.mem_of_getElem? (i := 92) (by rfl)), rfl⟩
set_option maxRecDepth 20000 in
theorem tw_872 : (Jvm.Cond.static ({ cls := "java/lang/Character", name := "lowSurrogate", desc := "(I)C" } : Jvm.MethodName)) ∈ lw_g := List.mem_filter.mpr ⟨lw_c4 _ (List.mem_of_getElem? (i := 93) (by rfl)), rfl⟩
set_option maxRecDepth 20000 in
theorem tw_873 : (Jvm.Cond.code ({ cls := "java/lang/Character", name := "lowSurrogate", desc := "(I)C" } : Jvm.MethodName) prog_17_method_29_code (1 : Nat) (Option.some Jvm.ClassFile.FieldType.char)) ∈ lw_g := List.mem_filter.mpr ⟨lw_c4 _ (List.mem_of_getElem? (i := 94) (by rfl)), rfl⟩
set_option maxRecDepth 20000 in
theorem tw_874 : (Jvm.Cond.constant "java/lang/Character" (76 : Nat) (56320 : Int32)) ∈ lw_g := List.mem_filter.mpr ⟨lw_c4 _ (List.mem_of_getElem? (i := 95) (by rfl)), rfl⟩
set_option maxRecDepth 20000 in
theorem tw_875 : (Jvm.Cond.stringRef "RockHeat$Tape" (77 : Nat) "(") ∈ lw_tbl := lw_c4 _ (List.mem_of_getElem? (i := 96) (by rfl))
set_option maxRecDepth 20000 in
theorem tw_876 : (Jvm.Cond.methodLink "RockHeat$Tape" (79 : Nat) ({ cls := "RockHeat$Tape", name := "readBracket", desc := "(I)V" } : Jvm.MethodName)) ∈ lw_g := List.mem_filter.mpr ⟨lw_c4 _ (List.mem_of_getElem? (i := 97) (by rfl)), rfl⟩
set_option maxRecDepth 20000 in
theorem tw_878 : (Jvm.Cond.instanceMethod ({ cls := "RockHeat$Tape", name := "readBracket", desc := "(I)V" } : Jvm.MethodName)) ∈ lw_g := List.mem_filter.mpr ⟨lw_c4 _ (List.mem_of_getElem? (i := 99) (by rfl)), rfl⟩
set_option maxRecDepth 20000 in
theorem tw_879 : (Jvm.Cond.code ({ cls := "RockHeat$Tape", name := "readBracket", desc := "(I)V" } : Jvm.MethodName) prog_11_method_7_code (3 : Nat) (Option.none : Option Jvm.ClassFile.FieldType)) ∈ lw_g := List.mem_filter.mpr ⟨lw_c4 _ (List.mem_of_getElem? (i := 100) (by rfl)), rfl⟩
set_option maxRecDepth 20000 in
theorem tw_880 : (Jvm.Cond.stringRef "RockHeat$Tape" (82 : Nat) "<=>") ∈ lw_tbl := lw_c4 _ (List.mem_of_getElem? (i := 101) (by rfl))
set_option maxRecDepth 20000 in
theorem tw_881 : (Jvm.Cond.methodLink "RockHeat$Tape" (47 : Nat) ({ cls := "RockHeat$Tape", name := "takeOperator", desc := "()I" } : Jvm.MethodName)) ∈ lw_g := List.mem_filter.mpr ⟨lw_c4 _ (List.mem_of_getElem? (i := 102) (by rfl)), rfl⟩
set_option maxRecDepth 20000 in
theorem tw_883 : (Jvm.Cond.instanceMethod ({ cls := "RockHeat$Tape", name := "takeOperator", desc := "()I" } : Jvm.MethodName)) ∈ lw_g := List.mem_filter.mpr ⟨lw_c4 _ (List.mem_of_getElem? (i := 104) (by rfl)), rfl⟩
set_option maxRecDepth 20000 in
theorem tw_884 : (Jvm.Cond.code ({ cls := "RockHeat$Tape", name := "takeOperator", desc := "()I" } : Jvm.MethodName) prog_11_method_9_code (2 : Nat) (Option.some Jvm.ClassFile.FieldType.int)) ∈ lw_g := List.mem_filter.mpr ⟨lw_c4 _ (List.mem_of_getElem? (i := 105) (by rfl)), rfl⟩
set_option maxRecDepth 20000 in
theorem tw_885 : (Jvm.Cond.stringRef "RockHeat$Tape" (86 : Nat) "+-*/<=>") ∈ lw_tbl := lw_c4 _ (List.mem_of_getElem? (i := 106) (by rfl))
set_option maxRecDepth 20000 in
theorem tw_886 : (Jvm.Cond.stringRef "RockHeat$Tape" (84 : Nat) ")") ∈ lw_tbl := lw_c4 _ (List.mem_of_getElem? (i := 107) (by rfl))
set_option maxRecDepth 20000 in
theorem tw_887 : (Jvm.Cond.methodLink "RockHeat$Tape" (35 : Nat) ({ cls := "RockHeat$Tape", name := "fail", desc := "()V" } : Jvm.MethodName)) ∈ lw_g := List.mem_filter.mpr ⟨lw_c4 _ (List.mem_of_getElem? (i := 108) (by rfl)), rfl⟩
set_option maxRecDepth 20000 in
theorem tw_889 : (Jvm.Cond.instanceMethod ({ cls := "RockHeat$Tape", name := "fail", desc := "()V" } : Jvm.MethodName)) ∈ lw_g := List.mem_filter.mpr ⟨lw_c4 _ (List.mem_of_getElem? (i := 110) (by rfl)), rfl⟩
set_option maxRecDepth 20000 in
theorem tw_890 : (Jvm.Cond.code ({ cls := "RockHeat$Tape", name := "fail", desc := "()V" } : Jvm.MethodName) prog_11_method_14_code (1 : Nat) (Option.none : Option Jvm.ClassFile.FieldType)) ∈ lw_g := List.mem_filter.mpr ⟨lw_c4 _ (List.mem_of_getElem? (i := 111) (by rfl)), rfl⟩
set_option maxRecDepth 20000 in
theorem tw_891 : (Jvm.Cond.stringRef "RockHeat$Tape" (57 : Nat) "*/") ∈ lw_tbl := lw_c4 _ (List.mem_of_getElem? (i := 112) (by rfl))
set_option maxRecDepth 20000 in
theorem tw_892 : (Jvm.Cond.stringRef "RockHeat$Tape" (41 : Nat) "+-") ∈ lw_tbl := lw_c4 _ (List.mem_of_getElem? (i := 113) (by rfl))
set_option maxRecDepth 20000 in
theorem tw_893 : (Jvm.Cond.classLink "RockHeat" (203 : Nat) "RockHeat$Rule") ∈ lw_g := List.mem_filter.mpr ⟨lw_c4 _ (List.mem_of_getElem? (i := 114) (by rfl)), rfl⟩
set_option maxRecDepth 20000 in
theorem tw_894 : (Jvm.Cond.instantiable "RockHeat$Rule" (4 : Nat)) ∈ lw_g := List.mem_filter.mpr ⟨lw_c4 _ (List.mem_of_getElem? (i := 115) (by rfl)), rfl⟩
set_option maxRecDepth 20000 in
theorem tw_895 : (Jvm.Cond.methodLink "RockHeat" (208 : Nat) ({ cls := "[I", name := "clone", desc := "()Ljava/lang/Object;" } : Jvm.MethodName)) ∈ lw_g := List.mem_filter.mpr ⟨lw_c4 _ (List.mem_of_getElem? (i := 116) (by rfl)), rfl⟩
set_option maxRecDepth 20000 in
theorem tw_896 : (Jvm.Cond.sameMethod "[I" "java/lang/Object" "clone" "()Ljava/lang/Object;") ∈ lw_g := List.mem_filter.mpr ⟨lw_c4 _ (List.mem_of_getElem? (i := 117) (by rfl)), rfl⟩
set_option maxRecDepth 20000 in
theorem tw_897 : (Jvm.Cond.native ({ cls := "java/lang/Object", name := "clone", desc := "()Ljava/lang/Object;" } : Jvm.MethodName)) ∈ lw_g := List.mem_filter.mpr ⟨lw_c4 _ (List.mem_of_getElem? (i := 118) (by rfl)), rfl⟩
set_option maxRecDepth 20000 in
theorem tw_898 : (Jvm.Cond.instanceMethod ({ cls := "java/lang/Object", name := "clone", desc := "()Ljava/lang/Object;" } : Jvm.MethodName)) ∈ lw_g := List.mem_filter.mpr ⟨lw_c4 _ (List.mem_of_getElem? (i := 119) (by rfl)), rfl⟩
set_option maxRecDepth 20000 in
theorem tw_899 : (Jvm.Cond.selects "[I" ({ cls := "[I", name := "clone", desc := "()Ljava/lang/Object;" } : Jvm.MethodName) ({ cls := "java/lang/Object", name := "clone", desc := "()Ljava/lang/Object;" } : Jvm.MethodName)) ∈ lw_g := List.mem_filter.mpr ⟨lw_c4 _ (List.mem_of_getElem? (i := 120) (by rfl)), rfl⟩
set_option maxRecDepth 20000 in
theorem tw_900 : (Jvm.Cond.castable "[I" "java/lang/Cloneable") ∈ lw_x := List.mem_filter.mpr ⟨lw_c4 _ (List.mem_of_getElem? (i := 121) (by rfl)), rfl⟩
set_option maxRecDepth 20000 in
theorem tw_901 : (Jvm.Cond.classLink "RockHeat" (209 : Nat) "[I") ∈ lw_g := List.mem_filter.mpr ⟨lw_c4 _ (List.mem_of_getElem? (i := 122) (by rfl)), rfl⟩
set_option maxRecDepth 20000 in
theorem tw_902 : (Jvm.Cond.methodLink "RockHeat" (216 : Nat) ({ cls := "RockHeat$Rule", name := "<init>", desc := "(II[II)V" } : Jvm.MethodName)) ∈ lw_g := List.mem_filter.mpr ⟨lw_c4 _ (List.mem_of_getElem? (i := 123) (by rfl)), rfl⟩
set_option maxRecDepth 20000 in
theorem tw_903 : (Jvm.Cond.instanceMethod ({ cls := "RockHeat$Rule", name := "<init>", desc := "(II[II)V" } : Jvm.MethodName)) ∈ lw_g := List.mem_filter.mpr ⟨lw_c4 _ (List.mem_of_getElem? (i := 124) (by rfl)), rfl⟩
set_option maxRecDepth 20000 in
theorem tw_904 : (Jvm.Cond.code ({ cls := "RockHeat$Rule", name := "<init>", desc := "(II[II)V" } : Jvm.MethodName) prog_7_method_1_code (5 : Nat) (Option.none : Option Jvm.ClassFile.FieldType)) ∈ lw_g := List.mem_filter.mpr ⟨lw_c4 _ (List.mem_of_getElem? (i := 125) (by rfl)), rfl⟩
set_option maxRecDepth 20000 in
theorem tw_905 : (Jvm.Cond.methodLink "RockHeat$Rule" (1 : Nat) ({ cls := "java/lang/Object", name := "<init>", desc := "()V" } : Jvm.MethodName)) ∈ lw_g := List.mem_filter.mpr ⟨lw_c4 _ (List.mem_of_getElem? (i := 126) (by rfl)), rfl⟩
set_option maxRecDepth 20000 in
theorem tw_906 : (Jvm.Cond.fieldLink "RockHeat$Rule" (7 : Nat) "RockHeat$Rule" "purpose" "I") ∈ lw_g := List.mem_filter.mpr ⟨lw_c4 _ (List.mem_of_getElem? (i := 127) (by rfl)), rfl⟩
set_option maxRecDepth 20000 in
theorem tw_907 : (Jvm.Cond.fieldLink "RockHeat$Rules" (35 : Nat) "RockHeat$Rule" "purpose" "I") ∈ lw_g := List.mem_filter.mpr ⟨lw_c4 _ (List.mem_of_getElem? (i := 128) (by rfl)), rfl⟩
set_option maxRecDepth 20000 in
theorem tw_908 : (Jvm.Cond.fieldLink "RockHeat$Rule" (13 : Nat) "RockHeat$Rule" "day" "I") ∈ lw_g := List.mem_filter.mpr ⟨lw_c4 _ (List.mem_of_getElem? (i := 129) (by rfl)), rfl⟩
set_option maxRecDepth 20000 in
theorem tw_909 : (Jvm.Cond.fieldLink "RockHeat$Rules" (39 : Nat) "RockHeat$Rule" "day" "I") ∈ lw_g := List.mem_filter.mpr ⟨lw_c4 _ (List.mem_of_getElem? (i := 130) (by rfl)), rfl⟩
set_option maxRecDepth 20000 in
theorem tw_910 : (Jvm.Cond.fieldLink "RockHeat$Rule" (16 : Nat) "RockHeat$Rule" "code" "[I") ∈ lw_g := List.mem_filter.mpr ⟨lw_c4 _ (List.mem_of_getElem? (i := 131) (by rfl)), rfl⟩
set_option maxRecDepth 20000 in
theorem tw_911 : (Jvm.Cond.fieldLink "RockHeat$Rules" (78 : Nat) "RockHeat$Rule" "code" "[I") ∈ lw_g := List.mem_filter.mpr ⟨lw_c4 _ (List.mem_of_getElem? (i := 132) (by rfl)), rfl⟩
set_option maxRecDepth 20000 in
theorem tw_912 : (Jvm.Cond.fieldLink "RockHeat$Rule" (20 : Nat) "RockHeat$Rule" "used" "I") ∈ lw_g := List.mem_filter.mpr ⟨lw_c4 _ (List.mem_of_getElem? (i := 133) (by rfl)), rfl⟩
set_option maxRecDepth 20000 in
theorem tw_913 : (Jvm.Cond.fieldLink "RockHeat$Rules" (81 : Nat) "RockHeat$Rule" "used" "I") ∈ lw_g := List.mem_filter.mpr ⟨lw_c4 _ (List.mem_of_getElem? (i := 134) (by rfl)), rfl⟩
set_option maxRecDepth 20000 in
theorem tw_923 : (Jvm.Cond.arrayClass Jvm.ClassFile.FieldType.byte) ∈ lw_g := List.mem_filter.mpr ⟨lw_c4 _ (List.mem_of_getElem? (i := 144) (by rfl)), rfl⟩
set_option maxRecDepth 20000 in
theorem tw_924 : (Jvm.Cond.methodLink "RockHeatLaw" (100 : Nat) ({ cls := "RockHeat", name := "may", desc := "(II)I" } : Jvm.MethodName)) ∈ lw_g := List.mem_filter.mpr ⟨lw_c4 _ (List.mem_of_getElem? (i := 145) (by rfl)), rfl⟩
set_option maxRecDepth 20000 in
theorem tw_925 : (Jvm.Cond.instanceMethod ({ cls := "RockHeat", name := "may", desc := "(II)I" } : Jvm.MethodName)) ∈ lw_g := List.mem_filter.mpr ⟨lw_c4 _ (List.mem_of_getElem? (i := 146) (by rfl)), rfl⟩
set_option maxRecDepth 20000 in
theorem tw_926 : (Jvm.Cond.selects "RockHeat" ({ cls := "RockHeat", name := "may", desc := "(II)I" } : Jvm.MethodName) ({ cls := "RockHeat", name := "may", desc := "(II)I" } : Jvm.MethodName)) ∈ lw_g := List.mem_filter.mpr ⟨lw_c4 _ (List.mem_of_getElem? (i := 147) (by rfl)), rfl⟩
set_option maxRecDepth 20000 in
theorem tw_927 : (Jvm.Cond.code ({ cls := "RockHeat", name := "may", desc := "(II)I" } : Jvm.MethodName) prog_1_method_21_code (5 : Nat) (Option.some Jvm.ClassFile.FieldType.int)) ∈ lw_g := List.mem_filter.mpr ⟨lw_c4 _ (List.mem_of_getElem? (i := 148) (by rfl)), rfl⟩
set_option maxRecDepth 20000 in
theorem tw_928 : (Jvm.Cond.methodLink "RockHeat" (219 : Nat) ({ cls := "RockHeat$Rules", name := "tellHour", desc := "(LRockHeat$Town;IJ)V" } : Jvm.MethodName)) ∈ lw_g := List.mem_filter.mpr ⟨lw_c4 _ (List.mem_of_getElem? (i := 149) (by rfl)), rfl⟩
set_option maxRecDepth 20000 in
theorem tw_929 : (Jvm.Cond.methodLink "RockHeat" (223 : Nat) ({ cls := "RockHeat$Rules", name := "inForce", desc := "(II)LRockHeat$Rule;" } : Jvm.MethodName)) ∈ lw_g := List.mem_filter.mpr ⟨lw_c4 _ (List.mem_of_getElem? (i := 150) (by rfl)), rfl⟩
set_option maxRecDepth 20000 in
theorem tw_930 : (Jvm.Cond.methodLink "RockHeat" (227 : Nat) ({ cls := "RockHeat$Rules", name := "worth", desc := "(LRockHeat$Rule;LRockHeat$Bore;)J" } : Jvm.MethodName)) ∈ lw_g := List.mem_filter.mpr ⟨lw_c4 _ (List.mem_of_getElem? (i := 151) (by rfl)), rfl⟩
set_option maxRecDepth 20000 in
theorem tw_931 : (Jvm.Cond.methodLink "RockHeatLaw" (104 : Nat) ({ cls := "RockHeat", name := "told", desc := "(I)J" } : Jvm.MethodName)) ∈ lw_g := List.mem_filter.mpr ⟨lw_c4 _ (List.mem_of_getElem? (i := 152) (by rfl)), rfl⟩
set_option maxRecDepth 20000 in
theorem tw_932 : (Jvm.Cond.instanceMethod ({ cls := "RockHeat", name := "told", desc := "(I)J" } : Jvm.MethodName)) ∈ lw_g := List.mem_filter.mpr ⟨lw_c4 _ (List.mem_of_getElem? (i := 153) (by rfl)), rfl⟩
set_option maxRecDepth 20000 in
theorem tw_933 : (Jvm.Cond.selects "RockHeat" ({ cls := "RockHeat", name := "told", desc := "(I)J" } : Jvm.MethodName) ({ cls := "RockHeat", name := "told", desc := "(I)J" } : Jvm.MethodName)) ∈ lw_g := List.mem_filter.mpr ⟨lw_c4 _ (List.mem_of_getElem? (i := 154) (by rfl)), rfl⟩
set_option maxRecDepth 20000 in
theorem tw_934 : (Jvm.Cond.code ({ cls := "RockHeat", name := "told", desc := "(I)J" } : Jvm.MethodName) prog_1_method_22_code (2 : Nat) (Option.some Jvm.ClassFile.FieldType.long)) ∈ lw_g := List.mem_filter.mpr ⟨lw_c4 _ (List.mem_of_getElem? (i := 155) (by rfl)), rfl⟩
set_option maxRecDepth 20000 in
theorem tw_935 : (Jvm.Cond.methodLink "RockHeat" (235 : Nat) ({ cls := "RockHeat$Ground", name := "heatInAll", desc := "(Z)J" } : Jvm.MethodName)) ∈ lw_g := List.mem_filter.mpr ⟨lw_c4 _ (List.mem_of_getElem? (i := 156) (by rfl)), rfl⟩
set_option maxRecDepth 20000 in
theorem tw_936 : (Jvm.Cond.instanceMethod ({ cls := "RockHeat$Ground", name := "heatInAll", desc := "(Z)J" } : Jvm.MethodName)) ∈ lw_g := List.mem_filter.mpr ⟨lw_c4 _ (List.mem_of_getElem? (i := 157) (by rfl)), rfl⟩
set_option maxRecDepth 20000 in
theorem tw_937 : (Jvm.Cond.selects "RockHeat$Ground" ({ cls := "RockHeat$Ground", name := "heatInAll", desc := "(Z)J" } : Jvm.MethodName) ({ cls := "RockHeat$Ground", name := "heatInAll", desc := "(Z)J" } : Jvm.MethodName)) ∈ lw_g := List.mem_filter.mpr ⟨lw_c4 _ (List.mem_of_getElem? (i := 158) (by rfl)), rfl⟩
set_option maxRecDepth 20000 in
theorem tw_938 : (Jvm.Cond.code ({ cls := "RockHeat$Ground", name := "heatInAll", desc := "(Z)J" } : Jvm.MethodName) prog_3_method_12_code (8 : Nat) (Option.some Jvm.ClassFile.FieldType.long)) ∈ lw_g := List.mem_filter.mpr ⟨lw_c4 _ (List.mem_of_getElem? (i := 159) (by rfl)), rfl⟩
set_option maxRecDepth 20000 in
theorem tw_939 : (Jvm.Cond.classLink "RockHeat$Ground" (118 : Nat) "RockHeat$Ring") ∈ lw_g := List.mem_filter.mpr ⟨lw_c4 _ (List.mem_of_getElem? (i := 160) (by rfl)), rfl⟩
set_option maxRecDepth 20000 in
theorem tw_940 : (Jvm.Cond.methodLink "RockHeatLaw" (108 : Nat) ({ cls := "RockHeat", name := "given", desc := "(I)J" } : Jvm.MethodName)) ∈ lw_g := List.mem_filter.mpr ⟨lw_c4 _ (List.mem_of_getElem? (i := 161) (by rfl)), rfl⟩
set_option maxRecDepth 20000 in
theorem tw_941 : (Jvm.Cond.instanceMethod ({ cls := "RockHeat", name := "given", desc := "(I)J" } : Jvm.MethodName)) ∈ lw_g := List.mem_filter.mpr ⟨lw_c4 _ (List.mem_of_getElem? (i := 162) (by rfl)), rfl⟩
set_option maxRecDepth 20000 in
theorem tw_942 : (Jvm.Cond.selects "RockHeat" ({ cls := "RockHeat", name := "given", desc := "(I)J" } : Jvm.MethodName) ({ cls := "RockHeat", name := "given", desc := "(I)J" } : Jvm.MethodName)) ∈ lw_g := List.mem_filter.mpr ⟨lw_c4 _ (List.mem_of_getElem? (i := 163) (by rfl)), rfl⟩
set_option maxRecDepth 20000 in
theorem tw_943 : (Jvm.Cond.code ({ cls := "RockHeat", name := "given", desc := "(I)J" } : Jvm.MethodName) prog_1_method_23_code (3 : Nat) (Option.some Jvm.ClassFile.FieldType.long)) ∈ lw_g := List.mem_filter.mpr ⟨lw_c4 _ (List.mem_of_getElem? (i := 164) (by rfl)), rfl⟩
set_option maxRecDepth 20000 in
theorem tw_944 : (Jvm.Cond.methodLink "RockHeatLaw" (112 : Nat) ({ cls := "RockHeat", name := "ahead", desc := "(III)J" } : Jvm.MethodName)) ∈ lw_g := List.mem_filter.mpr ⟨lw_c4 _ (List.mem_of_getElem? (i := 165) (by rfl)), rfl⟩
set_option maxRecDepth 20000 in
theorem tw_945 : (Jvm.Cond.instanceMethod ({ cls := "RockHeat", name := "ahead", desc := "(III)J" } : Jvm.MethodName)) ∈ lw_g := List.mem_filter.mpr ⟨lw_c4 _ (List.mem_of_getElem? (i := 166) (by rfl)), rfl⟩
set_option maxRecDepth 20000 in
theorem tw_946 : (Jvm.Cond.selects "RockHeat" ({ cls := "RockHeat", name := "ahead", desc := "(III)J" } : Jvm.MethodName) ({ cls := "RockHeat", name := "ahead", desc := "(III)J" } : Jvm.MethodName)) ∈ lw_g := List.mem_filter.mpr ⟨lw_c4 _ (List.mem_of_getElem? (i := 167) (by rfl)), rfl⟩
set_option maxRecDepth 20000 in
theorem tw_947 : (Jvm.Cond.code ({ cls := "RockHeat", name := "ahead", desc := "(III)J" } : Jvm.MethodName) prog_1_method_24_code (5 : Nat) (Option.some Jvm.ClassFile.FieldType.long)) ∈ lw_g := List.mem_filter.mpr ⟨lw_c4 _ (List.mem_of_getElem? (i := 168) (by rfl)), rfl⟩
set_option maxRecDepth 20000 in
theorem tw_948 : (Jvm.Cond.methodLink "RockHeat" (242 : Nat) ({ cls := "java/util/ArrayList", name := "isEmpty", desc := "()Z" } : Jvm.MethodName)) ∈ lw_g := List.mem_filter.mpr ⟨lw_c4 _ (List.mem_of_getElem? (i := 169) (by rfl)), rfl⟩
set_option maxRecDepth 20000 in
theorem tw_949 : (Jvm.Cond.instanceMethod ({ cls := "java/util/ArrayList", name := "isEmpty", desc := "()Z" } : Jvm.MethodName)) ∈ lw_g := List.mem_filter.mpr ⟨lw_c4 _ (List.mem_of_getElem? (i := 170) (by rfl)), rfl⟩
set_option maxRecDepth 20000 in
theorem tw_950 : (Jvm.Cond.selects "java/util/ArrayList" ({ cls := "java/util/ArrayList", name := "isEmpty", desc := "()Z" } : Jvm.MethodName) ({ cls := "java/util/ArrayList", name := "isEmpty", desc := "()Z" } : Jvm.MethodName)) ∈ lw_g := List.mem_filter.mpr ⟨lw_c4 _ (List.mem_of_getElem? (i := 171) (by rfl)), rfl⟩
set_option maxRecDepth 20000 in
theorem tw_951 : (Jvm.Cond.code ({ cls := "java/util/ArrayList", name := "isEmpty", desc := "()Z" } : Jvm.MethodName) prog_31_method_9_code (1 : Nat) (Option.some Jvm.ClassFile.FieldType.boolean)) ∈ lw_g := List.mem_filter.mpr ⟨lw_c4 _ (List.mem_of_getElem? (i := 172) (by rfl)), rfl⟩
set_option maxRecDepth 20000 in
theorem tw_952 : (Jvm.Cond.methodLink "RockHeat" (245 : Nat) ({ cls := "RockHeat$Ground", name := "follow", desc := "(LRockHeat$Ground;)V" } : Jvm.MethodName)) ∈ lw_g := List.mem_filter.mpr ⟨lw_c4 _ (List.mem_of_getElem? (i := 173) (by rfl)), rfl⟩
set_option maxRecDepth 20000 in
theorem tw_953 : (Jvm.Cond.instanceMethod ({ cls := "RockHeat$Ground", name := "follow", desc := "(LRockHeat$Ground;)V" } : Jvm.MethodName)) ∈ lw_g := List.mem_filter.mpr ⟨lw_c4 _ (List.mem_of_getElem? (i := 174) (by rfl)), rfl⟩
set_option maxRecDepth 20000 in
theorem tw_954 : (Jvm.Cond.selects "RockHeat$Ground" ({ cls := "RockHeat$Ground", name := "follow", desc := "(LRockHeat$Ground;)V" } : Jvm.MethodName) ({ cls := "RockHeat$Ground", name := "follow", desc := "(LRockHeat$Ground;)V" } : Jvm.MethodName)) ∈ lw_g := List.mem_filter.mpr ⟨lw_c4 _ (List.mem_of_getElem? (i := 175) (by rfl)), rfl⟩
set_option maxRecDepth 20000 in
theorem tw_955 : (Jvm.Cond.code ({ cls := "RockHeat$Ground", name := "follow", desc := "(LRockHeat$Ground;)V" } : Jvm.MethodName) prog_3_method_7_code (3 : Nat) (Option.none : Option Jvm.ClassFile.FieldType)) ∈ lw_g := List.mem_filter.mpr ⟨lw_c4 _ (List.mem_of_getElem? (i := 176) (by rfl)), rfl⟩
set_option maxRecDepth 20000 in
theorem tw_956 : (Jvm.Cond.methodLink "RockHeat$Ground" (152 : Nat) ({ cls := "RockHeat$Bore", name := "follow", desc := "(LRockHeat$Bore;)V" } : Jvm.MethodName)) ∈ lw_g := List.mem_filter.mpr ⟨lw_c4 _ (List.mem_of_getElem? (i := 177) (by rfl)), rfl⟩
set_option maxRecDepth 20000 in
theorem tw_957 : (Jvm.Cond.instanceMethod ({ cls := "RockHeat$Bore", name := "follow", desc := "(LRockHeat$Bore;)V" } : Jvm.MethodName)) ∈ lw_g := List.mem_filter.mpr ⟨lw_c4 _ (List.mem_of_getElem? (i := 178) (by rfl)), rfl⟩
set_option maxRecDepth 20000 in
theorem tw_958 : (Jvm.Cond.selects "RockHeat$Bore" ({ cls := "RockHeat$Bore", name := "follow", desc := "(LRockHeat$Bore;)V" } : Jvm.MethodName) ({ cls := "RockHeat$Bore", name := "follow", desc := "(LRockHeat$Bore;)V" } : Jvm.MethodName)) ∈ lw_g := List.mem_filter.mpr ⟨lw_c4 _ (List.mem_of_getElem? (i := 179) (by rfl)), rfl⟩
set_option maxRecDepth 20000 in
theorem tw_959 : (Jvm.Cond.code ({ cls := "RockHeat$Bore", name := "follow", desc := "(LRockHeat$Bore;)V" } : Jvm.MethodName) prog_2_method_7_code (3 : Nat) (Option.none : Option Jvm.ClassFile.FieldType)) ∈ lw_g := List.mem_filter.mpr ⟨lw_c4 _ (List.mem_of_getElem? (i := 180) (by rfl)), rfl⟩
set_option maxRecDepth 20000 in
theorem tw_960 : (Jvm.Cond.methodLink "RockHeat$Bore" (102 : Nat) ({ cls := "RockHeat$Ring", name := "follow", desc := "(LRockHeat$Ring;)V" } : Jvm.MethodName)) ∈ lw_g := List.mem_filter.mpr ⟨lw_c4 _ (List.mem_of_getElem? (i := 181) (by rfl)), rfl⟩
set_option maxRecDepth 20000 in
theorem tw_961 : (Jvm.Cond.instanceMethod ({ cls := "RockHeat$Ring", name := "follow", desc := "(LRockHeat$Ring;)V" } : Jvm.MethodName)) ∈ lw_g := List.mem_filter.mpr ⟨lw_c4 _ (List.mem_of_getElem? (i := 182) (by rfl)), rfl⟩
set_option maxRecDepth 20000 in
theorem tw_962 : (Jvm.Cond.selects "RockHeat$Ring" ({ cls := "RockHeat$Ring", name := "follow", desc := "(LRockHeat$Ring;)V" } : Jvm.MethodName) ({ cls := "RockHeat$Ring", name := "follow", desc := "(LRockHeat$Ring;)V" } : Jvm.MethodName)) ∈ lw_g := List.mem_filter.mpr ⟨lw_c4 _ (List.mem_of_getElem? (i := 183) (by rfl)), rfl⟩
set_option maxRecDepth 20000 in
theorem tw_963 : (Jvm.Cond.code ({ cls := "RockHeat$Ring", name := "follow", desc := "(LRockHeat$Ring;)V" } : Jvm.MethodName) prog_6_method_3_code (2 : Nat) (Option.none : Option Jvm.ClassFile.FieldType)) ∈ lw_g := List.mem_filter.mpr ⟨lw_c4 _ (List.mem_of_getElem? (i := 184) (by rfl)), rfl⟩
set_option maxRecDepth 20000 in
theorem tw_964 : (Jvm.Cond.methodLink "RockHeat" (249 : Nat) ({ cls := "RockHeat$Ground", name := "shut", desc := "(I)V" } : Jvm.MethodName)) ∈ lw_g := List.mem_filter.mpr ⟨lw_c4 _ (List.mem_of_getElem? (i := 185) (by rfl)), rfl⟩
set_option maxRecDepth 20000 in
theorem tw_965 : (Jvm.Cond.instanceMethod ({ cls := "RockHeat$Ground", name := "shut", desc := "(I)V" } : Jvm.MethodName)) ∈ lw_g := List.mem_filter.mpr ⟨lw_c4 _ (List.mem_of_getElem? (i := 186) (by rfl)), rfl⟩
set_option maxRecDepth 20000 in
theorem tw_966 : (Jvm.Cond.selects "RockHeat$Ground" ({ cls := "RockHeat$Ground", name := "shut", desc := "(I)V" } : Jvm.MethodName) ({ cls := "RockHeat$Ground", name := "shut", desc := "(I)V" } : Jvm.MethodName)) ∈ lw_g := List.mem_filter.mpr ⟨lw_c4 _ (List.mem_of_getElem? (i := 187) (by rfl)), rfl⟩
set_option maxRecDepth 20000 in
theorem tw_967 : (Jvm.Cond.code ({ cls := "RockHeat$Ground", name := "shut", desc := "(I)V" } : Jvm.MethodName) prog_3_method_8_code (3 : Nat) (Option.none : Option Jvm.ClassFile.FieldType)) ∈ lw_g := List.mem_filter.mpr ⟨lw_c4 _ (List.mem_of_getElem? (i := 188) (by rfl)), rfl⟩
set_option maxRecDepth 20000 in
theorem tw_968 : (Jvm.Cond.methodLink "RockHeat" (252 : Nat) ({ cls := "RockHeat", name := "passColdest", desc := "(I)V" } : Jvm.MethodName)) ∈ lw_g := List.mem_filter.mpr ⟨lw_c4 _ (List.mem_of_getElem? (i := 189) (by rfl)), rfl⟩
set_option maxRecDepth 20000 in
theorem tw_970 : (Jvm.Cond.instanceMethod ({ cls := "RockHeat", name := "passColdest", desc := "(I)V" } : Jvm.MethodName)) ∈ lw_g := List.mem_filter.mpr ⟨lw_c4 _ (List.mem_of_getElem? (i := 191) (by rfl)), rfl⟩
set_option maxRecDepth 20000 in
theorem tw_971 : (Jvm.Cond.code ({ cls := "RockHeat", name := "passColdest", desc := "(I)V" } : Jvm.MethodName) prog_1_method_34_code (6 : Nat) (Option.none : Option Jvm.ClassFile.FieldType)) ∈ lw_g := List.mem_filter.mpr ⟨lw_c4 _ (List.mem_of_getElem? (i := 192) (by rfl)), rfl⟩
set_option maxRecDepth 20000 in
theorem tw_972 : (Jvm.Cond.methodLink "RockHeat" (323 : Nat) ({ cls := "RockHeat$Ground", name := "coldestNow", desc := "()J" } : Jvm.MethodName)) ∈ lw_g := List.mem_filter.mpr ⟨lw_c4 _ (List.mem_of_getElem? (i := 193) (by rfl)), rfl⟩
set_option maxRecDepth 20000 in
theorem tw_973 : (Jvm.Cond.instanceMethod ({ cls := "RockHeat$Ground", name := "coldestNow", desc := "()J" } : Jvm.MethodName)) ∈ lw_g := List.mem_filter.mpr ⟨lw_c4 _ (List.mem_of_getElem? (i := 194) (by rfl)), rfl⟩
set_option maxRecDepth 20000 in
theorem tw_974 : (Jvm.Cond.selects "RockHeat$Ground" ({ cls := "RockHeat$Ground", name := "coldestNow", desc := "()J" } : Jvm.MethodName) ({ cls := "RockHeat$Ground", name := "coldestNow", desc := "()J" } : Jvm.MethodName)) ∈ lw_g := List.mem_filter.mpr ⟨lw_c4 _ (List.mem_of_getElem? (i := 195) (by rfl)), rfl⟩
set_option maxRecDepth 20000 in
theorem tw_975 : (Jvm.Cond.code ({ cls := "RockHeat$Ground", name := "coldestNow", desc := "()J" } : Jvm.MethodName) prog_3_method_11_code (4 : Nat) (Option.some Jvm.ClassFile.FieldType.long)) ∈ lw_g := List.mem_filter.mpr ⟨lw_c4 _ (List.mem_of_getElem? (i := 196) (by rfl)), rfl⟩
set_option maxRecDepth 20000 in
theorem tw_976 : (Jvm.Cond.constantLong "RockHeat$Ground" (156 : Nat) (4000000000000000000 : Int64)) ∈ lw_g := List.mem_filter.mpr ⟨lw_c4 _ (List.mem_of_getElem? (i := 197) (by rfl)), rfl⟩
set_option maxRecDepth 20000 in
theorem tw_977 : (Jvm.Cond.methodLink "RockHeatLaw" (117 : Nat) ({ cls := "RockHeat", name := "few", desc := "(II)I" } : Jvm.MethodName)) ∈ lw_g := List.mem_filter.mpr ⟨lw_c4 _ (List.mem_of_getElem? (i := 198) (by rfl)), rfl⟩
set_option maxRecDepth 20000 in
theorem tw_978 : (Jvm.Cond.instanceMethod ({ cls := "RockHeat", name := "few", desc := "(II)I" } : Jvm.MethodName)) ∈ lw_g := List.mem_filter.mpr ⟨lw_c4 _ (List.mem_of_getElem? (i := 199) (by rfl)), rfl⟩
set_option maxRecDepth 20000 in
theorem tw_979 : (Jvm.Cond.selects "RockHeat" ({ cls := "RockHeat", name := "few", desc := "(II)I" } : Jvm.MethodName) ({ cls := "RockHeat", name := "few", desc := "(II)I" } : Jvm.MethodName)) ∈ lw_g := List.mem_filter.mpr ⟨lw_c4 _ (List.mem_of_getElem? (i := 200) (by rfl)), rfl⟩
set_option maxRecDepth 20000 in
theorem tw_980 : (Jvm.Cond.code ({ cls := "RockHeat", name := "few", desc := "(II)I" } : Jvm.MethodName) prog_1_method_25_code (6 : Nat) (Option.some Jvm.ClassFile.FieldType.int)) ∈ lw_g := List.mem_filter.mpr ⟨lw_c4 _ (List.mem_of_getElem? (i := 201) (by rfl)), rfl⟩
set_option maxRecDepth 20000 in
theorem tw_981 : (Jvm.Cond.methodLink "RockHeat" (261 : Nat) ({ cls := "java/lang/Integer", name := "bitCount", desc := "(I)I" } : Jvm.MethodName)) ∈ lw_g := List.mem_filter.mpr ⟨lw_c4 _ (List.mem_of_getElem? (i := 202) (by rfl)), rfl⟩
set_option maxRecDepth 20000 in
theorem tw_982 : (Jvm.Cond.static ({ cls := "java/lang/Integer", name := "bitCount", desc := "(I)I" } : Jvm.MethodName)) ∈ lw_g := List.mem_filter.mpr ⟨lw_c4 _ (List.mem_of_getElem? (i := 203) (by rfl)), rfl⟩
set_option maxRecDepth 20000 in
theorem tw_983 : (Jvm.Cond.code ({ cls := "java/lang/Integer", name := "bitCount", desc := "(I)I" } : Jvm.MethodName) prog_20_method_49_code (1 : Nat) (Option.some Jvm.ClassFile.FieldType.int)) ∈ lw_g := List.mem_filter.mpr ⟨lw_c4 _ (List.mem_of_getElem? (i := 204) (by rfl)), rfl⟩
set_option maxRecDepth 20000 in
theorem tw_984 : (Jvm.Cond.constant "java/lang/Integer" (265 : Nat) (1431655765 : Int32)) ∈ lw_g := List.mem_filter.mpr ⟨lw_c4 _ (List.mem_of_getElem? (i := 205) (by rfl)), rfl⟩
set_option maxRecDepth 20000 in
theorem tw_985 : (Jvm.Cond.constant "java/lang/Integer" (266 : Nat) (858993459 : Int32)) ∈ lw_g := List.mem_filter.mpr ⟨lw_c4 _ (List.mem_of_getElem? (i := 206) (by rfl)), rfl⟩
set_option maxRecDepth 20000 in
theorem tw_986 : (Jvm.Cond.constant "java/lang/Integer" (267 : Nat) (252645135 : Int32)) ∈ lw_g := List.mem_filter.mpr ⟨lw_c4 _ (List.mem_of_getElem? (i := 207) (by rfl)), rfl⟩
set_option maxRecDepth 20000 in
theorem tw_987 : (Jvm.Cond.methodLink "RockHeat" (266 : Nat) ({ cls := "RockHeat", name := "isEnough", desc := "(IIJ)Z" } : Jvm.MethodName)) ∈ lw_g := List.mem_filter.mpr ⟨lw_c4 _ (List.mem_of_getElem? (i := 208) (by rfl)), rfl⟩
set_option maxRecDepth 20000 in
theorem tw_989 : (Jvm.Cond.instanceMethod ({ cls := "RockHeat", name := "isEnough", desc := "(IIJ)Z" } : Jvm.MethodName)) ∈ lw_g := List.mem_filter.mpr ⟨lw_c4 _ (List.mem_of_getElem? (i := 210) (by rfl)), rfl⟩
set_option maxRecDepth 20000 in
theorem tw_990 : (Jvm.Cond.code ({ cls := "RockHeat", name := "isEnough", desc := "(IIJ)Z" } : Jvm.MethodName) prog_1_method_35_code (8 : Nat) (Option.some Jvm.ClassFile.FieldType.boolean)) ∈ lw_g := List.mem_filter.mpr ⟨lw_c4 _ (List.mem_of_getElem? (i := 211) (by rfl)), rfl⟩
set_option maxRecDepth 20000 in
theorem tw_991 : (Jvm.Cond.methodLink "RockHeat" (326 : Nat) ({ cls := "RockHeat$Ground", name := "openOnly", desc := "(I)V" } : Jvm.MethodName)) ∈ lw_g := List.mem_filter.mpr ⟨lw_c4 _ (List.mem_of_getElem? (i := 212) (by rfl)), rfl⟩
set_option maxRecDepth 20000 in
theorem tw_992 : (Jvm.Cond.instanceMethod ({ cls := "RockHeat$Ground", name := "openOnly", desc := "(I)V" } : Jvm.MethodName)) ∈ lw_g := List.mem_filter.mpr ⟨lw_c4 _ (List.mem_of_getElem? (i := 213) (by rfl)), rfl⟩
set_option maxRecDepth 20000 in
theorem tw_993 : (Jvm.Cond.selects "RockHeat$Ground" ({ cls := "RockHeat$Ground", name := "openOnly", desc := "(I)V" } : Jvm.MethodName) ({ cls := "RockHeat$Ground", name := "openOnly", desc := "(I)V" } : Jvm.MethodName)) ∈ lw_g := List.mem_filter.mpr ⟨lw_c4 _ (List.mem_of_getElem? (i := 214) (by rfl)), rfl⟩
set_option maxRecDepth 20000 in
theorem tw_994 : (Jvm.Cond.code ({ cls := "RockHeat$Ground", name := "openOnly", desc := "(I)V" } : Jvm.MethodName) prog_3_method_9_code (3 : Nat) (Option.none : Option Jvm.ClassFile.FieldType)) ∈ lw_g := List.mem_filter.mpr ⟨lw_c4 _ (List.mem_of_getElem? (i := 215) (by rfl)), rfl⟩
set_option maxRecDepth 20000 in
theorem tw_995 : (Jvm.Cond.methodLink "RockHeatLaw" (121 : Nat) ({ cls := "RockHeat", name := "takenFrom", desc := "(III)J" } : Jvm.MethodName)) ∈ lw_g := List.mem_filter.mpr ⟨lw_c4 _ (List.mem_of_getElem? (i := 216) (by rfl)), rfl⟩
set_option maxRecDepth 20000 in
theorem tw_996 : (Jvm.Cond.instanceMethod ({ cls := "RockHeat", name := "takenFrom", desc := "(III)J" } : Jvm.MethodName)) ∈ lw_g := List.mem_filter.mpr ⟨lw_c4 _ (List.mem_of_getElem? (i := 217) (by rfl)), rfl⟩
set_option maxRecDepth 20000 in
theorem tw_997 : (Jvm.Cond.selects "RockHeat" ({ cls := "RockHeat", name := "takenFrom", desc := "(III)J" } : Jvm.MethodName) ({ cls := "RockHeat", name := "takenFrom", desc := "(III)J" } : Jvm.MethodName)) ∈ lw_g := List.mem_filter.mpr ⟨lw_c4 _ (List.mem_of_getElem? (i := 218) (by rfl)), rfl⟩
set_option maxRecDepth 20000 in
theorem tw_998 : (Jvm.Cond.code ({ cls := "RockHeat", name := "takenFrom", desc := "(III)J" } : Jvm.MethodName) prog_1_method_26_code (7 : Nat) (Option.some Jvm.ClassFile.FieldType.long)) ∈ lw_g := List.mem_filter.mpr ⟨lw_c4 _ (List.mem_of_getElem? (i := 219) (by rfl)), rfl⟩
set_option maxRecDepth 20000 in
theorem tw_999 : (Jvm.Cond.methodLink "RockHeat" (270 : Nat) ({ cls := "RockHeat", name := "givenInMind", desc := "(III)J" } : Jvm.MethodName)) ∈ lw_g := List.mem_filter.mpr ⟨lw_c4 _ (List.mem_of_getElem? (i := 220) (by rfl)), rfl⟩
set_option maxRecDepth 20000 in
theorem tw_1001 : (Jvm.Cond.instanceMethod ({ cls := "RockHeat", name := "givenInMind", desc := "(III)J" } : Jvm.MethodName)) ∈ lw_g := List.mem_filter.mpr ⟨lw_c4 _ (List.mem_of_getElem? (i := 222) (by rfl)), rfl⟩
set_option maxRecDepth 20000 in
theorem tw_1002 : (Jvm.Cond.code ({ cls := "RockHeat", name := "givenInMind", desc := "(III)J" } : Jvm.MethodName) prog_1_method_36_code (5 : Nat) (Option.some Jvm.ClassFile.FieldType.long)) ∈ lw_g := List.mem_filter.mpr ⟨lw_c4 _ (List.mem_of_getElem? (i := 223) (by rfl)), rfl⟩
set_option maxRecDepth 20000 in
theorem tw_1003 : (Jvm.Cond.methodLink "RockHeatLaw" (125 : Nat) ({ cls := "RockHeat", name := "tank", desc := "(II)I" } : Jvm.MethodName)) ∈ lw_g := List.mem_filter.mpr ⟨lw_c4 _ (List.mem_of_getElem? (i := 224) (by rfl)), rfl⟩
set_option maxRecDepth 20000 in
theorem tw_1004 : (Jvm.Cond.instanceMethod ({ cls := "RockHeat", name := "tank", desc := "(II)I" } : Jvm.MethodName)) ∈ lw_g := List.mem_filter.mpr ⟨lw_c4 _ (List.mem_of_getElem? (i := 225) (by rfl)), rfl⟩
set_option maxRecDepth 20000 in
theorem tw_1005 : (Jvm.Cond.selects "RockHeat" ({ cls := "RockHeat", name := "tank", desc := "(II)I" } : Jvm.MethodName) ({ cls := "RockHeat", name := "tank", desc := "(II)I" } : Jvm.MethodName)) ∈ lw_g := List.mem_filter.mpr ⟨lw_c4 _ (List.mem_of_getElem? (i := 226) (by rfl)), rfl⟩
set_option maxRecDepth 20000 in
theorem tw_1006 : (Jvm.Cond.code ({ cls := "RockHeat", name := "tank", desc := "(II)I" } : Jvm.MethodName) prog_1_method_27_code (4 : Nat) (Option.some Jvm.ClassFile.FieldType.int)) ∈ lw_g := List.mem_filter.mpr ⟨lw_c4 _ (List.mem_of_getElem? (i := 227) (by rfl)), rfl⟩
set_option maxRecDepth 20000 in
theorem tw_1007 : (Jvm.Cond.methodLink "RockHeatLaw" (129 : Nat) ({ cls := "RockHeat", name := "best", desc := "(I)J" } : Jvm.MethodName)) ∈ lw_g := List.mem_filter.mpr ⟨lw_c4 _ (List.mem_of_getElem? (i := 228) (by rfl)), rfl⟩
set_option maxRecDepth 20000 in
theorem tw_1008 : (Jvm.Cond.instanceMethod ({ cls := "RockHeat", name := "best", desc := "(I)J" } : Jvm.MethodName)) ∈ lw_g := List.mem_filter.mpr ⟨lw_c4 _ (List.mem_of_getElem? (i := 229) (by rfl)), rfl⟩
set_option maxRecDepth 20000 in
theorem tw_1009 : (Jvm.Cond.selects "RockHeat" ({ cls := "RockHeat", name := "best", desc := "(I)J" } : Jvm.MethodName) ({ cls := "RockHeat", name := "best", desc := "(I)J" } : Jvm.MethodName)) ∈ lw_g := List.mem_filter.mpr ⟨lw_c4 _ (List.mem_of_getElem? (i := 230) (by rfl)), rfl⟩
set_option maxRecDepth 20000 in
theorem tw_1010 : (Jvm.Cond.code ({ cls := "RockHeat", name := "best", desc := "(I)J" } : Jvm.MethodName) prog_1_method_28_code (2 : Nat) (Option.some Jvm.ClassFile.FieldType.long)) ∈ lw_g := List.mem_filter.mpr ⟨lw_c4 _ (List.mem_of_getElem? (i := 231) (by rfl)), rfl⟩
set_option maxRecDepth 20000 in
theorem tw_1011 : (Jvm.Cond.methodLink "RockHeat" (278 : Nat) ({ cls := "RockHeat$Tank", name := "plan", desc := "(LRockHeat$Town;I)V" } : Jvm.MethodName)) ∈ lw_g := List.mem_filter.mpr ⟨lw_c4 _ (List.mem_of_getElem? (i := 232) (by rfl)), rfl⟩
set_option maxRecDepth 20000 in
theorem tw_1012 : (Jvm.Cond.instanceMethod ({ cls := "RockHeat$Tank", name := "plan", desc := "(LRockHeat$Town;I)V" } : Jvm.MethodName)) ∈ lw_g := List.mem_filter.mpr ⟨lw_c4 _ (List.mem_of_getElem? (i := 233) (by rfl)), rfl⟩
set_option maxRecDepth 20000 in
theorem tw_1013 : (Jvm.Cond.selects "RockHeat$Tank" ({ cls := "RockHeat$Tank", name := "plan", desc := "(LRockHeat$Town;I)V" } : Jvm.MethodName) ({ cls := "RockHeat$Tank", name := "plan", desc := "(LRockHeat$Town;I)V" } : Jvm.MethodName)) ∈ lw_g := List.mem_filter.mpr ⟨lw_c4 _ (List.mem_of_getElem? (i := 234) (by rfl)), rfl⟩
set_option maxRecDepth 20000 in
theorem tw_1014 : (Jvm.Cond.code ({ cls := "RockHeat$Tank", name := "plan", desc := "(LRockHeat$Town;I)V" } : Jvm.MethodName) prog_10_method_2_code (6 : Nat) (Option.none : Option Jvm.ClassFile.FieldType)) ∈ lw_g := List.mem_filter.mpr ⟨lw_c4 _ (List.mem_of_getElem? (i := 235) (by rfl)), rfl⟩
set_option maxRecDepth 20000 in
theorem tw_1015 : (Jvm.Cond.methodLink "RockHeat$Tank" (30 : Nat) ({ cls := "RockHeat$Town", name := "needOf", desc := "(I)J" } : Jvm.MethodName)) ∈ lw_g := List.mem_filter.mpr ⟨lw_c4 _ (List.mem_of_getElem? (i := 236) (by rfl)), rfl⟩
set_option maxRecDepth 20000 in
theorem tw_1016 : (Jvm.Cond.methodLinkNest "RockHeat$Tank" (39 : Nat) ({ cls := "RockHeat", name := "inRound", desc := "([II)I" } : Jvm.MethodName) "RockHeat") ∈ lw_x := List.mem_filter.mpr ⟨lw_c4 _ (List.mem_of_getElem? (i := 237) (by rfl)), rfl⟩
set_option maxRecDepth 20000 in
theorem tw_1017 : (Jvm.Cond.methodLink "RockHeat$Tank" (46 : Nat) ({ cls := "RockHeat$Tank", name := "leastFrom", desc := "(II)J" } : Jvm.MethodName)) ∈ lw_g := List.mem_filter.mpr ⟨lw_c4 _ (List.mem_of_getElem? (i := 238) (by rfl)), rfl⟩
set_option maxRecDepth 20000 in
theorem tw_1019 : (Jvm.Cond.instanceMethod ({ cls := "RockHeat$Tank", name := "leastFrom", desc := "(II)J" } : Jvm.MethodName)) ∈ lw_g := List.mem_filter.mpr ⟨lw_c5 _ (List.mem_of_getElem? (i := 0) (by rfl)), rfl⟩
set_option maxRecDepth 20000 in
theorem tw_1020 : (Jvm.Cond.code ({ cls := "RockHeat$Tank", name := "leastFrom", desc := "(II)J" } : Jvm.MethodName) prog_10_method_4_code (6 : Nat) (Option.some Jvm.ClassFile.FieldType.long)) ∈ lw_g := List.mem_filter.mpr ⟨lw_c5 _ (List.mem_of_getElem? (i := 1) (by rfl)), rfl⟩
set_option maxRecDepth 20000 in
theorem tw_1021 : (Jvm.Cond.constantLong "RockHeat$Tank" (54 : Nat) (4000000000000000000 : Int64)) ∈ lw_g := List.mem_filter.mpr ⟨lw_c5 _ (List.mem_of_getElem? (i := 2) (by rfl)), rfl⟩
set_option maxRecDepth 20000 in
theorem tw_1022 : (Jvm.Cond.methodLink "RockHeat$Tank" (56 : Nat) ({ cls := "RockHeat$Tank", name := "costOf", desc := "(III)J" } : Jvm.MethodName)) ∈ lw_g := List.mem_filter.mpr ⟨lw_c5 _ (List.mem_of_getElem? (i := 3) (by rfl)), rfl⟩
set_option maxRecDepth 20000 in
theorem tw_1024 : (Jvm.Cond.instanceMethod ({ cls := "RockHeat$Tank", name := "costOf", desc := "(III)J" } : Jvm.MethodName)) ∈ lw_g := List.mem_filter.mpr ⟨lw_c5 _ (List.mem_of_getElem? (i := 5) (by rfl)), rfl⟩
set_option maxRecDepth 20000 in
theorem tw_1025 : (Jvm.Cond.code ({ cls := "RockHeat$Tank", name := "costOf", desc := "(III)J" } : Jvm.MethodName) prog_10_method_6_code (7 : Nat) (Option.some Jvm.ClassFile.FieldType.long)) ∈ lw_g := List.mem_filter.mpr ⟨lw_c5 _ (List.mem_of_getElem? (i := 6) (by rfl)), rfl⟩
set_option maxRecDepth 20000 in
theorem tw_1026 : (Jvm.Cond.constantLong "RockHeat$Tank" (66 : Nat) (100 : Int64)) ∈ lw_g := List.mem_filter.mpr ⟨lw_c5 _ (List.mem_of_getElem? (i := 7) (by rfl)), rfl⟩
set_option maxRecDepth 20000 in
theorem tw_1027 : (Jvm.Cond.methodLink "RockHeat$Tank" (60 : Nat) ({ cls := "java/lang/Math", name := "min", desc := "(JJ)J" } : Jvm.MethodName)) ∈ lw_g := List.mem_filter.mpr ⟨lw_c5 _ (List.mem_of_getElem? (i := 8) (by rfl)), rfl⟩
set_option maxRecDepth 20000 in
theorem tw_1028 : (Jvm.Cond.methodLink "RockHeat$Tank" (50 : Nat) ({ cls := "RockHeat$Tank", name := "firstBest", desc := "(II)I" } : Jvm.MethodName)) ∈ lw_g := List.mem_filter.mpr ⟨lw_c5 _ (List.mem_of_getElem? (i := 9) (by rfl)), rfl⟩
set_option maxRecDepth 20000 in
theorem tw_1030 : (Jvm.Cond.instanceMethod ({ cls := "RockHeat$Tank", name := "firstBest", desc := "(II)I" } : Jvm.MethodName)) ∈ lw_g := List.mem_filter.mpr ⟨lw_c5 _ (List.mem_of_getElem? (i := 11) (by rfl)), rfl⟩
set_option maxRecDepth 20000 in
theorem tw_1031 : (Jvm.Cond.code ({ cls := "RockHeat$Tank", name := "firstBest", desc := "(II)I" } : Jvm.MethodName) prog_10_method_5_code (6 : Nat) (Option.some Jvm.ClassFile.FieldType.int)) ∈ lw_g := List.mem_filter.mpr ⟨lw_c5 _ (List.mem_of_getElem? (i := 12) (by rfl)), rfl⟩
set_option maxRecDepth 20000 in
theorem tw_1032 : (Jvm.Cond.methodLink "RockHeat" (285 : Nat) ({ cls := "RockHeat$Tank", name := "leastCost", desc := "()J" } : Jvm.MethodName)) ∈ lw_g := List.mem_filter.mpr ⟨lw_c5 _ (List.mem_of_getElem? (i := 13) (by rfl)), rfl⟩
set_option maxRecDepth 20000 in
theorem tw_1033 : (Jvm.Cond.instanceMethod ({ cls := "RockHeat$Tank", name := "leastCost", desc := "()J" } : Jvm.MethodName)) ∈ lw_g := List.mem_filter.mpr ⟨lw_c5 _ (List.mem_of_getElem? (i := 14) (by rfl)), rfl⟩
set_option maxRecDepth 20000 in
theorem tw_1034 : (Jvm.Cond.selects "RockHeat$Tank" ({ cls := "RockHeat$Tank", name := "leastCost", desc := "()J" } : Jvm.MethodName) ({ cls := "RockHeat$Tank", name := "leastCost", desc := "()J" } : Jvm.MethodName)) ∈ lw_g := List.mem_filter.mpr ⟨lw_c5 _ (List.mem_of_getElem? (i := 15) (by rfl)), rfl⟩
set_option maxRecDepth 20000 in
theorem tw_1035 : (Jvm.Cond.code ({ cls := "RockHeat$Tank", name := "leastCost", desc := "()J" } : Jvm.MethodName) prog_10_method_3_code (1 : Nat) (Option.some Jvm.ClassFile.FieldType.long)) ∈ lw_g := List.mem_filter.mpr ⟨lw_c5 _ (List.mem_of_getElem? (i := 16) (by rfl)), rfl⟩
set_option maxRecDepth 20000 in
theorem tw_1036 : (Jvm.Cond.methodLink "RockHeatLaw" (133 : Nat) ({ cls := "RockHeat", name := "reading", desc := "(II)I" } : Jvm.MethodName)) ∈ lw_g := List.mem_filter.mpr ⟨lw_c5 _ (List.mem_of_getElem? (i := 17) (by rfl)), rfl⟩
set_option maxRecDepth 20000 in
theorem tw_1037 : (Jvm.Cond.instanceMethod ({ cls := "RockHeat", name := "reading", desc := "(II)I" } : Jvm.MethodName)) ∈ lw_g := List.mem_filter.mpr ⟨lw_c5 _ (List.mem_of_getElem? (i := 18) (by rfl)), rfl⟩
set_option maxRecDepth 20000 in
theorem tw_1038 : (Jvm.Cond.selects "RockHeat" ({ cls := "RockHeat", name := "reading", desc := "(II)I" } : Jvm.MethodName) ({ cls := "RockHeat", name := "reading", desc := "(II)I" } : Jvm.MethodName)) ∈ lw_g := List.mem_filter.mpr ⟨lw_c5 _ (List.mem_of_getElem? (i := 19) (by rfl)), rfl⟩
set_option maxRecDepth 20000 in
theorem tw_1039 : (Jvm.Cond.code ({ cls := "RockHeat", name := "reading", desc := "(II)I" } : Jvm.MethodName) prog_1_method_29_code (5 : Nat) (Option.some Jvm.ClassFile.FieldType.int)) ∈ lw_g := List.mem_filter.mpr ⟨lw_c5 _ (List.mem_of_getElem? (i := 20) (by rfl)), rfl⟩
set_option maxRecDepth 20000 in
theorem tw_1040 : (Jvm.Cond.classLink "RockHeat" (289 : Nat) "RockHeat$Reading") ∈ lw_g := List.mem_filter.mpr ⟨lw_c5 _ (List.mem_of_getElem? (i := 21) (by rfl)), rfl⟩
set_option maxRecDepth 20000 in
theorem tw_1041 : (Jvm.Cond.instantiable "RockHeat$Reading" (3 : Nat)) ∈ lw_g := List.mem_filter.mpr ⟨lw_c5 _ (List.mem_of_getElem? (i := 22) (by rfl)), rfl⟩
set_option maxRecDepth 20000 in
theorem tw_1042 : (Jvm.Cond.methodLink "RockHeat" (295 : Nat) ({ cls := "RockHeat$Reading", name := "<init>", desc := "(IIJ)V" } : Jvm.MethodName)) ∈ lw_g := List.mem_filter.mpr ⟨lw_c5 _ (List.mem_of_getElem? (i := 23) (by rfl)), rfl⟩
set_option maxRecDepth 20000 in
theorem tw_1043 : (Jvm.Cond.instanceMethod ({ cls := "RockHeat$Reading", name := "<init>", desc := "(IIJ)V" } : Jvm.MethodName)) ∈ lw_g := List.mem_filter.mpr ⟨lw_c5 _ (List.mem_of_getElem? (i := 24) (by rfl)), rfl⟩
set_option maxRecDepth 20000 in
theorem tw_1044 : (Jvm.Cond.code ({ cls := "RockHeat$Reading", name := "<init>", desc := "(IIJ)V" } : Jvm.MethodName) prog_5_method_1_code (5 : Nat) (Option.none : Option Jvm.ClassFile.FieldType)) ∈ lw_g := List.mem_filter.mpr ⟨lw_c5 _ (List.mem_of_getElem? (i := 25) (by rfl)), rfl⟩
set_option maxRecDepth 20000 in
theorem tw_1045 : (Jvm.Cond.methodLink "RockHeat$Reading" (1 : Nat) ({ cls := "java/lang/Object", name := "<init>", desc := "()V" } : Jvm.MethodName)) ∈ lw_g := List.mem_filter.mpr ⟨lw_c5 _ (List.mem_of_getElem? (i := 26) (by rfl)), rfl⟩
set_option maxRecDepth 20000 in
theorem tw_1046 : (Jvm.Cond.fieldLink "RockHeat$Reading" (7 : Nat) "RockHeat$Reading" "bore" "I") ∈ lw_g := List.mem_filter.mpr ⟨lw_c5 _ (List.mem_of_getElem? (i := 27) (by rfl)), rfl⟩
set_option maxRecDepth 20000 in
theorem tw_1047 : (Jvm.Cond.fieldLink "RockHeat" (301 : Nat) "RockHeat$Reading" "bore" "I") ∈ lw_g := List.mem_filter.mpr ⟨lw_c5 _ (List.mem_of_getElem? (i := 28) (by rfl)), rfl⟩
set_option maxRecDepth 20000 in
theorem tw_1048 : (Jvm.Cond.fieldLink "RockHeat$Reading" (13 : Nat) "RockHeat$Reading" "hour" "I") ∈ lw_g := List.mem_filter.mpr ⟨lw_c5 _ (List.mem_of_getElem? (i := 29) (by rfl)), rfl⟩
set_option maxRecDepth 20000 in
theorem tw_1049 : (Jvm.Cond.fieldLink "RockHeat" (304 : Nat) "RockHeat$Reading" "hour" "I") ∈ lw_g := List.mem_filter.mpr ⟨lw_c5 _ (List.mem_of_getElem? (i := 30) (by rfl)), rfl⟩
set_option maxRecDepth 20000 in
theorem tw_1050 : (Jvm.Cond.fieldLink "RockHeat$Reading" (16 : Nat) "RockHeat$Reading" "wrong" "J") ∈ lw_g := List.mem_filter.mpr ⟨lw_c5 _ (List.mem_of_getElem? (i := 31) (by rfl)), rfl⟩
set_option maxRecDepth 20000 in
theorem tw_1051 : (Jvm.Cond.fieldLink "RockHeat" (298 : Nat) "RockHeat$Reading" "wrong" "J") ∈ lw_g := List.mem_filter.mpr ⟨lw_c5 _ (List.mem_of_getElem? (i := 32) (by rfl)), rfl⟩
set_option maxRecDepth 20000 in
theorem tw_1059 : (Jvm.Cond.methodLink "RockHeatLaw" (137 : Nat) ({ cls := "RockHeat", name := "wrong", desc := "(I)J" } : Jvm.MethodName)) ∈ lw_g := List.mem_filter.mpr ⟨lw_c5 _ (List.mem_of_getElem? (i := 40) (by rfl)), rfl⟩
set_option maxRecDepth 20000 in
theorem tw_1060 : (Jvm.Cond.instanceMethod ({ cls := "RockHeat", name := "wrong", desc := "(I)J" } : Jvm.MethodName)) ∈ lw_g := List.mem_filter.mpr ⟨lw_c5 _ (List.mem_of_getElem? (i := 41) (by rfl)), rfl⟩
set_option maxRecDepth 20000 in
theorem tw_1061 : (Jvm.Cond.selects "RockHeat" ({ cls := "RockHeat", name := "wrong", desc := "(I)J" } : Jvm.MethodName) ({ cls := "RockHeat", name := "wrong", desc := "(I)J" } : Jvm.MethodName)) ∈ lw_g := List.mem_filter.mpr ⟨lw_c5 _ (List.mem_of_getElem? (i := 42) (by rfl)), rfl⟩
set_option maxRecDepth 20000 in
theorem tw_1062 : (Jvm.Cond.code ({ cls := "RockHeat", name := "wrong", desc := "(I)J" } : Jvm.MethodName) prog_1_method_30_code (2 : Nat) (Option.some Jvm.ClassFile.FieldType.long)) ∈ lw_g := List.mem_filter.mpr ⟨lw_c5 _ (List.mem_of_getElem? (i := 43) (by rfl)), rfl⟩
set_option maxRecDepth 20000 in
theorem tw_1063 : (Jvm.Cond.methodLink "RockHeatLaw" (141 : Nat) ({ cls := "RockHeat", name := "leak", desc := "(I)J" } : Jvm.MethodName)) ∈ lw_g := List.mem_filter.mpr ⟨lw_c5 _ (List.mem_of_getElem? (i := 44) (by rfl)), rfl⟩
set_option maxRecDepth 20000 in
theorem tw_1064 : (Jvm.Cond.instanceMethod ({ cls := "RockHeat", name := "leak", desc := "(I)J" } : Jvm.MethodName)) ∈ lw_g := List.mem_filter.mpr ⟨lw_c5 _ (List.mem_of_getElem? (i := 45) (by rfl)), rfl⟩
set_option maxRecDepth 20000 in
theorem tw_1065 : (Jvm.Cond.selects "RockHeat" ({ cls := "RockHeat", name := "leak", desc := "(I)J" } : Jvm.MethodName) ({ cls := "RockHeat", name := "leak", desc := "(I)J" } : Jvm.MethodName)) ∈ lw_g := List.mem_filter.mpr ⟨lw_c5 _ (List.mem_of_getElem? (i := 46) (by rfl)), rfl⟩
set_option maxRecDepth 20000 in
theorem tw_1066 : (Jvm.Cond.code ({ cls := "RockHeat", name := "leak", desc := "(I)J" } : Jvm.MethodName) prog_1_method_31_code (7 : Nat) (Option.some Jvm.ClassFile.FieldType.long)) ∈ lw_g := List.mem_filter.mpr ⟨lw_c5 _ (List.mem_of_getElem? (i := 47) (by rfl)), rfl⟩
set_option maxRecDepth 20000 in
theorem tw_1067 : (Jvm.Cond.methodLink "RockHeat" (308 : Nat) ({ cls := "RockHeat", name := "cut", desc := "(JJ)J" } : Jvm.MethodName)) ∈ lw_g := List.mem_filter.mpr ⟨lw_c5 _ (List.mem_of_getElem? (i := 48) (by rfl)), rfl⟩
set_option maxRecDepth 20000 in
theorem tw_1068 : (Jvm.Cond.methodLink "RockHeatLaw" (145 : Nat) ({ cls := "RockHeat", name := "count", desc := "(I)I" } : Jvm.MethodName)) ∈ lw_g := List.mem_filter.mpr ⟨lw_c5 _ (List.mem_of_getElem? (i := 49) (by rfl)), rfl⟩
set_option maxRecDepth 20000 in
theorem tw_1069 : (Jvm.Cond.instanceMethod ({ cls := "RockHeat", name := "count", desc := "(I)I" } : Jvm.MethodName)) ∈ lw_g := List.mem_filter.mpr ⟨lw_c5 _ (List.mem_of_getElem? (i := 50) (by rfl)), rfl⟩
set_option maxRecDepth 20000 in
theorem tw_1070 : (Jvm.Cond.selects "RockHeat" ({ cls := "RockHeat", name := "count", desc := "(I)I" } : Jvm.MethodName) ({ cls := "RockHeat", name := "count", desc := "(I)I" } : Jvm.MethodName)) ∈ lw_g := List.mem_filter.mpr ⟨lw_c5 _ (List.mem_of_getElem? (i := 51) (by rfl)), rfl⟩
set_option maxRecDepth 20000 in
theorem tw_1071 : (Jvm.Cond.code ({ cls := "RockHeat", name := "count", desc := "(I)I" } : Jvm.MethodName) prog_1_method_32_code (2 : Nat) (Option.some Jvm.ClassFile.FieldType.int)) ∈ lw_g := List.mem_filter.mpr ⟨lw_c5 _ (List.mem_of_getElem? (i := 52) (by rfl)), rfl⟩
set_option maxRecDepth 20000 in
theorem tw_1072 : (Jvm.Cond.methodLink "RockHeat" (312 : Nat) ({ cls := "RockHeat$Ground", name := "openOnes", desc := "()I" } : Jvm.MethodName)) ∈ lw_g := List.mem_filter.mpr ⟨lw_c5 _ (List.mem_of_getElem? (i := 53) (by rfl)), rfl⟩
set_option maxRecDepth 20000 in
theorem tw_1073 : (Jvm.Cond.instanceMethod ({ cls := "RockHeat$Ground", name := "openOnes", desc := "()I" } : Jvm.MethodName)) ∈ lw_g := List.mem_filter.mpr ⟨lw_c5 _ (List.mem_of_getElem? (i := 54) (by rfl)), rfl⟩
set_option maxRecDepth 20000 in
theorem tw_1074 : (Jvm.Cond.selects "RockHeat$Ground" ({ cls := "RockHeat$Ground", name := "openOnes", desc := "()I" } : Jvm.MethodName) ({ cls := "RockHeat$Ground", name := "openOnes", desc := "()I" } : Jvm.MethodName)) ∈ lw_g := List.mem_filter.mpr ⟨lw_c5 _ (List.mem_of_getElem? (i := 55) (by rfl)), rfl⟩
set_option maxRecDepth 20000 in
theorem tw_1075 : (Jvm.Cond.code ({ cls := "RockHeat$Ground", name := "openOnes", desc := "()I" } : Jvm.MethodName) prog_3_method_10_code (3 : Nat) (Option.some Jvm.ClassFile.FieldType.int)) ∈ lw_g := List.mem_filter.mpr ⟨lw_c5 _ (List.mem_of_getElem? (i := 56) (by rfl)), rfl⟩
set_option maxRecDepth 20000 in
theorem tw_1076 : (Jvm.Cond.methodLink "RockHeat" (315 : Nat) ({ cls := "RockHeat$Town", name := "joinedOn", desc := "(I)I" } : Jvm.MethodName)) ∈ lw_g := List.mem_filter.mpr ⟨lw_c5 _ (List.mem_of_getElem? (i := 57) (by rfl)), rfl⟩
set_option maxRecDepth 20000 in
theorem tw_1077 : (Jvm.Cond.instanceMethod ({ cls := "RockHeat$Town", name := "joinedOn", desc := "(I)I" } : Jvm.MethodName)) ∈ lw_g := List.mem_filter.mpr ⟨lw_c5 _ (List.mem_of_getElem? (i := 58) (by rfl)), rfl⟩
set_option maxRecDepth 20000 in
theorem tw_1078 : (Jvm.Cond.selects "RockHeat$Town" ({ cls := "RockHeat$Town", name := "joinedOn", desc := "(I)I" } : Jvm.MethodName) ({ cls := "RockHeat$Town", name := "joinedOn", desc := "(I)I" } : Jvm.MethodName)) ∈ lw_g := List.mem_filter.mpr ⟨lw_c5 _ (List.mem_of_getElem? (i := 59) (by rfl)), rfl⟩
set_option maxRecDepth 20000 in
theorem tw_1079 : (Jvm.Cond.code ({ cls := "RockHeat$Town", name := "joinedOn", desc := "(I)I" } : Jvm.MethodName) prog_12_method_3_code (4 : Nat) (Option.some Jvm.ClassFile.FieldType.int)) ∈ lw_g := List.mem_filter.mpr ⟨lw_c5 _ (List.mem_of_getElem? (i := 60) (by rfl)), rfl⟩
set_option maxRecDepth 20000 in
theorem tw_1080 : (Jvm.Cond.classLink "RockHeatLaw" (10 : Nat) "RockHeatModel") ∈ lw_g := List.mem_filter.mpr ⟨lw_c5 _ (List.mem_of_getElem? (i := 61) (by rfl)), rfl⟩
set_option maxRecDepth 20000 in
theorem tw_1081 : (Jvm.Cond.instantiable "RockHeatModel" (58 : Nat)) ∈ lw_g := List.mem_filter.mpr ⟨lw_c5 _ (List.mem_of_getElem? (i := 62) (by rfl)), rfl⟩
set_option maxRecDepth 20000 in
theorem tw_1082 : (Jvm.Cond.methodLink "RockHeatLaw" (12 : Nat) ({ cls := "RockHeatModel", name := "<init>", desc := "()V" } : Jvm.MethodName)) ∈ lw_g := List.mem_filter.mpr ⟨lw_c5 _ (List.mem_of_getElem? (i := 63) (by rfl)), rfl⟩
set_option maxRecDepth 20000 in
theorem tw_1083 : (Jvm.Cond.instanceMethod ({ cls := "RockHeatModel", name := "<init>", desc := "()V" } : Jvm.MethodName)) ∈ lw_g := List.mem_filter.mpr ⟨lw_c5 _ (List.mem_of_getElem? (i := 64) (by rfl)), rfl⟩
set_option maxRecDepth 20000 in
theorem tw_1084 : (Jvm.Cond.code ({ cls := "RockHeatModel", name := "<init>", desc := "()V" } : Jvm.MethodName) prog_14_method_1_code (1 : Nat) (Option.none : Option Jvm.ClassFile.FieldType)) ∈ lw_g := List.mem_filter.mpr ⟨lw_c5 _ (List.mem_of_getElem? (i := 65) (by rfl)), rfl⟩
set_option maxRecDepth 20000 in
theorem tw_1085 : (Jvm.Cond.methodLink "RockHeatModel" (1 : Nat) ({ cls := "java/lang/Object", name := "<init>", desc := "()V" } : Jvm.MethodName)) ∈ lw_g := List.mem_filter.mpr ⟨lw_c5 _ (List.mem_of_getElem? (i := 66) (by rfl)), rfl⟩
set_option maxRecDepth 20000 in
theorem tw_1086 : (Jvm.Cond.fieldLink "RockHeatModel" (7 : Nat) "RockHeatModel" "refused" "[I") ∈ lw_g := List.mem_filter.mpr ⟨lw_c5 _ (List.mem_of_getElem? (i := 67) (by rfl)), rfl⟩
set_option maxRecDepth 20000 in
theorem tw_1087 : (Jvm.Cond.fieldLink "RockHeatModel" (167 : Nat) "RockHeatModel" "hour" "I") ∈ lw_g := List.mem_filter.mpr ⟨lw_c5 _ (List.mem_of_getElem? (i := 68) (by rfl)), rfl⟩
set_option maxRecDepth 20000 in
theorem tw_1088 : (Jvm.Cond.fieldLink "RockHeatModel" (154 : Nat) "RockHeatModel" "bores" "I") ∈ lw_g := List.mem_filter.mpr ⟨lw_c5 _ (List.mem_of_getElem? (i := 69) (by rfl)), rfl⟩
set_option maxRecDepth 20000 in
theorem tw_1089 : (Jvm.Cond.fieldLink "RockHeatModel" (13 : Nat) "RockHeatModel" "placeX" "[I") ∈ lw_g := List.mem_filter.mpr ⟨lw_c5 _ (List.mem_of_getElem? (i := 70) (by rfl)), rfl⟩
set_option maxRecDepth 20000 in
theorem tw_1090 : (Jvm.Cond.fieldLink "RockHeatModel" (16 : Nat) "RockHeatModel" "placeY" "[I") ∈ lw_g := List.mem_filter.mpr ⟨lw_c5 _ (List.mem_of_getElem? (i := 71) (by rfl)), rfl⟩
set_option maxRecDepth 20000 in
theorem tw_1091 : (Jvm.Cond.fieldLink "RockHeatModel" (19 : Nat) "RockHeatModel" "rings" "[I") ∈ lw_g := List.mem_filter.mpr ⟨lw_c5 _ (List.mem_of_getElem? (i := 72) (by rfl)), rfl⟩
set_option maxRecDepth 20000 in
theorem tw_1092 : (Jvm.Cond.fieldLink "RockHeatModel" (22 : Nat) "RockHeatModel" "hold" "[I") ∈ lw_g := List.mem_filter.mpr ⟨lw_c5 _ (List.mem_of_getElem? (i := 73) (by rfl)), rfl⟩
set_option maxRecDepth 20000 in
theorem tw_1093 : (Jvm.Cond.fieldLink "RockHeatModel" (25 : Nat) "RockHeatModel" "step" "[I") ∈ lw_g := List.mem_filter.mpr ⟨lw_c5 _ (List.mem_of_getElem? (i := 74) (by rfl)), rfl⟩
set_option maxRecDepth 20000 in
theorem tw_1094 : (Jvm.Cond.fieldLink "RockHeatModel" (28 : Nat) "RockHeatModel" "first" "[I") ∈ lw_g := List.mem_filter.mpr ⟨lw_c5 _ (List.mem_of_getElem? (i := 75) (by rfl)), rfl⟩
set_option maxRecDepth 20000 in
theorem tw_1095 : (Jvm.Cond.fieldLink "RockHeatModel" (31 : Nat) "RockHeatModel" "lead" "[I") ∈ lw_g := List.mem_filter.mpr ⟨lw_c5 _ (List.mem_of_getElem? (i := 76) (by rfl)), rfl⟩
set_option maxRecDepth 20000 in
theorem tw_1096 : (Jvm.Cond.fieldLink "RockHeatModel" (34 : Nat) "RockHeatModel" "water" "[I") ∈ lw_g := List.mem_filter.mpr ⟨lw_c5 _ (List.mem_of_getElem? (i := 77) (by rfl)), rfl⟩
set_option maxRecDepth 20000 in
theorem tw_1097 : (Jvm.Cond.fieldLink "RockHeatModel" (37 : Nat) "RockHeatModel" "isOpen" "[Z") ∈ lw_g := List.mem_filter.mpr ⟨lw_c5 _ (List.mem_of_getElem? (i := 78) (by rfl)), rfl⟩
set_option maxRecDepth 20000 in
theorem tw_1098 : (Jvm.Cond.fieldLink "RockHeatModel" (181 : Nat) "RockHeatModel" "share" "I") ∈ lw_g := List.mem_filter.mpr ⟨lw_c5 _ (List.mem_of_getElem? (i := 79) (by rfl)), rfl⟩
set_option maxRecDepth 20000 in
theorem tw_1099 : (Jvm.Cond.fieldLink "RockHeatModel" (41 : Nat) "RockHeatModel" "heat" "[J") ∈ lw_g := List.mem_filter.mpr ⟨lw_c5 _ (List.mem_of_getElem? (i := 80) (by rfl)), rfl⟩
set_option maxRecDepth 20000 in
theorem tw_1100 : (Jvm.Cond.fieldLink "RockHeatModel" (45 : Nat) "RockHeatModel" "given" "[J") ∈ lw_g := List.mem_filter.mpr ⟨lw_c5 _ (List.mem_of_getElem? (i := 81) (by rfl)), rfl⟩
set_option maxRecDepth 20000 in
theorem tw_1101 : (Jvm.Cond.fieldLink "RockHeatModel" (48 : Nat) "RockHeatModel" "told" "[J") ∈ lw_g := List.mem_filter.mpr ⟨lw_c5 _ (List.mem_of_getElem? (i := 82) (by rfl)), rfl⟩
set_option maxRecDepth 20000 in
theorem tw_1102 : (Jvm.Cond.fieldLink "RockHeatModel" (196 : Nat) "RockHeatModel" "houses" "I") ∈ lw_g := List.mem_filter.mpr ⟨lw_c5 _ (List.mem_of_getElem? (i := 83) (by rfl)), rfl⟩
set_option maxRecDepth 20000 in
theorem tw_1103 : (Jvm.Cond.fieldLink "RockHeatModel" (51 : Nat) "RockHeatModel" "base" "[I") ∈ lw_g := List.mem_filter.mpr ⟨lw_c5 _ (List.mem_of_getElem? (i := 84) (by rfl)), rfl⟩
set_option maxRecDepth 20000 in
theorem tw_1104 : (Jvm.Cond.fieldLink "RockHeatModel" (54 : Nat) "RockHeatModel" "more" "[I") ∈ lw_g := List.mem_filter.mpr ⟨lw_c5 _ (List.mem_of_getElem? (i := 85) (by rfl)), rfl⟩
set_option maxRecDepth 20000 in
theorem tw_1105 : (Jvm.Cond.fieldLink "RockHeatModel" (57 : Nat) "RockHeatModel" "wake" "[I") ∈ lw_g := List.mem_filter.mpr ⟨lw_c5 _ (List.mem_of_getElem? (i := 86) (by rfl)), rfl⟩
set_option maxRecDepth 20000 in
theorem tw_1106 : (Jvm.Cond.fieldLink "RockHeatModel" (60 : Nat) "RockHeatModel" "joined" "[I") ∈ lw_g := List.mem_filter.mpr ⟨lw_c5 _ (List.mem_of_getElem? (i := 87) (by rfl)), rfl⟩
set_option maxRecDepth 20000 in
theorem tw_1107 : (Jvm.Cond.fieldLink "RockHeatModel" (63 : Nat) "RockHeatModel" "cold" "[I") ∈ lw_g := List.mem_filter.mpr ⟨lw_c5 _ (List.mem_of_getElem? (i := 88) (by rfl)), rfl⟩
set_option maxRecDepth 20000 in
theorem tw_1108 : (Jvm.Cond.fieldLink "RockHeatModel" (208 : Nat) "RockHeatModel" "points" "I") ∈ lw_g := List.mem_filter.mpr ⟨lw_c5 _ (List.mem_of_getElem? (i := 89) (by rfl)), rfl⟩
set_option maxRecDepth 20000 in
theorem tw_1109 : (Jvm.Cond.fieldLink "RockHeatModel" (66 : Nat) "RockHeatModel" "pointWarmth" "[I") ∈ lw_g := List.mem_filter.mpr ⟨lw_c5 _ (List.mem_of_getElem? (i := 90) (by rfl)), rfl⟩
set_option maxRecDepth 20000 in
theorem tw_1110 : (Jvm.Cond.fieldLink "RockHeatModel" (69 : Nat) "RockHeatModel" "pointLift" "[I") ∈ lw_g := List.mem_filter.mpr ⟨lw_c5 _ (List.mem_of_getElem? (i := 91) (by rfl)), rfl⟩
set_option maxRecDepth 20000 in
theorem tw_1111 : (Jvm.Cond.fieldLink "RockHeatModel" (72 : Nat) "RockHeatModel" "price" "[I") ∈ lw_g := List.mem_filter.mpr ⟨lw_c5 _ (List.mem_of_getElem? (i := 92) (by rfl)), rfl⟩
set_option maxRecDepth 20000 in
theorem tw_1112 : (Jvm.Cond.fieldLink "RockHeatModel" (75 : Nat) "RockHeatModel" "sun" "[I") ∈ lw_g := List.mem_filter.mpr ⟨lw_c5 _ (List.mem_of_getElem? (i := 93) (by rfl)), rfl⟩
set_option maxRecDepth 20000 in
theorem tw_1113 : (Jvm.Cond.fieldLink "RockHeatModel" (78 : Nat) "RockHeatModel" "tape" "[I") ∈ lw_g := List.mem_filter.mpr ⟨lw_c5 _ (List.mem_of_getElem? (i := 94) (by rfl)), rfl⟩
set_option maxRecDepth 20000 in
theorem tw_1114 : (Jvm.Cond.fieldLink "RockHeatModel" (224 : Nat) "RockHeatModel" "taped" "I") ∈ lw_g := List.mem_filter.mpr ⟨lw_c5 _ (List.mem_of_getElem? (i := 95) (by rfl)), rfl⟩
set_option maxRecDepth 20000 in
theorem tw_1115 : (Jvm.Cond.fieldLink "RockHeatModel" (232 : Nat) "RockHeatModel" "rules" "I") ∈ lw_g := List.mem_filter.mpr ⟨lw_c5 _ (List.mem_of_getElem? (i := 96) (by rfl)), rfl⟩
set_option maxRecDepth 20000 in
theorem tw_1116 : (Jvm.Cond.fieldLink "RockHeatModel" (81 : Nat) "RockHeatModel" "ruleFor" "[I") ∈ lw_g := List.mem_filter.mpr ⟨lw_c5 _ (List.mem_of_getElem? (i := 97) (by rfl)), rfl⟩
set_option maxRecDepth 20000 in
theorem tw_1117 : (Jvm.Cond.fieldLink "RockHeatModel" (84 : Nat) "RockHeatModel" "ruleDay" "[I") ∈ lw_g := List.mem_filter.mpr ⟨lw_c5 _ (List.mem_of_getElem? (i := 98) (by rfl)), rfl⟩
set_option maxRecDepth 20000 in
theorem tw_1118 : (Jvm.Cond.fieldLink "RockHeatModel" (87 : Nat) "RockHeatModel" "ruleSize" "[I") ∈ lw_g := List.mem_filter.mpr ⟨lw_c5 _ (List.mem_of_getElem? (i := 99) (by rfl)), rfl⟩
set_option maxRecDepth 20000 in
theorem tw_1119 : (Jvm.Cond.fieldLink "RockHeatModel" (90 : Nat) "RockHeatModel" "codes" "[I") ∈ lw_g := List.mem_filter.mpr ⟨lw_c5 _ (List.mem_of_getElem? (i := 100) (by rfl)), rfl⟩
set_option maxRecDepth 20000 in
theorem tw_1120 : (Jvm.Cond.fieldLink "RockHeatModel" (324 : Nat) "RockHeatModel" "crates" "I") ∈ lw_g := List.mem_filter.mpr ⟨lw_c5 _ (List.mem_of_getElem? (i := 101) (by rfl)), rfl⟩
set_option maxRecDepth 20000 in
theorem tw_1121 : (Jvm.Cond.fieldLink "RockHeatModel" (93 : Nat) "RockHeatModel" "size" "I") ∈ lw_g := List.mem_filter.mpr ⟨lw_c5 _ (List.mem_of_getElem? (i := 102) (by rfl)), rfl⟩
set_option maxRecDepth 20000 in
theorem tw_1122 : (Jvm.Cond.fieldLink "RockHeatModel" (342 : Nat) "RockHeatModel" "readings" "I") ∈ lw_g := List.mem_filter.mpr ⟨lw_c5 _ (List.mem_of_getElem? (i := 103) (by rfl)), rfl⟩
set_option maxRecDepth 20000 in
theorem tw_1123 : (Jvm.Cond.fieldLink "RockHeatModel" (97 : Nat) "RockHeatModel" "readOf" "[I") ∈ lw_g := List.mem_filter.mpr ⟨lw_c5 _ (List.mem_of_getElem? (i := 104) (by rfl)), rfl⟩
set_option maxRecDepth 20000 in
theorem tw_1124 : (Jvm.Cond.fieldLink "RockHeatModel" (100 : Nat) "RockHeatModel" "readHour" "[I") ∈ lw_g := List.mem_filter.mpr ⟨lw_c5 _ (List.mem_of_getElem? (i := 105) (by rfl)), rfl⟩
set_option maxRecDepth 20000 in
theorem tw_1125 : (Jvm.Cond.fieldLink "RockHeatModel" (103 : Nat) "RockHeatModel" "wrong" "[J") ∈ lw_g := List.mem_filter.mpr ⟨lw_c5 _ (List.mem_of_getElem? (i := 106) (by rfl)), rfl⟩
set_option maxRecDepth 20000 in
theorem tw_1126 : (Jvm.Cond.fieldLink "RockHeatModel" (106 : Nat) "RockHeatModel" "letters" "[I") ∈ lw_g := List.mem_filter.mpr ⟨lw_c5 _ (List.mem_of_getElem? (i := 107) (by rfl)), rfl⟩
set_option maxRecDepth 20000 in
theorem tw_1127 : (Jvm.Cond.fieldLink "RockHeatModel" (229 : Nat) "RockHeatModel" "at" "I") ∈ lw_g := List.mem_filter.mpr ⟨lw_c5 _ (List.mem_of_getElem? (i := 108) (by rfl)), rfl⟩
set_option maxRecDepth 20000 in
theorem tw_1128 : (Jvm.Cond.fieldLink "RockHeatModel" (235 : Nat) "RockHeatModel" "out" "I") ∈ lw_g := List.mem_filter.mpr ⟨lw_c5 _ (List.mem_of_getElem? (i := 109) (by rfl)), rfl⟩
set_option maxRecDepth 20000 in
theorem tw_1129 : (Jvm.Cond.fieldLink "RockHeatModel" (242 : Nat) "RockHeatModel" "isFaulty" "Z") ∈ lw_g := List.mem_filter.mpr ⟨lw_c5 _ (List.mem_of_getElem? (i := 110) (by rfl)), rfl⟩
set_option maxRecDepth 20000 in
theorem tw_1130 : (Jvm.Cond.fieldLink "RockHeatModel" (109 : Nat) "RockHeatModel" "names" "[J") ∈ lw_g := List.mem_filter.mpr ⟨lw_c5 _ (List.mem_of_getElem? (i := 111) (by rfl)), rfl⟩
set_option maxRecDepth 20000 in
theorem tw_1131 : (Jvm.Cond.fieldLink "RockHeatModel" (112 : Nat) "RockHeatModel" "stack" "[J") ∈ lw_g := List.mem_filter.mpr ⟨lw_c5 _ (List.mem_of_getElem? (i := 112) (by rfl)), rfl⟩
set_option maxRecDepth 20000 in
theorem tw_1132 : (Jvm.Cond.fieldLink "RockHeatModel" (115 : Nat) "RockHeatModel" "was" "[J") ∈ lw_g := List.mem_filter.mpr ⟨lw_c5 _ (List.mem_of_getElem? (i := 113) (by rfl)), rfl⟩
set_option maxRecDepth 20000 in
theorem tw_1133 : (Jvm.Cond.fieldLink "RockHeatModel" (118 : Nat) "RockHeatModel" "wasHeat" "[J") ∈ lw_g := List.mem_filter.mpr ⟨lw_c5 _ (List.mem_of_getElem? (i := 114) (by rfl)), rfl⟩
set_option maxRecDepth 20000 in
theorem tw_1134 : (Jvm.Cond.fieldLink "RockHeatModel" (121 : Nat) "RockHeatModel" "takes" "[J") ∈ lw_g := List.mem_filter.mpr ⟨lw_c5 _ (List.mem_of_getElem? (i := 115) (by rfl)), rfl⟩
set_option maxRecDepth 20000 in
theorem tw_1135 : (Jvm.Cond.fieldLink "RockHeatModel" (124 : Nat) "RockHeatModel" "gives" "[J") ∈ lw_g := List.mem_filter.mpr ⟨lw_c5 _ (List.mem_of_getElem? (i := 116) (by rfl)), rfl⟩
set_option maxRecDepth 20000 in
theorem tw_1136 : (Jvm.Cond.fieldLink "RockHeatModel" (127 : Nat) "RockHeatModel" "lifts" "[J") ∈ lw_g := List.mem_filter.mpr ⟨lw_c5 _ (List.mem_of_getElem? (i := 117) (by rfl)), rfl⟩
set_option maxRecDepth 20000 in
theorem tw_1137 : (Jvm.Cond.fieldLink "RockHeatModel" (130 : Nat) "RockHeatModel" "keptHeat" "[J") ∈ lw_g := List.mem_filter.mpr ⟨lw_c5 _ (List.mem_of_getElem? (i := 118) (by rfl)), rfl⟩
set_option maxRecDepth 20000 in
theorem tw_1138 : (Jvm.Cond.fieldLink "RockHeatModel" (133 : Nat) "RockHeatModel" "keptGiven" "[J") ∈ lw_g := List.mem_filter.mpr ⟨lw_c5 _ (List.mem_of_getElem? (i := 119) (by rfl)), rfl⟩
set_option maxRecDepth 20000 in
theorem tw_1139 : (Jvm.Cond.fieldLink "RockHeatModel" (136 : Nat) "RockHeatModel" "keptTold" "[J") ∈ lw_g := List.mem_filter.mpr ⟨lw_c5 _ (List.mem_of_getElem? (i := 120) (by rfl)), rfl⟩
set_option maxRecDepth 20000 in
theorem tw_1140 : (Jvm.Cond.fieldLink "RockHeatModel" (139 : Nat) "RockHeatModel" "keptOpen" "[Z") ∈ lw_g := List.mem_filter.mpr ⟨lw_c5 _ (List.mem_of_getElem? (i := 121) (by rfl)), rfl⟩
set_option maxRecDepth 20000 in
theorem tw_1141 : (Jvm.Cond.fieldLink "RockHeatModel" (301 : Nat) "RockHeatModel" "keptHour" "I") ∈ lw_g := List.mem_filter.mpr ⟨lw_c5 _ (List.mem_of_getElem? (i := 122) (by rfl)), rfl⟩
set_option maxRecDepth 20000 in
theorem tw_1142 : (Jvm.Cond.fieldLink "RockHeatModel" (142 : Nat) "RockHeatModel" "least" "[J") ∈ lw_g := List.mem_filter.mpr ⟨lw_c5 _ (List.mem_of_getElem? (i := 123) (by rfl)), rfl⟩
set_option maxRecDepth 20000 in
theorem tw_1143 : (Jvm.Cond.fieldLink "RockHeatModel" (145 : Nat) "RockHeatModel" "bought" "[J") ∈ lw_g := List.mem_filter.mpr ⟨lw_c5 _ (List.mem_of_getElem? (i := 124) (by rfl)), rfl⟩
set_option maxRecDepth 20000 in
theorem tw_1261 : (Jvm.Cond.arrayClass Jvm.ClassFile.FieldType.boolean) ∈ lw_g := List.mem_filter.mpr ⟨lw_c6 _ (List.mem_of_getElem? (i := 2) (by rfl)), rfl⟩
set_option maxRecDepth 20000 in
theorem tw_1262 : (Jvm.Cond.methodLink "RockHeatLaw" (17 : Nat) ({ cls := "RockHeatModel", name := "hours", desc := "(I)I" } : Jvm.MethodName)) ∈ lw_g := List.mem_filter.mpr ⟨lw_c6 _ (List.mem_of_getElem? (i := 3) (by rfl)), rfl⟩
set_option maxRecDepth 20000 in
theorem tw_1263 : (Jvm.Cond.instanceMethod ({ cls := "RockHeatModel", name := "hours", desc := "(I)I" } : Jvm.MethodName)) ∈ lw_g := List.mem_filter.mpr ⟨lw_c6 _ (List.mem_of_getElem? (i := 4) (by rfl)), rfl⟩
set_option maxRecDepth 20000 in
theorem tw_1264 : (Jvm.Cond.selects "RockHeatModel" ({ cls := "RockHeatModel", name := "hours", desc := "(I)I" } : Jvm.MethodName) ({ cls := "RockHeatModel", name := "hours", desc := "(I)I" } : Jvm.MethodName)) ∈ lw_g := List.mem_filter.mpr ⟨lw_c6 _ (List.mem_of_getElem? (i := 5) (by rfl)), rfl⟩
set_option maxRecDepth 20000 in
theorem tw_1265 : (Jvm.Cond.code ({ cls := "RockHeatModel", name := "hours", desc := "(I)I" } : Jvm.MethodName) prog_14_method_11_code (3 : Nat) (Option.some Jvm.ClassFile.FieldType.int)) ∈ lw_g := List.mem_filter.mpr ⟨lw_c6 _ (List.mem_of_getElem? (i := 6) (by rfl)), rfl⟩
set_option maxRecDepth 20000 in
theorem tw_1266 : (Jvm.Cond.methodLink "RockHeatModel" (150 : Nat) ({ cls := "RockHeatModel", name := "refuse", desc := "(I)I" } : Jvm.MethodName)) ∈ lw_g := List.mem_filter.mpr ⟨lw_c6 _ (List.mem_of_getElem? (i := 7) (by rfl)), rfl⟩
set_option maxRecDepth 20000 in
theorem tw_1268 : (Jvm.Cond.instanceMethod ({ cls := "RockHeatModel", name := "refuse", desc := "(I)I" } : Jvm.MethodName)) ∈ lw_g := List.mem_filter.mpr ⟨lw_c6 _ (List.mem_of_getElem? (i := 9) (by rfl)), rfl⟩
set_option maxRecDepth 20000 in
theorem tw_1269 : (Jvm.Cond.code ({ cls := "RockHeatModel", name := "refuse", desc := "(I)I" } : Jvm.MethodName) prog_14_method_4_code (2 : Nat) (Option.some Jvm.ClassFile.FieldType.int)) ∈ lw_g := List.mem_filter.mpr ⟨lw_c6 _ (List.mem_of_getElem? (i := 10) (by rfl)), rfl⟩
set_option maxRecDepth 20000 in
theorem tw_1270 : (Jvm.Cond.methodLink "RockHeatModel" (170 : Nat) ({ cls := "RockHeatModel", name := "goes", desc := "()V" } : Jvm.MethodName)) ∈ lw_g := List.mem_filter.mpr ⟨lw_c6 _ (List.mem_of_getElem? (i := 11) (by rfl)), rfl⟩
set_option maxRecDepth 20000 in
theorem tw_1272 : (Jvm.Cond.instanceMethod ({ cls := "RockHeatModel", name := "goes", desc := "()V" } : Jvm.MethodName)) ∈ lw_g := List.mem_filter.mpr ⟨lw_c6 _ (List.mem_of_getElem? (i := 13) (by rfl)), rfl⟩
set_option maxRecDepth 20000 in
theorem tw_1273 : (Jvm.Cond.code ({ cls := "RockHeatModel", name := "goes", desc := "()V" } : Jvm.MethodName) prog_14_method_48_code (14 : Nat) (Option.none : Option Jvm.ClassFile.FieldType)) ∈ lw_g := List.mem_filter.mpr ⟨lw_c6 _ (List.mem_of_getElem? (i := 14) (by rfl)), rfl⟩
set_option maxRecDepth 20000 in
theorem tw_1274 : (Jvm.Cond.methodLink "RockHeatModel" (289 : Nat) ({ cls := "RockHeatModel", name := "begins", desc := "()V" } : Jvm.MethodName)) ∈ lw_g := List.mem_filter.mpr ⟨lw_c6 _ (List.mem_of_getElem? (i := 15) (by rfl)), rfl⟩
set_option maxRecDepth 20000 in
theorem tw_1276 : (Jvm.Cond.instanceMethod ({ cls := "RockHeatModel", name := "begins", desc := "()V" } : Jvm.MethodName)) ∈ lw_g := List.mem_filter.mpr ⟨lw_c6 _ (List.mem_of_getElem? (i := 17) (by rfl)), rfl⟩
set_option maxRecDepth 20000 in
theorem tw_1277 : (Jvm.Cond.code ({ cls := "RockHeatModel", name := "begins", desc := "()V" } : Jvm.MethodName) prog_14_method_45_code (3 : Nat) (Option.none : Option Jvm.ClassFile.FieldType)) ∈ lw_g := List.mem_filter.mpr ⟨lw_c6 _ (List.mem_of_getElem? (i := 18) (by rfl)), rfl⟩
set_option maxRecDepth 20000 in
theorem tw_1278 : (Jvm.Cond.methodLink "RockHeatModel" (283 : Nat) ({ cls := "RockHeatModel", name := "mayOf", desc := "(II)J" } : Jvm.MethodName)) ∈ lw_g := List.mem_filter.mpr ⟨lw_c6 _ (List.mem_of_getElem? (i := 19) (by rfl)), rfl⟩
set_option maxRecDepth 20000 in
theorem tw_1280 : (Jvm.Cond.instanceMethod ({ cls := "RockHeatModel", name := "mayOf", desc := "(II)J" } : Jvm.MethodName)) ∈ lw_g := List.mem_filter.mpr ⟨lw_c6 _ (List.mem_of_getElem? (i := 21) (by rfl)), rfl⟩
set_option maxRecDepth 20000 in
theorem tw_1281 : (Jvm.Cond.code ({ cls := "RockHeatModel", name := "mayOf", desc := "(II)J" } : Jvm.MethodName) prog_14_method_43_code (7 : Nat) (Option.some Jvm.ClassFile.FieldType.long)) ∈ lw_g := List.mem_filter.mpr ⟨lw_c6 _ (List.mem_of_getElem? (i := 22) (by rfl)), rfl⟩
set_option maxRecDepth 20000 in
theorem tw_1282 : (Jvm.Cond.methodLink "RockHeatModel" (205 : Nat) ({ cls := "RockHeatModel", name := "needOf", desc := "(I)J" } : Jvm.MethodName)) ∈ lw_g := List.mem_filter.mpr ⟨lw_c6 _ (List.mem_of_getElem? (i := 23) (by rfl)), rfl⟩
set_option maxRecDepth 20000 in
theorem tw_1284 : (Jvm.Cond.instanceMethod ({ cls := "RockHeatModel", name := "needOf", desc := "(I)J" } : Jvm.MethodName)) ∈ lw_g := List.mem_filter.mpr ⟨lw_c6 _ (List.mem_of_getElem? (i := 25) (by rfl)), rfl⟩
set_option maxRecDepth 20000 in
theorem tw_1285 : (Jvm.Cond.code ({ cls := "RockHeatModel", name := "needOf", desc := "(I)J" } : Jvm.MethodName) prog_14_method_24_code (9 : Nat) (Option.some Jvm.ClassFile.FieldType.long)) ∈ lw_g := List.mem_filter.mpr ⟨lw_c6 _ (List.mem_of_getElem? (i := 26) (by rfl)), rfl⟩
set_option maxRecDepth 20000 in
theorem tw_1286 : (Jvm.Cond.methodLink "RockHeatModel" (200 : Nat) ({ cls := "RockHeatModel", name := "isJoined", desc := "(II)Z" } : Jvm.MethodName)) ∈ lw_g := List.mem_filter.mpr ⟨lw_c6 _ (List.mem_of_getElem? (i := 27) (by rfl)), rfl⟩
set_option maxRecDepth 20000 in
theorem tw_1288 : (Jvm.Cond.instanceMethod ({ cls := "RockHeatModel", name := "isJoined", desc := "(II)Z" } : Jvm.MethodName)) ∈ lw_g := List.mem_filter.mpr ⟨lw_c6 _ (List.mem_of_getElem? (i := 29) (by rfl)), rfl⟩
set_option maxRecDepth 20000 in
theorem tw_1289 : (Jvm.Cond.code ({ cls := "RockHeatModel", name := "isJoined", desc := "(II)Z" } : Jvm.MethodName) prog_14_method_23_code (3 : Nat) (Option.some Jvm.ClassFile.FieldType.boolean)) ∈ lw_g := List.mem_filter.mpr ⟨lw_c6 _ (List.mem_of_getElem? (i := 30) (by rfl)), rfl⟩
set_option maxRecDepth 20000 in
theorem tw_1290 : (Jvm.Cond.constantLong "RockHeatModel" (203 : Nat) (2 : Int64)) ∈ lw_g := List.mem_filter.mpr ⟨lw_c6 _ (List.mem_of_getElem? (i := 31) (by rfl)), rfl⟩
set_option maxRecDepth 20000 in
theorem tw_1291 : (Jvm.Cond.methodLink "RockHeatModel" (192 : Nat) ({ cls := "RockHeatModel", name := "warmthOf", desc := "(II)J" } : Jvm.MethodName)) ∈ lw_g := List.mem_filter.mpr ⟨lw_c6 _ (List.mem_of_getElem? (i := 32) (by rfl)), rfl⟩
set_option maxRecDepth 20000 in
theorem tw_1293 : (Jvm.Cond.instanceMethod ({ cls := "RockHeatModel", name := "warmthOf", desc := "(II)J" } : Jvm.MethodName)) ∈ lw_g := List.mem_filter.mpr ⟨lw_c6 _ (List.mem_of_getElem? (i := 34) (by rfl)), rfl⟩
set_option maxRecDepth 20000 in
theorem tw_1294 : (Jvm.Cond.code ({ cls := "RockHeatModel", name := "warmthOf", desc := "(II)J" } : Jvm.MethodName) prog_14_method_9_code (3 : Nat) (Option.some Jvm.ClassFile.FieldType.long)) ∈ lw_g := List.mem_filter.mpr ⟨lw_c6 _ (List.mem_of_getElem? (i := 35) (by rfl)), rfl⟩
set_option maxRecDepth 20000 in
theorem tw_1295 : (Jvm.Cond.methodLink "RockHeatModel" (161 : Nat) ({ cls := "RockHeatModel", name := "holdOf", desc := "(II)I" } : Jvm.MethodName)) ∈ lw_g := List.mem_filter.mpr ⟨lw_c6 _ (List.mem_of_getElem? (i := 36) (by rfl)), rfl⟩
set_option maxRecDepth 20000 in
theorem tw_1297 : (Jvm.Cond.instanceMethod ({ cls := "RockHeatModel", name := "holdOf", desc := "(II)I" } : Jvm.MethodName)) ∈ lw_g := List.mem_filter.mpr ⟨lw_c6 _ (List.mem_of_getElem? (i := 38) (by rfl)), rfl⟩
set_option maxRecDepth 20000 in
theorem tw_1298 : (Jvm.Cond.code ({ cls := "RockHeatModel", name := "holdOf", desc := "(II)I" } : Jvm.MethodName) prog_14_method_8_code (3 : Nat) (Option.some Jvm.ClassFile.FieldType.int)) ∈ lw_g := List.mem_filter.mpr ⟨lw_c6 _ (List.mem_of_getElem? (i := 39) (by rfl)), rfl⟩
set_option maxRecDepth 20000 in
theorem tw_1299 : (Jvm.Cond.constantLong "RockHeatModel" (165 : Nat) (1000 : Int64)) ∈ lw_g := List.mem_filter.mpr ⟨lw_c6 _ (List.mem_of_getElem? (i := 40) (by rfl)), rfl⟩
set_option maxRecDepth 20000 in
theorem tw_1300 : (Jvm.Cond.constantLong "RockHeatModel" (270 : Nat) (-1000000000 : Int64)) ∈ lw_g := List.mem_filter.mpr ⟨lw_c6 _ (List.mem_of_getElem? (i := 41) (by rfl)), rfl⟩
set_option maxRecDepth 20000 in
theorem tw_1301 : (Jvm.Cond.constantLong "RockHeatModel" (272 : Nat) (1000000000 : Int64)) ∈ lw_g := List.mem_filter.mpr ⟨lw_c6 _ (List.mem_of_getElem? (i := 42) (by rfl)), rfl⟩
set_option maxRecDepth 20000 in
theorem tw_1302 : (Jvm.Cond.methodLink "RockHeatModel" (274 : Nat) ({ cls := "RockHeatModel", name := "cut", desc := "(JJJ)J" } : Jvm.MethodName)) ∈ lw_g := List.mem_filter.mpr ⟨lw_c6 _ (List.mem_of_getElem? (i := 43) (by rfl)), rfl⟩
set_option maxRecDepth 20000 in
theorem tw_1303 : (Jvm.Cond.static ({ cls := "RockHeatModel", name := "cut", desc := "(JJJ)J" } : Jvm.MethodName)) ∈ lw_g := List.mem_filter.mpr ⟨lw_c6 _ (List.mem_of_getElem? (i := 44) (by rfl)), rfl⟩
set_option maxRecDepth 20000 in
theorem tw_1304 : (Jvm.Cond.code ({ cls := "RockHeatModel", name := "cut", desc := "(JJJ)J" } : Jvm.MethodName) prog_14_method_7_code (6 : Nat) (Option.some Jvm.ClassFile.FieldType.long)) ∈ lw_g := List.mem_filter.mpr ⟨lw_c6 _ (List.mem_of_getElem? (i := 45) (by rfl)), rfl⟩
set_option maxRecDepth 20000 in
theorem tw_1305 : (Jvm.Cond.methodLink "RockHeatModel" (278 : Nat) ({ cls := "RockHeatModel", name := "worth", desc := "(I)J" } : Jvm.MethodName)) ∈ lw_g := List.mem_filter.mpr ⟨lw_c6 _ (List.mem_of_getElem? (i := 46) (by rfl)), rfl⟩
set_option maxRecDepth 20000 in
theorem tw_1307 : (Jvm.Cond.instanceMethod ({ cls := "RockHeatModel", name := "worth", desc := "(I)J" } : Jvm.MethodName)) ∈ lw_g := List.mem_filter.mpr ⟨lw_c6 _ (List.mem_of_getElem? (i := 48) (by rfl)), rfl⟩
set_option maxRecDepth 20000 in
theorem tw_1308 : (Jvm.Cond.code ({ cls := "RockHeatModel", name := "worth", desc := "(I)J" } : Jvm.MethodName) prog_14_method_42_code (4 : Nat) (Option.some Jvm.ClassFile.FieldType.long)) ∈ lw_g := List.mem_filter.mpr ⟨lw_c6 _ (List.mem_of_getElem? (i := 49) (by rfl)), rfl⟩
set_option maxRecDepth 20000 in
theorem tw_1309 : (Jvm.Cond.methodLink "RockHeatModel" (266 : Nat) ({ cls := "RockHeatModel", name := "two", desc := "(IJJ)J" } : Jvm.MethodName)) ∈ lw_g := List.mem_filter.mpr ⟨lw_c6 _ (List.mem_of_getElem? (i := 50) (by rfl)), rfl⟩
set_option maxRecDepth 20000 in
theorem tw_1310 : (Jvm.Cond.static ({ cls := "RockHeatModel", name := "two", desc := "(IJJ)J" } : Jvm.MethodName)) ∈ lw_g := List.mem_filter.mpr ⟨lw_c6 _ (List.mem_of_getElem? (i := 51) (by rfl)), rfl⟩
set_option maxRecDepth 20000 in
theorem tw_1311 : (Jvm.Cond.code ({ cls := "RockHeatModel", name := "two", desc := "(IJJ)J" } : Jvm.MethodName) prog_14_method_41_code (5 : Nat) (Option.some Jvm.ClassFile.FieldType.long)) ∈ lw_g := List.mem_filter.mpr ⟨lw_c6 _ (List.mem_of_getElem? (i := 52) (by rfl)), rfl⟩
set_option maxRecDepth 20000 in
theorem tw_1312 : (Jvm.Cond.constantLong "RockHeatModel" (281 : Nat) (99999 : Int64)) ∈ lw_g := List.mem_filter.mpr ⟨lw_c6 _ (List.mem_of_getElem? (i := 53) (by rfl)), rfl⟩
set_option maxRecDepth 20000 in
theorem tw_1313 : (Jvm.Cond.methodLink "RockHeatModel" (215 : Nat) ({ cls := "RockHeatModel", name := "liftAt", desc := "(J)J" } : Jvm.MethodName)) ∈ lw_g := List.mem_filter.mpr ⟨lw_c6 _ (List.mem_of_getElem? (i := 54) (by rfl)), rfl⟩
set_option maxRecDepth 20000 in
theorem tw_1315 : (Jvm.Cond.instanceMethod ({ cls := "RockHeatModel", name := "liftAt", desc := "(J)J" } : Jvm.MethodName)) ∈ lw_g := List.mem_filter.mpr ⟨lw_c6 _ (List.mem_of_getElem? (i := 56) (by rfl)), rfl⟩
set_option maxRecDepth 20000 in
theorem tw_1316 : (Jvm.Cond.code ({ cls := "RockHeatModel", name := "liftAt", desc := "(J)J" } : Jvm.MethodName) prog_14_method_28_code (8 : Nat) (Option.some Jvm.ClassFile.FieldType.long)) ∈ lw_g := List.mem_filter.mpr ⟨lw_c6 _ (List.mem_of_getElem? (i := 57) (by rfl)), rfl⟩
set_option maxRecDepth 20000 in
theorem tw_1317 : (Jvm.Cond.constantLong "RockHeatModel" (211 : Nat) (100 : Int64)) ∈ lw_g := List.mem_filter.mpr ⟨lw_c6 _ (List.mem_of_getElem? (i := 58) (by rfl)), rfl⟩
set_option maxRecDepth 20000 in
theorem tw_1318 : (Jvm.Cond.methodLink "RockHeatModel" (292 : Nat) ({ cls := "RockHeatModel", name := "ground", desc := "()V" } : Jvm.MethodName)) ∈ lw_g := List.mem_filter.mpr ⟨lw_c6 _ (List.mem_of_getElem? (i := 59) (by rfl)), rfl⟩
set_option maxRecDepth 20000 in
theorem tw_1320 : (Jvm.Cond.instanceMethod ({ cls := "RockHeatModel", name := "ground", desc := "()V" } : Jvm.MethodName)) ∈ lw_g := List.mem_filter.mpr ⟨lw_c6 _ (List.mem_of_getElem? (i := 61) (by rfl)), rfl⟩
set_option maxRecDepth 20000 in
theorem tw_1321 : (Jvm.Cond.code ({ cls := "RockHeatModel", name := "ground", desc := "()V" } : Jvm.MethodName) prog_14_method_46_code (8 : Nat) (Option.none : Option Jvm.ClassFile.FieldType)) ∈ lw_g := List.mem_filter.mpr ⟨lw_c6 _ (List.mem_of_getElem? (i := 62) (by rfl)), rfl⟩
set_option maxRecDepth 20000 in
theorem tw_1322 : (Jvm.Cond.methodLink "RockHeatModel" (173 : Nat) ({ cls := "RockHeatModel", name := "atFirst", desc := "(II)J" } : Jvm.MethodName)) ∈ lw_g := List.mem_filter.mpr ⟨lw_c6 _ (List.mem_of_getElem? (i := 63) (by rfl)), rfl⟩
set_option maxRecDepth 20000 in
theorem tw_1324 : (Jvm.Cond.instanceMethod ({ cls := "RockHeatModel", name := "atFirst", desc := "(II)J" } : Jvm.MethodName)) ∈ lw_g := List.mem_filter.mpr ⟨lw_c6 _ (List.mem_of_getElem? (i := 65) (by rfl)), rfl⟩
set_option maxRecDepth 20000 in
theorem tw_1325 : (Jvm.Cond.code ({ cls := "RockHeatModel", name := "atFirst", desc := "(II)J" } : Jvm.MethodName) prog_14_method_10_code (3 : Nat) (Option.some Jvm.ClassFile.FieldType.long)) ∈ lw_g := List.mem_filter.mpr ⟨lw_c6 _ (List.mem_of_getElem? (i := 66) (by rfl)), rfl⟩
set_option maxRecDepth 20000 in
theorem tw_1326 : (Jvm.Cond.methodLink "RockHeatModel" (286 : Nat) ({ cls := "RockHeatModel", name := "farOf", desc := "(II)I" } : Jvm.MethodName)) ∈ lw_g := List.mem_filter.mpr ⟨lw_c6 _ (List.mem_of_getElem? (i := 67) (by rfl)), rfl⟩
set_option maxRecDepth 20000 in
theorem tw_1328 : (Jvm.Cond.instanceMethod ({ cls := "RockHeatModel", name := "farOf", desc := "(II)I" } : Jvm.MethodName)) ∈ lw_g := List.mem_filter.mpr ⟨lw_c6 _ (List.mem_of_getElem? (i := 69) (by rfl)), rfl⟩
set_option maxRecDepth 20000 in
theorem tw_1329 : (Jvm.Cond.code ({ cls := "RockHeatModel", name := "farOf", desc := "(II)I" } : Jvm.MethodName) prog_14_method_47_code (5 : Nat) (Option.some Jvm.ClassFile.FieldType.int)) ∈ lw_g := List.mem_filter.mpr ⟨lw_c6 _ (List.mem_of_getElem? (i := 70) (by rfl)), rfl⟩
set_option maxRecDepth 20000 in
theorem tw_1330 : (Jvm.Cond.methodLink "RockHeatLaw" (22 : Nat) ({ cls := "RockHeatModel", name := "bore", desc := "(IIIII)I" } : Jvm.MethodName)) ∈ lw_g := List.mem_filter.mpr ⟨lw_c6 _ (List.mem_of_getElem? (i := 71) (by rfl)), rfl⟩
set_option maxRecDepth 20000 in
theorem tw_1331 : (Jvm.Cond.instanceMethod ({ cls := "RockHeatModel", name := "bore", desc := "(IIIII)I" } : Jvm.MethodName)) ∈ lw_g := List.mem_filter.mpr ⟨lw_c6 _ (List.mem_of_getElem? (i := 72) (by rfl)), rfl⟩
set_option maxRecDepth 20000 in
theorem tw_1332 : (Jvm.Cond.selects "RockHeatModel" ({ cls := "RockHeatModel", name := "bore", desc := "(IIIII)I" } : Jvm.MethodName) ({ cls := "RockHeatModel", name := "bore", desc := "(IIIII)I" } : Jvm.MethodName)) ∈ lw_g := List.mem_filter.mpr ⟨lw_c6 _ (List.mem_of_getElem? (i := 73) (by rfl)), rfl⟩
set_option maxRecDepth 20000 in
theorem tw_1333 : (Jvm.Cond.code ({ cls := "RockHeatModel", name := "bore", desc := "(IIIII)I" } : Jvm.MethodName) prog_14_method_12_code (8 : Nat) (Option.some Jvm.ClassFile.FieldType.int)) ∈ lw_g := List.mem_filter.mpr ⟨lw_c6 _ (List.mem_of_getElem? (i := 74) (by rfl)), rfl⟩
set_option maxRecDepth 20000 in
theorem tw_1334 : (Jvm.Cond.methodLink "RockHeatLaw" (27 : Nat) ({ cls := "RockHeatModel", name := "soil", desc := "(III)I" } : Jvm.MethodName)) ∈ lw_g := List.mem_filter.mpr ⟨lw_c6 _ (List.mem_of_getElem? (i := 75) (by rfl)), rfl⟩
set_option maxRecDepth 20000 in
theorem tw_1335 : (Jvm.Cond.instanceMethod ({ cls := "RockHeatModel", name := "soil", desc := "(III)I" } : Jvm.MethodName)) ∈ lw_g := List.mem_filter.mpr ⟨lw_c6 _ (List.mem_of_getElem? (i := 76) (by rfl)), rfl⟩
set_option maxRecDepth 20000 in
theorem tw_1336 : (Jvm.Cond.selects "RockHeatModel" ({ cls := "RockHeatModel", name := "soil", desc := "(III)I" } : Jvm.MethodName) ({ cls := "RockHeatModel", name := "soil", desc := "(III)I" } : Jvm.MethodName)) ∈ lw_g := List.mem_filter.mpr ⟨lw_c6 _ (List.mem_of_getElem? (i := 77) (by rfl)), rfl⟩
set_option maxRecDepth 20000 in
theorem tw_1337 : (Jvm.Cond.code ({ cls := "RockHeatModel", name := "soil", desc := "(III)I" } : Jvm.MethodName) prog_14_method_13_code (5 : Nat) (Option.some Jvm.ClassFile.FieldType.int)) ∈ lw_g := List.mem_filter.mpr ⟨lw_c6 _ (List.mem_of_getElem? (i := 78) (by rfl)), rfl⟩
set_option maxRecDepth 20000 in
theorem tw_1338 : (Jvm.Cond.methodLink "RockHeatModel" (177 : Nat) ({ cls := "RockHeatModel", name := "isBore", desc := "(I)Z" } : Jvm.MethodName)) ∈ lw_g := List.mem_filter.mpr ⟨lw_c6 _ (List.mem_of_getElem? (i := 79) (by rfl)), rfl⟩
set_option maxRecDepth 20000 in
theorem tw_1340 : (Jvm.Cond.instanceMethod ({ cls := "RockHeatModel", name := "isBore", desc := "(I)Z" } : Jvm.MethodName)) ∈ lw_g := List.mem_filter.mpr ⟨lw_c6 _ (List.mem_of_getElem? (i := 81) (by rfl)), rfl⟩
set_option maxRecDepth 20000 in
theorem tw_1341 : (Jvm.Cond.code ({ cls := "RockHeatModel", name := "isBore", desc := "(I)Z" } : Jvm.MethodName) prog_14_method_6_code (2 : Nat) (Option.some Jvm.ClassFile.FieldType.boolean)) ∈ lw_g := List.mem_filter.mpr ⟨lw_c6 _ (List.mem_of_getElem? (i := 82) (by rfl)), rfl⟩
set_option maxRecDepth 20000 in
theorem tw_1342 : (Jvm.Cond.methodLink "RockHeatModel" (157 : Nat) ({ cls := "RockHeatModel", name := "in", desc := "(JJJ)Z" } : Jvm.MethodName)) ∈ lw_g := List.mem_filter.mpr ⟨lw_c6 _ (List.mem_of_getElem? (i := 83) (by rfl)), rfl⟩
set_option maxRecDepth 20000 in
theorem tw_1343 : (Jvm.Cond.static ({ cls := "RockHeatModel", name := "in", desc := "(JJJ)Z" } : Jvm.MethodName)) ∈ lw_g := List.mem_filter.mpr ⟨lw_c6 _ (List.mem_of_getElem? (i := 84) (by rfl)), rfl⟩
set_option maxRecDepth 20000 in
theorem tw_1344 : (Jvm.Cond.code ({ cls := "RockHeatModel", name := "in", desc := "(JJJ)Z" } : Jvm.MethodName) prog_14_method_3_code (6 : Nat) (Option.some Jvm.ClassFile.FieldType.boolean)) ∈ lw_g := List.mem_filter.mpr ⟨lw_c6 _ (List.mem_of_getElem? (i := 85) (by rfl)), rfl⟩
set_option maxRecDepth 20000 in
theorem tw_1345 : (Jvm.Cond.methodLink "RockHeatLaw" (31 : Nat) ({ cls := "RockHeatModel", name := "share", desc := "(I)I" } : Jvm.MethodName)) ∈ lw_g := List.mem_filter.mpr ⟨lw_c6 _ (List.mem_of_getElem? (i := 86) (by rfl)), rfl⟩
set_option maxRecDepth 20000 in
theorem tw_1346 : (Jvm.Cond.instanceMethod ({ cls := "RockHeatModel", name := "share", desc := "(I)I" } : Jvm.MethodName)) ∈ lw_g := List.mem_filter.mpr ⟨lw_c6 _ (List.mem_of_getElem? (i := 87) (by rfl)), rfl⟩
set_option maxRecDepth 20000 in
theorem tw_1347 : (Jvm.Cond.selects "RockHeatModel" ({ cls := "RockHeatModel", name := "share", desc := "(I)I" } : Jvm.MethodName) ({ cls := "RockHeatModel", name := "share", desc := "(I)I" } : Jvm.MethodName)) ∈ lw_g := List.mem_filter.mpr ⟨lw_c6 _ (List.mem_of_getElem? (i := 88) (by rfl)), rfl⟩
set_option maxRecDepth 20000 in
theorem tw_1348 : (Jvm.Cond.code ({ cls := "RockHeatModel", name := "share", desc := "(I)I" } : Jvm.MethodName) prog_14_method_14_code (3 : Nat) (Option.some Jvm.ClassFile.FieldType.int)) ∈ lw_g := List.mem_filter.mpr ⟨lw_c6 _ (List.mem_of_getElem? (i := 89) (by rfl)), rfl⟩
set_option maxRecDepth 20000 in
theorem tw_1349 : (Jvm.Cond.methodLink "RockHeatLaw" (36 : Nat) ({ cls := "RockHeatModel", name := "open", desc := "(IZ)I" } : Jvm.MethodName)) ∈ lw_g := List.mem_filter.mpr ⟨lw_c6 _ (List.mem_of_getElem? (i := 90) (by rfl)), rfl⟩
set_option maxRecDepth 20000 in
theorem tw_1350 : (Jvm.Cond.instanceMethod ({ cls := "RockHeatModel", name := "open", desc := "(IZ)I" } : Jvm.MethodName)) ∈ lw_g := List.mem_filter.mpr ⟨lw_c6 _ (List.mem_of_getElem? (i := 91) (by rfl)), rfl⟩
set_option maxRecDepth 20000 in
theorem tw_1351 : (Jvm.Cond.selects "RockHeatModel" ({ cls := "RockHeatModel", name := "open", desc := "(IZ)I" } : Jvm.MethodName) ({ cls := "RockHeatModel", name := "open", desc := "(IZ)I" } : Jvm.MethodName)) ∈ lw_g := List.mem_filter.mpr ⟨lw_c6 _ (List.mem_of_getElem? (i := 92) (by rfl)), rfl⟩
set_option maxRecDepth 20000 in
theorem tw_1352 : (Jvm.Cond.code ({ cls := "RockHeatModel", name := "open", desc := "(IZ)I" } : Jvm.MethodName) prog_14_method_15_code (3 : Nat) (Option.some Jvm.ClassFile.FieldType.int)) ∈ lw_g := List.mem_filter.mpr ⟨lw_c6 _ (List.mem_of_getElem? (i := 93) (by rfl)), rfl⟩
set_option maxRecDepth 20000 in
theorem tw_1353 : (Jvm.Cond.methodLink "RockHeatLaw" (41 : Nat) ({ cls := "RockHeatModel", name := "heat", desc := "(II)J" } : Jvm.MethodName)) ∈ lw_g := List.mem_filter.mpr ⟨lw_c6 _ (List.mem_of_getElem? (i := 94) (by rfl)), rfl⟩
set_option maxRecDepth 20000 in
theorem tw_1354 : (Jvm.Cond.instanceMethod ({ cls := "RockHeatModel", name := "heat", desc := "(II)J" } : Jvm.MethodName)) ∈ lw_g := List.mem_filter.mpr ⟨lw_c6 _ (List.mem_of_getElem? (i := 95) (by rfl)), rfl⟩
set_option maxRecDepth 20000 in
theorem tw_1355 : (Jvm.Cond.selects "RockHeatModel" ({ cls := "RockHeatModel", name := "heat", desc := "(II)J" } : Jvm.MethodName) ({ cls := "RockHeatModel", name := "heat", desc := "(II)J" } : Jvm.MethodName)) ∈ lw_g := List.mem_filter.mpr ⟨lw_c6 _ (List.mem_of_getElem? (i := 96) (by rfl)), rfl⟩
set_option maxRecDepth 20000 in
theorem tw_1356 : (Jvm.Cond.code ({ cls := "RockHeatModel", name := "heat", desc := "(II)J" } : Jvm.MethodName) prog_14_method_17_code (3 : Nat) (Option.some Jvm.ClassFile.FieldType.long)) ∈ lw_g := List.mem_filter.mpr ⟨lw_c6 _ (List.mem_of_getElem? (i := 97) (by rfl)), rfl⟩
set_option maxRecDepth 20000 in
theorem tw_1357 : (Jvm.Cond.methodLink "RockHeatModel" (184 : Nat) ({ cls := "RockHeatModel", name := "isRing", desc := "(II)Z" } : Jvm.MethodName)) ∈ lw_g := List.mem_filter.mpr ⟨lw_c6 _ (List.mem_of_getElem? (i := 98) (by rfl)), rfl⟩
set_option maxRecDepth 20000 in
theorem tw_1359 : (Jvm.Cond.instanceMethod ({ cls := "RockHeatModel", name := "isRing", desc := "(II)Z" } : Jvm.MethodName)) ∈ lw_g := List.mem_filter.mpr ⟨lw_c6 _ (List.mem_of_getElem? (i := 100) (by rfl)), rfl⟩
set_option maxRecDepth 20000 in
theorem tw_1360 : (Jvm.Cond.code ({ cls := "RockHeatModel", name := "isRing", desc := "(II)Z" } : Jvm.MethodName) prog_14_method_16_code (3 : Nat) (Option.some Jvm.ClassFile.FieldType.boolean)) ∈ lw_g := List.mem_filter.mpr ⟨lw_c6 _ (List.mem_of_getElem? (i := 101) (by rfl)), rfl⟩
set_option maxRecDepth 20000 in
theorem tw_1361 : (Jvm.Cond.methodLink "RockHeatModel" (188 : Nat) ({ cls := "RockHeatModel", name := "refuseLong", desc := "(I)J" } : Jvm.MethodName)) ∈ lw_g := List.mem_filter.mpr ⟨lw_c6 _ (List.mem_of_getElem? (i := 102) (by rfl)), rfl⟩
set_option maxRecDepth 20000 in
theorem tw_1363 : (Jvm.Cond.instanceMethod ({ cls := "RockHeatModel", name := "refuseLong", desc := "(I)J" } : Jvm.MethodName)) ∈ lw_g := List.mem_filter.mpr ⟨lw_c6 _ (List.mem_of_getElem? (i := 104) (by rfl)), rfl⟩
set_option maxRecDepth 20000 in
theorem tw_1364 : (Jvm.Cond.code ({ cls := "RockHeatModel", name := "refuseLong", desc := "(I)J" } : Jvm.MethodName) prog_14_method_5_code (2 : Nat) (Option.some Jvm.ClassFile.FieldType.long)) ∈ lw_g := List.mem_filter.mpr ⟨lw_c6 _ (List.mem_of_getElem? (i := 105) (by rfl)), rfl⟩
set_option maxRecDepth 20000 in
theorem tw_1365 : (Jvm.Cond.constantLong "RockHeatModel" (148 : Nat) (4000000000000000000 : Int64)) ∈ lw_g := List.mem_filter.mpr ⟨lw_c6 _ (List.mem_of_getElem? (i := 106) (by rfl)), rfl⟩
set_option maxRecDepth 20000 in
theorem tw_1366 : (Jvm.Cond.methodLink "RockHeatLaw" (45 : Nat) ({ cls := "RockHeatModel", name := "warmth", desc := "(II)J" } : Jvm.MethodName)) ∈ lw_g := List.mem_filter.mpr ⟨lw_c6 _ (List.mem_of_getElem? (i := 107) (by rfl)), rfl⟩
set_option maxRecDepth 20000 in
theorem tw_1367 : (Jvm.Cond.instanceMethod ({ cls := "RockHeatModel", name := "warmth", desc := "(II)J" } : Jvm.MethodName)) ∈ lw_g := List.mem_filter.mpr ⟨lw_c6 _ (List.mem_of_getElem? (i := 108) (by rfl)), rfl⟩
set_option maxRecDepth 20000 in
theorem tw_1368 : (Jvm.Cond.selects "RockHeatModel" ({ cls := "RockHeatModel", name := "warmth", desc := "(II)J" } : Jvm.MethodName) ({ cls := "RockHeatModel", name := "warmth", desc := "(II)J" } : Jvm.MethodName)) ∈ lw_g := List.mem_filter.mpr ⟨lw_c6 _ (List.mem_of_getElem? (i := 109) (by rfl)), rfl⟩
set_option maxRecDepth 20000 in
theorem tw_1369 : (Jvm.Cond.code ({ cls := "RockHeatModel", name := "warmth", desc := "(II)J" } : Jvm.MethodName) prog_14_method_18_code (3 : Nat) (Option.some Jvm.ClassFile.FieldType.long)) ∈ lw_g := List.mem_filter.mpr ⟨lw_c6 _ (List.mem_of_getElem? (i := 110) (by rfl)), rfl⟩
set_option maxRecDepth 20000 in
theorem tw_1370 : (Jvm.Cond.methodLink "RockHeatLaw" (49 : Nat) ({ cls := "RockHeatModel", name := "frozen", desc := "(I)I" } : Jvm.MethodName)) ∈ lw_g := List.mem_filter.mpr ⟨lw_c6 _ (List.mem_of_getElem? (i := 111) (by rfl)), rfl⟩
set_option maxRecDepth 20000 in
theorem tw_1371 : (Jvm.Cond.instanceMethod ({ cls := "RockHeatModel", name := "frozen", desc := "(I)I" } : Jvm.MethodName)) ∈ lw_g := List.mem_filter.mpr ⟨lw_c6 _ (List.mem_of_getElem? (i := 112) (by rfl)), rfl⟩
set_option maxRecDepth 20000 in
theorem tw_1372 : (Jvm.Cond.selects "RockHeatModel" ({ cls := "RockHeatModel", name := "frozen", desc := "(I)I" } : Jvm.MethodName) ({ cls := "RockHeatModel", name := "frozen", desc := "(I)I" } : Jvm.MethodName)) ∈ lw_g := List.mem_filter.mpr ⟨lw_c6 _ (List.mem_of_getElem? (i := 113) (by rfl)), rfl⟩
set_option maxRecDepth 20000 in
theorem tw_1373 : (Jvm.Cond.code ({ cls := "RockHeatModel", name := "frozen", desc := "(I)I" } : Jvm.MethodName) prog_14_method_19_code (2 : Nat) (Option.some Jvm.ClassFile.FieldType.int)) ∈ lw_g := List.mem_filter.mpr ⟨lw_c6 _ (List.mem_of_getElem? (i := 114) (by rfl)), rfl⟩
set_option maxRecDepth 20000 in
theorem tw_1374 : (Jvm.Cond.methodLink "RockHeatLaw" (53 : Nat) ({ cls := "RockHeatModel", name := "house", desc := "(III)I" } : Jvm.MethodName)) ∈ lw_g := List.mem_filter.mpr ⟨lw_c6 _ (List.mem_of_getElem? (i := 115) (by rfl)), rfl⟩
set_option maxRecDepth 20000 in
theorem tw_1375 : (Jvm.Cond.instanceMethod ({ cls := "RockHeatModel", name := "house", desc := "(III)I" } : Jvm.MethodName)) ∈ lw_g := List.mem_filter.mpr ⟨lw_c6 _ (List.mem_of_getElem? (i := 116) (by rfl)), rfl⟩
set_option maxRecDepth 20000 in
theorem tw_1376 : (Jvm.Cond.selects "RockHeatModel" ({ cls := "RockHeatModel", name := "house", desc := "(III)I" } : Jvm.MethodName) ({ cls := "RockHeatModel", name := "house", desc := "(III)I" } : Jvm.MethodName)) ∈ lw_g := List.mem_filter.mpr ⟨lw_c6 _ (List.mem_of_getElem? (i := 117) (by rfl)), rfl⟩
set_option maxRecDepth 20000 in
theorem tw_1377 : (Jvm.Cond.code ({ cls := "RockHeatModel", name := "house", desc := "(III)I" } : Jvm.MethodName) prog_14_method_20_code (4 : Nat) (Option.some Jvm.ClassFile.FieldType.int)) ∈ lw_g := List.mem_filter.mpr ⟨lw_c6 _ (List.mem_of_getElem? (i := 118) (by rfl)), rfl⟩
set_option maxRecDepth 20000 in
theorem tw_1378 : (Jvm.Cond.constant "RockHeatModel" (195 : Nat) (16777215 : Int32)) ∈ lw_g := List.mem_filter.mpr ⟨lw_c6 _ (List.mem_of_getElem? (i := 119) (by rfl)), rfl⟩
set_option maxRecDepth 20000 in
theorem tw_1379 : (Jvm.Cond.methodLink "RockHeatLaw" (58 : Nat) ({ cls := "RockHeatModel", name := "join", desc := "(II)I" } : Jvm.MethodName)) ∈ lw_g := List.mem_filter.mpr ⟨lw_c6 _ (List.mem_of_getElem? (i := 120) (by rfl)), rfl⟩
set_option maxRecDepth 20000 in
theorem tw_1380 : (Jvm.Cond.instanceMethod ({ cls := "RockHeatModel", name := "join", desc := "(II)I" } : Jvm.MethodName)) ∈ lw_g := List.mem_filter.mpr ⟨lw_c6 _ (List.mem_of_getElem? (i := 121) (by rfl)), rfl⟩
set_option maxRecDepth 20000 in
theorem tw_1381 : (Jvm.Cond.selects "RockHeatModel" ({ cls := "RockHeatModel", name := "join", desc := "(II)I" } : Jvm.MethodName) ({ cls := "RockHeatModel", name := "join", desc := "(II)I" } : Jvm.MethodName)) ∈ lw_g := List.mem_filter.mpr ⟨lw_c6 _ (List.mem_of_getElem? (i := 122) (by rfl)), rfl⟩
set_option maxRecDepth 20000 in
theorem tw_1382 : (Jvm.Cond.code ({ cls := "RockHeatModel", name := "join", desc := "(II)I" } : Jvm.MethodName) prog_14_method_21_code (3 : Nat) (Option.some Jvm.ClassFile.FieldType.int)) ∈ lw_g := List.mem_filter.mpr ⟨lw_c6 _ (List.mem_of_getElem? (i := 123) (by rfl)), rfl⟩
set_option maxRecDepth 20000 in
theorem tw_1383 : (Jvm.Cond.methodLink "RockHeatLaw" (62 : Nat) ({ cls := "RockHeatModel", name := "cold", desc := "(II)I" } : Jvm.MethodName)) ∈ lw_g := List.mem_filter.mpr ⟨lw_c6 _ (List.mem_of_getElem? (i := 124) (by rfl)), rfl⟩
set_option maxRecDepth 20000 in
theorem tw_1384 : (Jvm.Cond.instanceMethod ({ cls := "RockHeatModel", name := "cold", desc := "(II)I" } : Jvm.MethodName)) ∈ lw_g := List.mem_filter.mpr ⟨lw_c6 _ (List.mem_of_getElem? (i := 125) (by rfl)), rfl⟩
set_option maxRecDepth 20000 in
theorem tw_1385 : (Jvm.Cond.selects "RockHeatModel" ({ cls := "RockHeatModel", name := "cold", desc := "(II)I" } : Jvm.MethodName) ({ cls := "RockHeatModel", name := "cold", desc := "(II)I" } : Jvm.MethodName)) ∈ lw_g := List.mem_filter.mpr ⟨lw_c6 _ (List.mem_of_getElem? (i := 126) (by rfl)), rfl⟩
set_option maxRecDepth 20000 in
theorem tw_1386 : (Jvm.Cond.code ({ cls := "RockHeatModel", name := "cold", desc := "(II)I" } : Jvm.MethodName) prog_14_method_22_code (4 : Nat) (Option.some Jvm.ClassFile.FieldType.int)) ∈ lw_g := List.mem_filter.mpr ⟨lw_c6 _ (List.mem_of_getElem? (i := 127) (by rfl)), rfl⟩
set_option maxRecDepth 20000 in
theorem tw_1387 : (Jvm.Cond.constant "RockHeatModel" (199 : Nat) (1000000000 : Int32)) ∈ lw_g := List.mem_filter.mpr ⟨lw_c6 _ (List.mem_of_getElem? (i := 128) (by rfl)), rfl⟩
set_option maxRecDepth 20000 in
theorem tw_1388 : (Jvm.Cond.methodLink "RockHeatLaw" (67 : Nat) ({ cls := "RockHeatModel", name := "need", desc := "(I)J" } : Jvm.MethodName)) ∈ lw_g := List.mem_filter.mpr ⟨lw_c6 _ (List.mem_of_getElem? (i := 129) (by rfl)), rfl⟩
set_option maxRecDepth 20000 in
theorem tw_1389 : (Jvm.Cond.instanceMethod ({ cls := "RockHeatModel", name := "need", desc := "(I)J" } : Jvm.MethodName)) ∈ lw_g := List.mem_filter.mpr ⟨lw_c6 _ (List.mem_of_getElem? (i := 130) (by rfl)), rfl⟩
set_option maxRecDepth 20000 in
theorem tw_1390 : (Jvm.Cond.selects "RockHeatModel" ({ cls := "RockHeatModel", name := "need", desc := "(I)J" } : Jvm.MethodName) ({ cls := "RockHeatModel", name := "need", desc := "(I)J" } : Jvm.MethodName)) ∈ lw_g := List.mem_filter.mpr ⟨lw_c6 _ (List.mem_of_getElem? (i := 131) (by rfl)), rfl⟩
set_option maxRecDepth 20000 in
theorem tw_1391 : (Jvm.Cond.code ({ cls := "RockHeatModel", name := "need", desc := "(I)J" } : Jvm.MethodName) prog_14_method_25_code (2 : Nat) (Option.some Jvm.ClassFile.FieldType.long)) ∈ lw_g := List.mem_filter.mpr ⟨lw_c6 _ (List.mem_of_getElem? (i := 132) (by rfl)), rfl⟩
set_option maxRecDepth 20000 in
theorem tw_1392 : (Jvm.Cond.methodLink "RockHeatLaw" (71 : Nat) ({ cls := "RockHeatModel", name := "point", desc := "(II)I" } : Jvm.MethodName)) ∈ lw_g := List.mem_filter.mpr ⟨lw_c6 _ (List.mem_of_getElem? (i := 133) (by rfl)), rfl⟩
set_option maxRecDepth 20000 in
theorem tw_1393 : (Jvm.Cond.instanceMethod ({ cls := "RockHeatModel", name := "point", desc := "(II)I" } : Jvm.MethodName)) ∈ lw_g := List.mem_filter.mpr ⟨lw_c6 _ (List.mem_of_getElem? (i := 134) (by rfl)), rfl⟩
set_option maxRecDepth 20000 in
theorem tw_1394 : (Jvm.Cond.selects "RockHeatModel" ({ cls := "RockHeatModel", name := "point", desc := "(II)I" } : Jvm.MethodName) ({ cls := "RockHeatModel", name := "point", desc := "(II)I" } : Jvm.MethodName)) ∈ lw_g := List.mem_filter.mpr ⟨lw_c6 _ (List.mem_of_getElem? (i := 135) (by rfl)), rfl⟩
set_option maxRecDepth 20000 in
theorem tw_1395 : (Jvm.Cond.code ({ cls := "RockHeatModel", name := "point", desc := "(II)I" } : Jvm.MethodName) prog_14_method_26_code (3 : Nat) (Option.some Jvm.ClassFile.FieldType.int)) ∈ lw_g := List.mem_filter.mpr ⟨lw_c6 _ (List.mem_of_getElem? (i := 136) (by rfl)), rfl⟩
set_option maxRecDepth 20000 in
theorem tw_1396 : (Jvm.Cond.methodLink "RockHeatLaw" (76 : Nat) ({ cls := "RockHeatModel", name := "untable", desc := "()I" } : Jvm.MethodName)) ∈ lw_g := List.mem_filter.mpr ⟨lw_c6 _ (List.mem_of_getElem? (i := 137) (by rfl)), rfl⟩
set_option maxRecDepth 20000 in
theorem tw_1397 : (Jvm.Cond.instanceMethod ({ cls := "RockHeatModel", name := "untable", desc := "()I" } : Jvm.MethodName)) ∈ lw_g := List.mem_filter.mpr ⟨lw_c6 _ (List.mem_of_getElem? (i := 138) (by rfl)), rfl⟩
set_option maxRecDepth 20000 in
theorem tw_1398 : (Jvm.Cond.selects "RockHeatModel" ({ cls := "RockHeatModel", name := "untable", desc := "()I" } : Jvm.MethodName) ({ cls := "RockHeatModel", name := "untable", desc := "()I" } : Jvm.MethodName)) ∈ lw_g := List.mem_filter.mpr ⟨lw_c6 _ (List.mem_of_getElem? (i := 139) (by rfl)), rfl⟩
set_option maxRecDepth 20000 in
theorem tw_1399 : (Jvm.Cond.code ({ cls := "RockHeatModel", name := "untable", desc := "()I" } : Jvm.MethodName) prog_14_method_27_code (2 : Nat) (Option.some Jvm.ClassFile.FieldType.int)) ∈ lw_g := List.mem_filter.mpr ⟨lw_c6 _ (List.mem_of_getElem? (i := 140) (by rfl)), rfl⟩
set_option maxRecDepth 20000 in
theorem tw_1400 : (Jvm.Cond.methodLink "RockHeatLaw" (80 : Nat) ({ cls := "RockHeatModel", name := "lift", desc := "(I)I" } : Jvm.MethodName)) ∈ lw_g := List.mem_filter.mpr ⟨lw_c6 _ (List.mem_of_getElem? (i := 141) (by rfl)), rfl⟩
set_option maxRecDepth 20000 in
theorem tw_1401 : (Jvm.Cond.instanceMethod ({ cls := "RockHeatModel", name := "lift", desc := "(I)I" } : Jvm.MethodName)) ∈ lw_g := List.mem_filter.mpr ⟨lw_c6 _ (List.mem_of_getElem? (i := 142) (by rfl)), rfl⟩
set_option maxRecDepth 20000 in
theorem tw_1402 : (Jvm.Cond.selects "RockHeatModel" ({ cls := "RockHeatModel", name := "lift", desc := "(I)I" } : Jvm.MethodName) ({ cls := "RockHeatModel", name := "lift", desc := "(I)I" } : Jvm.MethodName)) ∈ lw_g := List.mem_filter.mpr ⟨lw_c6 _ (List.mem_of_getElem? (i := 143) (by rfl)), rfl⟩
set_option maxRecDepth 20000 in
theorem tw_1403 : (Jvm.Cond.code ({ cls := "RockHeatModel", name := "lift", desc := "(I)I" } : Jvm.MethodName) prog_14_method_29_code (2 : Nat) (Option.some Jvm.ClassFile.FieldType.int)) ∈ lw_g := List.mem_filter.mpr ⟨lw_c6 _ (List.mem_of_getElem? (i := 144) (by rfl)), rfl⟩
set_option maxRecDepth 20000 in
theorem tw_1404 : (Jvm.Cond.constant "RockHeatModel" (213 : Nat) (-100000 : Int32)) ∈ lw_g := List.mem_filter.mpr ⟨lw_c6 _ (List.mem_of_getElem? (i := 145) (by rfl)), rfl⟩
set_option maxRecDepth 20000 in
theorem tw_1405 : (Jvm.Cond.constant "RockHeatModel" (214 : Nat) (200000 : Int32)) ∈ lw_g := List.mem_filter.mpr ⟨lw_c6 _ (List.mem_of_getElem? (i := 146) (by rfl)), rfl⟩
set_option maxRecDepth 20000 in
theorem tw_1406 : (Jvm.Cond.methodLink "RockHeatLaw" (84 : Nat) ({ cls := "RockHeatModel", name := "price", desc := "(II)I" } : Jvm.MethodName)) ∈ lw_g := List.mem_filter.mpr ⟨lw_c6 _ (List.mem_of_getElem? (i := 147) (by rfl)), rfl⟩
set_option maxRecDepth 20000 in
theorem tw_1407 : (Jvm.Cond.instanceMethod ({ cls := "RockHeatModel", name := "price", desc := "(II)I" } : Jvm.MethodName)) ∈ lw_g := List.mem_filter.mpr ⟨lw_c6 _ (List.mem_of_getElem? (i := 148) (by rfl)), rfl⟩
set_option maxRecDepth 20000 in
theorem tw_1408 : (Jvm.Cond.selects "RockHeatModel" ({ cls := "RockHeatModel", name := "price", desc := "(II)I" } : Jvm.MethodName) ({ cls := "RockHeatModel", name := "price", desc := "(II)I" } : Jvm.MethodName)) ∈ lw_g := List.mem_filter.mpr ⟨lw_c6 _ (List.mem_of_getElem? (i := 149) (by rfl)), rfl⟩
set_option maxRecDepth 20000 in
theorem tw_1409 : (Jvm.Cond.code ({ cls := "RockHeatModel", name := "price", desc := "(II)I" } : Jvm.MethodName) prog_14_method_31_code (5 : Nat) (Option.some Jvm.ClassFile.FieldType.int)) ∈ lw_g := List.mem_filter.mpr ⟨lw_c6 _ (List.mem_of_getElem? (i := 150) (by rfl)), rfl⟩
set_option maxRecDepth 20000 in
theorem tw_1410 : (Jvm.Cond.methodLink "RockHeatModel" (219 : Nat) ({ cls := "RockHeatModel", name := "barred", desc := "(III)I" } : Jvm.MethodName)) ∈ lw_g := List.mem_filter.mpr ⟨lw_c6 _ (List.mem_of_getElem? (i := 151) (by rfl)), rfl⟩
set_option maxRecDepth 20000 in
theorem tw_1412 : (Jvm.Cond.instanceMethod ({ cls := "RockHeatModel", name := "barred", desc := "(III)I" } : Jvm.MethodName)) ∈ lw_g := List.mem_filter.mpr ⟨lw_c6 _ (List.mem_of_getElem? (i := 153) (by rfl)), rfl⟩
set_option maxRecDepth 20000 in
theorem tw_1413 : (Jvm.Cond.code ({ cls := "RockHeatModel", name := "barred", desc := "(III)I" } : Jvm.MethodName) prog_14_method_30_code (4 : Nat) (Option.some Jvm.ClassFile.FieldType.int)) ∈ lw_g := List.mem_filter.mpr ⟨lw_c6 _ (List.mem_of_getElem? (i := 154) (by rfl)), rfl⟩
set_option maxRecDepth 20000 in
theorem tw_1414 : (Jvm.Cond.methodLink "RockHeatLaw" (88 : Nat) ({ cls := "RockHeatModel", name := "sun", desc := "(II)I" } : Jvm.MethodName)) ∈ lw_g := List.mem_filter.mpr ⟨lw_c6 _ (List.mem_of_getElem? (i := 155) (by rfl)), rfl⟩
set_option maxRecDepth 20000 in
theorem tw_1415 : (Jvm.Cond.instanceMethod ({ cls := "RockHeatModel", name := "sun", desc := "(II)I" } : Jvm.MethodName)) ∈ lw_g := List.mem_filter.mpr ⟨lw_c6 _ (List.mem_of_getElem? (i := 156) (by rfl)), rfl⟩
set_option maxRecDepth 20000 in
theorem tw_1416 : (Jvm.Cond.selects "RockHeatModel" ({ cls := "RockHeatModel", name := "sun", desc := "(II)I" } : Jvm.MethodName) ({ cls := "RockHeatModel", name := "sun", desc := "(II)I" } : Jvm.MethodName)) ∈ lw_g := List.mem_filter.mpr ⟨lw_c6 _ (List.mem_of_getElem? (i := 157) (by rfl)), rfl⟩
set_option maxRecDepth 20000 in
theorem tw_1417 : (Jvm.Cond.code ({ cls := "RockHeatModel", name := "sun", desc := "(II)I" } : Jvm.MethodName) prog_14_method_32_code (5 : Nat) (Option.some Jvm.ClassFile.FieldType.int)) ∈ lw_g := List.mem_filter.mpr ⟨lw_c6 _ (List.mem_of_getElem? (i := 158) (by rfl)), rfl⟩
set_option maxRecDepth 20000 in
theorem tw_1418 : (Jvm.Cond.constant "RockHeatModel" (223 : Nat) (99999 : Int32)) ∈ lw_g := List.mem_filter.mpr ⟨lw_c6 _ (List.mem_of_getElem? (i := 159) (by rfl)), rfl⟩
set_option maxRecDepth 20000 in
theorem tw_1419 : (Jvm.Cond.methodLink "RockHeatLaw" (95 : Nat) ({ cls := "RockHeatModel", name := "feed", desc := "(IJ)I" } : Jvm.MethodName)) ∈ lw_g := List.mem_filter.mpr ⟨lw_c6 _ (List.mem_of_getElem? (i := 160) (by rfl)), rfl⟩
set_option maxRecDepth 20000 in
theorem tw_1420 : (Jvm.Cond.instanceMethod ({ cls := "RockHeatModel", name := "feed", desc := "(IJ)I" } : Jvm.MethodName)) ∈ lw_g := List.mem_filter.mpr ⟨lw_c6 _ (List.mem_of_getElem? (i := 161) (by rfl)), rfl⟩
set_option maxRecDepth 20000 in
theorem tw_1421 : (Jvm.Cond.selects "RockHeatModel" ({ cls := "RockHeatModel", name := "feed", desc := "(IJ)I" } : Jvm.MethodName) ({ cls := "RockHeatModel", name := "feed", desc := "(IJ)I" } : Jvm.MethodName)) ∈ lw_g := List.mem_filter.mpr ⟨lw_c6 _ (List.mem_of_getElem? (i := 162) (by rfl)), rfl⟩
set_option maxRecDepth 20000 in
theorem tw_1422 : (Jvm.Cond.code ({ cls := "RockHeatModel", name := "feed", desc := "(IJ)I" } : Jvm.MethodName) prog_14_method_33_code (5 : Nat) (Option.some Jvm.ClassFile.FieldType.int)) ∈ lw_g := List.mem_filter.mpr ⟨lw_c6 _ (List.mem_of_getElem? (i := 163) (by rfl)), rfl⟩
set_option maxRecDepth 20000 in
theorem tw_1423 : (Jvm.Cond.constantLong "RockHeatModel" (227 : Nat) (255 : Int64)) ∈ lw_g := List.mem_filter.mpr ⟨lw_c6 _ (List.mem_of_getElem? (i := 164) (by rfl)), rfl⟩
set_option maxRecDepth 20000 in
theorem tw_1424 : (Jvm.Cond.methodLink "RockHeatLaw" (99 : Nat) ({ cls := "RockHeatModel", name := "rule", desc := "(II)I" } : Jvm.MethodName)) ∈ lw_g := List.mem_filter.mpr ⟨lw_c6 _ (List.mem_of_getElem? (i := 165) (by rfl)), rfl⟩
set_option maxRecDepth 20000 in
theorem tw_1425 : (Jvm.Cond.instanceMethod ({ cls := "RockHeatModel", name := "rule", desc := "(II)I" } : Jvm.MethodName)) ∈ lw_g := List.mem_filter.mpr ⟨lw_c6 _ (List.mem_of_getElem? (i := 166) (by rfl)), rfl⟩
set_option maxRecDepth 20000 in
theorem tw_1426 : (Jvm.Cond.selects "RockHeatModel" ({ cls := "RockHeatModel", name := "rule", desc := "(II)I" } : Jvm.MethodName) ({ cls := "RockHeatModel", name := "rule", desc := "(II)I" } : Jvm.MethodName)) ∈ lw_g := List.mem_filter.mpr ⟨lw_c6 _ (List.mem_of_getElem? (i := 167) (by rfl)), rfl⟩
set_option maxRecDepth 20000 in
theorem tw_1427 : (Jvm.Cond.code ({ cls := "RockHeatModel", name := "rule", desc := "(II)I" } : Jvm.MethodName) prog_14_method_40_code (4 : Nat) (Option.some Jvm.ClassFile.FieldType.int)) ∈ lw_g := List.mem_filter.mpr ⟨lw_c6 _ (List.mem_of_getElem? (i := 168) (by rfl)), rfl⟩
set_option maxRecDepth 20000 in
theorem tw_1428 : (Jvm.Cond.methodLink "RockHeatModel" (260 : Nat) ({ cls := "RockHeatModel", name := "sum", desc := "(I)V" } : Jvm.MethodName)) ∈ lw_g := List.mem_filter.mpr ⟨lw_c6 _ (List.mem_of_getElem? (i := 169) (by rfl)), rfl⟩
set_option maxRecDepth 20000 in
theorem tw_1430 : (Jvm.Cond.instanceMethod ({ cls := "RockHeatModel", name := "sum", desc := "(I)V" } : Jvm.MethodName)) ∈ lw_g := List.mem_filter.mpr ⟨lw_c6 _ (List.mem_of_getElem? (i := 171) (by rfl)), rfl⟩
set_option maxRecDepth 20000 in
theorem tw_1431 : (Jvm.Cond.code ({ cls := "RockHeatModel", name := "sum", desc := "(I)V" } : Jvm.MethodName) prog_14_method_36_code (3 : Nat) (Option.none : Option Jvm.ClassFile.FieldType)) ∈ lw_g := List.mem_filter.mpr ⟨lw_c6 _ (List.mem_of_getElem? (i := 172) (by rfl)), rfl⟩
set_option maxRecDepth 20000 in
theorem tw_1432 : (Jvm.Cond.methodLink "RockHeatModel" (238 : Nat) ({ cls := "RockHeatModel", name := "term", desc := "(I)V" } : Jvm.MethodName)) ∈ lw_g := List.mem_filter.mpr ⟨lw_c6 _ (List.mem_of_getElem? (i := 173) (by rfl)), rfl⟩
set_option maxRecDepth 20000 in
theorem tw_1434 : (Jvm.Cond.instanceMethod ({ cls := "RockHeatModel", name := "term", desc := "(I)V" } : Jvm.MethodName)) ∈ lw_g := List.mem_filter.mpr ⟨lw_c6 _ (List.mem_of_getElem? (i := 175) (by rfl)), rfl⟩
set_option maxRecDepth 20000 in
theorem tw_1435 : (Jvm.Cond.code ({ cls := "RockHeatModel", name := "term", desc := "(I)V" } : Jvm.MethodName) prog_14_method_37_code (3 : Nat) (Option.none : Option Jvm.ClassFile.FieldType)) ∈ lw_g := List.mem_filter.mpr ⟨lw_c6 _ (List.mem_of_getElem? (i := 176) (by rfl)), rfl⟩
set_option maxRecDepth 20000 in
theorem tw_1436 : (Jvm.Cond.methodLink "RockHeatModel" (253 : Nat) ({ cls := "RockHeatModel", name := "unit", desc := "(I)V" } : Jvm.MethodName)) ∈ lw_g := List.mem_filter.mpr ⟨lw_c6 _ (List.mem_of_getElem? (i := 177) (by rfl)), rfl⟩
set_option maxRecDepth 20000 in
theorem tw_1438 : (Jvm.Cond.instanceMethod ({ cls := "RockHeatModel", name := "unit", desc := "(I)V" } : Jvm.MethodName)) ∈ lw_g := List.mem_filter.mpr ⟨lw_c6 _ (List.mem_of_getElem? (i := 179) (by rfl)), rfl⟩
set_option maxRecDepth 20000 in
theorem tw_1439 : (Jvm.Cond.code ({ cls := "RockHeatModel", name := "unit", desc := "(I)V" } : Jvm.MethodName) prog_14_method_38_code (5 : Nat) (Option.none : Option Jvm.ClassFile.FieldType)) ∈ lw_g := List.mem_filter.mpr ⟨lw_c6 _ (List.mem_of_getElem? (i := 180) (by rfl)), rfl⟩
set_option maxRecDepth 20000 in
theorem tw_1440 : (Jvm.Cond.methodLink "RockHeatModel" (246 : Nat) ({ cls := "RockHeatModel", name := "here", desc := "()I" } : Jvm.MethodName)) ∈ lw_g := List.mem_filter.mpr ⟨lw_c6 _ (List.mem_of_getElem? (i := 181) (by rfl)), rfl⟩
set_option maxRecDepth 20000 in
theorem tw_1442 : (Jvm.Cond.instanceMethod ({ cls := "RockHeatModel", name := "here", desc := "()I" } : Jvm.MethodName)) ∈ lw_g := List.mem_filter.mpr ⟨lw_c6 _ (List.mem_of_getElem? (i := 183) (by rfl)), rfl⟩
set_option maxRecDepth 20000 in
theorem tw_1443 : (Jvm.Cond.code ({ cls := "RockHeatModel", name := "here", desc := "()I" } : Jvm.MethodName) prog_14_method_34_code (1 : Nat) (Option.some Jvm.ClassFile.FieldType.int)) ∈ lw_g := List.mem_filter.mpr ⟨lw_c6 _ (List.mem_of_getElem? (i := 184) (by rfl)), rfl⟩
set_option maxRecDepth 20000 in
theorem tw_1444 : (Jvm.Cond.constantLong "RockHeatModel" (256 : Nat) (48 : Int64)) ∈ lw_g := List.mem_filter.mpr ⟨lw_c6 _ (List.mem_of_getElem? (i := 185) (by rfl)), rfl⟩
set_option maxRecDepth 20000 in
theorem tw_1445 : (Jvm.Cond.constantLong "RockHeatModel" (258 : Nat) (57 : Int64)) ∈ lw_g := List.mem_filter.mpr ⟨lw_c6 _ (List.mem_of_getElem? (i := 186) (by rfl)), rfl⟩
set_option maxRecDepth 20000 in
theorem tw_1446 : (Jvm.Cond.methodLink "RockHeatModel" (250 : Nat) ({ cls := "RockHeatModel", name := "puts", desc := "(I)V" } : Jvm.MethodName)) ∈ lw_g := List.mem_filter.mpr ⟨lw_c6 _ (List.mem_of_getElem? (i := 187) (by rfl)), rfl⟩
set_option maxRecDepth 20000 in
theorem tw_1448 : (Jvm.Cond.instanceMethod ({ cls := "RockHeatModel", name := "puts", desc := "(I)V" } : Jvm.MethodName)) ∈ lw_g := List.mem_filter.mpr ⟨lw_c6 _ (List.mem_of_getElem? (i := 189) (by rfl)), rfl⟩
set_option maxRecDepth 20000 in
theorem tw_1449 : (Jvm.Cond.code ({ cls := "RockHeatModel", name := "puts", desc := "(I)V" } : Jvm.MethodName) prog_14_method_35_code (2 : Nat) (Option.none : Option Jvm.ClassFile.FieldType)) ∈ lw_g := List.mem_filter.mpr ⟨lw_c6 _ (List.mem_of_getElem? (i := 190) (by rfl)), rfl⟩
set_option maxRecDepth 20000 in
theorem tw_1450 : (Jvm.Cond.methodLink "RockHeatModel" (263 : Nat) ({ cls := "RockHeatModel", name := "compares", desc := "(I)V" } : Jvm.MethodName)) ∈ lw_g := List.mem_filter.mpr ⟨lw_c6 _ (List.mem_of_getElem? (i := 191) (by rfl)), rfl⟩
set_option maxRecDepth 20000 in
theorem tw_1452 : (Jvm.Cond.instanceMethod ({ cls := "RockHeatModel", name := "compares", desc := "(I)V" } : Jvm.MethodName)) ∈ lw_g := List.mem_filter.mpr ⟨lw_c6 _ (List.mem_of_getElem? (i := 193) (by rfl)), rfl⟩
set_option maxRecDepth 20000 in
theorem tw_1453 : (Jvm.Cond.code ({ cls := "RockHeatModel", name := "compares", desc := "(I)V" } : Jvm.MethodName) prog_14_method_39_code (3 : Nat) (Option.none : Option Jvm.ClassFile.FieldType)) ∈ lw_g := List.mem_filter.mpr ⟨lw_c6 _ (List.mem_of_getElem? (i := 194) (by rfl)), rfl⟩
set_option maxRecDepth 20000 in
theorem tw_1454 : (Jvm.Cond.methodLink "RockHeatLaw" (103 : Nat) ({ cls := "RockHeatModel", name := "may", desc := "(II)I" } : Jvm.MethodName)) ∈ lw_g := List.mem_filter.mpr ⟨lw_c6 _ (List.mem_of_getElem? (i := 195) (by rfl)), rfl⟩
set_option maxRecDepth 20000 in
theorem tw_1455 : (Jvm.Cond.instanceMethod ({ cls := "RockHeatModel", name := "may", desc := "(II)I" } : Jvm.MethodName)) ∈ lw_g := List.mem_filter.mpr ⟨lw_c6 _ (List.mem_of_getElem? (i := 196) (by rfl)), rfl⟩
set_option maxRecDepth 20000 in
theorem tw_1456 : (Jvm.Cond.selects "RockHeatModel" ({ cls := "RockHeatModel", name := "may", desc := "(II)I" } : Jvm.MethodName) ({ cls := "RockHeatModel", name := "may", desc := "(II)I" } : Jvm.MethodName)) ∈ lw_g := List.mem_filter.mpr ⟨lw_c6 _ (List.mem_of_getElem? (i := 197) (by rfl)), rfl⟩
set_option maxRecDepth 20000 in
theorem tw_1457 : (Jvm.Cond.code ({ cls := "RockHeatModel", name := "may", desc := "(II)I" } : Jvm.MethodName) prog_14_method_44_code (3 : Nat) (Option.some Jvm.ClassFile.FieldType.int)) ∈ lw_g := List.mem_filter.mpr ⟨lw_c6 _ (List.mem_of_getElem? (i := 198) (by rfl)), rfl⟩
set_option maxRecDepth 20000 in
theorem tw_1458 : (Jvm.Cond.methodLink "RockHeatLaw" (107 : Nat) ({ cls := "RockHeatModel", name := "told", desc := "(I)J" } : Jvm.MethodName)) ∈ lw_g := List.mem_filter.mpr ⟨lw_c6 _ (List.mem_of_getElem? (i := 199) (by rfl)), rfl⟩
set_option maxRecDepth 20000 in
theorem tw_1459 : (Jvm.Cond.instanceMethod ({ cls := "RockHeatModel", name := "told", desc := "(I)J" } : Jvm.MethodName)) ∈ lw_g := List.mem_filter.mpr ⟨lw_c6 _ (List.mem_of_getElem? (i := 200) (by rfl)), rfl⟩
set_option maxRecDepth 20000 in
theorem tw_1460 : (Jvm.Cond.selects "RockHeatModel" ({ cls := "RockHeatModel", name := "told", desc := "(I)J" } : Jvm.MethodName) ({ cls := "RockHeatModel", name := "told", desc := "(I)J" } : Jvm.MethodName)) ∈ lw_g := List.mem_filter.mpr ⟨lw_c6 _ (List.mem_of_getElem? (i := 201) (by rfl)), rfl⟩
set_option maxRecDepth 20000 in
theorem tw_1461 : (Jvm.Cond.code ({ cls := "RockHeatModel", name := "told", desc := "(I)J" } : Jvm.MethodName) prog_14_method_49_code (6 : Nat) (Option.some Jvm.ClassFile.FieldType.long)) ∈ lw_g := List.mem_filter.mpr ⟨lw_c6 _ (List.mem_of_getElem? (i := 202) (by rfl)), rfl⟩
set_option maxRecDepth 20000 in
theorem tw_1462 : (Jvm.Cond.constantLong "RockHeatModel" (295 : Nat) (8 : Int64)) ∈ lw_g := List.mem_filter.mpr ⟨lw_c6 _ (List.mem_of_getElem? (i := 203) (by rfl)), rfl⟩
set_option maxRecDepth 20000 in
theorem tw_1463 : (Jvm.Cond.constantLong "RockHeatModel" (297 : Nat) (9 : Int64)) ∈ lw_g := List.mem_filter.mpr ⟨lw_c6 _ (List.mem_of_getElem? (i := 204) (by rfl)), rfl⟩
set_option maxRecDepth 20000 in
theorem tw_1464 : (Jvm.Cond.constantLong "RockHeatModel" (299 : Nat) (10 : Int64)) ∈ lw_g := List.mem_filter.mpr ⟨lw_c6 _ (List.mem_of_getElem? (i := 205) (by rfl)), rfl⟩
set_option maxRecDepth 20000 in
theorem tw_1465 : (Jvm.Cond.methodLink "RockHeatLaw" (111 : Nat) ({ cls := "RockHeatModel", name := "given", desc := "(I)J" } : Jvm.MethodName)) ∈ lw_g := List.mem_filter.mpr ⟨lw_c6 _ (List.mem_of_getElem? (i := 206) (by rfl)), rfl⟩
set_option maxRecDepth 20000 in
theorem tw_1466 : (Jvm.Cond.instanceMethod ({ cls := "RockHeatModel", name := "given", desc := "(I)J" } : Jvm.MethodName)) ∈ lw_g := List.mem_filter.mpr ⟨lw_c6 _ (List.mem_of_getElem? (i := 207) (by rfl)), rfl⟩
set_option maxRecDepth 20000 in
theorem tw_1467 : (Jvm.Cond.selects "RockHeatModel" ({ cls := "RockHeatModel", name := "given", desc := "(I)J" } : Jvm.MethodName) ({ cls := "RockHeatModel", name := "given", desc := "(I)J" } : Jvm.MethodName)) ∈ lw_g := List.mem_filter.mpr ⟨lw_c6 _ (List.mem_of_getElem? (i := 208) (by rfl)), rfl⟩
set_option maxRecDepth 20000 in
theorem tw_1468 : (Jvm.Cond.code ({ cls := "RockHeatModel", name := "given", desc := "(I)J" } : Jvm.MethodName) prog_14_method_50_code (2 : Nat) (Option.some Jvm.ClassFile.FieldType.long)) ∈ lw_g := List.mem_filter.mpr ⟨lw_c6 _ (List.mem_of_getElem? (i := 209) (by rfl)), rfl⟩
set_option maxRecDepth 20000 in
theorem tw_1469 : (Jvm.Cond.methodLink "RockHeatLaw" (116 : Nat) ({ cls := "RockHeatModel", name := "ahead", desc := "(III)J" } : Jvm.MethodName)) ∈ lw_g := List.mem_filter.mpr ⟨lw_c6 _ (List.mem_of_getElem? (i := 210) (by rfl)), rfl⟩
set_option maxRecDepth 20000 in
theorem tw_1470 : (Jvm.Cond.instanceMethod ({ cls := "RockHeatModel", name := "ahead", desc := "(III)J" } : Jvm.MethodName)) ∈ lw_g := List.mem_filter.mpr ⟨lw_c6 _ (List.mem_of_getElem? (i := 211) (by rfl)), rfl⟩
set_option maxRecDepth 20000 in
theorem tw_1471 : (Jvm.Cond.selects "RockHeatModel" ({ cls := "RockHeatModel", name := "ahead", desc := "(III)J" } : Jvm.MethodName) ({ cls := "RockHeatModel", name := "ahead", desc := "(III)J" } : Jvm.MethodName)) ∈ lw_g := List.mem_filter.mpr ⟨lw_c6 _ (List.mem_of_getElem? (i := 212) (by rfl)), rfl⟩
set_option maxRecDepth 20000 in
theorem tw_1472 : (Jvm.Cond.code ({ cls := "RockHeatModel", name := "ahead", desc := "(III)J" } : Jvm.MethodName) prog_14_method_54_code (10 : Nat) (Option.some Jvm.ClassFile.FieldType.long)) ∈ lw_g := List.mem_filter.mpr ⟨lw_c6 _ (List.mem_of_getElem? (i := 213) (by rfl)), rfl⟩
set_option maxRecDepth 20000 in
theorem tw_1473 : (Jvm.Cond.methodLink "RockHeatModel" (304 : Nat) ({ cls := "RockHeatModel", name := "bars", desc := "(II)I" } : Jvm.MethodName)) ∈ lw_g := List.mem_filter.mpr ⟨lw_c6 _ (List.mem_of_getElem? (i := 214) (by rfl)), rfl⟩
set_option maxRecDepth 20000 in
theorem tw_1475 : (Jvm.Cond.instanceMethod ({ cls := "RockHeatModel", name := "bars", desc := "(II)I" } : Jvm.MethodName)) ∈ lw_g := List.mem_filter.mpr ⟨lw_c6 _ (List.mem_of_getElem? (i := 216) (by rfl)), rfl⟩
set_option maxRecDepth 20000 in
theorem tw_1476 : (Jvm.Cond.code ({ cls := "RockHeatModel", name := "bars", desc := "(II)I" } : Jvm.MethodName) prog_14_method_53_code (3 : Nat) (Option.some Jvm.ClassFile.FieldType.int)) ∈ lw_g := List.mem_filter.mpr ⟨lw_c6 _ (List.mem_of_getElem? (i := 217) (by rfl)), rfl⟩
set_option maxRecDepth 20000 in
theorem tw_1477 : (Jvm.Cond.methodLink "RockHeatModel" (307 : Nat) ({ cls := "RockHeatModel", name := "keeps", desc := "()V" } : Jvm.MethodName)) ∈ lw_g := List.mem_filter.mpr ⟨lw_c6 _ (List.mem_of_getElem? (i := 218) (by rfl)), rfl⟩
set_option maxRecDepth 20000 in
theorem tw_1479 : (Jvm.Cond.instanceMethod ({ cls := "RockHeatModel", name := "keeps", desc := "()V" } : Jvm.MethodName)) ∈ lw_g := List.mem_filter.mpr ⟨lw_c6 _ (List.mem_of_getElem? (i := 220) (by rfl)), rfl⟩
set_option maxRecDepth 20000 in
theorem tw_1480 : (Jvm.Cond.code ({ cls := "RockHeatModel", name := "keeps", desc := "()V" } : Jvm.MethodName) prog_14_method_51_code (2 : Nat) (Option.none : Option Jvm.ClassFile.FieldType)) ∈ lw_g := List.mem_filter.mpr ⟨lw_c6 _ (List.mem_of_getElem? (i := 221) (by rfl)), rfl⟩
set_option maxRecDepth 20000 in
theorem tw_1481 : (Jvm.Cond.constantLong "RockHeatModel" (312 : Nat) (9223372036854775807 : Int64)) ∈ lw_g := List.mem_filter.mpr ⟨lw_c6 _ (List.mem_of_getElem? (i := 222) (by rfl)), rfl⟩
set_option maxRecDepth 20000 in
theorem tw_1482 : (Jvm.Cond.methodLink "RockHeatModel" (314 : Nat) ({ cls := "RockHeatModel", name := "laysBack", desc := "()V" } : Jvm.MethodName)) ∈ lw_g := List.mem_filter.mpr ⟨lw_c6 _ (List.mem_of_getElem? (i := 223) (by rfl)), rfl⟩
set_option maxRecDepth 20000 in
theorem tw_1484 : (Jvm.Cond.instanceMethod ({ cls := "RockHeatModel", name := "laysBack", desc := "()V" } : Jvm.MethodName)) ∈ lw_g := List.mem_filter.mpr ⟨lw_c6 _ (List.mem_of_getElem? (i := 225) (by rfl)), rfl⟩
set_option maxRecDepth 20000 in
theorem tw_1485 : (Jvm.Cond.code ({ cls := "RockHeatModel", name := "laysBack", desc := "()V" } : Jvm.MethodName) prog_14_method_52_code (2 : Nat) (Option.none : Option Jvm.ClassFile.FieldType)) ∈ lw_g := List.mem_filter.mpr ⟨lw_c6 _ (List.mem_of_getElem? (i := 226) (by rfl)), rfl⟩
set_option maxRecDepth 20000 in
theorem tw_1486 : (Jvm.Cond.methodLink "RockHeatLaw" (120 : Nat) ({ cls := "RockHeatModel", name := "few", desc := "(II)I" } : Jvm.MethodName)) ∈ lw_g := List.mem_filter.mpr ⟨lw_c6 _ (List.mem_of_getElem? (i := 227) (by rfl)), rfl⟩
set_option maxRecDepth 20000 in
theorem tw_1487 : (Jvm.Cond.instanceMethod ({ cls := "RockHeatModel", name := "few", desc := "(II)I" } : Jvm.MethodName)) ∈ lw_g := List.mem_filter.mpr ⟨lw_c6 _ (List.mem_of_getElem? (i := 228) (by rfl)), rfl⟩
set_option maxRecDepth 20000 in
theorem tw_1488 : (Jvm.Cond.selects "RockHeatModel" ({ cls := "RockHeatModel", name := "few", desc := "(II)I" } : Jvm.MethodName) ({ cls := "RockHeatModel", name := "few", desc := "(II)I" } : Jvm.MethodName)) ∈ lw_g := List.mem_filter.mpr ⟨lw_c6 _ (List.mem_of_getElem? (i := 229) (by rfl)), rfl⟩
set_option maxRecDepth 20000 in
theorem tw_1489 : (Jvm.Cond.code ({ cls := "RockHeatModel", name := "few", desc := "(II)I" } : Jvm.MethodName) prog_14_method_56_code (6 : Nat) (Option.some Jvm.ClassFile.FieldType.int)) ∈ lw_g := List.mem_filter.mpr ⟨lw_c6 _ (List.mem_of_getElem? (i := 230) (by rfl)), rfl⟩
set_option maxRecDepth 20000 in
theorem tw_1490 : (Jvm.Cond.methodLink "RockHeatModel" (317 : Nat) ({ cls := "RockHeatModel", name := "many", desc := "(I)I" } : Jvm.MethodName)) ∈ lw_g := List.mem_filter.mpr ⟨lw_c6 _ (List.mem_of_getElem? (i := 231) (by rfl)), rfl⟩
set_option maxRecDepth 20000 in
theorem tw_1491 : (Jvm.Cond.static ({ cls := "RockHeatModel", name := "many", desc := "(I)I" } : Jvm.MethodName)) ∈ lw_g := List.mem_filter.mpr ⟨lw_c6 _ (List.mem_of_getElem? (i := 232) (by rfl)), rfl⟩
set_option maxRecDepth 20000 in
theorem tw_1492 : (Jvm.Cond.code ({ cls := "RockHeatModel", name := "many", desc := "(I)I" } : Jvm.MethodName) prog_14_method_55_code (3 : Nat) (Option.some Jvm.ClassFile.FieldType.int)) ∈ lw_g := List.mem_filter.mpr ⟨lw_c6 _ (List.mem_of_getElem? (i := 233) (by rfl)), rfl⟩
set_option maxRecDepth 20000 in
theorem tw_1493 : (Jvm.Cond.methodLink "RockHeatLaw" (124 : Nat) ({ cls := "RockHeatModel", name := "takenFrom", desc := "(III)J" } : Jvm.MethodName)) ∈ lw_g := List.mem_filter.mpr ⟨lw_c6 _ (List.mem_of_getElem? (i := 234) (by rfl)), rfl⟩
set_option maxRecDepth 20000 in
theorem tw_1494 : (Jvm.Cond.instanceMethod ({ cls := "RockHeatModel", name := "takenFrom", desc := "(III)J" } : Jvm.MethodName)) ∈ lw_g := List.mem_filter.mpr ⟨lw_c6 _ (List.mem_of_getElem? (i := 235) (by rfl)), rfl⟩
set_option maxRecDepth 20000 in
theorem tw_1495 : (Jvm.Cond.selects "RockHeatModel" ({ cls := "RockHeatModel", name := "takenFrom", desc := "(III)J" } : Jvm.MethodName) ({ cls := "RockHeatModel", name := "takenFrom", desc := "(III)J" } : Jvm.MethodName)) ∈ lw_g := List.mem_filter.mpr ⟨lw_c6 _ (List.mem_of_getElem? (i := 236) (by rfl)), rfl⟩
set_option maxRecDepth 20000 in
theorem tw_1496 : (Jvm.Cond.code ({ cls := "RockHeatModel", name := "takenFrom", desc := "(III)J" } : Jvm.MethodName) prog_14_method_58_code (4 : Nat) (Option.some Jvm.ClassFile.FieldType.long)) ∈ lw_g := List.mem_filter.mpr ⟨lw_c6 _ (List.mem_of_getElem? (i := 237) (by rfl)), rfl⟩
set_option maxRecDepth 20000 in
theorem tw_1497 : (Jvm.Cond.methodLink "RockHeatModel" (320 : Nat) ({ cls := "RockHeatModel", name := "givenBy", desc := "(III)J" } : Jvm.MethodName)) ∈ lw_g := List.mem_filter.mpr ⟨lw_c6 _ (List.mem_of_getElem? (i := 238) (by rfl)), rfl⟩
set_option maxRecDepth 20000 in
theorem tw_1499 : (Jvm.Cond.instanceMethod ({ cls := "RockHeatModel", name := "givenBy", desc := "(III)J" } : Jvm.MethodName)) ∈ lw_g := List.mem_filter.mpr ⟨lw_c7 _ (List.mem_of_getElem? (i := 0) (by rfl)), rfl⟩
set_option maxRecDepth 20000 in
theorem tw_1500 : (Jvm.Cond.code ({ cls := "RockHeatModel", name := "givenBy", desc := "(III)J" } : Jvm.MethodName) prog_14_method_57_code (6 : Nat) (Option.some Jvm.ClassFile.FieldType.long)) ∈ lw_g := List.mem_filter.mpr ⟨lw_c7 _ (List.mem_of_getElem? (i := 1) (by rfl)), rfl⟩
set_option maxRecDepth 20000 in
theorem tw_1501 : (Jvm.Cond.methodLink "RockHeatLaw" (128 : Nat) ({ cls := "RockHeatModel", name := "tank", desc := "(II)I" } : Jvm.MethodName)) ∈ lw_g := List.mem_filter.mpr ⟨lw_c7 _ (List.mem_of_getElem? (i := 2) (by rfl)), rfl⟩
set_option maxRecDepth 20000 in
theorem tw_1502 : (Jvm.Cond.instanceMethod ({ cls := "RockHeatModel", name := "tank", desc := "(II)I" } : Jvm.MethodName)) ∈ lw_g := List.mem_filter.mpr ⟨lw_c7 _ (List.mem_of_getElem? (i := 3) (by rfl)), rfl⟩
set_option maxRecDepth 20000 in
theorem tw_1503 : (Jvm.Cond.selects "RockHeatModel" ({ cls := "RockHeatModel", name := "tank", desc := "(II)I" } : Jvm.MethodName) ({ cls := "RockHeatModel", name := "tank", desc := "(II)I" } : Jvm.MethodName)) ∈ lw_g := List.mem_filter.mpr ⟨lw_c7 _ (List.mem_of_getElem? (i := 4) (by rfl)), rfl⟩
set_option maxRecDepth 20000 in
theorem tw_1504 : (Jvm.Cond.code ({ cls := "RockHeatModel", name := "tank", desc := "(II)I" } : Jvm.MethodName) prog_14_method_59_code (4 : Nat) (Option.some Jvm.ClassFile.FieldType.int)) ∈ lw_g := List.mem_filter.mpr ⟨lw_c7 _ (List.mem_of_getElem? (i := 5) (by rfl)), rfl⟩
set_option maxRecDepth 20000 in
theorem tw_1505 : (Jvm.Cond.methodLink "RockHeatLaw" (132 : Nat) ({ cls := "RockHeatModel", name := "best", desc := "(I)J" } : Jvm.MethodName)) ∈ lw_g := List.mem_filter.mpr ⟨lw_c7 _ (List.mem_of_getElem? (i := 6) (by rfl)), rfl⟩
set_option maxRecDepth 20000 in
theorem tw_1506 : (Jvm.Cond.instanceMethod ({ cls := "RockHeatModel", name := "best", desc := "(I)J" } : Jvm.MethodName)) ∈ lw_g := List.mem_filter.mpr ⟨lw_c7 _ (List.mem_of_getElem? (i := 7) (by rfl)), rfl⟩
set_option maxRecDepth 20000 in
theorem tw_1507 : (Jvm.Cond.selects "RockHeatModel" ({ cls := "RockHeatModel", name := "best", desc := "(I)J" } : Jvm.MethodName) ({ cls := "RockHeatModel", name := "best", desc := "(I)J" } : Jvm.MethodName)) ∈ lw_g := List.mem_filter.mpr ⟨lw_c7 _ (List.mem_of_getElem? (i := 8) (by rfl)), rfl⟩
set_option maxRecDepth 20000 in
theorem tw_1508 : (Jvm.Cond.code ({ cls := "RockHeatModel", name := "best", desc := "(I)J" } : Jvm.MethodName) prog_14_method_64_code (2 : Nat) (Option.some Jvm.ClassFile.FieldType.long)) ∈ lw_g := List.mem_filter.mpr ⟨lw_c7 _ (List.mem_of_getElem? (i := 9) (by rfl)), rfl⟩
set_option maxRecDepth 20000 in
theorem tw_1509 : (Jvm.Cond.constantLong "RockHeatModel" (337 : Nat) (24 : Int64)) ∈ lw_g := List.mem_filter.mpr ⟨lw_c7 _ (List.mem_of_getElem? (i := 10) (by rfl)), rfl⟩
set_option maxRecDepth 20000 in
theorem tw_1510 : (Jvm.Cond.methodLink "RockHeatModel" (339 : Nat) ({ cls := "RockHeatModel", name := "plans", desc := "()V" } : Jvm.MethodName)) ∈ lw_g := List.mem_filter.mpr ⟨lw_c7 _ (List.mem_of_getElem? (i := 11) (by rfl)), rfl⟩
set_option maxRecDepth 20000 in
theorem tw_1512 : (Jvm.Cond.instanceMethod ({ cls := "RockHeatModel", name := "plans", desc := "()V" } : Jvm.MethodName)) ∈ lw_g := List.mem_filter.mpr ⟨lw_c7 _ (List.mem_of_getElem? (i := 13) (by rfl)), rfl⟩
set_option maxRecDepth 20000 in
theorem tw_1513 : (Jvm.Cond.code ({ cls := "RockHeatModel", name := "plans", desc := "()V" } : Jvm.MethodName) prog_14_method_63_code (8 : Nat) (Option.none : Option Jvm.ClassFile.FieldType)) ∈ lw_g := List.mem_filter.mpr ⟨lw_c7 _ (List.mem_of_getElem? (i := 14) (by rfl)), rfl⟩
set_option maxRecDepth 20000 in
theorem tw_1514 : (Jvm.Cond.methodLink "RockHeatModel" (330 : Nat) ({ cls := "RockHeatModel", name := "mayBe", desc := "(III)Z" } : Jvm.MethodName)) ∈ lw_g := List.mem_filter.mpr ⟨lw_c7 _ (List.mem_of_getElem? (i := 15) (by rfl)), rfl⟩
set_option maxRecDepth 20000 in
theorem tw_1516 : (Jvm.Cond.instanceMethod ({ cls := "RockHeatModel", name := "mayBe", desc := "(III)Z" } : Jvm.MethodName)) ∈ lw_g := List.mem_filter.mpr ⟨lw_c7 _ (List.mem_of_getElem? (i := 17) (by rfl)), rfl⟩
set_option maxRecDepth 20000 in
theorem tw_1517 : (Jvm.Cond.code ({ cls := "RockHeatModel", name := "mayBe", desc := "(III)Z" } : Jvm.MethodName) prog_14_method_62_code (4 : Nat) (Option.some Jvm.ClassFile.FieldType.boolean)) ∈ lw_g := List.mem_filter.mpr ⟨lw_c7 _ (List.mem_of_getElem? (i := 18) (by rfl)), rfl⟩
set_option maxRecDepth 20000 in
theorem tw_1518 : (Jvm.Cond.methodLink "RockHeatModel" (327 : Nat) ({ cls := "RockHeatModel", name := "boughtIn", desc := "(II)J" } : Jvm.MethodName)) ∈ lw_g := List.mem_filter.mpr ⟨lw_c7 _ (List.mem_of_getElem? (i := 19) (by rfl)), rfl⟩
set_option maxRecDepth 20000 in
theorem tw_1520 : (Jvm.Cond.instanceMethod ({ cls := "RockHeatModel", name := "boughtIn", desc := "(II)J" } : Jvm.MethodName)) ∈ lw_g := List.mem_filter.mpr ⟨lw_c7 _ (List.mem_of_getElem? (i := 21) (by rfl)), rfl⟩
set_option maxRecDepth 20000 in
theorem tw_1521 : (Jvm.Cond.code ({ cls := "RockHeatModel", name := "boughtIn", desc := "(II)J" } : Jvm.MethodName) prog_14_method_60_code (3 : Nat) (Option.some Jvm.ClassFile.FieldType.long)) ∈ lw_g := List.mem_filter.mpr ⟨lw_c7 _ (List.mem_of_getElem? (i := 22) (by rfl)), rfl⟩
set_option maxRecDepth 20000 in
theorem tw_1522 : (Jvm.Cond.methodLink "RockHeatModel" (334 : Nat) ({ cls := "RockHeatModel", name := "costIn", desc := "(II)J" } : Jvm.MethodName)) ∈ lw_g := List.mem_filter.mpr ⟨lw_c7 _ (List.mem_of_getElem? (i := 23) (by rfl)), rfl⟩
set_option maxRecDepth 20000 in
theorem tw_1524 : (Jvm.Cond.instanceMethod ({ cls := "RockHeatModel", name := "costIn", desc := "(II)J" } : Jvm.MethodName)) ∈ lw_g := List.mem_filter.mpr ⟨lw_c7 _ (List.mem_of_getElem? (i := 25) (by rfl)), rfl⟩
set_option maxRecDepth 20000 in
theorem tw_1525 : (Jvm.Cond.code ({ cls := "RockHeatModel", name := "costIn", desc := "(II)J" } : Jvm.MethodName) prog_14_method_61_code (3 : Nat) (Option.some Jvm.ClassFile.FieldType.long)) ∈ lw_g := List.mem_filter.mpr ⟨lw_c7 _ (List.mem_of_getElem? (i := 26) (by rfl)), rfl⟩
set_option maxRecDepth 20000 in
theorem tw_1526 : (Jvm.Cond.methodLink "RockHeatLaw" (136 : Nat) ({ cls := "RockHeatModel", name := "reading", desc := "(II)I" } : Jvm.MethodName)) ∈ lw_g := List.mem_filter.mpr ⟨lw_c7 _ (List.mem_of_getElem? (i := 27) (by rfl)), rfl⟩
set_option maxRecDepth 20000 in
theorem tw_1527 : (Jvm.Cond.instanceMethod ({ cls := "RockHeatModel", name := "reading", desc := "(II)I" } : Jvm.MethodName)) ∈ lw_g := List.mem_filter.mpr ⟨lw_c7 _ (List.mem_of_getElem? (i := 28) (by rfl)), rfl⟩
set_option maxRecDepth 20000 in
theorem tw_1528 : (Jvm.Cond.selects "RockHeatModel" ({ cls := "RockHeatModel", name := "reading", desc := "(II)I" } : Jvm.MethodName) ({ cls := "RockHeatModel", name := "reading", desc := "(II)I" } : Jvm.MethodName)) ∈ lw_g := List.mem_filter.mpr ⟨lw_c7 _ (List.mem_of_getElem? (i := 29) (by rfl)), rfl⟩
set_option maxRecDepth 20000 in
theorem tw_1529 : (Jvm.Cond.code ({ cls := "RockHeatModel", name := "reading", desc := "(II)I" } : Jvm.MethodName) prog_14_method_65_code (3 : Nat) (Option.some Jvm.ClassFile.FieldType.int)) ∈ lw_g := List.mem_filter.mpr ⟨lw_c7 _ (List.mem_of_getElem? (i := 30) (by rfl)), rfl⟩
set_option maxRecDepth 20000 in
theorem tw_1530 : (Jvm.Cond.methodLink "RockHeatLaw" (140 : Nat) ({ cls := "RockHeatModel", name := "wrong", desc := "(I)J" } : Jvm.MethodName)) ∈ lw_g := List.mem_filter.mpr ⟨lw_c7 _ (List.mem_of_getElem? (i := 31) (by rfl)), rfl⟩
set_option maxRecDepth 20000 in
theorem tw_1531 : (Jvm.Cond.instanceMethod ({ cls := "RockHeatModel", name := "wrong", desc := "(I)J" } : Jvm.MethodName)) ∈ lw_g := List.mem_filter.mpr ⟨lw_c7 _ (List.mem_of_getElem? (i := 32) (by rfl)), rfl⟩
set_option maxRecDepth 20000 in
theorem tw_1532 : (Jvm.Cond.selects "RockHeatModel" ({ cls := "RockHeatModel", name := "wrong", desc := "(I)J" } : Jvm.MethodName) ({ cls := "RockHeatModel", name := "wrong", desc := "(I)J" } : Jvm.MethodName)) ∈ lw_g := List.mem_filter.mpr ⟨lw_c7 _ (List.mem_of_getElem? (i := 33) (by rfl)), rfl⟩
set_option maxRecDepth 20000 in
theorem tw_1533 : (Jvm.Cond.code ({ cls := "RockHeatModel", name := "wrong", desc := "(I)J" } : Jvm.MethodName) prog_14_method_66_code (2 : Nat) (Option.some Jvm.ClassFile.FieldType.long)) ∈ lw_g := List.mem_filter.mpr ⟨lw_c7 _ (List.mem_of_getElem? (i := 34) (by rfl)), rfl⟩
set_option maxRecDepth 20000 in
theorem tw_1534 : (Jvm.Cond.methodLink "RockHeatLaw" (144 : Nat) ({ cls := "RockHeatModel", name := "leak", desc := "(I)J" } : Jvm.MethodName)) ∈ lw_g := List.mem_filter.mpr ⟨lw_c7 _ (List.mem_of_getElem? (i := 35) (by rfl)), rfl⟩
set_option maxRecDepth 20000 in
theorem tw_1535 : (Jvm.Cond.instanceMethod ({ cls := "RockHeatModel", name := "leak", desc := "(I)J" } : Jvm.MethodName)) ∈ lw_g := List.mem_filter.mpr ⟨lw_c7 _ (List.mem_of_getElem? (i := 36) (by rfl)), rfl⟩
set_option maxRecDepth 20000 in
theorem tw_1536 : (Jvm.Cond.selects "RockHeatModel" ({ cls := "RockHeatModel", name := "leak", desc := "(I)J" } : Jvm.MethodName) ({ cls := "RockHeatModel", name := "leak", desc := "(I)J" } : Jvm.MethodName)) ∈ lw_g := List.mem_filter.mpr ⟨lw_c7 _ (List.mem_of_getElem? (i := 37) (by rfl)), rfl⟩
set_option maxRecDepth 20000 in
theorem tw_1537 : (Jvm.Cond.code ({ cls := "RockHeatModel", name := "leak", desc := "(I)J" } : Jvm.MethodName) prog_14_method_67_code (5 : Nat) (Option.some Jvm.ClassFile.FieldType.long)) ∈ lw_g := List.mem_filter.mpr ⟨lw_c7 _ (List.mem_of_getElem? (i := 38) (by rfl)), rfl⟩
set_option maxRecDepth 20000 in
theorem tw_1538 : (Jvm.Cond.methodLink "RockHeatLaw" (148 : Nat) ({ cls := "RockHeatModel", name := "count", desc := "(I)I" } : Jvm.MethodName)) ∈ lw_g := List.mem_filter.mpr ⟨lw_c7 _ (List.mem_of_getElem? (i := 39) (by rfl)), rfl⟩
set_option maxRecDepth 20000 in
theorem tw_1539 : (Jvm.Cond.instanceMethod ({ cls := "RockHeatModel", name := "count", desc := "(I)I" } : Jvm.MethodName)) ∈ lw_g := List.mem_filter.mpr ⟨lw_c7 _ (List.mem_of_getElem? (i := 40) (by rfl)), rfl⟩
set_option maxRecDepth 20000 in
theorem tw_1540 : (Jvm.Cond.selects "RockHeatModel" ({ cls := "RockHeatModel", name := "count", desc := "(I)I" } : Jvm.MethodName) ({ cls := "RockHeatModel", name := "count", desc := "(I)I" } : Jvm.MethodName)) ∈ lw_g := List.mem_filter.mpr ⟨lw_c7 _ (List.mem_of_getElem? (i := 41) (by rfl)), rfl⟩
set_option maxRecDepth 20000 in
theorem tw_1541 : (Jvm.Cond.code ({ cls := "RockHeatModel", name := "count", desc := "(I)I" } : Jvm.MethodName) prog_14_method_68_code (4 : Nat) (Option.some Jvm.ClassFile.FieldType.int)) ∈ lw_g := List.mem_filter.mpr ⟨lw_c7 _ (List.mem_of_getElem? (i := 42) (by rfl)), rfl⟩
set_option maxRecDepth 20000 in
theorem tw_1542 : (Jvm.Cond.constantLong "RockHeatModel" (345 : Nat) (11 : Int64)) ∈ lw_g := List.mem_filter.mpr ⟨lw_c7 _ (List.mem_of_getElem? (i := 43) (by rfl)), rfl⟩
set_option maxRecDepth 20000 in
theorem tw_1543 : (Jvm.Cond.constantLong "RockHeatModel" (347 : Nat) (16 : Int64)) ∈ lw_g := List.mem_filter.mpr ⟨lw_c7 _ (List.mem_of_getElem? (i := 44) (by rfl)), rfl⟩
set_option maxRecDepth 20000 in
theorem tw_1544 : (Jvm.Cond.constantLong "RockHeatLaw" (89 : Nat) (4294967295 : Int64)) ∈ lw_g := List.mem_filter.mpr ⟨lw_c7 _ (List.mem_of_getElem? (i := 45) (by rfl)), rfl⟩
set_option maxRecDepth 20000 in
theorem tw_1545 : (Jvm.Cond.castable "RockHeat" "java/lang/Object") ∈ lw_x := List.mem_filter.mpr ⟨lw_c7 _ (List.mem_of_getElem? (i := 46) (by rfl)), rfl⟩
set_option maxRecDepth 20000 in
theorem tw_1546 : (Jvm.Cond.castable "RockHeat$Town" "java/lang/Object") ∈ lw_x := List.mem_filter.mpr ⟨lw_c7 _ (List.mem_of_getElem? (i := 47) (by rfl)), rfl⟩
set_option maxRecDepth 20000 in
theorem tw_1547 : (Jvm.Cond.castable "java/util/ArrayList" "java/lang/Object") ∈ lw_x := List.mem_filter.mpr ⟨lw_c7 _ (List.mem_of_getElem? (i := 48) (by rfl)), rfl⟩
set_option maxRecDepth 20000 in
theorem tw_1548 : (Jvm.Cond.castable "RockHeat$Table" "java/lang/Object") ∈ lw_x := List.mem_filter.mpr ⟨lw_c7 _ (List.mem_of_getElem? (i := 49) (by rfl)), rfl⟩
set_option maxRecDepth 20000 in
theorem tw_1549 : (Jvm.Cond.castable "RockHeat$Rules" "java/lang/Object") ∈ lw_x := List.mem_filter.mpr ⟨lw_c7 _ (List.mem_of_getElem? (i := 50) (by rfl)), rfl⟩
set_option maxRecDepth 20000 in
theorem tw_1550 : (Jvm.Cond.castable "RockHeat$Tape" "java/lang/Object") ∈ lw_x := List.mem_filter.mpr ⟨lw_c7 _ (List.mem_of_getElem? (i := 51) (by rfl)), rfl⟩
set_option maxRecDepth 20000 in
theorem tw_1551 : (Jvm.Cond.castable "RockHeat$Tank" "java/lang/Object") ∈ lw_x := List.mem_filter.mpr ⟨lw_c7 _ (List.mem_of_getElem? (i := 52) (by rfl)), rfl⟩
set_option maxRecDepth 20000 in
theorem tw_1552 : (Jvm.Cond.castable "RockHeat$Ground" "java/lang/Object") ∈ lw_x := List.mem_filter.mpr ⟨lw_c7 _ (List.mem_of_getElem? (i := 53) (by rfl)), rfl⟩
set_option maxRecDepth 20000 in
theorem tw_1553 : (Jvm.Cond.castable "RockHeatModel" "java/lang/Object") ∈ lw_x := List.mem_filter.mpr ⟨lw_c7 _ (List.mem_of_getElem? (i := 54) (by rfl)), rfl⟩
set_option maxRecDepth 20000 in
theorem tw_1554 : (Jvm.Cond.castable "RockHeat$Bore" "java/lang/Object") ∈ lw_x := List.mem_filter.mpr ⟨lw_c7 _ (List.mem_of_getElem? (i := 55) (by rfl)), rfl⟩
set_option maxRecDepth 20000 in
theorem tw_1555 : (Jvm.Cond.castable "RockHeat$Ring" "java/lang/Object") ∈ lw_x := List.mem_filter.mpr ⟨lw_c7 _ (List.mem_of_getElem? (i := 56) (by rfl)), rfl⟩
set_option maxRecDepth 20000 in
theorem tw_1556 : (Jvm.Cond.castable "RockHeat$House" "java/lang/Object") ∈ lw_x := List.mem_filter.mpr ⟨lw_c7 _ (List.mem_of_getElem? (i := 57) (by rfl)), rfl⟩
set_option maxRecDepth 20000 in
theorem tw_1557 : (Jvm.Cond.castable "RockHeat$Rule" "java/lang/Object") ∈ lw_x := List.mem_filter.mpr ⟨lw_c7 _ (List.mem_of_getElem? (i := 58) (by rfl)), rfl⟩
set_option maxRecDepth 20000 in
theorem tw_1558 : (Jvm.Cond.castable "RockHeat$Reading" "java/lang/Object") ∈ lw_x := List.mem_filter.mpr ⟨lw_c7 _ (List.mem_of_getElem? (i := 59) (by rfl)), rfl⟩
set_option maxRecDepth 20000 in
theorem tw_1559 : (Jvm.Cond.castable "java/lang/String" "java/lang/Object") ∈ lw_x := List.mem_filter.mpr ⟨lw_c7 _ (List.mem_of_getElem? (i := 60) (by rfl)), rfl⟩
set_option maxRecDepth 20000 in
theorem tw_1560 : (Jvm.Cond.sameMethod "[Ljava/lang/Object;" "java/lang/Object" "getClass" "()Ljava/lang/Class;") ∈ lw_g := List.mem_filter.mpr ⟨lw_c7 _ (List.mem_of_getElem? (i := 61) (by rfl)), rfl⟩
set_option maxRecDepth 20000 in
theorem tw_1561 : (Jvm.Cond.selects "[Ljava/lang/Object;" ({ cls := "java/lang/Object", name := "getClass", desc := "()Ljava/lang/Class;" } : Jvm.MethodName) ({ cls := "java/lang/Object", name := "getClass", desc := "()Ljava/lang/Class;" } : Jvm.MethodName)) ∈ lw_g := List.mem_filter.mpr ⟨lw_c7 _ (List.mem_of_getElem? (i := 62) (by rfl)), rfl⟩
set_option maxRecDepth 20000 in
theorem tw_1562 : (Jvm.Cond.declares ({ cls := "java/lang/Object", name := "getClass", desc := "()Ljava/lang/Class;" } : Jvm.MethodName)) ∈ lw_tbl := lw_c7 _ (List.mem_of_getElem? (i := 63) (by rfl))
set_option maxRecDepth 20000 in
theorem tw_1563 : (Jvm.Cond.castable "[I" "java/lang/Object") ∈ lw_x := List.mem_filter.mpr ⟨lw_c7 _ (List.mem_of_getElem? (i := 64) (by rfl)), rfl⟩
set_option maxRecDepth 20000 in
theorem tw_1564 : (Jvm.Cond.castable "[J" "java/lang/Object") ∈ lw_x := List.mem_filter.mpr ⟨lw_c7 _ (List.mem_of_getElem? (i := 65) (by rfl)), rfl⟩
set_option maxRecDepth 20000 in
theorem tw_1565 : (Jvm.Cond.castable "[[J" "java/lang/Object") ∈ lw_x := List.mem_filter.mpr ⟨lw_c7 _ (List.mem_of_getElem? (i := 66) (by rfl)), rfl⟩
set_option maxRecDepth 20000 in
theorem tw_1566 : (Jvm.Cond.castable "[Ljava/lang/Object;" "java/lang/Object") ∈ lw_x := List.mem_filter.mpr ⟨lw_c7 _ (List.mem_of_getElem? (i := 67) (by rfl)), rfl⟩
set_option maxRecDepth 20000 in
theorem tw_1567 : (Jvm.Cond.castable "[B" "java/lang/Object") ∈ lw_x := List.mem_filter.mpr ⟨lw_c7 _ (List.mem_of_getElem? (i := 68) (by rfl)), rfl⟩
set_option maxRecDepth 20000 in
theorem tw_1568 : (Jvm.Cond.castable "[Z" "java/lang/Object") ∈ lw_x := List.mem_filter.mpr ⟨lw_c7 _ (List.mem_of_getElem? (i := 69) (by rfl)), rfl⟩
set_option maxRecDepth 20000 in
theorem tw_1569 : (Jvm.Cond.fieldLink "java/lang/String" (15 : Nat) "java/lang/String" "coder" "B") ∈ lw_g := List.mem_filter.mpr ⟨lw_c7 _ (List.mem_of_getElem? (i := 70) (by rfl)), rfl⟩
set_option maxRecDepth 20000 in
theorem tw_1570 : (Jvm.Cond.fieldLink "java/lang/String" (9 : Nat) "java/lang/String" "value" "[B") ∈ lw_g := List.mem_filter.mpr ⟨lw_c7 _ (List.mem_of_getElem? (i := 71) (by rfl)), rfl⟩
theorem tin_Jx4a65c : ∀ w ∈ u_ws RJx4a65c TJx4a65c 3, w ∈ lw_g := by
  intro w hw
  obtain ⟨k, hk, rfl⟩ := List.mem_map.mp hw
  have hk := List.mem_range.mp hk
  have h : ∀ k, k < 3 → lw_tbl[([124, 120, 122] : List Nat).getD k 0]? = some (u_lay RJx4a65c TJx4a65c k) ∧ goodWord (u_lay RJx4a65c TJx4a65c k) = true := by decide +kernel
  exact List.mem_filter.mpr ⟨List.mem_of_getElem? (h k hk).1, (h k hk).2⟩
theorem tin_X0 : ∀ w ∈ u_ws RX0 TX0 11, w ∈ lw_g := by
  intro w hw
  obtain ⟨k, hk, rfl⟩ := List.mem_map.mp hw
  have hk := List.mem_range.mp hk
  have h : ∀ k, k < 11 → lw_tbl[([596, 598, 600, 602, 604, 606, 608, 610, 612, 614, 616] : List Nat).getD k 0]? = some (u_lay RX0 TX0 k) ∧ goodWord (u_lay RX0 TX0 k) = true := by decide +kernel
  exact List.mem_filter.mpr ⟨List.mem_of_getElem? (h k hk).1, (h k hk).2⟩
theorem tin_X1 : ∀ w ∈ u_ws RX1 TX1 7, w ∈ lw_g := by
  intro w hw
  obtain ⟨k, hk, rfl⟩ := List.mem_map.mp hw
  have hk := List.mem_range.mp hk
  have h : ∀ k, k < 7 → lw_tbl[([264, 266, 268, 270, 272, 274, 276] : List Nat).getD k 0]? = some (u_lay RX1 TX1 k) ∧ goodWord (u_lay RX1 TX1 k) = true := by decide +kernel
  exact List.mem_filter.mpr ⟨List.mem_of_getElem? (h k hk).1, (h k hk).2⟩
theorem tin_X2 : ∀ w ∈ u_ws RX2 TX2 5, w ∈ lw_g := by
  intro w hw
  obtain ⟨k, hk, rfl⟩ := List.mem_map.mp hw
  have hk := List.mem_range.mp hk
  have h : ∀ k, k < 5 → lw_tbl[([681, 683, 685, 687, 689] : List Nat).getD k 0]? = some (u_lay RX2 TX2 k) ∧ goodWord (u_lay RX2 TX2 k) = true := by decide +kernel
  exact List.mem_filter.mpr ⟨List.mem_of_getElem? (h k hk).1, (h k hk).2⟩
theorem tin_X3 : ∀ w ∈ u_ws RX3 TX3 3, w ∈ lw_g := by
  intro w hw
  obtain ⟨k, hk, rfl⟩ := List.mem_map.mp hw
  have hk := List.mem_range.mp hk
  have h : ∀ k, k < 3 → lw_tbl[([1052, 1054, 1056] : List Nat).getD k 0]? = some (u_lay RX3 TX3 k) ∧ goodWord (u_lay RX3 TX3 k) = true := by decide +kernel
  exact List.mem_filter.mpr ⟨List.mem_of_getElem? (h k hk).1, (h k hk).2⟩
theorem tin_X4 : ∀ w ∈ u_ws RX4 TX4 5, w ∈ lw_g := by
  intro w hw
  obtain ⟨k, hk, rfl⟩ := List.mem_map.mp hw
  have hk := List.mem_range.mp hk
  have h : ∀ k, k < 5 → lw_tbl[([501, 503, 505, 507, 509] : List Nat).getD k 0]? = some (u_lay RX4 TX4 k) ∧ goodWord (u_lay RX4 TX4 k) = true := by decide +kernel
  exact List.mem_filter.mpr ⟨List.mem_of_getElem? (h k hk).1, (h k hk).2⟩
theorem tin_X5 : ∀ w ∈ u_ws RX5 TX5 4, w ∈ lw_g := by
  intro w hw
  obtain ⟨k, hk, rfl⟩ := List.mem_map.mp hw
  have hk := List.mem_range.mp hk
  have h : ∀ k, k < 4 → lw_tbl[([914, 916, 918, 920] : List Nat).getD k 0]? = some (u_lay RX5 TX5 k) ∧ goodWord (u_lay RX5 TX5 k) = true := by decide +kernel
  exact List.mem_filter.mpr ⟨List.mem_of_getElem? (h k hk).1, (h k hk).2⟩
theorem tin_X6 : ∀ w ∈ u_ws RX6 TX6 3, w ∈ lw_g := by
  intro w hw
  obtain ⟨k, hk, rfl⟩ := List.mem_map.mp hw
  have hk := List.mem_range.mp hk
  have h : ∀ k, k < 3 → lw_tbl[([179, 181, 183] : List Nat).getD k 0]? = some (u_lay RX6 TX6 k) ∧ goodWord (u_lay RX6 TX6 k) = true := by decide +kernel
  exact List.mem_filter.mpr ⟨List.mem_of_getElem? (h k hk).1, (h k hk).2⟩
theorem tin_X7 : ∀ w ∈ u_ws RX7 TX7 3, w ∈ lw_g := by
  intro w hw
  obtain ⟨k, hk, rfl⟩ := List.mem_map.mp hw
  have hk := List.mem_range.mp hk
  have h : ∀ k, k < 3 → lw_tbl[([160, 162, 164] : List Nat).getD k 0]? = some (u_lay RX7 TX7 k) ∧ goodWord (u_lay RX7 TX7 k) = true := by decide +kernel
  exact List.mem_filter.mpr ⟨List.mem_of_getElem? (h k hk).1, (h k hk).2⟩
theorem tin_X8 : ∀ w ∈ u_ws RX8 TX8 6, w ∈ lw_g := by
  intro w hw
  obtain ⟨k, hk, rfl⟩ := List.mem_map.mp hw
  have hk := List.mem_range.mp hk
  have h : ∀ k, k < 6 → lw_tbl[([232, 234, 236, 238, 240, 242] : List Nat).getD k 0]? = some (u_lay RX8 TX8 k) ∧ goodWord (u_lay RX8 TX8 k) = true := by decide +kernel
  exact List.mem_filter.mpr ⟨List.mem_of_getElem? (h k hk).1, (h k hk).2⟩
theorem tin_X9 : ∀ w ∈ u_ws RX9 TX9 6, w ∈ lw_g := by
  intro w hw
  obtain ⟨k, hk, rfl⟩ := List.mem_map.mp hw
  have hk := List.mem_range.mp hk
  have h : ∀ k, k < 6 → lw_tbl[([202, 204, 206, 208, 210, 212] : List Nat).getD k 0]? = some (u_lay RX9 TX9 k) ∧ goodWord (u_lay RX9 TX9 k) = true := by decide +kernel
  exact List.mem_filter.mpr ⟨List.mem_of_getElem? (h k hk).1, (h k hk).2⟩
theorem tin_X10 : ∀ w ∈ u_ws RX10 TX10 4, w ∈ lw_g := by
  intro w hw
  obtain ⟨k, hk, rfl⟩ := List.mem_map.mp hw
  have hk := List.mem_range.mp hk
  have h : ∀ k, k < 4 → lw_tbl[([140, 142, 144, 146] : List Nat).getD k 0]? = some (u_lay RX10 TX10 k) ∧ goodWord (u_lay RX10 TX10 k) = true := by decide +kernel
  exact List.mem_filter.mpr ⟨List.mem_of_getElem? (h k hk).1, (h k hk).2⟩
theorem tin_X11 : ∀ w ∈ u_ws RX11 TX11 11, w ∈ lw_g := by
  intro w hw
  obtain ⟨k, hk, rfl⟩ := List.mem_map.mp hw
  have hk := List.mem_range.mp hk
  have h : ∀ k, k < 11 → lw_tbl[([292, 294, 296, 298, 300, 302, 304, 306, 308, 310, 312] : List Nat).getD k 0]? = some (u_lay RX11 TX11 k) ∧ goodWord (u_lay RX11 TX11 k) = true := by decide +kernel
  exact List.mem_filter.mpr ⟨List.mem_of_getElem? (h k hk).1, (h k hk).2⟩
theorem tin_X12 : ∀ w ∈ u_ws RX12 TX12 58, w ∈ lw_g := by
  intro w hw
  obtain ⟨k, hk, rfl⟩ := List.mem_map.mp hw
  have hk := List.mem_range.mp hk
  have h : ∀ k, k < 58 → lw_tbl[([1144, 1146, 1148, 1150, 1152, 1154, 1156, 1158, 1160, 1162, 1164, 1166, 1168, 1170, 1172, 1174, 1176, 1178, 1180, 1182, 1184, 1186, 1188, 1190, 1192, 1194, 1196, 1198, 1200, 1202, 1204, 1206, 1208, 1210, 1212, 1214, 1216, 1218, 1220, 1222, 1224, 1226, 1228, 1230, 1232, 1234, 1236, 1238, 1240, 1242, 1244, 1246, 1248, 1250, 1252, 1254, 1256, 1258] : List Nat).getD k 0]? = some (u_lay RX12 TX12 k) ∧ goodWord (u_lay RX12 TX12 k) = true := by decide +kernel
  exact List.mem_filter.mpr ⟨List.mem_of_getElem? (h k hk).1, (h k hk).2⟩
