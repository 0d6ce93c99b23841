/-! WHAT THE ROWS OWE: private methods, and every method that is called -/
section ZFACU
theorem zs_0 : Cond.selects "FlagLayers$Tape" ⟨"FlagLayers$Tape", "tokenBehind", "(I)LFlagLayers$Token;"⟩ ⟨"FlagLayers$Tape", "tokenBehind", "(I)LFlagLayers$Token;"⟩ ∈ zT := zT_mem (List.mem_append_left _ (List.mem_map.mpr ⟨(⟨"FlagLayers$Tape", "tokenBehind", "(I)LFlagLayers$Token;"⟩, 2), zg_mem (l := lw_privs) (i := 0) rfl, rfl⟩)) rfl
theorem zs_1 : Cond.selects "FlagLayers$Tape" ⟨"FlagLayers$Tape", "byteAt", "(I)I"⟩ ⟨"FlagLayers$Tape", "byteAt", "(I)I"⟩ ∈ zT := zT_mem (List.mem_append_left _ (List.mem_map.mpr ⟨(⟨"FlagLayers$Tape", "byteAt", "(I)I"⟩, 2), zg_mem (l := lw_privs) (i := 1) rfl, rfl⟩)) rfl
theorem zs_2 : Cond.selects "FlagLayers$Tape" ⟨"FlagLayers$Tape", "wordAt", "(I)LFlagLayers$Token;"⟩ ⟨"FlagLayers$Tape", "wordAt", "(I)LFlagLayers$Token;"⟩ ∈ zT := zT_mem (List.mem_append_left _ (List.mem_map.mpr ⟨(⟨"FlagLayers$Tape", "wordAt", "(I)LFlagLayers$Token;"⟩, 2), zg_mem (l := lw_privs) (i := 2) rfl, rfl⟩)) rfl
theorem zs_3 : Cond.selects "FlagLayers$Tape" ⟨"FlagLayers$Tape", "textAt", "(I)LFlagLayers$Token;"⟩ ⟨"FlagLayers$Tape", "textAt", "(I)LFlagLayers$Token;"⟩ ∈ zT := zT_mem (List.mem_append_left _ (List.mem_map.mpr ⟨(⟨"FlagLayers$Tape", "textAt", "(I)LFlagLayers$Token;"⟩, 2), zg_mem (l := lw_privs) (i := 5) rfl, rfl⟩)) rfl
theorem zs_4 : Cond.selects "FlagLayers$Tape" ⟨"FlagLayers$Tape", "numberAt", "(I)LFlagLayers$Token;"⟩ ⟨"FlagLayers$Tape", "numberAt", "(I)LFlagLayers$Token;"⟩ ∈ zT := zT_mem (List.mem_append_left _ (List.mem_map.mpr ⟨(⟨"FlagLayers$Tape", "numberAt", "(I)LFlagLayers$Token;"⟩, 2), zg_mem (l := lw_privs) (i := 6) rfl, rfl⟩)) rfl
theorem zs_5 : Cond.selects "FlagLayers$Tape" ⟨"FlagLayers$Tape", "signAt", "(I)LFlagLayers$Token;"⟩ ⟨"FlagLayers$Tape", "signAt", "(I)LFlagLayers$Token;"⟩ ∈ zT := zT_mem (List.mem_append_left _ (List.mem_map.mpr ⟨(⟨"FlagLayers$Tape", "signAt", "(I)LFlagLayers$Token;"⟩, 2), zg_mem (l := lw_privs) (i := 8) rfl, rfl⟩)) rfl
theorem zs_6 : Cond.selects "FlagLayers$Tape" ⟨"FlagLayers$Tape", "brokenAt", "(I)LFlagLayers$Token;"⟩ ⟨"FlagLayers$Tape", "brokenAt", "(I)LFlagLayers$Token;"⟩ ∈ zT := zT_mem (List.mem_append_left _ (List.mem_map.mpr ⟨(⟨"FlagLayers$Tape", "brokenAt", "(I)LFlagLayers$Token;"⟩, 2), zg_mem (l := lw_privs) (i := 3) rfl, rfl⟩)) rfl
theorem zs_7 : Cond.selects "FlagLayers$Tape" ⟨"FlagLayers$Tape", "textBetween", "(II)Ljava/lang/String;"⟩ ⟨"FlagLayers$Tape", "textBetween", "(II)Ljava/lang/String;"⟩ ∈ zT := zT_mem (List.mem_append_left _ (List.mem_map.mpr ⟨(⟨"FlagLayers$Tape", "textBetween", "(II)Ljava/lang/String;"⟩, 2), zg_mem (l := lw_privs) (i := 4) rfl, rfl⟩)) rfl
theorem zs_8 : Cond.selects "FlagLayers$Judge" ⟨"FlagLayers$Judge", "indexOfKnown", "(Ljava/lang/String;)I"⟩ ⟨"FlagLayers$Judge", "indexOfKnown", "(Ljava/lang/String;)I"⟩ ∈ zT := zT_mem (List.mem_append_left _ (List.mem_map.mpr ⟨(⟨"FlagLayers$Judge", "indexOfKnown", "(Ljava/lang/String;)I"⟩, 7), zg_mem (l := lw_privs) (i := 38) rfl, rfl⟩)) rfl
theorem zs_9 : Cond.selects "FlagLayers$Judge" ⟨"FlagLayers$Judge", "isToldByLayers", "(LFlagLayers$Plan;II)Z"⟩ ⟨"FlagLayers$Judge", "isToldByLayers", "(LFlagLayers$Plan;II)Z"⟩ ∈ zT := zT_mem (List.mem_append_left _ (List.mem_map.mpr ⟨(⟨"FlagLayers$Judge", "isToldByLayers", "(LFlagLayers$Plan;II)Z"⟩, 7), zg_mem (l := lw_privs) (i := 42) rfl, rfl⟩)) rfl
theorem zs_10 : Cond.selects "FlagLayers$Judge" ⟨"FlagLayers$Judge", "tellByItself", "(LFlagLayers$Plan;I)V"⟩ ⟨"FlagLayers$Judge", "tellByItself", "(LFlagLayers$Plan;I)V"⟩ ∈ zT := zT_mem (List.mem_append_left _ (List.mem_map.mpr ⟨(⟨"FlagLayers$Judge", "tellByItself", "(LFlagLayers$Plan;I)V"⟩, 7), zg_mem (l := lw_privs) (i := 47) rfl, rfl⟩)) rfl
theorem zs_11 : Cond.selects "FlagLayers$Judge" ⟨"FlagLayers$Judge", "holds", "(LFlagLayers$Part;I)Z"⟩ ⟨"FlagLayers$Judge", "holds", "(LFlagLayers$Part;I)Z"⟩ ∈ zT := zT_mem (List.mem_append_left _ (List.mem_map.mpr ⟨(⟨"FlagLayers$Judge", "holds", "(LFlagLayers$Part;I)Z"⟩, 7), zg_mem (l := lw_privs) (i := 39) rfl, rfl⟩)) rfl
theorem zs_12 : Cond.selects "FlagLayers$Judge" ⟨"FlagLayers$Judge", "passes", "(LFlagLayers$Part;)Z"⟩ ⟨"FlagLayers$Judge", "passes", "(LFlagLayers$Part;)Z"⟩ ∈ zT := zT_mem (List.mem_append_left _ (List.mem_map.mpr ⟨(⟨"FlagLayers$Judge", "passes", "(LFlagLayers$Part;)Z"⟩, 7), zg_mem (l := lw_privs) (i := 40) rfl, rfl⟩)) rfl
theorem zs_13 : Cond.selects "FlagLayers$Judge" ⟨"FlagLayers$Judge", "knownThing", "(Ljava/lang/String;)LFlagLayers$Token;"⟩ ⟨"FlagLayers$Judge", "knownThing", "(Ljava/lang/String;)LFlagLayers$Token;"⟩ ∈ zT := zT_mem (List.mem_append_left _ (List.mem_map.mpr ⟨(⟨"FlagLayers$Judge", "knownThing", "(Ljava/lang/String;)LFlagLayers$Token;"⟩, 7), zg_mem (l := lw_privs) (i := 41) rfl, rfl⟩)) rfl
theorem zs_14 : Cond.selects "FlagLayers$Judge" ⟨"FlagLayers$Judge", "tellOff", "(III)V"⟩ ⟨"FlagLayers$Judge", "tellOff", "(III)V"⟩ ∈ zT := zT_mem (List.mem_append_left _ (List.mem_map.mpr ⟨(⟨"FlagLayers$Judge", "tellOff", "(III)V"⟩, 7), zg_mem (l := lw_privs) (i := 43) rfl, rfl⟩)) rfl
theorem zs_15 : Cond.selects "FlagLayers$Judge" ⟨"FlagLayers$Judge", "firstTrueRule", "(LFlagLayers$Plan;III)I"⟩ ⟨"FlagLayers$Judge", "firstTrueRule", "(LFlagLayers$Plan;III)I"⟩ ∈ zT := zT_mem (List.mem_append_left _ (List.mem_map.mpr ⟨(⟨"FlagLayers$Judge", "firstTrueRule", "(LFlagLayers$Plan;III)I"⟩, 7), zg_mem (l := lw_privs) (i := 45) rfl, rfl⟩)) rfl
theorem zs_16 : Cond.selects "FlagLayers$Judge" ⟨"FlagLayers$Judge", "tellServed", "(IIILFlagLayers$Serve;)V"⟩ ⟨"FlagLayers$Judge", "tellServed", "(IIILFlagLayers$Serve;)V"⟩ ∈ zT := zT_mem (List.mem_append_left _ (List.mem_map.mpr ⟨(⟨"FlagLayers$Judge", "tellServed", "(IIILFlagLayers$Serve;)V"⟩, 7), zg_mem (l := lw_privs) (i := 46) rfl, rfl⟩)) rfl
theorem zs_17 : Cond.selects "FlagLayers$Judge" ⟨"FlagLayers$Judge", "keepReasons", "(IIII)V"⟩ ⟨"FlagLayers$Judge", "keepReasons", "(IIII)V"⟩ ∈ zT := zT_mem (List.mem_append_left _ (List.mem_map.mpr ⟨(⟨"FlagLayers$Judge", "keepReasons", "(IIII)V"⟩, 7), zg_mem (l := lw_privs) (i := 44) rfl, rfl⟩)) rfl
theorem zs_18 : Cond.selects "FlagLayers$Plan" ⟨"FlagLayers$Plan", "leastReady", "(II)I"⟩ ⟨"FlagLayers$Plan", "leastReady", "(II)I"⟩ ∈ zT := zT_mem (List.mem_append_left _ (List.mem_map.mpr ⟨(⟨"FlagLayers$Plan", "leastReady", "(II)I"⟩, 12), zg_mem (l := lw_privs) (i := 37) rfl, rfl⟩)) rfl
theorem zs_19 : Cond.selects "java/util/ArrayList" ⟨"java/util/ArrayList", "add", "(Ljava/lang/Object;[Ljava/lang/Object;I)V"⟩ ⟨"java/util/ArrayList", "add", "(Ljava/lang/Object;[Ljava/lang/Object;I)V"⟩ ∈ zT := zT_mem (List.mem_append_left _ (List.mem_map.mpr ⟨(⟨"java/util/ArrayList", "add", "(Ljava/lang/Object;[Ljava/lang/Object;I)V"⟩, 3), zg_mem (l := lw_privs) (i := 20) rfl, rfl⟩)) rfl
theorem zs_20 : Cond.selects "java/util/ArrayList" ⟨"java/util/ArrayList", "grow", "()[Ljava/lang/Object;"⟩ ⟨"java/util/ArrayList", "grow", "()[Ljava/lang/Object;"⟩ ∈ zT := zT_mem (List.mem_append_left _ (List.mem_map.mpr ⟨(⟨"java/util/ArrayList", "grow", "()[Ljava/lang/Object;"⟩, 3), zg_mem (l := lw_privs) (i := 21) rfl, rfl⟩)) rfl
theorem zs_21 : Cond.selects "java/util/ArrayList" ⟨"java/util/ArrayList", "grow", "(I)[Ljava/lang/Object;"⟩ ⟨"java/util/ArrayList", "grow", "(I)[Ljava/lang/Object;"⟩ ∈ zT := zT_mem (List.mem_append_left _ (List.mem_map.mpr ⟨(⟨"java/util/ArrayList", "grow", "(I)[Ljava/lang/Object;"⟩, 3), zg_mem (l := lw_privs) (i := 22) rfl, rfl⟩)) rfl
theorem zs_22 : Cond.selects "FlagLayers$Reader" ⟨"FlagLayers$Reader", "readSegment", "()V"⟩ ⟨"FlagLayers$Reader", "readSegment", "()V"⟩ ∈ zT := zT_mem (List.mem_append_left _ (List.mem_map.mpr ⟨(⟨"FlagLayers$Reader", "readSegment", "()V"⟩, 4), zg_mem (l := lw_privs) (i := 9) rfl, rfl⟩)) rfl
theorem zs_23 : Cond.selects "FlagLayers$Reader" ⟨"FlagLayers$Reader", "readFlag", "()V"⟩ ⟨"FlagLayers$Reader", "readFlag", "()V"⟩ ∈ zT := zT_mem (List.mem_append_left _ (List.mem_map.mpr ⟨(⟨"FlagLayers$Reader", "readFlag", "()V"⟩, 4), zg_mem (l := lw_privs) (i := 23) rfl, rfl⟩)) rfl
theorem zs_24 : Cond.selects "FlagLayers$Reader" ⟨"FlagLayers$Reader", "readLayer", "()V"⟩ ⟨"FlagLayers$Reader", "readLayer", "()V"⟩ ∈ zT := zT_mem (List.mem_append_left _ (List.mem_map.mpr ⟨(⟨"FlagLayers$Reader", "readLayer", "()V"⟩, 4), zg_mem (l := lw_privs) (i := 32) rfl, rfl⟩)) rfl
theorem zs_25 : Cond.selects "FlagLayers$Reader" ⟨"FlagLayers$Reader", "refuse", "(ILFlagLayers$Token;)V"⟩ ⟨"FlagLayers$Reader", "refuse", "(ILFlagLayers$Token;)V"⟩ ∈ zT := zT_mem (List.mem_append_left _ (List.mem_map.mpr ⟨(⟨"FlagLayers$Reader", "refuse", "(ILFlagLayers$Token;)V"⟩, 4), zg_mem (l := lw_privs) (i := 11) rfl, rfl⟩)) rfl
theorem zs_26 : Cond.selects "FlagLayers$Reader" ⟨"FlagLayers$Reader", "settleNeeds", "()V"⟩ ⟨"FlagLayers$Reader", "settleNeeds", "()V"⟩ ∈ zT := zT_mem (List.mem_append_left _ (List.mem_map.mpr ⟨(⟨"FlagLayers$Reader", "settleNeeds", "()V"⟩, 4), zg_mem (l := lw_privs) (i := 34) rfl, rfl⟩)) rfl
theorem zs_27 : Cond.selects "FlagLayers$Reader" ⟨"FlagLayers$Reader", "refuseRings", "()V"⟩ ⟨"FlagLayers$Reader", "refuseRings", "()V"⟩ ∈ zT := zT_mem (List.mem_append_left _ (List.mem_map.mpr ⟨(⟨"FlagLayers$Reader", "refuseRings", "()V"⟩, 4), zg_mem (l := lw_privs) (i := 36) rfl, rfl⟩)) rfl
theorem zs_28 : Cond.selects "FlagLayers$Reader" ⟨"FlagLayers$Reader", "takeFirstWord", "(II)V"⟩ ⟨"FlagLayers$Reader", "takeFirstWord", "(II)V"⟩ ∈ zT := zT_mem (List.mem_append_left _ (List.mem_map.mpr ⟨(⟨"FlagLayers$Reader", "takeFirstWord", "(II)V"⟩, 4), zg_mem (l := lw_privs) (i := 10) rfl, rfl⟩)) rfl
theorem zs_29 : Cond.selects "FlagLayers$Reader" ⟨"FlagLayers$Reader", "takeNewName", "(Ljava/util/ArrayList;)LFlagLayers$Token;"⟩ ⟨"FlagLayers$Reader", "takeNewName", "(Ljava/util/ArrayList;)LFlagLayers$Token;"⟩ ∈ zT := zT_mem (List.mem_append_left _ (List.mem_map.mpr ⟨(⟨"FlagLayers$Reader", "takeNewName", "(Ljava/util/ArrayList;)LFlagLayers$Token;"⟩, 4), zg_mem (l := lw_privs) (i := 12) rfl, rfl⟩)) rfl
theorem zs_30 : Cond.selects "FlagLayers$Reader" ⟨"FlagLayers$Reader", "readRow", "(LFlagLayers$Sort;I)LFlagLayers$Part;"⟩ ⟨"FlagLayers$Reader", "readRow", "(LFlagLayers$Sort;I)LFlagLayers$Part;"⟩ ∈ zT := zT_mem (List.mem_append_left _ (List.mem_map.mpr ⟨(⟨"FlagLayers$Reader", "readRow", "(LFlagLayers$Sort;I)LFlagLayers$Part;"⟩, 4), zg_mem (l := lw_privs) (i := 13) rfl, rfl⟩)) rfl
theorem zs_31 : Cond.selects "FlagLayers$Reader" ⟨"FlagLayers$Reader", "readPart", "(I)LFlagLayers$Part;"⟩ ⟨"FlagLayers$Reader", "readPart", "(I)LFlagLayers$Part;"⟩ ∈ zT := zT_mem (List.mem_append_left _ (List.mem_map.mpr ⟨(⟨"FlagLayers$Reader", "readPart", "(I)LFlagLayers$Part;"⟩, 4), zg_mem (l := lw_privs) (i := 14) rfl, rfl⟩)) rfl
theorem zs_32 : Cond.selects "FlagLayers$Reader" ⟨"FlagLayers$Reader", "newPart", "(LFlagLayers$Sort;LFlagLayers$Token;)LFlagLayers$Part;"⟩ ⟨"FlagLayers$Reader", "newPart", "(LFlagLayers$Sort;LFlagLayers$Token;)LFlagLayers$Part;"⟩ ∈ zT := zT_mem (List.mem_append_left _ (List.mem_map.mpr ⟨(⟨"FlagLayers$Reader", "newPart", "(LFlagLayers$Sort;LFlagLayers$Token;)LFlagLayers$Part;"⟩, 4), zg_mem (l := lw_privs) (i := 15) rfl, rfl⟩)) rfl
theorem zs_33 : Cond.selects "FlagLayers$Reader" ⟨"FlagLayers$Reader", "takeKnownName", "(Ljava/util/ArrayList;)I"⟩ ⟨"FlagLayers$Reader", "takeKnownName", "(Ljava/util/ArrayList;)I"⟩ ∈ zT := zT_mem (List.mem_append_left _ (List.mem_map.mpr ⟨(⟨"FlagLayers$Reader", "takeKnownName", "(Ljava/util/ArrayList;)I"⟩, 4), zg_mem (l := lw_privs) (i := 16) rfl, rfl⟩)) rfl
theorem zs_34 : Cond.selects "FlagLayers$Reader" ⟨"FlagLayers$Reader", "newTest", "()LFlagLayers$Part;"⟩ ⟨"FlagLayers$Reader", "newTest", "()LFlagLayers$Part;"⟩ ∈ zT := zT_mem (List.mem_append_left _ (List.mem_map.mpr ⟨(⟨"FlagLayers$Reader", "newTest", "()LFlagLayers$Part;"⟩, 4), zg_mem (l := lw_privs) (i := 17) rfl, rfl⟩)) rfl
theorem zs_35 : Cond.selects "FlagLayers$Reader" ⟨"FlagLayers$Reader", "readAmong", "(LFlagLayers$Part;)V"⟩ ⟨"FlagLayers$Reader", "readAmong", "(LFlagLayers$Part;)V"⟩ ∈ zT := zT_mem (List.mem_append_left _ (List.mem_map.mpr ⟨(⟨"FlagLayers$Reader", "readAmong", "(LFlagLayers$Part;)V"⟩, 4), zg_mem (l := lw_privs) (i := 18) rfl, rfl⟩)) rfl
theorem zs_36 : Cond.selects "FlagLayers$Reader" ⟨"FlagLayers$Reader", "readTest", "(LFlagLayers$Part;)V"⟩ ⟨"FlagLayers$Reader", "readTest", "(LFlagLayers$Part;)V"⟩ ∈ zT := zT_mem (List.mem_append_left _ (List.mem_map.mpr ⟨(⟨"FlagLayers$Reader", "readTest", "(LFlagLayers$Part;)V"⟩, 4), zg_mem (l := lw_privs) (i := 19) rfl, rfl⟩)) rfl
theorem zs_37 : Cond.selects "FlagLayers$Reader" ⟨"FlagLayers$Reader", "readKind", "(LFlagLayers$Flag;)V"⟩ ⟨"FlagLayers$Reader", "readKind", "(LFlagLayers$Flag;)V"⟩ ∈ zT := zT_mem (List.mem_append_left _ (List.mem_map.mpr ⟨(⟨"FlagLayers$Reader", "readKind", "(LFlagLayers$Flag;)V"⟩, 4), zg_mem (l := lw_privs) (i := 24) rfl, rfl⟩)) rfl
theorem zs_38 : Cond.selects "FlagLayers$Reader" ⟨"FlagLayers$Reader", "readServe", "(LFlagLayers$Flag;)LFlagLayers$Serve;"⟩ ⟨"FlagLayers$Reader", "readServe", "(LFlagLayers$Flag;)LFlagLayers$Serve;"⟩ ∈ zT := zT_mem (List.mem_append_left _ (List.mem_map.mpr ⟨(⟨"FlagLayers$Reader", "readServe", "(LFlagLayers$Flag;)LFlagLayers$Serve;"⟩, 4), zg_mem (l := lw_privs) (i := 26) rfl, rfl⟩)) rfl
theorem zs_39 : Cond.selects "FlagLayers$Reader" ⟨"FlagLayers$Reader", "readValue", "(LFlagLayers$Flag;)I"⟩ ⟨"FlagLayers$Reader", "readValue", "(LFlagLayers$Flag;)I"⟩ ∈ zT := zT_mem (List.mem_append_left _ (List.mem_map.mpr ⟨(⟨"FlagLayers$Reader", "readValue", "(LFlagLayers$Flag;)I"⟩, 4), zg_mem (l := lw_privs) (i := 29) rfl, rfl⟩)) rfl
theorem zs_40 : Cond.selects "FlagLayers$Reader" ⟨"FlagLayers$Reader", "readNeed", "(LFlagLayers$Flag;)V"⟩ ⟨"FlagLayers$Reader", "readNeed", "(LFlagLayers$Flag;)V"⟩ ∈ zT := zT_mem (List.mem_append_left _ (List.mem_map.mpr ⟨(⟨"FlagLayers$Reader", "readNeed", "(LFlagLayers$Flag;)V"⟩, 4), zg_mem (l := lw_privs) (i := 31) rfl, rfl⟩)) rfl
theorem zs_41 : Cond.selects "FlagLayers$Reader" ⟨"FlagLayers$Reader", "readChoice", "(LFlagLayers$Flag;)V"⟩ ⟨"FlagLayers$Reader", "readChoice", "(LFlagLayers$Flag;)V"⟩ ∈ zT := zT_mem (List.mem_append_left _ (List.mem_map.mpr ⟨(⟨"FlagLayers$Reader", "readChoice", "(LFlagLayers$Flag;)V"⟩, 4), zg_mem (l := lw_privs) (i := 25) rfl, rfl⟩)) rfl
theorem zs_42 : Cond.selects "FlagLayers$Reader" ⟨"FlagLayers$Reader", "readSplit", "(LFlagLayers$Flag;)LFlagLayers$Serve;"⟩ ⟨"FlagLayers$Reader", "readSplit", "(LFlagLayers$Flag;)LFlagLayers$Serve;"⟩ ∈ zT := zT_mem (List.mem_append_left _ (List.mem_map.mpr ⟨(⟨"FlagLayers$Reader", "readSplit", "(LFlagLayers$Flag;)LFlagLayers$Serve;"⟩, 4), zg_mem (l := lw_privs) (i := 27) rfl, rfl⟩)) rfl
theorem zs_43 : Cond.selects "FlagLayers$Reader" ⟨"FlagLayers$Reader", "readRoll", "(LFlagLayers$Flag;)LFlagLayers$Serve;"⟩ ⟨"FlagLayers$Reader", "readRoll", "(LFlagLayers$Flag;)LFlagLayers$Serve;"⟩ ∈ zT := zT_mem (List.mem_append_left _ (List.mem_map.mpr ⟨(⟨"FlagLayers$Reader", "readRoll", "(LFlagLayers$Flag;)LFlagLayers$Serve;"⟩, 4), zg_mem (l := lw_privs) (i := 30) rfl, rfl⟩)) rfl
theorem zs_44 : Cond.selects "FlagLayers$Reader" ⟨"FlagLayers$Reader", "takeShare", "(Z)I"⟩ ⟨"FlagLayers$Reader", "takeShare", "(Z)I"⟩ ∈ zT := zT_mem (List.mem_append_left _ (List.mem_map.mpr ⟨(⟨"FlagLayers$Reader", "takeShare", "(Z)I"⟩, 4), zg_mem (l := lw_privs) (i := 28) rfl, rfl⟩)) rfl
theorem zs_45 : Cond.selects "FlagLayers$Reader" ⟨"FlagLayers$Reader", "takeTelling", "()LFlagLayers$Sort;"⟩ ⟨"FlagLayers$Reader", "takeTelling", "()LFlagLayers$Sort;"⟩ ∈ zT := zT_mem (List.mem_append_left _ (List.mem_map.mpr ⟨(⟨"FlagLayers$Reader", "takeTelling", "()LFlagLayers$Sort;"⟩, 4), zg_mem (l := lw_privs) (i := 33) rfl, rfl⟩)) rfl
theorem zs_46 : Cond.selects "FlagLayers$Reader" ⟨"FlagLayers$Reader", "settleNeed", "(ILFlagLayers$Flag;I)V"⟩ ⟨"FlagLayers$Reader", "settleNeed", "(ILFlagLayers$Flag;I)V"⟩ ∈ zT := zT_mem (List.mem_append_left _ (List.mem_map.mpr ⟨(⟨"FlagLayers$Reader", "settleNeed", "(ILFlagLayers$Flag;I)V"⟩, 4), zg_mem (l := lw_privs) (i := 35) rfl, rfl⟩)) rfl
theorem zs_47 : Cond.selects "FlagLayersModel" ⟨"FlagLayersModel", "goes", "(Z)Z"⟩ ⟨"FlagLayersModel", "goes", "(Z)Z"⟩ ∈ zT := zT_mem (List.mem_append_left _ (List.mem_map.mpr ⟨(⟨"FlagLayersModel", "goes", "(Z)Z"⟩, 92), zg_mem (l := lw_privs) (i := 48) rfl, rfl⟩)) rfl
theorem zs_48 : Cond.selects "FlagLayersModel" ⟨"FlagLayersModel", "readAll", "()V"⟩ ⟨"FlagLayersModel", "readAll", "()V"⟩ ∈ zT := zT_mem (List.mem_append_left _ (List.mem_map.mpr ⟨(⟨"FlagLayersModel", "readAll", "()V"⟩, 92), zg_mem (l := lw_privs) (i := 49) rfl, rfl⟩)) rfl
theorem zs_49 : Cond.selects "FlagLayersModel" ⟨"FlagLayersModel", "nextToken", "()V"⟩ ⟨"FlagLayersModel", "nextToken", "()V"⟩ ∈ zT := zT_mem (List.mem_append_left _ (List.mem_map.mpr ⟨(⟨"FlagLayersModel", "nextToken", "()V"⟩, 92), zg_mem (l := lw_privs) (i := 50) rfl, rfl⟩)) rfl
theorem zs_50 : Cond.selects "FlagLayersModel" ⟨"FlagLayersModel", "among", "(Ljava/lang/String;)I"⟩ ⟨"FlagLayersModel", "among", "(Ljava/lang/String;)I"⟩ ∈ zT := zT_mem (List.mem_append_left _ (List.mem_map.mpr ⟨(⟨"FlagLayersModel", "among", "(Ljava/lang/String;)I"⟩, 92), zg_mem (l := lw_privs) (i := 56) rfl, rfl⟩)) rfl
theorem zs_51 : Cond.selects "FlagLayersModel" ⟨"FlagLayersModel", "need", "(Z)V"⟩ ⟨"FlagLayersModel", "need", "(Z)V"⟩ ∈ zT := zT_mem (List.mem_append_left _ (List.mem_map.mpr ⟨(⟨"FlagLayersModel", "need", "(Z)V"⟩, 92), zg_mem (l := lw_privs) (i := 57) rfl, rfl⟩)) rfl
theorem zs_52 : Cond.selects "FlagLayersModel" ⟨"FlagLayersModel", "readSegment", "()V"⟩ ⟨"FlagLayersModel", "readSegment", "()V"⟩ ∈ zT := zT_mem (List.mem_append_left _ (List.mem_map.mpr ⟨(⟨"FlagLayersModel", "readSegment", "()V"⟩, 92), zg_mem (l := lw_privs) (i := 58) rfl, rfl⟩)) rfl
theorem zs_53 : Cond.selects "FlagLayersModel" ⟨"FlagLayersModel", "readFlag", "()V"⟩ ⟨"FlagLayersModel", "readFlag", "()V"⟩ ∈ zT := zT_mem (List.mem_append_left _ (List.mem_map.mpr ⟨(⟨"FlagLayersModel", "readFlag", "()V"⟩, 92), zg_mem (l := lw_privs) (i := 83) rfl, rfl⟩)) rfl
theorem zs_54 : Cond.selects "FlagLayersModel" ⟨"FlagLayersModel", "readLayer", "()V"⟩ ⟨"FlagLayersModel", "readLayer", "()V"⟩ ∈ zT := zT_mem (List.mem_append_left _ (List.mem_map.mpr ⟨(⟨"FlagLayersModel", "readLayer", "()V"⟩, 92), zg_mem (l := lw_privs) (i := 92) rfl, rfl⟩)) rfl
theorem zs_55 : Cond.selects "FlagLayersModel" ⟨"FlagLayersModel", "lookAtNeeds", "()V"⟩ ⟨"FlagLayersModel", "lookAtNeeds", "()V"⟩ ∈ zT := zT_mem (List.mem_append_left _ (List.mem_map.mpr ⟨(⟨"FlagLayersModel", "lookAtNeeds", "()V"⟩, 92), zg_mem (l := lw_privs) (i := 94) rfl, rfl⟩)) rfl
theorem zs_56 : Cond.selects "FlagLayersModel" ⟨"FlagLayersModel", "lookForRings", "()V"⟩ ⟨"FlagLayersModel", "lookForRings", "()V"⟩ ∈ zT := zT_mem (List.mem_append_left _ (List.mem_map.mpr ⟨(⟨"FlagLayersModel", "lookForRings", "()V"⟩, 92), zg_mem (l := lw_privs) (i := 96) rfl, rfl⟩)) rfl
theorem zs_57 : Cond.selects "FlagLayersModel" ⟨"FlagLayersModel", "at", "(I)I"⟩ ⟨"FlagLayersModel", "at", "(I)I"⟩ ∈ zT := zT_mem (List.mem_append_left _ (List.mem_map.mpr ⟨(⟨"FlagLayersModel", "at", "(I)I"⟩, 92), zg_mem (l := lw_privs) (i := 51) rfl, rfl⟩)) rfl
theorem zs_58 : Cond.selects "FlagLayersModel" ⟨"FlagLayersModel", "bad", "(I)V"⟩ ⟨"FlagLayersModel", "bad", "(I)V"⟩ ∈ zT := zT_mem (List.mem_append_left _ (List.mem_map.mpr ⟨(⟨"FlagLayersModel", "bad", "(I)V"⟩, 92), zg_mem (l := lw_privs) (i := 52) rfl, rfl⟩)) rfl
theorem zs_59 : Cond.selects "FlagLayersModel" ⟨"FlagLayersModel", "readNumber", "(Z)V"⟩ ⟨"FlagLayersModel", "readNumber", "(Z)V"⟩ ∈ zT := zT_mem (List.mem_append_left _ (List.mem_map.mpr ⟨(⟨"FlagLayersModel", "readNumber", "(Z)V"⟩, 92), zg_mem (l := lw_privs) (i := 54) rfl, rfl⟩)) rfl
theorem zs_60 : Cond.selects "FlagLayersModel" ⟨"FlagLayersModel", "readText", "()V"⟩ ⟨"FlagLayersModel", "readText", "()V"⟩ ∈ zT := zT_mem (List.mem_append_left _ (List.mem_map.mpr ⟨(⟨"FlagLayersModel", "readText", "()V"⟩, 92), zg_mem (l := lw_privs) (i := 55) rfl, rfl⟩)) rfl
theorem zs_61 : Cond.selects "FlagLayersModel" ⟨"FlagLayersModel", "badAt", "(II)V"⟩ ⟨"FlagLayersModel", "badAt", "(II)V"⟩ ∈ zT := zT_mem (List.mem_append_left _ (List.mem_map.mpr ⟨(⟨"FlagLayersModel", "badAt", "(II)V"⟩, 92), zg_mem (l := lw_privs) (i := 53) rfl, rfl⟩)) rfl
theorem zs_62 : Cond.selects "FlagLayersModel" ⟨"FlagLayersModel", "newName", "([III)I"⟩ ⟨"FlagLayersModel", "newName", "([III)I"⟩ ∈ zT := zT_mem (List.mem_append_left _ (List.mem_map.mpr ⟨(⟨"FlagLayersModel", "newName", "([III)I"⟩, 92), zg_mem (l := lw_privs) (i := 59) rfl, rfl⟩)) rfl
theorem zs_63 : Cond.selects "FlagLayersModel" ⟨"FlagLayersModel", "eat", "(I)V"⟩ ⟨"FlagLayersModel", "eat", "(I)V"⟩ ∈ zT := zT_mem (List.mem_append_left _ (List.mem_map.mpr ⟨(⟨"FlagLayersModel", "eat", "(I)V"⟩, 92), zg_mem (l := lw_privs) (i := 65) rfl, rfl⟩)) rfl
theorem zs_64 : Cond.selects "FlagLayersModel" ⟨"FlagLayersModel", "readExpression", "()I"⟩ ⟨"FlagLayersModel", "readExpression", "()I"⟩ ∈ zT := zT_mem (List.mem_append_left _ (List.mem_map.mpr ⟨(⟨"FlagLayersModel", "readExpression", "()I"⟩, 92), zg_mem (l := lw_privs) (i := 67) rfl, rfl⟩)) rfl
theorem zs_65 : Cond.selects "FlagLayersModel" ⟨"FlagLayersModel", "isName", "()Z"⟩ ⟨"FlagLayersModel", "isName", "()Z"⟩ ∈ zT := zT_mem (List.mem_append_left _ (List.mem_map.mpr ⟨(⟨"FlagLayersModel", "isName", "()Z"⟩, 92), zg_mem (l := lw_privs) (i := 60) rfl, rfl⟩)) rfl
theorem zs_66 : Cond.selects "FlagLayersModel" ⟨"FlagLayersModel", "findIn", "([IIIII)I"⟩ ⟨"FlagLayersModel", "findIn", "([IIIII)I"⟩ ∈ zT := zT_mem (List.mem_append_left _ (List.mem_map.mpr ⟨(⟨"FlagLayersModel", "findIn", "([IIIII)I"⟩, 92), zg_mem (l := lw_privs) (i := 61) rfl, rfl⟩)) rfl
theorem zs_67 : Cond.selects "FlagLayersModel" ⟨"FlagLayersModel", "slotHere", "()I"⟩ ⟨"FlagLayersModel", "slotHere", "()I"⟩ ∈ zT := zT_mem (List.mem_append_left _ (List.mem_map.mpr ⟨(⟨"FlagLayersModel", "slotHere", "()I"⟩, 92), zg_mem (l := lw_privs) (i := 63) rfl, rfl⟩)) rfl
theorem zs_68 : Cond.selects "FlagLayersModel" ⟨"FlagLayersModel", "isSlot", "(III)Z"⟩ ⟨"FlagLayersModel", "isSlot", "(III)Z"⟩ ∈ zT := zT_mem (List.mem_append_left _ (List.mem_map.mpr ⟨(⟨"FlagLayersModel", "isSlot", "(III)Z"⟩, 92), zg_mem (l := lw_privs) (i := 62) rfl, rfl⟩)) rfl
theorem zs_69 : Cond.selects "FlagLayersModel" ⟨"FlagLayersModel", "put", "(III)V"⟩ ⟨"FlagLayersModel", "put", "(III)V"⟩ ∈ zT := zT_mem (List.mem_append_left _ (List.mem_map.mpr ⟨(⟨"FlagLayersModel", "put", "(III)V"⟩, 92), zg_mem (l := lw_privs) (i := 64) rfl, rfl⟩)) rfl
theorem zs_70 : Cond.selects "FlagLayersModel" ⟨"FlagLayersModel", "is", "(I)Z"⟩ ⟨"FlagLayersModel", "is", "(I)Z"⟩ ∈ zT := zT_mem (List.mem_append_left _ (List.mem_map.mpr ⟨(⟨"FlagLayersModel", "is", "(I)Z"⟩, 92), zg_mem (l := lw_privs) (i := 66) rfl, rfl⟩)) rfl
theorem zs_71 : Cond.selects "FlagLayersModel" ⟨"FlagLayersModel", "pile", "(I)V"⟩ ⟨"FlagLayersModel", "pile", "(I)V"⟩ ∈ zT := zT_mem (List.mem_append_left _ (List.mem_map.mpr ⟨(⟨"FlagLayersModel", "pile", "(I)V"⟩, 92), zg_mem (l := lw_privs) (i := 68) rfl, rfl⟩)) rfl
theorem zs_72 : Cond.selects "FlagLayersModel" ⟨"FlagLayersModel", "readPart", "()Z"⟩ ⟨"FlagLayersModel", "readPart", "()Z"⟩ ∈ zT := zT_mem (List.mem_append_left _ (List.mem_map.mpr ⟨(⟨"FlagLayersModel", "readPart", "()Z"⟩, 92), zg_mem (l := lw_privs) (i := 69) rfl, rfl⟩)) rfl
theorem zs_73 : Cond.selects "FlagLayersModel" ⟨"FlagLayersModel", "isWord", "(Ljava/lang/String;)Z"⟩ ⟨"FlagLayersModel", "isWord", "(Ljava/lang/String;)Z"⟩ ∈ zT := zT_mem (List.mem_append_left _ (List.mem_map.mpr ⟨(⟨"FlagLayersModel", "isWord", "(Ljava/lang/String;)Z"⟩, 92), zg_mem (l := lw_privs) (i := 70) rfl, rfl⟩)) rfl
theorem zs_74 : Cond.selects "FlagLayersModel" ⟨"FlagLayersModel", "beginRow", "(Z)V"⟩ ⟨"FlagLayersModel", "beginRow", "(Z)V"⟩ ∈ zT := zT_mem (List.mem_append_left _ (List.mem_map.mpr ⟨(⟨"FlagLayersModel", "beginRow", "(Z)V"⟩, 92), zg_mem (l := lw_privs) (i := 80) rfl, rfl⟩)) rfl
theorem zs_75 : Cond.selects "FlagLayersModel" ⟨"FlagLayersModel", "endAnd", "()I"⟩ ⟨"FlagLayersModel", "endAnd", "()I"⟩ ∈ zT := zT_mem (List.mem_append_left _ (List.mem_map.mpr ⟨(⟨"FlagLayersModel", "endAnd", "()I"⟩, 92), zg_mem (l := lw_privs) (i := 81) rfl, rfl⟩)) rfl
theorem zs_76 : Cond.selects "FlagLayersModel" ⟨"FlagLayersModel", "join", "(III)V"⟩ ⟨"FlagLayersModel", "join", "(III)V"⟩ ∈ zT := zT_mem (List.mem_append_left _ (List.mem_map.mpr ⟨(⟨"FlagLayersModel", "join", "(III)V"⟩, 92), zg_mem (l := lw_privs) (i := 77) rfl, rfl⟩)) rfl
theorem zs_77 : Cond.selects "FlagLayersModel" ⟨"FlagLayersModel", "endOr", "()I"⟩ ⟨"FlagLayersModel", "endOr", "()I"⟩ ∈ zT := zT_mem (List.mem_append_left _ (List.mem_map.mpr ⟨(⟨"FlagLayersModel", "endOr", "()I"⟩, 92), zg_mem (l := lw_privs) (i := 82) rfl, rfl⟩)) rfl
theorem zs_78 : Cond.selects "FlagLayersModel" ⟨"FlagLayersModel", "give", "(I)V"⟩ ⟨"FlagLayersModel", "give", "(I)V"⟩ ∈ zT := zT_mem (List.mem_append_left _ (List.mem_map.mpr ⟨(⟨"FlagLayersModel", "give", "(I)V"⟩, 92), zg_mem (l := lw_privs) (i := 79) rfl, rfl⟩)) rfl
theorem zs_79 : Cond.selects "FlagLayersModel" ⟨"FlagLayersModel", "open", "()V"⟩ ⟨"FlagLayersModel", "open", "()V"⟩ ∈ zT := zT_mem (List.mem_append_left _ (List.mem_map.mpr ⟨(⟨"FlagLayersModel", "open", "()V"⟩, 92), zg_mem (l := lw_privs) (i := 71) rfl, rfl⟩)) rfl
theorem zs_80 : Cond.selects "FlagLayersModel" ⟨"FlagLayersModel", "newPart", "(I)I"⟩ ⟨"FlagLayersModel", "newPart", "(I)I"⟩ ∈ zT := zT_mem (List.mem_append_left _ (List.mem_map.mpr ⟨(⟨"FlagLayersModel", "newPart", "(I)I"⟩, 92), zg_mem (l := lw_privs) (i := 72) rfl, rfl⟩)) rfl
theorem zs_81 : Cond.selects "FlagLayersModel" ⟨"FlagLayersModel", "knownName", "([III)I"⟩ ⟨"FlagLayersModel", "knownName", "([III)I"⟩ ∈ zT := zT_mem (List.mem_append_left _ (List.mem_map.mpr ⟨(⟨"FlagLayersModel", "knownName", "([III)I"⟩, 92), zg_mem (l := lw_privs) (i := 73) rfl, rfl⟩)) rfl
theorem zs_82 : Cond.selects "FlagLayersModel" ⟨"FlagLayersModel", "readTest", "(I)V"⟩ ⟨"FlagLayersModel", "readTest", "(I)V"⟩ ∈ zT := zT_mem (List.mem_append_left _ (List.mem_map.mpr ⟨(⟨"FlagLayersModel", "readTest", "(I)V"⟩, 92), zg_mem (l := lw_privs) (i := 74) rfl, rfl⟩)) rfl
theorem zs_83 : Cond.selects "FlagLayersModel" ⟨"FlagLayersModel", "complete", "(I)V"⟩ ⟨"FlagLayersModel", "complete", "(I)V"⟩ ∈ zT := zT_mem (List.mem_append_left _ (List.mem_map.mpr ⟨(⟨"FlagLayersModel", "complete", "(I)V"⟩, 92), zg_mem (l := lw_privs) (i := 78) rfl, rfl⟩)) rfl
theorem zs_84 : Cond.selects "FlagLayersModel" ⟨"FlagLayersModel", "readOne", "(I)V"⟩ ⟨"FlagLayersModel", "readOne", "(I)V"⟩ ∈ zT := zT_mem (List.mem_append_left _ (List.mem_map.mpr ⟨(⟨"FlagLayersModel", "readOne", "(I)V"⟩, 92), zg_mem (l := lw_privs) (i := 75) rfl, rfl⟩)) rfl
theorem zs_85 : Cond.selects "FlagLayersModel" ⟨"FlagLayersModel", "readAmong", "(I)V"⟩ ⟨"FlagLayersModel", "readAmong", "(I)V"⟩ ∈ zT := zT_mem (List.mem_append_left _ (List.mem_map.mpr ⟨(⟨"FlagLayersModel", "readAmong", "(I)V"⟩, 92), zg_mem (l := lw_privs) (i := 76) rfl, rfl⟩)) rfl
theorem zs_86 : Cond.selects "FlagLayersModel" ⟨"FlagLayersModel", "readChoices", "(I)V"⟩ ⟨"FlagLayersModel", "readChoices", "(I)V"⟩ ∈ zT := zT_mem (List.mem_append_left _ (List.mem_map.mpr ⟨(⟨"FlagLayersModel", "readChoices", "(I)V"⟩, 92), zg_mem (l := lw_privs) (i := 84) rfl, rfl⟩)) rfl
theorem zs_87 : Cond.selects "FlagLayersModel" ⟨"FlagLayersModel", "eatWord", "(Ljava/lang/String;)V"⟩ ⟨"FlagLayersModel", "eatWord", "(Ljava/lang/String;)V"⟩ ∈ zT := zT_mem (List.mem_append_left _ (List.mem_map.mpr ⟨(⟨"FlagLayersModel", "eatWord", "(Ljava/lang/String;)V"⟩, 92), zg_mem (l := lw_privs) (i := 85) rfl, rfl⟩)) rfl
theorem zs_88 : Cond.selects "FlagLayersModel" ⟨"FlagLayersModel", "readServe", "(I)I"⟩ ⟨"FlagLayersModel", "readServe", "(I)I"⟩ ∈ zT := zT_mem (List.mem_append_left _ (List.mem_map.mpr ⟨(⟨"FlagLayersModel", "readServe", "(I)I"⟩, 92), zg_mem (l := lw_privs) (i := 86) rfl, rfl⟩)) rfl
theorem zs_89 : Cond.selects "FlagLayersModel" ⟨"FlagLayersModel", "readValue", "(I)I"⟩ ⟨"FlagLayersModel", "readValue", "(I)I"⟩ ∈ zT := zT_mem (List.mem_append_left _ (List.mem_map.mpr ⟨(⟨"FlagLayersModel", "readValue", "(I)I"⟩, 92), zg_mem (l := lw_privs) (i := 89) rfl, rfl⟩)) rfl
theorem zs_90 : Cond.selects "FlagLayersModel" ⟨"FlagLayersModel", "readNeed", "(I)V"⟩ ⟨"FlagLayersModel", "readNeed", "(I)V"⟩ ∈ zT := zT_mem (List.mem_append_left _ (List.mem_map.mpr ⟨(⟨"FlagLayersModel", "readNeed", "(I)V"⟩, 92), zg_mem (l := lw_privs) (i := 90) rfl, rfl⟩)) rfl
theorem zs_91 : Cond.selects "FlagLayersModel" ⟨"FlagLayersModel", "readRule", "(II)V"⟩ ⟨"FlagLayersModel", "readRule", "(II)V"⟩ ∈ zT := zT_mem (List.mem_append_left _ (List.mem_map.mpr ⟨(⟨"FlagLayersModel", "readRule", "(II)V"⟩, 92), zg_mem (l := lw_privs) (i := 91) rfl, rfl⟩)) rfl
theorem zs_92 : Cond.selects "FlagLayersModel" ⟨"FlagLayersModel", "readSplit", "(IZ)I"⟩ ⟨"FlagLayersModel", "readSplit", "(IZ)I"⟩ ∈ zT := zT_mem (List.mem_append_left _ (List.mem_map.mpr ⟨(⟨"FlagLayersModel", "readSplit", "(IZ)I"⟩, 92), zg_mem (l := lw_privs) (i := 87) rfl, rfl⟩)) rfl
theorem zs_93 : Cond.selects "FlagLayersModel" ⟨"FlagLayersModel", "readShare", "()I"⟩ ⟨"FlagLayersModel", "readShare", "()I"⟩ ∈ zT := zT_mem (List.mem_append_left _ (List.mem_map.mpr ⟨(⟨"FlagLayersModel", "readShare", "()I"⟩, 92), zg_mem (l := lw_privs) (i := 88) rfl, rfl⟩)) rfl
theorem zs_94 : Cond.selects "FlagLayersModel" ⟨"FlagLayersModel", "readItem", "(IZ)V"⟩ ⟨"FlagLayersModel", "readItem", "(IZ)V"⟩ ∈ zT := zT_mem (List.mem_append_left _ (List.mem_map.mpr ⟨(⟨"FlagLayersModel", "readItem", "(IZ)V"⟩, 92), zg_mem (l := lw_privs) (i := 93) rfl, rfl⟩)) rfl
theorem zs_95 : Cond.selects "FlagLayersModel" ⟨"FlagLayersModel", "areAlike", "(II)Z"⟩ ⟨"FlagLayersModel", "areAlike", "(II)Z"⟩ ∈ zT := zT_mem (List.mem_append_left _ (List.mem_map.mpr ⟨(⟨"FlagLayersModel", "areAlike", "(II)Z"⟩, 92), zg_mem (l := lw_privs) (i := 95) rfl, rfl⟩)) rfl
theorem zs_96 : Cond.selects "FlagLayersModel" ⟨"FlagLayersModel", "findReach", "(I)V"⟩ ⟨"FlagLayersModel", "findReach", "(I)V"⟩ ∈ zT := zT_mem (List.mem_append_left _ (List.mem_map.mpr ⟨(⟨"FlagLayersModel", "findReach", "(I)V"⟩, 92), zg_mem (l := lw_privs) (i := 97) rfl, rfl⟩)) rfl
theorem zs_97 : Cond.selects "FlagLayersModel" ⟨"FlagLayersModel", "isFlag", "(I)Z"⟩ ⟨"FlagLayersModel", "isFlag", "(I)Z"⟩ ∈ zT := zT_mem (List.mem_append_left _ (List.mem_map.mpr ⟨(⟨"FlagLayersModel", "isFlag", "(I)Z"⟩, 92), zg_mem (l := lw_privs) (i := 98) rfl, rfl⟩)) rfl
theorem zs_98 : Cond.selects "FlagLayersModel" ⟨"FlagLayersModel", "ruleCount", "(I)I"⟩ ⟨"FlagLayersModel", "ruleCount", "(I)I"⟩ ∈ zT := zT_mem (List.mem_append_left _ (List.mem_map.mpr ⟨(⟨"FlagLayersModel", "ruleCount", "(I)I"⟩, 92), zg_mem (l := lw_privs) (i := 99) rfl, rfl⟩)) rfl
theorem zs_99 : Cond.selects "FlagLayersModel" ⟨"FlagLayersModel", "workSegments", "()V"⟩ ⟨"FlagLayersModel", "workSegments", "()V"⟩ ∈ zT := zT_mem (List.mem_append_left _ (List.mem_map.mpr ⟨(⟨"FlagLayersModel", "workSegments", "()V"⟩, 92), zg_mem (l := lw_privs) (i := 100) rfl, rfl⟩)) rfl
theorem zs_100 : Cond.selects "FlagLayersModel" ⟨"FlagLayersModel", "work", "(II)I"⟩ ⟨"FlagLayersModel", "work", "(II)I"⟩ ∈ zT := zT_mem (List.mem_append_left _ (List.mem_map.mpr ⟨(⟨"FlagLayersModel", "work", "(II)I"⟩, 92), zg_mem (l := lw_privs) (i := 107) rfl, rfl⟩)) rfl
theorem zs_101 : Cond.selects "FlagLayersModel" ⟨"FlagLayersModel", "isTrue", "(III)Z"⟩ ⟨"FlagLayersModel", "isTrue", "(III)Z"⟩ ∈ zT := zT_mem (List.mem_append_left _ (List.mem_map.mpr ⟨(⟨"FlagLayersModel", "isTrue", "(III)Z"⟩, 92), zg_mem (l := lw_privs) (i := 101) rfl, rfl⟩)) rfl
theorem zs_102 : Cond.selects "FlagLayersModel" ⟨"FlagLayersModel", "test", "(I)Z"⟩ ⟨"FlagLayersModel", "test", "(I)Z"⟩ ∈ zT := zT_mem (List.mem_append_left _ (List.mem_map.mpr ⟨(⟨"FlagLayersModel", "test", "(I)Z"⟩, 92), zg_mem (l := lw_privs) (i := 102) rfl, rfl⟩)) rfl
theorem zs_103 : Cond.selects "FlagLayersModel" ⟨"FlagLayersModel", "knownOf", "(I)I"⟩ ⟨"FlagLayersModel", "knownOf", "(I)I"⟩ ∈ zT := zT_mem (List.mem_append_left _ (List.mem_map.mpr ⟨(⟨"FlagLayersModel", "knownOf", "(I)I"⟩, 92), zg_mem (l := lw_privs) (i := 103) rfl, rfl⟩)) rfl
theorem zs_104 : Cond.selects "FlagLayersModel" ⟨"FlagLayersModel", "isOne", "(II)Z"⟩ ⟨"FlagLayersModel", "isOne", "(II)Z"⟩ ∈ zT := zT_mem (List.mem_append_left _ (List.mem_map.mpr ⟨(⟨"FlagLayersModel", "isOne", "(II)Z"⟩, 92), zg_mem (l := lw_privs) (i := 104) rfl, rfl⟩)) rfl
theorem zs_105 : Cond.selects "FlagLayersModel" ⟨"FlagLayersModel", "standsAt", "(III)Z"⟩ ⟨"FlagLayersModel", "standsAt", "(III)Z"⟩ ∈ zT := zT_mem (List.mem_append_left _ (List.mem_map.mpr ⟨(⟨"FlagLayersModel", "standsAt", "(III)Z"⟩, 92), zg_mem (l := lw_privs) (i := 105) rfl, rfl⟩)) rfl
theorem zs_106 : Cond.selects "FlagLayersModel" ⟨"FlagLayersModel", "holds", "(II)Z"⟩ ⟨"FlagLayersModel", "holds", "(II)Z"⟩ ∈ zT := zT_mem (List.mem_append_left _ (List.mem_map.mpr ⟨(⟨"FlagLayersModel", "holds", "(II)Z"⟩, 92), zg_mem (l := lw_privs) (i := 106) rfl, rfl⟩)) rfl
theorem zs_107 : Cond.selects "FlagLayersModel" ⟨"FlagLayersModel", "itemOf", "(IIZ)I"⟩ ⟨"FlagLayersModel", "itemOf", "(IIZ)I"⟩ ∈ zT := zT_mem (List.mem_append_left _ (List.mem_map.mpr ⟨(⟨"FlagLayersModel", "itemOf", "(IIZ)I"⟩, 92), zg_mem (l := lw_privs) (i := 108) rfl, rfl⟩)) rfl
theorem zs_108 : Cond.selects "FlagLayersModel" ⟨"FlagLayersModel", "because", "(IIII)V"⟩ ⟨"FlagLayersModel", "because", "(IIII)V"⟩ ∈ zT := zT_mem (List.mem_append_left _ (List.mem_map.mpr ⟨(⟨"FlagLayersModel", "because", "(IIII)V"⟩, 92), zg_mem (l := lw_privs) (i := 109) rfl, rfl⟩)) rfl
theorem zs_109 : Cond.selects "FlagLayersModel" ⟨"FlagLayersModel", "ruleOf", "(II)I"⟩ ⟨"FlagLayersModel", "ruleOf", "(II)I"⟩ ∈ zT := zT_mem (List.mem_append_left _ (List.mem_map.mpr ⟨(⟨"FlagLayersModel", "ruleOf", "(II)I"⟩, 92), zg_mem (l := lw_privs) (i := 110) rfl, rfl⟩)) rfl
theorem zs_110 : Cond.selects "FlagLayersModel" ⟨"FlagLayersModel", "serve", "(I)I"⟩ ⟨"FlagLayersModel", "serve", "(I)I"⟩ ∈ zT := zT_mem (List.mem_append_left _ (List.mem_map.mpr ⟨(⟨"FlagLayersModel", "serve", "(I)I"⟩, 92), zg_mem (l := lw_privs) (i := 111) rfl, rfl⟩)) rfl
theorem zs_111 : Cond.selects "FlagLayersModel" ⟨"FlagLayersModel", "placeOf", "(II)I"⟩ ⟨"FlagLayersModel", "placeOf", "(II)I"⟩ ∈ zT := zT_mem (List.mem_append_left _ (List.mem_map.mpr ⟨(⟨"FlagLayersModel", "placeOf", "(II)I"⟩, 92), zg_mem (l := lw_privs) (i := 112) rfl, rfl⟩)) rfl
theorem zs_112 : Cond.selects "FlagLayersModel" ⟨"FlagLayersModel", "mix", "(I)V"⟩ ⟨"FlagLayersModel", "mix", "(I)V"⟩ ∈ zT := zT_mem (List.mem_append_left _ (List.mem_map.mpr ⟨(⟨"FlagLayersModel", "mix", "(I)V"⟩, 92), zg_mem (l := lw_privs) (i := 113) rfl, rfl⟩)) rfl
theorem zs_113 : Cond.selects "FlagLayersModel" ⟨"FlagLayersModel", "mixNumber", "(I)V"⟩ ⟨"FlagLayersModel", "mixNumber", "(I)V"⟩ ∈ zT := zT_mem (List.mem_append_left _ (List.mem_map.mpr ⟨(⟨"FlagLayersModel", "mixNumber", "(I)V"⟩, 92), zg_mem (l := lw_privs) (i := 114) rfl, rfl⟩)) rfl
theorem zcm_1 : zcw 1 = .code (zy 1) (zby 1) (zmx 1) (none) := rfl
set_option maxRecDepth 20000 in
theorem zct_1 : zcw 1 ∈ zT := zT_mem (zt_1 41 rfl) rfl
theorem zpd_1 : (zy 1).cls ≠ "java/lang/invoke/MethodHandle" ∧ (zy 1).cls ≠ "java/lang/invoke/VarHandle" ∧ (parseMethodDescriptor (zy 1).desc).map (fun d => d.parameters.length) = some 0 := by decide +kernel
theorem zcm_2 : zcw 2 = .code (zy 2) (zby 2) (zmx 2) (none) := rfl
set_option maxRecDepth 20000 in
theorem zct_2 : zcw 2 ∈ zT := zT_mem (zt_1 49 rfl) rfl
theorem zpd_2 : (zy 2).cls ≠ "java/lang/invoke/MethodHandle" ∧ (zy 2).cls ≠ "java/lang/invoke/VarHandle" ∧ (parseMethodDescriptor (zy 2).desc).map (fun d => d.parameters.length) = some 0 := by decide +kernel
theorem zcm_3 : zcw 3 = .code (zy 3) (zby 3) (zmx 3) (none) := rfl
set_option maxRecDepth 20000 in
theorem zct_3 : zcw 3 ∈ zT := zT_mem (zt_1 64 rfl) rfl
theorem zpd_3 : (zy 3).cls ≠ "java/lang/invoke/MethodHandle" ∧ (zy 3).cls ≠ "java/lang/invoke/VarHandle" ∧ (parseMethodDescriptor (zy 3).desc).map (fun d => d.parameters.length) = some 0 := by decide +kernel
theorem zcm_4 : zcw 4 = .code (zy 4) (zby 4) (zmx 4) (zrt 4) := rfl
set_option maxRecDepth 20000 in
theorem zct_4 : zcw 4 ∈ zT := zT_mem (zt_1 70 rfl) rfl
theorem zpd_4 : (zy 4).cls ≠ "java/lang/invoke/MethodHandle" ∧ (zy 4).cls ≠ "java/lang/invoke/VarHandle" ∧ (parseMethodDescriptor (zy 4).desc).map (fun d => d.parameters.length) = some 2 := by decide +kernel
theorem zcm_5 : zcw 5 = .code (zy 5) (zby 5) (zmx 5) (none) := rfl
set_option maxRecDepth 20000 in
theorem zct_5 : zcw 5 ∈ zT := zT_mem (zt_1 101 rfl) rfl
theorem zpd_5 : (zy 5).cls ≠ "java/lang/invoke/MethodHandle" ∧ (zy 5).cls ≠ "java/lang/invoke/VarHandle" ∧ (parseMethodDescriptor (zy 5).desc).map (fun d => d.parameters.length) = some 0 := by decide +kernel
theorem zcm_6 : zcw 6 = .code (zy 6) (zby 6) (zmx 6) (none) := rfl
set_option maxRecDepth 20000 in
theorem zct_6 : zcw 6 ∈ zT := zT_mem (zt_1 107 rfl) rfl
theorem zpd_6 : (zy 6).cls ≠ "java/lang/invoke/MethodHandle" ∧ (zy 6).cls ≠ "java/lang/invoke/VarHandle" ∧ (parseMethodDescriptor (zy 6).desc).map (fun d => d.parameters.length) = some 0 := by decide +kernel
theorem zcm_7 : zcw 7 = .code (zy 7) (zby 7) (zmx 7) (none) := rfl
set_option maxRecDepth 20000 in
theorem zct_7 : zcw 7 ∈ zT := zT_mem (zt_1 110 rfl) rfl
theorem zpd_7 : (zy 7).cls ≠ "java/lang/invoke/MethodHandle" ∧ (zy 7).cls ≠ "java/lang/invoke/VarHandle" ∧ (parseMethodDescriptor (zy 7).desc).map (fun d => d.parameters.length) = some 0 := by decide +kernel
theorem zcm_8 : zcw 8 = .code (zy 8) (zby 8) (zmx 8) (none) := rfl
set_option maxRecDepth 20000 in
theorem zct_8 : zcw 8 ∈ zT := zT_mem (zt_1 113 rfl) rfl
theorem zpd_8 : (zy 8).cls ≠ "java/lang/invoke/MethodHandle" ∧ (zy 8).cls ≠ "java/lang/invoke/VarHandle" ∧ (parseMethodDescriptor (zy 8).desc).map (fun d => d.parameters.length) = some 0 := by decide +kernel
theorem zcm_9 : zcw 9 = .codeWith (zy 9) (zby 9) (zmx 9) (zrt 9) (ztb 9) := rfl
set_option maxRecDepth 20000 in
theorem zct_9 : zcw 9 ∈ zT := zT_mem (zt_1 208 rfl) rfl
theorem zpd_9 : (zy 9).cls ≠ "java/lang/invoke/MethodHandle" ∧ (zy 9).cls ≠ "java/lang/invoke/VarHandle" ∧ (parseMethodDescriptor (zy 9).desc).map (fun d => d.parameters.length) = some 0 := by decide +kernel
theorem zcm_10 : zcw 10 = .code (zy 10) (zby 10) (zmx 10) (zrt 10) := rfl
set_option maxRecDepth 20000 in
theorem zct_10 : zcw 10 ∈ zT := zT_mem (zt_1 215 rfl) rfl
theorem zpd_10 : (zy 10).cls ≠ "java/lang/invoke/MethodHandle" ∧ (zy 10).cls ≠ "java/lang/invoke/VarHandle" ∧ (parseMethodDescriptor (zy 10).desc).map (fun d => d.parameters.length) = some 0 := by decide +kernel
theorem zcm_11 : zcw 11 = .code (zy 11) (zby 11) (zmx 11) (zrt 11) := rfl
set_option maxRecDepth 20000 in
theorem zct_11 : zcw 11 ∈ zT := zT_mem (zt_1 219 rfl) rfl
theorem zpd_11 : (zy 11).cls ≠ "java/lang/invoke/MethodHandle" ∧ (zy 11).cls ≠ "java/lang/invoke/VarHandle" ∧ (parseMethodDescriptor (zy 11).desc).map (fun d => d.parameters.length) = some 1 := by decide +kernel
theorem zcm_12 : zcw 12 = .code (zy 12) (zby 12) (zmx 12) (zrt 12) := rfl
set_option maxRecDepth 20000 in
theorem zct_12 : zcw 12 ∈ zT := zT_mem (zt_1 223 rfl) rfl
theorem zpd_12 : (zy 12).cls ≠ "java/lang/invoke/MethodHandle" ∧ (zy 12).cls ≠ "java/lang/invoke/VarHandle" ∧ (parseMethodDescriptor (zy 12).desc).map (fun d => d.parameters.length) = some 1 := by decide +kernel
theorem zcm_13 : zcw 13 = .code (zy 13) (zby 13) (zmx 13) (zrt 13) := rfl
set_option maxRecDepth 20000 in
theorem zct_13 : zcw 13 ∈ zT := zT_mem (zt_1 226 rfl) rfl
theorem zpd_13 : (zy 13).cls ≠ "java/lang/invoke/MethodHandle" ∧ (zy 13).cls ≠ "java/lang/invoke/VarHandle" ∧ (parseMethodDescriptor (zy 13).desc).map (fun d => d.parameters.length) = some 2 := by decide +kernel
theorem zcm_14 : zcw 14 = .code (zy 14) (zby 14) (zmx 14) (zrt 14) := rfl
set_option maxRecDepth 20000 in
theorem zct_14 : zcw 14 ∈ zT := zT_mem (zt_1 229 rfl) rfl
theorem zpd_14 : (zy 14).cls ≠ "java/lang/invoke/MethodHandle" ∧ (zy 14).cls ≠ "java/lang/invoke/VarHandle" ∧ (parseMethodDescriptor (zy 14).desc).map (fun d => d.parameters.length) = some 1 := by decide +kernel
theorem zcm_15 : zcw 15 = .code (zy 15) (zby 15) (zmx 15) (none) := rfl
set_option maxRecDepth 20000 in
theorem zct_15 : zcw 15 ∈ zT := zT_mem (zt_1 237 rfl) rfl
theorem zpd_15 : (zy 15).cls ≠ "java/lang/invoke/MethodHandle" ∧ (zy 15).cls ≠ "java/lang/invoke/VarHandle" ∧ (parseMethodDescriptor (zy 15).desc).map (fun d => d.parameters.length) = some 5 := by decide +kernel
theorem zcm_16 : zcw 16 = .code (zy 16) (zby 16) (zmx 16) (zrt 16) := rfl
set_option maxRecDepth 20000 in
theorem zct_16 : zcw 16 ∈ zT := zT_mem (zt_2 35 rfl) rfl
theorem zpd_16 : (zy 16).cls ≠ "java/lang/invoke/MethodHandle" ∧ (zy 16).cls ≠ "java/lang/invoke/VarHandle" ∧ (parseMethodDescriptor (zy 16).desc).map (fun d => d.parameters.length) = some 1 := by decide +kernel
theorem zcm_17 : zcw 17 = .code (zy 17) (zby 17) (zmx 17) (zrt 17) := rfl
set_option maxRecDepth 20000 in
theorem zct_17 : zcw 17 ∈ zT := zT_mem (zt_2 39 rfl) rfl
theorem zpd_17 : (zy 17).cls ≠ "java/lang/invoke/MethodHandle" ∧ (zy 17).cls ≠ "java/lang/invoke/VarHandle" ∧ (parseMethodDescriptor (zy 17).desc).map (fun d => d.parameters.length) = some 1 := by decide +kernel
theorem zcm_18 : zcw 18 = .code (zy 18) (zby 18) (zmx 18) (zrt 18) := rfl
set_option maxRecDepth 20000 in
theorem zct_18 : zcw 18 ∈ zT := zT_mem (zt_2 42 rfl) rfl
theorem zpd_18 : (zy 18).cls ≠ "java/lang/invoke/MethodHandle" ∧ (zy 18).cls ≠ "java/lang/invoke/VarHandle" ∧ (parseMethodDescriptor (zy 18).desc).map (fun d => d.parameters.length) = some 1 := by decide +kernel
theorem zcm_19 : zcw 19 = .code (zy 19) (zby 19) (zmx 19) (zrt 19) := rfl
set_option maxRecDepth 20000 in
theorem zct_19 : zcw 19 ∈ zT := zT_mem (zt_2 45 rfl) rfl
theorem zpd_19 : (zy 19).cls ≠ "java/lang/invoke/MethodHandle" ∧ (zy 19).cls ≠ "java/lang/invoke/VarHandle" ∧ (parseMethodDescriptor (zy 19).desc).map (fun d => d.parameters.length) = some 1 := by decide +kernel
theorem zcm_20 : zcw 20 = .code (zy 20) (zby 20) (zmx 20) (zrt 20) := rfl
set_option maxRecDepth 20000 in
theorem zct_20 : zcw 20 ∈ zT := zT_mem (zt_2 49 rfl) rfl
theorem zpd_20 : (zy 20).cls ≠ "java/lang/invoke/MethodHandle" ∧ (zy 20).cls ≠ "java/lang/invoke/VarHandle" ∧ (parseMethodDescriptor (zy 20).desc).map (fun d => d.parameters.length) = some 1 := by decide +kernel
theorem zcm_21 : zcw 21 = .code (zy 21) (zby 21) (zmx 21) (zrt 21) := rfl
set_option maxRecDepth 20000 in
theorem zct_21 : zcw 21 ∈ zT := zT_mem (zt_2 55 rfl) rfl
theorem zpd_21 : (zy 21).cls ≠ "java/lang/invoke/MethodHandle" ∧ (zy 21).cls ≠ "java/lang/invoke/VarHandle" ∧ (parseMethodDescriptor (zy 21).desc).map (fun d => d.parameters.length) = some 2 := by decide +kernel
theorem zcm_22 : zcw 22 = .code (zy 22) (zby 22) (zmx 22) (zrt 22) := rfl
set_option maxRecDepth 20000 in
theorem zct_22 : zcw 22 ∈ zT := zT_mem (zt_2 58 rfl) rfl
theorem zpd_22 : (zy 22).cls ≠ "java/lang/invoke/MethodHandle" ∧ (zy 22).cls ≠ "java/lang/invoke/VarHandle" ∧ (parseMethodDescriptor (zy 22).desc).map (fun d => d.parameters.length) = some 2 := by decide +kernel
theorem zcm_23 : zcw 23 = .code (zy 23) (zby 23) (zmx 23) (none) := rfl
set_option maxRecDepth 20000 in
theorem zct_23 : zcw 23 ∈ zT := zT_mem (zt_2 63 rfl) rfl
theorem zpd_23 : (zy 23).cls ≠ "java/lang/invoke/MethodHandle" ∧ (zy 23).cls ≠ "java/lang/invoke/VarHandle" ∧ (parseMethodDescriptor (zy 23).desc).map (fun d => d.parameters.length) = some 1 := by decide +kernel
theorem zcm_24 : zcw 24 = .code (zy 24) (zby 24) (zmx 24) (none) := rfl
set_option maxRecDepth 20000 in
theorem zct_24 : zcw 24 ∈ zT := zT_mem (zt_2 66 rfl) rfl
theorem zpd_24 : (zy 24).cls ≠ "java/lang/invoke/MethodHandle" ∧ (zy 24).cls ≠ "java/lang/invoke/VarHandle" ∧ (parseMethodDescriptor (zy 24).desc).map (fun d => d.parameters.length) = some 4 := by decide +kernel
theorem zcm_25 : zcw 25 = .code (zy 25) (zby 25) (zmx 25) (zrt 25) := rfl
set_option maxRecDepth 20000 in
theorem zct_25 : zcw 25 ∈ zT := zT_mem (zt_2 73 rfl) rfl
theorem zpd_25 : (zy 25).cls ≠ "java/lang/invoke/MethodHandle" ∧ (zy 25).cls ≠ "java/lang/invoke/VarHandle" ∧ (parseMethodDescriptor (zy 25).desc).map (fun d => d.parameters.length) = some 3 := by decide +kernel
theorem zcm_26 : zcw 26 = .code (zy 26) (zby 26) (zmx 26) (zrt 26) := rfl
set_option maxRecDepth 20000 in
theorem zct_26 : zcw 26 ∈ zT := zT_mem (zt_2 76 rfl) rfl
theorem zpd_26 : (zy 26).cls ≠ "java/lang/invoke/MethodHandle" ∧ (zy 26).cls ≠ "java/lang/invoke/VarHandle" ∧ (parseMethodDescriptor (zy 26).desc).map (fun d => d.parameters.length) = some 5 := by decide +kernel
theorem zcm_27 : zcw 27 = .code (zy 27) (zby 27) (zmx 27) (zrt 27) := rfl
set_option maxRecDepth 20000 in
theorem zct_27 : zcw 27 ∈ zT := zT_mem (zt_2 118 rfl) rfl
theorem zpd_27 : (zy 27).cls ≠ "java/lang/invoke/MethodHandle" ∧ (zy 27).cls ≠ "java/lang/invoke/VarHandle" ∧ (parseMethodDescriptor (zy 27).desc).map (fun d => d.parameters.length) = some 2 := by decide +kernel
theorem zcm_28 : zcw 28 = .code (zy 28) (zby 28) (zmx 28) (zrt 28) := rfl
set_option maxRecDepth 20000 in
theorem zct_28 : zcw 28 ∈ zT := zT_mem (zt_2 134 rfl) rfl
theorem zpd_28 : (zy 28).cls ≠ "java/lang/invoke/MethodHandle" ∧ (zy 28).cls ≠ "java/lang/invoke/VarHandle" ∧ (parseMethodDescriptor (zy 28).desc).map (fun d => d.parameters.length) = some 1 := by decide +kernel
theorem zcm_29 : zcw 29 = .code (zy 29) (zby 29) (zmx 29) (zrt 29) := rfl
set_option maxRecDepth 20000 in
theorem zct_29 : zcw 29 ∈ zT := zT_mem (zt_2 140 rfl) rfl
theorem zpd_29 : (zy 29).cls ≠ "java/lang/invoke/MethodHandle" ∧ (zy 29).cls ≠ "java/lang/invoke/VarHandle" ∧ (parseMethodDescriptor (zy 29).desc).map (fun d => d.parameters.length) = some 1 := by decide +kernel
theorem zcm_30 : zcw 30 = .code (zy 30) (zby 30) (zmx 30) (zrt 30) := rfl
set_option maxRecDepth 20000 in
theorem zct_30 : zcw 30 ∈ zT := zT_mem (zt_2 144 rfl) rfl
theorem zpd_30 : (zy 30).cls ≠ "java/lang/invoke/MethodHandle" ∧ (zy 30).cls ≠ "java/lang/invoke/VarHandle" ∧ (parseMethodDescriptor (zy 30).desc).map (fun d => d.parameters.length) = some 2 := by decide +kernel
theorem zcm_31 : zcw 31 = .code (zy 31) (zby 31) (zmx 31) (zrt 31) := rfl
set_option maxRecDepth 20000 in
theorem zct_31 : zcw 31 ∈ zT := zT_mem (zt_2 150 rfl) rfl
theorem zpd_31 : (zy 31).cls ≠ "java/lang/invoke/MethodHandle" ∧ (zy 31).cls ≠ "java/lang/invoke/VarHandle" ∧ (parseMethodDescriptor (zy 31).desc).map (fun d => d.parameters.length) = some 1 := by decide +kernel
theorem zcm_32 : zcw 32 = .code (zy 32) (zby 32) (zmx 32) (zrt 32) := rfl
set_option maxRecDepth 20000 in
theorem zct_32 : zcw 32 ∈ zT := zT_mem (zt_2 153 rfl) rfl
theorem zpd_32 : (zy 32).cls ≠ "java/lang/invoke/MethodHandle" ∧ (zy 32).cls ≠ "java/lang/invoke/VarHandle" ∧ (parseMethodDescriptor (zy 32).desc).map (fun d => d.parameters.length) = some 1 := by decide +kernel
theorem zcm_33 : zcw 33 = .code (zy 33) (zby 33) (zmx 33) (zrt 33) := rfl
set_option maxRecDepth 20000 in
theorem zct_33 : zcw 33 ∈ zT := zT_mem (zt_2 159 rfl) rfl
theorem zpd_33 : (zy 33).cls ≠ "java/lang/invoke/MethodHandle" ∧ (zy 33).cls ≠ "java/lang/invoke/VarHandle" ∧ (parseMethodDescriptor (zy 33).desc).map (fun d => d.parameters.length) = some 1 := by decide +kernel
theorem zcm_34 : zcw 34 = .code (zy 34) (zby 34) (zmx 34) (none) := rfl
set_option maxRecDepth 20000 in
theorem zct_34 : zcw 34 ∈ zT := zT_mem (zt_2 164 rfl) rfl
theorem zpd_34 : (zy 34).cls ≠ "java/lang/invoke/MethodHandle" ∧ (zy 34).cls ≠ "java/lang/invoke/VarHandle" ∧ (parseMethodDescriptor (zy 34).desc).map (fun d => d.parameters.length) = some 0 := by decide +kernel
theorem zcm_35 : zcw 35 = .code (zy 35) (zby 35) (zmx 35) (none) := rfl
set_option maxRecDepth 20000 in
theorem zct_35 : zcw 35 ∈ zT := zT_mem (zt_2 167 rfl) rfl
theorem zpd_35 : (zy 35).cls ≠ "java/lang/invoke/MethodHandle" ∧ (zy 35).cls ≠ "java/lang/invoke/VarHandle" ∧ (parseMethodDescriptor (zy 35).desc).map (fun d => d.parameters.length) = some 1 := by decide +kernel
theorem zcm_36 : zcw 36 = .code (zy 36) (zby 36) (zmx 36) (zrt 36) := rfl
set_option maxRecDepth 20000 in
theorem zct_36 : zcw 36 ∈ zT := zT_mem (zt_2 187 rfl) rfl
theorem zpd_36 : (zy 36).cls ≠ "java/lang/invoke/MethodHandle" ∧ (zy 36).cls ≠ "java/lang/invoke/VarHandle" ∧ (parseMethodDescriptor (zy 36).desc).map (fun d => d.parameters.length) = some 1 := by decide +kernel
theorem zcm_37 : zcw 37 = .code (zy 37) (zby 37) (zmx 37) (zrt 37) := rfl
set_option maxRecDepth 20000 in
theorem zct_37 : zcw 37 ∈ zT := zT_mem (zt_2 190 rfl) rfl
theorem zpd_37 : (zy 37).cls ≠ "java/lang/invoke/MethodHandle" ∧ (zy 37).cls ≠ "java/lang/invoke/VarHandle" ∧ (parseMethodDescriptor (zy 37).desc).map (fun d => d.parameters.length) = some 1 := by decide +kernel
theorem zcm_38 : zcw 38 = .code (zy 38) (zby 38) (zmx 38) (zrt 38) := rfl
set_option maxRecDepth 20000 in
theorem zct_38 : zcw 38 ∈ zT := zT_mem (zt_2 193 rfl) rfl
theorem zpd_38 : (zy 38).cls ≠ "java/lang/invoke/MethodHandle" ∧ (zy 38).cls ≠ "java/lang/invoke/VarHandle" ∧ (parseMethodDescriptor (zy 38).desc).map (fun d => d.parameters.length) = some 1 := by decide +kernel
theorem zcm_39 : zcw 39 = .code (zy 39) (zby 39) (zmx 39) (zrt 39) := rfl
set_option maxRecDepth 20000 in
theorem zct_39 : zcw 39 ∈ zT := zT_mem (zt_2 197 rfl) rfl
theorem zpd_39 : (zy 39).cls ≠ "java/lang/invoke/MethodHandle" ∧ (zy 39).cls ≠ "java/lang/invoke/VarHandle" ∧ (parseMethodDescriptor (zy 39).desc).map (fun d => d.parameters.length) = some 1 := by decide +kernel
theorem zcm_40 : zcw 40 = .code (zy 40) (zby 40) (zmx 40) (zrt 40) := rfl
set_option maxRecDepth 20000 in
theorem zct_40 : zcw 40 ∈ zT := zT_mem (zt_2 201 rfl) rfl
theorem zpd_40 : (zy 40).cls ≠ "java/lang/invoke/MethodHandle" ∧ (zy 40).cls ≠ "java/lang/invoke/VarHandle" ∧ (parseMethodDescriptor (zy 40).desc).map (fun d => d.parameters.length) = some 1 := by decide +kernel
theorem zcm_41 : zcw 41 = .code (zy 41) (zby 41) (zmx 41) (zrt 41) := rfl
set_option maxRecDepth 20000 in
theorem zct_41 : zcw 41 ∈ zT := zT_mem (zt_2 204 rfl) rfl
theorem zpd_41 : (zy 41).cls ≠ "java/lang/invoke/MethodHandle" ∧ (zy 41).cls ≠ "java/lang/invoke/VarHandle" ∧ (parseMethodDescriptor (zy 41).desc).map (fun d => d.parameters.length) = some 3 := by decide +kernel
theorem zcm_42 : zcw 42 = .code (zy 42) (zby 42) (zmx 42) (zrt 42) := rfl
set_option maxRecDepth 20000 in
theorem zct_42 : zcw 42 ∈ zT := zT_mem (zt_2 213 rfl) rfl
theorem zpd_42 : (zy 42).cls ≠ "java/lang/invoke/MethodHandle" ∧ (zy 42).cls ≠ "java/lang/invoke/VarHandle" ∧ (parseMethodDescriptor (zy 42).desc).map (fun d => d.parameters.length) = some 2 := by decide +kernel
theorem zcm_43 : zcw 43 = .code (zy 43) (zby 43) (zmx 43) (zrt 43) := rfl
set_option maxRecDepth 20000 in
theorem zct_43 : zcw 43 ∈ zT := zT_mem (zt_2 223 rfl) rfl
theorem zpd_43 : (zy 43).cls ≠ "java/lang/invoke/MethodHandle" ∧ (zy 43).cls ≠ "java/lang/invoke/VarHandle" ∧ (parseMethodDescriptor (zy 43).desc).map (fun d => d.parameters.length) = some 2 := by decide +kernel
theorem zcm_44 : zcw 44 = .code (zy 44) (zby 44) (zmx 44) (zrt 44) := rfl
set_option maxRecDepth 20000 in
theorem zct_44 : zcw 44 ∈ zT := zT_mem (zt_2 231 rfl) rfl
theorem zpd_44 : (zy 44).cls ≠ "java/lang/invoke/MethodHandle" ∧ (zy 44).cls ≠ "java/lang/invoke/VarHandle" ∧ (parseMethodDescriptor (zy 44).desc).map (fun d => d.parameters.length) = some 0 := by decide +kernel
theorem zcm_45 : zcw 45 = .code (zy 45) (zby 45) (zmx 45) (zrt 45) := rfl
set_option maxRecDepth 20000 in
theorem zct_45 : zcw 45 ∈ zT := zT_mem (zt_2 234 rfl) rfl
theorem zpd_45 : (zy 45).cls ≠ "java/lang/invoke/MethodHandle" ∧ (zy 45).cls ≠ "java/lang/invoke/VarHandle" ∧ (parseMethodDescriptor (zy 45).desc).map (fun d => d.parameters.length) = some 3 := by decide +kernel
theorem zcm_46 : zcw 46 = .code (zy 46) (zby 46) (zmx 46) (zrt 46) := rfl
set_option maxRecDepth 20000 in
theorem zct_46 : zcw 46 ∈ zT := zT_mem (zt_3 19 rfl) rfl
theorem zpd_46 : (zy 46).cls ≠ "java/lang/invoke/MethodHandle" ∧ (zy 46).cls ≠ "java/lang/invoke/VarHandle" ∧ (parseMethodDescriptor (zy 46).desc).map (fun d => d.parameters.length) = some 0 := by decide +kernel
theorem zcm_47 : zcw 47 = .code (zy 47) (zby 47) (zmx 47) (none) := rfl
set_option maxRecDepth 20000 in
theorem zct_47 : zcw 47 ∈ zT := zT_mem (zt_3 23 rfl) rfl
theorem zpd_47 : (zy 47).cls ≠ "java/lang/invoke/MethodHandle" ∧ (zy 47).cls ≠ "java/lang/invoke/VarHandle" ∧ (parseMethodDescriptor (zy 47).desc).map (fun d => d.parameters.length) = some 1 := by decide +kernel
theorem zcm_48 : zcw 48 = .code (zy 48) (zby 48) (zmx 48) (none) := rfl
set_option maxRecDepth 20000 in
theorem zct_48 : zcw 48 ∈ zT := zT_mem (zt_3 26 rfl) rfl
theorem zpd_48 : (zy 48).cls ≠ "java/lang/invoke/MethodHandle" ∧ (zy 48).cls ≠ "java/lang/invoke/VarHandle" ∧ (parseMethodDescriptor (zy 48).desc).map (fun d => d.parameters.length) = some 2 := by decide +kernel
theorem zcm_49 : zcw 49 = .code (zy 49) (zby 49) (zmx 49) (zrt 49) := rfl
set_option maxRecDepth 20000 in
theorem zct_49 : zcw 49 ∈ zT := zT_mem (zt_3 31 rfl) rfl
theorem zpd_49 : (zy 49).cls ≠ "java/lang/invoke/MethodHandle" ∧ (zy 49).cls ≠ "java/lang/invoke/VarHandle" ∧ (parseMethodDescriptor (zy 49).desc).map (fun d => d.parameters.length) = some 0 := by decide +kernel
theorem zcm_50 : zcw 50 = .code (zy 50) (zby 50) (zmx 50) (zrt 50) := rfl
set_option maxRecDepth 20000 in
theorem zct_50 : zcw 50 ∈ zT := zT_mem (zt_3 37 rfl) rfl
theorem zpd_50 : (zy 50).cls ≠ "java/lang/invoke/MethodHandle" ∧ (zy 50).cls ≠ "java/lang/invoke/VarHandle" ∧ (parseMethodDescriptor (zy 50).desc).map (fun d => d.parameters.length) = some 0 := by decide +kernel
theorem zcm_51 : zcw 51 = .code (zy 51) (zby 51) (zmx 51) (zrt 51) := rfl
set_option maxRecDepth 20000 in
theorem zct_51 : zcw 51 ∈ zT := zT_mem (zt_3 39 rfl) rfl
theorem zpd_51 : (zy 51).cls ≠ "java/lang/invoke/MethodHandle" ∧ (zy 51).cls ≠ "java/lang/invoke/VarHandle" ∧ (parseMethodDescriptor (zy 51).desc).map (fun d => d.parameters.length) = some 0 := by decide +kernel
theorem zcm_52 : zcw 52 = .code (zy 52) (zby 52) (zmx 52) (zrt 52) := rfl
set_option maxRecDepth 20000 in
theorem zct_52 : zcw 52 ∈ zT := zT_mem (zt_3 43 rfl) rfl
theorem zpd_52 : (zy 52).cls ≠ "java/lang/invoke/MethodHandle" ∧ (zy 52).cls ≠ "java/lang/invoke/VarHandle" ∧ (parseMethodDescriptor (zy 52).desc).map (fun d => d.parameters.length) = some 3 := by decide +kernel
theorem zcm_53 : zcw 53 = .code (zy 53) (zby 53) (zmx 53) (zrt 53) := rfl
set_option maxRecDepth 20000 in
theorem zct_53 : zcw 53 ∈ zT := zT_mem (zt_3 46 rfl) rfl
theorem zpd_53 : (zy 53).cls ≠ "java/lang/invoke/MethodHandle" ∧ (zy 53).cls ≠ "java/lang/invoke/VarHandle" ∧ (parseMethodDescriptor (zy 53).desc).map (fun d => d.parameters.length) = some 3 := by decide +kernel
theorem zcm_54 : zcw 54 = .code (zy 54) (zby 54) (zmx 54) (zrt 54) := rfl
set_option maxRecDepth 20000 in
theorem zct_54 : zcw 54 ∈ zT := zT_mem (zt_3 49 rfl) rfl
theorem zpd_54 : (zy 54).cls ≠ "java/lang/invoke/MethodHandle" ∧ (zy 54).cls ≠ "java/lang/invoke/VarHandle" ∧ (parseMethodDescriptor (zy 54).desc).map (fun d => d.parameters.length) = some 2 := by decide +kernel
theorem zcm_55 : zcw 55 = .code (zy 55) (zby 55) (zmx 55) (zrt 55) := rfl
set_option maxRecDepth 20000 in
theorem zct_55 : zcw 55 ∈ zT := zT_mem (zt_3 112 rfl) rfl
theorem zpd_55 : (zy 55).cls ≠ "java/lang/invoke/MethodHandle" ∧ (zy 55).cls ≠ "java/lang/invoke/VarHandle" ∧ (parseMethodDescriptor (zy 55).desc).map (fun d => d.parameters.length) = some 0 := by decide +kernel
theorem zcm_56 : zcw 56 = .code (zy 56) (zby 56) (zmx 56) (zrt 56) := rfl
set_option maxRecDepth 20000 in
theorem zct_56 : zcw 56 ∈ zT := zT_mem (zt_3 116 rfl) rfl
theorem zpd_56 : (zy 56).cls ≠ "java/lang/invoke/MethodHandle" ∧ (zy 56).cls ≠ "java/lang/invoke/VarHandle" ∧ (parseMethodDescriptor (zy 56).desc).map (fun d => d.parameters.length) = some 0 := by decide +kernel
theorem zcm_57 : zcw 57 = .code (zy 57) (zby 57) (zmx 57) (zrt 57) := rfl
set_option maxRecDepth 20000 in
theorem zct_57 : zcw 57 ∈ zT := zT_mem (zt_3 177 rfl) rfl
theorem zpd_57 : (zy 57).cls ≠ "java/lang/invoke/MethodHandle" ∧ (zy 57).cls ≠ "java/lang/invoke/VarHandle" ∧ (parseMethodDescriptor (zy 57).desc).map (fun d => d.parameters.length) = some 1 := by decide +kernel
theorem zcm_58 : zcw 58 = .code (zy 58) (zby 58) (zmx 58) (zrt 58) := rfl
set_option maxRecDepth 20000 in
theorem zct_58 : zcw 58 ∈ zT := zT_mem (zt_3 182 rfl) rfl
theorem zpd_58 : (zy 58).cls ≠ "java/lang/invoke/MethodHandle" ∧ (zy 58).cls ≠ "java/lang/invoke/VarHandle" ∧ (parseMethodDescriptor (zy 58).desc).map (fun d => d.parameters.length) = some 1 := by decide +kernel
theorem zcm_59 : zcw 59 = .code (zy 59) (zby 59) (zmx 59) (zrt 59) := rfl
set_option maxRecDepth 20000 in
theorem zct_59 : zcw 59 ∈ zT := zT_mem (zt_3 187 rfl) rfl
theorem zpd_59 : (zy 59).cls ≠ "java/lang/invoke/MethodHandle" ∧ (zy 59).cls ≠ "java/lang/invoke/VarHandle" ∧ (parseMethodDescriptor (zy 59).desc).map (fun d => d.parameters.length) = some 1 := by decide +kernel
theorem zcm_60 : zcw 60 = .code (zy 60) (zby 60) (zmx 60) (zrt 60) := rfl
set_option maxRecDepth 20000 in
theorem zct_60 : zcw 60 ∈ zT := zT_mem (zt_3 191 rfl) rfl
theorem zpd_60 : (zy 60).cls ≠ "java/lang/invoke/MethodHandle" ∧ (zy 60).cls ≠ "java/lang/invoke/VarHandle" ∧ (parseMethodDescriptor (zy 60).desc).map (fun d => d.parameters.length) = some 0 := by decide +kernel
theorem zcm_61 : zcw 61 = .code (zy 61) (zby 61) (zmx 61) (zrt 61) := rfl
set_option maxRecDepth 20000 in
theorem zct_61 : zcw 61 ∈ zT := zT_mem (zt_3 194 rfl) rfl
theorem zpd_61 : (zy 61).cls ≠ "java/lang/invoke/MethodHandle" ∧ (zy 61).cls ≠ "java/lang/invoke/VarHandle" ∧ (parseMethodDescriptor (zy 61).desc).map (fun d => d.parameters.length) = some 2 := by decide +kernel
theorem zcm_62 : zcw 62 = .code (zy 62) (zby 62) (zmx 62) (zrt 62) := rfl
set_option maxRecDepth 20000 in
theorem zct_62 : zcw 62 ∈ zT := zT_mem (zt_3 197 rfl) rfl
theorem zpd_62 : (zy 62).cls ≠ "java/lang/invoke/MethodHandle" ∧ (zy 62).cls ≠ "java/lang/invoke/VarHandle" ∧ (parseMethodDescriptor (zy 62).desc).map (fun d => d.parameters.length) = some 2 := by decide +kernel
theorem zcm_63 : zcw 63 = .code (zy 63) (zby 63) (zmx 63) (zrt 63) := rfl
set_option maxRecDepth 20000 in
theorem zct_63 : zcw 63 ∈ zT := zT_mem (zt_3 200 rfl) rfl
theorem zpd_63 : (zy 63).cls ≠ "java/lang/invoke/MethodHandle" ∧ (zy 63).cls ≠ "java/lang/invoke/VarHandle" ∧ (parseMethodDescriptor (zy 63).desc).map (fun d => d.parameters.length) = some 3 := by decide +kernel
theorem zcm_64 : zcw 64 = .code (zy 64) (zby 64) (zmx 64) (none) := rfl
set_option maxRecDepth 20000 in
theorem zct_64 : zcw 64 ∈ zT := zT_mem (zt_3 211 rfl) rfl
theorem zpd_64 : (zy 64).cls ≠ "java/lang/invoke/MethodHandle" ∧ (zy 64).cls ≠ "java/lang/invoke/VarHandle" ∧ (parseMethodDescriptor (zy 64).desc).map (fun d => d.parameters.length) = some 1 := by decide +kernel
theorem zcm_65 : zcw 65 = .code (zy 65) (zby 65) (zmx 65) (zrt 65) := rfl
set_option maxRecDepth 20000 in
theorem zct_65 : zcw 65 ∈ zT := zT_mem (zt_3 234 rfl) rfl
theorem zpd_65 : (zy 65).cls ≠ "java/lang/invoke/MethodHandle" ∧ (zy 65).cls ≠ "java/lang/invoke/VarHandle" ∧ (parseMethodDescriptor (zy 65).desc).map (fun d => d.parameters.length) = some 0 := by decide +kernel
theorem zcm_66 : zcw 66 = .code (zy 66) (zby 66) (zmx 66) (zrt 66) := rfl
set_option maxRecDepth 20000 in
theorem zct_66 : zcw 66 ∈ zT := zT_mem (zt_4 3 rfl) rfl
theorem zpd_66 : (zy 66).cls ≠ "java/lang/invoke/MethodHandle" ∧ (zy 66).cls ≠ "java/lang/invoke/VarHandle" ∧ (parseMethodDescriptor (zy 66).desc).map (fun d => d.parameters.length) = some 0 := by decide +kernel
theorem zcm_67 : zcw 67 = .code (zy 67) (zby 67) (zmx 67) (zrt 67) := rfl
set_option maxRecDepth 20000 in
theorem zct_67 : zcw 67 ∈ zT := zT_mem (zt_4 7 rfl) rfl
theorem zpd_67 : (zy 67).cls ≠ "java/lang/invoke/MethodHandle" ∧ (zy 67).cls ≠ "java/lang/invoke/VarHandle" ∧ (parseMethodDescriptor (zy 67).desc).map (fun d => d.parameters.length) = some 0 := by decide +kernel
theorem zcm_68 : zcw 68 = .code (zy 68) (zby 68) (zmx 68) (zrt 68) := rfl
set_option maxRecDepth 20000 in
theorem zct_68 : zcw 68 ∈ zT := zT_mem (zt_4 11 rfl) rfl
theorem zpd_68 : (zy 68).cls ≠ "java/lang/invoke/MethodHandle" ∧ (zy 68).cls ≠ "java/lang/invoke/VarHandle" ∧ (parseMethodDescriptor (zy 68).desc).map (fun d => d.parameters.length) = some 0 := by decide +kernel
theorem zcm_69 : zcw 69 = .code (zy 69) (zby 69) (zmx 69) (zrt 69) := rfl
set_option maxRecDepth 20000 in
theorem zct_69 : zcw 69 ∈ zT := zT_mem (zt_4 15 rfl) rfl
theorem zpd_69 : (zy 69).cls ≠ "java/lang/invoke/MethodHandle" ∧ (zy 69).cls ≠ "java/lang/invoke/VarHandle" ∧ (parseMethodDescriptor (zy 69).desc).map (fun d => d.parameters.length) = some 2 := by decide +kernel
theorem zcm_70 : zcw 70 = .code (zy 70) (zby 70) (zmx 70) (zrt 70) := rfl
set_option maxRecDepth 20000 in
theorem zct_70 : zcw 70 ∈ zT := zT_mem (zt_4 19 rfl) rfl
theorem zpd_70 : (zy 70).cls ≠ "java/lang/invoke/MethodHandle" ∧ (zy 70).cls ≠ "java/lang/invoke/VarHandle" ∧ (parseMethodDescriptor (zy 70).desc).map (fun d => d.parameters.length) = some 2 := by decide +kernel
theorem zcm_71 : zcw 71 = .code (zy 71) (zby 71) (zmx 71) (zrt 71) := rfl
set_option maxRecDepth 20000 in
theorem zct_71 : zcw 71 ∈ zT := zT_mem (zt_4 27 rfl) rfl
theorem zpd_71 : (zy 71).cls ≠ "java/lang/invoke/MethodHandle" ∧ (zy 71).cls ≠ "java/lang/invoke/VarHandle" ∧ (parseMethodDescriptor (zy 71).desc).map (fun d => d.parameters.length) = some 1 := by decide +kernel
theorem zcm_72 : zcw 72 = .code (zy 72) (zby 72) (zmx 72) (zrt 72) := rfl
set_option maxRecDepth 20000 in
theorem zct_72 : zcw 72 ∈ zT := zT_mem (zt_4 31 rfl) rfl
theorem zpd_72 : (zy 72).cls ≠ "java/lang/invoke/MethodHandle" ∧ (zy 72).cls ≠ "java/lang/invoke/VarHandle" ∧ (parseMethodDescriptor (zy 72).desc).map (fun d => d.parameters.length) = some 1 := by decide +kernel
theorem zcm_73 : zcw 73 = .code (zy 73) (zby 73) (zmx 73) (zrt 73) := rfl
set_option maxRecDepth 20000 in
theorem zct_73 : zcw 73 ∈ zT := zT_mem (zt_4 35 rfl) rfl
theorem zpd_73 : (zy 73).cls ≠ "java/lang/invoke/MethodHandle" ∧ (zy 73).cls ≠ "java/lang/invoke/VarHandle" ∧ (parseMethodDescriptor (zy 73).desc).map (fun d => d.parameters.length) = some 2 := by decide +kernel
theorem zcm_74 : zcw 74 = .code (zy 74) (zby 74) (zmx 74) (zrt 74) := rfl
set_option maxRecDepth 20000 in
theorem zct_74 : zcw 74 ∈ zT := zT_mem (zt_4 40 rfl) rfl
theorem zpd_74 : (zy 74).cls ≠ "java/lang/invoke/MethodHandle" ∧ (zy 74).cls ≠ "java/lang/invoke/VarHandle" ∧ (parseMethodDescriptor (zy 74).desc).map (fun d => d.parameters.length) = some 1 := by decide +kernel
theorem zcm_75 : zcw 75 = .code (zy 75) (zby 75) (zmx 75) (zrt 75) := rfl
set_option maxRecDepth 20000 in
theorem zct_75 : zcw 75 ∈ zT := zT_mem (zt_4 43 rfl) rfl
theorem zpd_75 : (zy 75).cls ≠ "java/lang/invoke/MethodHandle" ∧ (zy 75).cls ≠ "java/lang/invoke/VarHandle" ∧ (parseMethodDescriptor (zy 75).desc).map (fun d => d.parameters.length) = some 2 := by decide +kernel
theorem zcm_76 : zcw 76 = .code (zy 76) (zby 76) (zmx 76) (zrt 76) := rfl
set_option maxRecDepth 20000 in
theorem zct_76 : zcw 76 ∈ zT := zT_mem (zt_4 48 rfl) rfl
theorem zpd_76 : (zy 76).cls ≠ "java/lang/invoke/MethodHandle" ∧ (zy 76).cls ≠ "java/lang/invoke/VarHandle" ∧ (parseMethodDescriptor (zy 76).desc).map (fun d => d.parameters.length) = some 1 := by decide +kernel
theorem zcm_77 : zcw 77 = .code (zy 77) (zby 77) (zmx 77) (zrt 77) := rfl
set_option maxRecDepth 20000 in
theorem zct_77 : zcw 77 ∈ zT := zT_mem (zt_4 58 rfl) rfl
theorem zpd_77 : (zy 77).cls ≠ "java/lang/invoke/MethodHandle" ∧ (zy 77).cls ≠ "java/lang/invoke/VarHandle" ∧ (parseMethodDescriptor (zy 77).desc).map (fun d => d.parameters.length) = some 2 := by decide +kernel
theorem zcm_78 : zcw 78 = .code (zy 78) (zby 78) (zmx 78) (zrt 78) := rfl
set_option maxRecDepth 20000 in
theorem zct_78 : zcw 78 ∈ zT := zT_mem (zt_4 64 rfl) rfl
theorem zpd_78 : (zy 78).cls ≠ "java/lang/invoke/MethodHandle" ∧ (zy 78).cls ≠ "java/lang/invoke/VarHandle" ∧ (parseMethodDescriptor (zy 78).desc).map (fun d => d.parameters.length) = some 1 := by decide +kernel
theorem zcm_79 : zcw 79 = .code (zy 79) (zby 79) (zmx 79) (zrt 79) := rfl
set_option maxRecDepth 20000 in
theorem zct_79 : zcw 79 ∈ zT := zT_mem (zt_4 74 rfl) rfl
theorem zpd_79 : (zy 79).cls ≠ "java/lang/invoke/MethodHandle" ∧ (zy 79).cls ≠ "java/lang/invoke/VarHandle" ∧ (parseMethodDescriptor (zy 79).desc).map (fun d => d.parameters.length) = some 2 := by decide +kernel
theorem zcm_80 : zcw 80 = .code (zy 80) (zby 80) (zmx 80) (none) := rfl
set_option maxRecDepth 20000 in
theorem zct_80 : zcw 80 ∈ zT := zT_mem (zt_4 79 rfl) rfl
theorem zpd_80 : (zy 80).cls ≠ "java/lang/invoke/MethodHandle" ∧ (zy 80).cls ≠ "java/lang/invoke/VarHandle" ∧ (parseMethodDescriptor (zy 80).desc).map (fun d => d.parameters.length) = some 1 := by decide +kernel
theorem zcm_81 : zcw 81 = .code (zy 81) (zby 81) (zmx 81) (zrt 81) := rfl
set_option maxRecDepth 20000 in
theorem zct_81 : zcw 81 ∈ zT := zT_mem (zt_4 121 rfl) rfl
theorem zpd_81 : (zy 81).cls ≠ "java/lang/invoke/MethodHandle" ∧ (zy 81).cls ≠ "java/lang/invoke/VarHandle" ∧ (parseMethodDescriptor (zy 81).desc).map (fun d => d.parameters.length) = some 1 := by decide +kernel
theorem zcm_82 : zcw 82 = .code (zy 82) (zby 82) (zmx 82) (zrt 82) := rfl
set_option maxRecDepth 20000 in
theorem zct_82 : zcw 82 ∈ zT := zT_mem (zt_4 125 rfl) rfl
theorem zpd_82 : (zy 82).cls ≠ "java/lang/invoke/MethodHandle" ∧ (zy 82).cls ≠ "java/lang/invoke/VarHandle" ∧ (parseMethodDescriptor (zy 82).desc).map (fun d => d.parameters.length) = some 0 := by decide +kernel
theorem zcm_83 : zcw 83 = .code (zy 83) (zby 83) (zmx 83) (zrt 83) := rfl
set_option maxRecDepth 20000 in
theorem zct_83 : zcw 83 ∈ zT := zT_mem (zt_4 131 rfl) rfl
theorem zpd_83 : (zy 83).cls ≠ "java/lang/invoke/MethodHandle" ∧ (zy 83).cls ≠ "java/lang/invoke/VarHandle" ∧ (parseMethodDescriptor (zy 83).desc).map (fun d => d.parameters.length) = some 1 := by decide +kernel
theorem zcm_84 : zcw 84 = .code (zy 84) (zby 84) (zmx 84) (zrt 84) := rfl
set_option maxRecDepth 20000 in
theorem zct_84 : zcw 84 ∈ zT := zT_mem (zt_4 135 rfl) rfl
theorem zpd_84 : (zy 84).cls ≠ "java/lang/invoke/MethodHandle" ∧ (zy 84).cls ≠ "java/lang/invoke/VarHandle" ∧ (parseMethodDescriptor (zy 84).desc).map (fun d => d.parameters.length) = some 0 := by decide +kernel
theorem zcm_85 : zcw 85 = .code (zy 85) (zby 85) (zmx 85) (zrt 85) := rfl
set_option maxRecDepth 20000 in
theorem zct_85 : zcw 85 ∈ zT := zT_mem (zt_4 143 rfl) rfl
theorem zpd_85 : (zy 85).cls ≠ "java/lang/invoke/MethodHandle" ∧ (zy 85).cls ≠ "java/lang/invoke/VarHandle" ∧ (parseMethodDescriptor (zy 85).desc).map (fun d => d.parameters.length) = some 1 := by decide +kernel
theorem zcm_86 : zcw 86 = .code (zy 86) (zby 86) (zmx 86) (zrt 86) := rfl
set_option maxRecDepth 20000 in
theorem zct_86 : zcw 86 ∈ zT := zT_mem (zt_4 153 rfl) rfl
theorem zpd_86 : (zy 86).cls ≠ "java/lang/invoke/MethodHandle" ∧ (zy 86).cls ≠ "java/lang/invoke/VarHandle" ∧ (parseMethodDescriptor (zy 86).desc).map (fun d => d.parameters.length) = some 1 := by decide +kernel
theorem zcm_87 : zcw 87 = .code (zy 87) (zby 87) (zmx 87) (zrt 87) := rfl
set_option maxRecDepth 20000 in
theorem zct_87 : zcw 87 ∈ zT := zT_mem (zt_4 157 rfl) rfl
theorem zpd_87 : (zy 87).cls ≠ "java/lang/invoke/MethodHandle" ∧ (zy 87).cls ≠ "java/lang/invoke/VarHandle" ∧ (parseMethodDescriptor (zy 87).desc).map (fun d => d.parameters.length) = some 3 := by decide +kernel
theorem zcm_88 : zcw 88 = .code (zy 88) (zby 88) (zmx 88) (zrt 88) := rfl
set_option maxRecDepth 20000 in
theorem zct_88 : zcw 88 ∈ zT := zT_mem (zt_4 161 rfl) rfl
theorem zpd_88 : (zy 88).cls ≠ "java/lang/invoke/MethodHandle" ∧ (zy 88).cls ≠ "java/lang/invoke/VarHandle" ∧ (parseMethodDescriptor (zy 88).desc).map (fun d => d.parameters.length) = some 0 := by decide +kernel
theorem zcm_89 : zcw 89 = .code (zy 89) (zby 89) (zmx 89) (zrt 89) := rfl
set_option maxRecDepth 20000 in
theorem zct_89 : zcw 89 ∈ zT := zT_mem (zt_4 165 rfl) rfl
theorem zpd_89 : (zy 89).cls ≠ "java/lang/invoke/MethodHandle" ∧ (zy 89).cls ≠ "java/lang/invoke/VarHandle" ∧ (parseMethodDescriptor (zy 89).desc).map (fun d => d.parameters.length) = some 1 := by decide +kernel
theorem zcm_90 : zcw 90 = .code (zy 90) (zby 90) (zmx 90) (zrt 90) := rfl
set_option maxRecDepth 20000 in
theorem zct_90 : zcw 90 ∈ zT := zT_mem (zt_4 204 rfl) rfl
theorem zpd_90 : (zy 90).cls ≠ "java/lang/invoke/MethodHandle" ∧ (zy 90).cls ≠ "java/lang/invoke/VarHandle" ∧ (parseMethodDescriptor (zy 90).desc).map (fun d => d.parameters.length) = some 0 := by decide +kernel
theorem zcm_91 : zcw 91 = .code (zy 91) (zby 91) (zmx 91) (none) := rfl
set_option maxRecDepth 20000 in
theorem zct_91 : zcw 91 ∈ zT := zT_mem (zt_4 209 rfl) rfl
theorem zpd_91 : (zy 91).cls ≠ "java/lang/invoke/MethodHandle" ∧ (zy 91).cls ≠ "java/lang/invoke/VarHandle" ∧ (parseMethodDescriptor (zy 91).desc).map (fun d => d.parameters.length) = some 1 := by decide +kernel
theorem zcm_92 : zcw 92 = .code (zy 92) (zby 92) (zmx 92) (none) := rfl
set_option maxRecDepth 20000 in
theorem zct_92 : zcw 92 ∈ zT := zT_mem (zt_4 219 rfl) rfl
theorem zpd_92 : (zy 92).cls ≠ "java/lang/invoke/MethodHandle" ∧ (zy 92).cls ≠ "java/lang/invoke/VarHandle" ∧ (parseMethodDescriptor (zy 92).desc).map (fun d => d.parameters.length) = some 3 := by decide +kernel
theorem zcm_93 : zcw 93 = .code (zy 93) (zby 93) (zmx 93) (zrt 93) := rfl
set_option maxRecDepth 20000 in
theorem zct_93 : zcw 93 ∈ zT := zT_mem (zt_5 56 rfl) rfl
theorem zpd_93 : (zy 93).cls ≠ "java/lang/invoke/MethodHandle" ∧ (zy 93).cls ≠ "java/lang/invoke/VarHandle" ∧ (parseMethodDescriptor (zy 93).desc).map (fun d => d.parameters.length) = some 1 := by decide +kernel
theorem zcm_94 : zcw 94 = .code (zy 94) (zby 94) (zmx 94) (zrt 94) := rfl
set_option maxRecDepth 20000 in
theorem zct_94 : zcw 94 ∈ zT := zT_mem (zt_5 65 rfl) rfl
theorem zpd_94 : (zy 94).cls ≠ "java/lang/invoke/MethodHandle" ∧ (zy 94).cls ≠ "java/lang/invoke/VarHandle" ∧ (parseMethodDescriptor (zy 94).desc).map (fun d => d.parameters.length) = some 1 := by decide +kernel
theorem zcm_95 : zcw 95 = .code (zy 95) (zby 95) (zmx 95) (zrt 95) := rfl
set_option maxRecDepth 20000 in
theorem zct_95 : zcw 95 ∈ zT := zT_mem (zt_5 73 rfl) rfl
theorem zpd_95 : (zy 95).cls ≠ "java/lang/invoke/MethodHandle" ∧ (zy 95).cls ≠ "java/lang/invoke/VarHandle" ∧ (parseMethodDescriptor (zy 95).desc).map (fun d => d.parameters.length) = some 1 := by decide +kernel
theorem zcm_96 : zcw 96 = .code (zy 96) (zby 96) (zmx 96) (zrt 96) := rfl
set_option maxRecDepth 20000 in
theorem zct_96 : zcw 96 ∈ zT := zT_mem (zt_5 79 rfl) rfl
theorem zpd_96 : (zy 96).cls ≠ "java/lang/invoke/MethodHandle" ∧ (zy 96).cls ≠ "java/lang/invoke/VarHandle" ∧ (parseMethodDescriptor (zy 96).desc).map (fun d => d.parameters.length) = some 1 := by decide +kernel
theorem zcm_97 : zcw 97 = .code (zy 97) (zby 97) (zmx 97) (zrt 97) := rfl
set_option maxRecDepth 20000 in
theorem zct_97 : zcw 97 ∈ zT := zT_mem (zt_5 85 rfl) rfl
theorem zpd_97 : (zy 97).cls ≠ "java/lang/invoke/MethodHandle" ∧ (zy 97).cls ≠ "java/lang/invoke/VarHandle" ∧ (parseMethodDescriptor (zy 97).desc).map (fun d => d.parameters.length) = some 0 := by decide +kernel
theorem zcm_98 : zcw 98 = .code (zy 98) (zby 98) (zmx 98) (zrt 98) := rfl
set_option maxRecDepth 20000 in
theorem zct_98 : zcw 98 ∈ zT := zT_mem (zt_5 89 rfl) rfl
theorem zpd_98 : (zy 98).cls ≠ "java/lang/invoke/MethodHandle" ∧ (zy 98).cls ≠ "java/lang/invoke/VarHandle" ∧ (parseMethodDescriptor (zy 98).desc).map (fun d => d.parameters.length) = some 1 := by decide +kernel
theorem zcm_99 : zcw 99 = .code (zy 99) (zby 99) (zmx 99) (zrt 99) := rfl
set_option maxRecDepth 20000 in
theorem zct_99 : zcw 99 ∈ zT := zT_mem (zt_5 93 rfl) rfl
theorem zpd_99 : (zy 99).cls ≠ "java/lang/invoke/MethodHandle" ∧ (zy 99).cls ≠ "java/lang/invoke/VarHandle" ∧ (parseMethodDescriptor (zy 99).desc).map (fun d => d.parameters.length) = some 1 := by decide +kernel
theorem zcm_100 : zcw 100 = .code (zy 100) (zby 100) (zmx 100) (zrt 100) := rfl
set_option maxRecDepth 20000 in
theorem zct_100 : zcw 100 ∈ zT := zT_mem (zt_5 97 rfl) rfl
theorem zpd_100 : (zy 100).cls ≠ "java/lang/invoke/MethodHandle" ∧ (zy 100).cls ≠ "java/lang/invoke/VarHandle" ∧ (parseMethodDescriptor (zy 100).desc).map (fun d => d.parameters.length) = some 1 := by decide +kernel
theorem zcm_101 : zcw 101 = .code (zy 101) (zby 101) (zmx 101) (zrt 101) := rfl
set_option maxRecDepth 20000 in
theorem zct_101 : zcw 101 ∈ zT := zT_mem (zt_5 107 rfl) rfl
theorem zpd_101 : (zy 101).cls ≠ "java/lang/invoke/MethodHandle" ∧ (zy 101).cls ≠ "java/lang/invoke/VarHandle" ∧ (parseMethodDescriptor (zy 101).desc).map (fun d => d.parameters.length) = some 1 := by decide +kernel
theorem zcm_102 : zcw 102 = .code (zy 102) (zby 102) (zmx 102) (zrt 102) := rfl
set_option maxRecDepth 20000 in
theorem zct_102 : zcw 102 ∈ zT := zT_mem (zt_5 111 rfl) rfl
theorem zpd_102 : (zy 102).cls ≠ "java/lang/invoke/MethodHandle" ∧ (zy 102).cls ≠ "java/lang/invoke/VarHandle" ∧ (parseMethodDescriptor (zy 102).desc).map (fun d => d.parameters.length) = some 2 := by decide +kernel
theorem zcm_103 : zcw 103 = .code (zy 103) (zby 103) (zmx 103) (zrt 103) := rfl
set_option maxRecDepth 20000 in
theorem zct_103 : zcw 103 ∈ zT := zT_mem (zt_5 116 rfl) rfl
theorem zpd_103 : (zy 103).cls ≠ "java/lang/invoke/MethodHandle" ∧ (zy 103).cls ≠ "java/lang/invoke/VarHandle" ∧ (parseMethodDescriptor (zy 103).desc).map (fun d => d.parameters.length) = some 0 := by decide +kernel
theorem zcm_104 : zcw 104 = .code (zy 104) (zby 104) (zmx 104) (zrt 104) := rfl
set_option maxRecDepth 20000 in
theorem zct_104 : zcw 104 ∈ zT := zT_mem (zt_5 122 rfl) rfl
theorem zpd_104 : (zy 104).cls ≠ "java/lang/invoke/MethodHandle" ∧ (zy 104).cls ≠ "java/lang/invoke/VarHandle" ∧ (parseMethodDescriptor (zy 104).desc).map (fun d => d.parameters.length) = some 1 := by decide +kernel
theorem zcm_105 : zcw 105 = .code (zy 105) (zby 105) (zmx 105) (zrt 105) := rfl
set_option maxRecDepth 20000 in
theorem zct_105 : zcw 105 ∈ zT := zT_mem (zt_5 132 rfl) rfl
theorem zpd_105 : (zy 105).cls ≠ "java/lang/invoke/MethodHandle" ∧ (zy 105).cls ≠ "java/lang/invoke/VarHandle" ∧ (parseMethodDescriptor (zy 105).desc).map (fun d => d.parameters.length) = some 1 := by decide +kernel
theorem zcm_106 : zcw 106 = .code (zy 106) (zby 106) (zmx 106) (none) := rfl
set_option maxRecDepth 20000 in
theorem zct_106 : zcw 106 ∈ zT := zT_mem (zt_5 140 rfl) rfl
theorem zpd_106 : (zy 106).cls ≠ "java/lang/invoke/MethodHandle" ∧ (zy 106).cls ≠ "java/lang/invoke/VarHandle" ∧ (parseMethodDescriptor (zy 106).desc).map (fun d => d.parameters.length) = some 3 := by decide +kernel
theorem zcm_107 : zcw 107 = .code (zy 107) (zby 107) (zmx 107) (zrt 107) := rfl
set_option maxRecDepth 20000 in
theorem zct_107 : zcw 107 ∈ zT := zT_mem (zt_5 160 rfl) rfl
theorem zpd_107 : (zy 107).cls ≠ "java/lang/invoke/MethodHandle" ∧ (zy 107).cls ≠ "java/lang/invoke/VarHandle" ∧ (parseMethodDescriptor (zy 107).desc).map (fun d => d.parameters.length) = some 0 := by decide +kernel
theorem zcm_108 : zcw 108 = .code (zy 108) (zby 108) (zmx 108) (none) := rfl
set_option maxRecDepth 20000 in
theorem zct_108 : zcw 108 ∈ zT := zT_mem (zt_5 167 rfl) rfl
theorem zpd_108 : (zy 108).cls ≠ "java/lang/invoke/MethodHandle" ∧ (zy 108).cls ≠ "java/lang/invoke/VarHandle" ∧ (parseMethodDescriptor (zy 108).desc).map (fun d => d.parameters.length) = some 2 := by decide +kernel
theorem zcm_109 : zcw 109 = .code (zy 109) (zby 109) (zmx 109) (zrt 109) := rfl
set_option maxRecDepth 20000 in
theorem zct_109 : zcw 109 ∈ zT := zT_mem (zt_5 195 rfl) rfl
theorem zpd_109 : (zy 109).cls ≠ "java/lang/invoke/MethodHandle" ∧ (zy 109).cls ≠ "java/lang/invoke/VarHandle" ∧ (parseMethodDescriptor (zy 109).desc).map (fun d => d.parameters.length) = some 0 := by decide +kernel
theorem zcm_110 : zcw 110 = .code (zy 110) (zby 110) (zmx 110) (zrt 110) := rfl
set_option maxRecDepth 20000 in
theorem zct_110 : zcw 110 ∈ zT := zT_mem (zt_5 202 rfl) rfl
theorem zpd_110 : (zy 110).cls ≠ "java/lang/invoke/MethodHandle" ∧ (zy 110).cls ≠ "java/lang/invoke/VarHandle" ∧ (parseMethodDescriptor (zy 110).desc).map (fun d => d.parameters.length) = some 2 := by decide +kernel
theorem zcm_111 : zcw 111 = .code (zy 111) (zby 111) (zmx 111) (zrt 111) := rfl
set_option maxRecDepth 20000 in
theorem zct_111 : zcw 111 ∈ zT := zT_mem (zt_5 207 rfl) rfl
theorem zpd_111 : (zy 111).cls ≠ "java/lang/invoke/MethodHandle" ∧ (zy 111).cls ≠ "java/lang/invoke/VarHandle" ∧ (parseMethodDescriptor (zy 111).desc).map (fun d => d.parameters.length) = some 0 := by decide +kernel
theorem zcm_112 : zcw 112 = .code (zy 112) (zby 112) (zmx 112) (zrt 112) := rfl
set_option maxRecDepth 20000 in
theorem zct_112 : zcw 112 ∈ zT := zT_mem (zt_5 211 rfl) rfl
theorem zpd_112 : (zy 112).cls ≠ "java/lang/invoke/MethodHandle" ∧ (zy 112).cls ≠ "java/lang/invoke/VarHandle" ∧ (parseMethodDescriptor (zy 112).desc).map (fun d => d.parameters.length) = some 0 := by decide +kernel
theorem zcm_113 : zcw 113 = .code (zy 113) (zby 113) (zmx 113) (zrt 113) := rfl
set_option maxRecDepth 20000 in
theorem zct_113 : zcw 113 ∈ zT := zT_mem (zt_5 217 rfl) rfl
theorem zpd_113 : (zy 113).cls ≠ "java/lang/invoke/MethodHandle" ∧ (zy 113).cls ≠ "java/lang/invoke/VarHandle" ∧ (parseMethodDescriptor (zy 113).desc).map (fun d => d.parameters.length) = some 3 := by decide +kernel
theorem zcm_114 : zcw 114 = .code (zy 114) (zby 114) (zmx 114) (zrt 114) := rfl
set_option maxRecDepth 20000 in
theorem zct_114 : zcw 114 ∈ zT := zT_mem (zt_5 222 rfl) rfl
theorem zpd_114 : (zy 114).cls ≠ "java/lang/invoke/MethodHandle" ∧ (zy 114).cls ≠ "java/lang/invoke/VarHandle" ∧ (parseMethodDescriptor (zy 114).desc).map (fun d => d.parameters.length) = some 0 := by decide +kernel
theorem zcm_115 : zcw 115 = .code (zy 115) (zby 115) (zmx 115) (zrt 115) := rfl
set_option maxRecDepth 20000 in
theorem zct_115 : zcw 115 ∈ zT := zT_mem (zt_5 226 rfl) rfl
theorem zpd_115 : (zy 115).cls ≠ "java/lang/invoke/MethodHandle" ∧ (zy 115).cls ≠ "java/lang/invoke/VarHandle" ∧ (parseMethodDescriptor (zy 115).desc).map (fun d => d.parameters.length) = some 0 := by decide +kernel
theorem zcm_116 : zcw 116 = .code (zy 116) (zby 116) (zmx 116) (zrt 116) := rfl
set_option maxRecDepth 20000 in
theorem zct_116 : zcw 116 ∈ zT := zT_mem (zt_5 234 rfl) rfl
theorem zpd_116 : (zy 116).cls ≠ "java/lang/invoke/MethodHandle" ∧ (zy 116).cls ≠ "java/lang/invoke/VarHandle" ∧ (parseMethodDescriptor (zy 116).desc).map (fun d => d.parameters.length) = some 0 := by decide +kernel
theorem zcm_117 : zcw 117 = .code (zy 117) (zby 117) (zmx 117) (zrt 117) := rfl
set_option maxRecDepth 20000 in
theorem zct_117 : zcw 117 ∈ zT := zT_mem (zt_5 239 rfl) rfl
theorem zpd_117 : (zy 117).cls ≠ "java/lang/invoke/MethodHandle" ∧ (zy 117).cls ≠ "java/lang/invoke/VarHandle" ∧ (parseMethodDescriptor (zy 117).desc).map (fun d => d.parameters.length) = some 0 := by decide +kernel
theorem zcm_118 : zcw 118 = .code (zy 118) (zby 118) (zmx 118) (zrt 118) := rfl
set_option maxRecDepth 20000 in
theorem zct_118 : zcw 118 ∈ zT := zT_mem (zt_6 4 rfl) rfl
theorem zpd_118 : (zy 118).cls ≠ "java/lang/invoke/MethodHandle" ∧ (zy 118).cls ≠ "java/lang/invoke/VarHandle" ∧ (parseMethodDescriptor (zy 118).desc).map (fun d => d.parameters.length) = some 0 := by decide +kernel
theorem zcm_119 : zcw 119 = .code (zy 119) (zby 119) (zmx 119) (zrt 119) := rfl
set_option maxRecDepth 20000 in
theorem zct_119 : zcw 119 ∈ zT := zT_mem (zt_6 8 rfl) rfl
theorem zpd_119 : (zy 119).cls ≠ "java/lang/invoke/MethodHandle" ∧ (zy 119).cls ≠ "java/lang/invoke/VarHandle" ∧ (parseMethodDescriptor (zy 119).desc).map (fun d => d.parameters.length) = some 2 := by decide +kernel
theorem zcm_120 : zcw 120 = .code (zy 120) (zby 120) (zmx 120) (zrt 120) := rfl
set_option maxRecDepth 20000 in
theorem zct_120 : zcw 120 ∈ zT := zT_mem (zt_6 12 rfl) rfl
theorem zpd_120 : (zy 120).cls ≠ "java/lang/invoke/MethodHandle" ∧ (zy 120).cls ≠ "java/lang/invoke/VarHandle" ∧ (parseMethodDescriptor (zy 120).desc).map (fun d => d.parameters.length) = some 0 := by decide +kernel
theorem zcm_121 : zcw 121 = .code (zy 121) (zby 121) (zmx 121) (zrt 121) := rfl
set_option maxRecDepth 20000 in
theorem zct_121 : zcw 121 ∈ zT := zT_mem (zt_6 16 rfl) rfl
theorem zpd_121 : (zy 121).cls ≠ "java/lang/invoke/MethodHandle" ∧ (zy 121).cls ≠ "java/lang/invoke/VarHandle" ∧ (parseMethodDescriptor (zy 121).desc).map (fun d => d.parameters.length) = some 0 := by decide +kernel
theorem zcm_122 : zcw 122 = .code (zy 122) (zby 122) (zmx 122) (zrt 122) := rfl
set_option maxRecDepth 20000 in
theorem zct_122 : zcw 122 ∈ zT := zT_mem (zt_6 20 rfl) rfl
theorem zpd_122 : (zy 122).cls ≠ "java/lang/invoke/MethodHandle" ∧ (zy 122).cls ≠ "java/lang/invoke/VarHandle" ∧ (parseMethodDescriptor (zy 122).desc).map (fun d => d.parameters.length) = some 0 := by decide +kernel
theorem zcm_123 : zcw 123 = .code (zy 123) (zby 123) (zmx 123) (zrt 123) := rfl
set_option maxRecDepth 20000 in
theorem zct_123 : zcw 123 ∈ zT := zT_mem (zt_6 24 rfl) rfl
theorem zpd_123 : (zy 123).cls ≠ "java/lang/invoke/MethodHandle" ∧ (zy 123).cls ≠ "java/lang/invoke/VarHandle" ∧ (parseMethodDescriptor (zy 123).desc).map (fun d => d.parameters.length) = some 0 := by decide +kernel
theorem zcm_124 : zcw 124 = .codeWith (zy 124) (zby 124) (zmx 124) (zrt 124) (ztb 124) := rfl
set_option maxRecDepth 20000 in
theorem zct_124 : zcw 124 ∈ zT := zT_mem (zt_6 27 rfl) rfl
theorem zpd_124 : (zy 124).cls ≠ "java/lang/invoke/MethodHandle" ∧ (zy 124).cls ≠ "java/lang/invoke/VarHandle" ∧ (parseMethodDescriptor (zy 124).desc).map (fun d => d.parameters.length) = some 7 := by decide +kernel
theorem zcm_125 : zcw 125 = .code (zy 125) (zby 125) (zmx 125) (zrt 125) := rfl
set_option maxRecDepth 20000 in
theorem zct_125 : zcw 125 ∈ zT := zT_mem (zt_6 32 rfl) rfl
theorem zpd_125 : (zy 125).cls ≠ "java/lang/invoke/MethodHandle" ∧ (zy 125).cls ≠ "java/lang/invoke/VarHandle" ∧ (parseMethodDescriptor (zy 125).desc).map (fun d => d.parameters.length) = some 5 := by decide +kernel
theorem zcm_126 : zcw 126 = .code (zy 126) (zby 126) (zmx 126) (zrt 126) := rfl
set_option maxRecDepth 20000 in
theorem zct_126 : zcw 126 ∈ zT := zT_mem (zt_6 52 rfl) rfl
theorem zpd_126 : (zy 126).cls ≠ "java/lang/invoke/MethodHandle" ∧ (zy 126).cls ≠ "java/lang/invoke/VarHandle" ∧ (parseMethodDescriptor (zy 126).desc).map (fun d => d.parameters.length) = some 1 := by decide +kernel
theorem zcm_127 : zcw 127 = .codeWith (zy 127) (zby 127) (zmx 127) (zrt 127) (ztb 127) := rfl
set_option maxRecDepth 20000 in
theorem zct_127 : zcw 127 ∈ zT := zT_mem (zt_6 55 rfl) rfl
theorem zpd_127 : (zy 127).cls ≠ "java/lang/invoke/MethodHandle" ∧ (zy 127).cls ≠ "java/lang/invoke/VarHandle" ∧ (parseMethodDescriptor (zy 127).desc).map (fun d => d.parameters.length) = some 2 := by decide +kernel
theorem zcm_128 : zcw 128 = .code (zy 128) (zby 128) (zmx 128) (zrt 128) := rfl
set_option maxRecDepth 20000 in
theorem zct_128 : zcw 128 ∈ zT := zT_mem (zt_6 60 rfl) rfl
theorem zpd_128 : (zy 128).cls ≠ "java/lang/invoke/MethodHandle" ∧ (zy 128).cls ≠ "java/lang/invoke/VarHandle" ∧ (parseMethodDescriptor (zy 128).desc).map (fun d => d.parameters.length) = some 1 := by decide +kernel
theorem zcm_129 : zcw 129 = .codeWith (zy 129) (zby 129) (zmx 129) (zrt 129) (ztb 129) := rfl
set_option maxRecDepth 20000 in
theorem zct_129 : zcw 129 ∈ zT := zT_mem (zt_6 65 rfl) rfl
theorem zpd_129 : (zy 129).cls ≠ "java/lang/invoke/MethodHandle" ∧ (zy 129).cls ≠ "java/lang/invoke/VarHandle" ∧ (parseMethodDescriptor (zy 129).desc).map (fun d => d.parameters.length) = some 3 := by decide +kernel
theorem zcm_130 : zcw 130 = .code (zy 130) (zby 130) (zmx 130) (zrt 130) := rfl
set_option maxRecDepth 20000 in
theorem zct_130 : zcw 130 ∈ zT := zT_mem (zt_6 70 rfl) rfl
theorem zpd_130 : (zy 130).cls ≠ "java/lang/invoke/MethodHandle" ∧ (zy 130).cls ≠ "java/lang/invoke/VarHandle" ∧ (parseMethodDescriptor (zy 130).desc).map (fun d => d.parameters.length) = some 1 := by decide +kernel
theorem zcm_131 : zcw 131 = .codeWith (zy 131) (zby 131) (zmx 131) (zrt 131) (ztb 131) := rfl
set_option maxRecDepth 20000 in
theorem zct_131 : zcw 131 ∈ zT := zT_mem (zt_6 89 rfl) rfl
theorem zpd_131 : (zy 131).cls ≠ "java/lang/invoke/MethodHandle" ∧ (zy 131).cls ≠ "java/lang/invoke/VarHandle" ∧ (parseMethodDescriptor (zy 131).desc).map (fun d => d.parameters.length) = some 2 := by decide +kernel
theorem zcm_132 : zcw 132 = .code (zy 132) (zby 132) (zmx 132) (zrt 132) := rfl
set_option maxRecDepth 20000 in
theorem zct_132 : zcw 132 ∈ zT := zT_mem (zt_6 93 rfl) rfl
theorem zpd_132 : (zy 132).cls ≠ "java/lang/invoke/MethodHandle" ∧ (zy 132).cls ≠ "java/lang/invoke/VarHandle" ∧ (parseMethodDescriptor (zy 132).desc).map (fun d => d.parameters.length) = some 0 := by decide +kernel
theorem zcm_133 : zcw 133 = .code (zy 133) (zby 133) (zmx 133) (zrt 133) := rfl
set_option maxRecDepth 20000 in
theorem zct_133 : zcw 133 ∈ zT := zT_mem (zt_6 102 rfl) rfl
theorem zpd_133 : (zy 133).cls ≠ "java/lang/invoke/MethodHandle" ∧ (zy 133).cls ≠ "java/lang/invoke/VarHandle" ∧ (parseMethodDescriptor (zy 133).desc).map (fun d => d.parameters.length) = some 1 := by decide +kernel
theorem zcm_134 : zcw 134 = .code (zy 134) (zby 134) (zmx 134) (zrt 134) := rfl
set_option maxRecDepth 20000 in
theorem zct_134 : zcw 134 ∈ zT := zT_mem (zt_6 106 rfl) rfl
theorem zpd_134 : (zy 134).cls ≠ "java/lang/invoke/MethodHandle" ∧ (zy 134).cls ≠ "java/lang/invoke/VarHandle" ∧ (parseMethodDescriptor (zy 134).desc).map (fun d => d.parameters.length) = some 1 := by decide +kernel
theorem zcm_135 : zcw 135 = .code (zy 135) (zby 135) (zmx 135) (zrt 135) := rfl
set_option maxRecDepth 20000 in
theorem zct_135 : zcw 135 ∈ zT := zT_mem (zt_6 112 rfl) rfl
theorem zpd_135 : (zy 135).cls ≠ "java/lang/invoke/MethodHandle" ∧ (zy 135).cls ≠ "java/lang/invoke/VarHandle" ∧ (parseMethodDescriptor (zy 135).desc).map (fun d => d.parameters.length) = some 2 := by decide +kernel
theorem zcm_136 : zcw 136 = .codeWith (zy 136) (zby 136) (zmx 136) (zrt 136) (ztb 136) := rfl
set_option maxRecDepth 20000 in
theorem zct_136 : zcw 136 ∈ zT := zT_mem (zt_6 116 rfl) rfl
theorem zpd_136 : (zy 136).cls ≠ "java/lang/invoke/MethodHandle" ∧ (zy 136).cls ≠ "java/lang/invoke/VarHandle" ∧ (parseMethodDescriptor (zy 136).desc).map (fun d => d.parameters.length) = some 3 := by decide +kernel
theorem zcm_137 : zcw 137 = .code (zy 137) (zby 137) (zmx 137) (zrt 137) := rfl
set_option maxRecDepth 20000 in
theorem zct_137 : zcw 137 ∈ zT := zT_mem (zt_6 120 rfl) rfl
theorem zpd_137 : (zy 137).cls ≠ "java/lang/invoke/MethodHandle" ∧ (zy 137).cls ≠ "java/lang/invoke/VarHandle" ∧ (parseMethodDescriptor (zy 137).desc).map (fun d => d.parameters.length) = some 1 := by decide +kernel
theorem zcm_138 : zcw 138 = .code (zy 138) (zby 138) (zmx 138) (zrt 138) := rfl
set_option maxRecDepth 20000 in
theorem zct_138 : zcw 138 ∈ zT := zT_mem (zt_6 123 rfl) rfl
theorem zpd_138 : (zy 138).cls ≠ "java/lang/invoke/MethodHandle" ∧ (zy 138).cls ≠ "java/lang/invoke/VarHandle" ∧ (parseMethodDescriptor (zy 138).desc).map (fun d => d.parameters.length) = some 1 := by decide +kernel
theorem zcm_139 : zcw 139 = .code (zy 139) (zby 139) (zmx 139) (zrt 139) := rfl
set_option maxRecDepth 20000 in
theorem zct_139 : zcw 139 ∈ zT := zT_mem (zt_6 128 rfl) rfl
theorem zpd_139 : (zy 139).cls ≠ "java/lang/invoke/MethodHandle" ∧ (zy 139).cls ≠ "java/lang/invoke/VarHandle" ∧ (parseMethodDescriptor (zy 139).desc).map (fun d => d.parameters.length) = some 1 := by decide +kernel
theorem zcm_140 : zcw 140 = .code (zy 140) (zby 140) (zmx 140) (zrt 140) := rfl
set_option maxRecDepth 20000 in
theorem zct_140 : zcw 140 ∈ zT := zT_mem (zt_6 132 rfl) rfl
theorem zpd_140 : (zy 140).cls ≠ "java/lang/invoke/MethodHandle" ∧ (zy 140).cls ≠ "java/lang/invoke/VarHandle" ∧ (parseMethodDescriptor (zy 140).desc).map (fun d => d.parameters.length) = some 0 := by decide +kernel
theorem zcm_141 : zcw 141 = .codeWith (zy 141) (zby 141) (zmx 141) (zrt 141) (ztb 141) := rfl
set_option maxRecDepth 20000 in
theorem zct_141 : zcw 141 ∈ zT := zT_mem (zt_6 136 rfl) rfl
theorem zpd_141 : (zy 141).cls ≠ "java/lang/invoke/MethodHandle" ∧ (zy 141).cls ≠ "java/lang/invoke/VarHandle" ∧ (parseMethodDescriptor (zy 141).desc).map (fun d => d.parameters.length) = some 5 := by decide +kernel
theorem zcm_142 : zcw 142 = .code (zy 142) (zby 142) (zmx 142) (zrt 142) := rfl
set_option maxRecDepth 20000 in
theorem zct_142 : zcw 142 ∈ zT := zT_mem (zt_6 140 rfl) rfl
theorem zpd_142 : (zy 142).cls ≠ "java/lang/invoke/MethodHandle" ∧ (zy 142).cls ≠ "java/lang/invoke/VarHandle" ∧ (parseMethodDescriptor (zy 142).desc).map (fun d => d.parameters.length) = some 3 := by decide +kernel
theorem zcm_143 : zcw 143 = .codeWith (zy 143) (zby 143) (zmx 143) (zrt 143) (ztb 143) := rfl
set_option maxRecDepth 20000 in
theorem zct_143 : zcw 143 ∈ zT := zT_mem (zt_6 148 rfl) rfl
theorem zpd_143 : (zy 143).cls ≠ "java/lang/invoke/MethodHandle" ∧ (zy 143).cls ≠ "java/lang/invoke/VarHandle" ∧ (parseMethodDescriptor (zy 143).desc).map (fun d => d.parameters.length) = some 4 := by decide +kernel
theorem zcm_144 : zcw 144 = .code (zy 144) (zby 144) (zmx 144) (zrt 144) := rfl
set_option maxRecDepth 20000 in
theorem zct_144 : zcw 144 ∈ zT := zT_mem (zt_6 152 rfl) rfl
theorem zpd_144 : (zy 144).cls ≠ "java/lang/invoke/MethodHandle" ∧ (zy 144).cls ≠ "java/lang/invoke/VarHandle" ∧ (parseMethodDescriptor (zy 144).desc).map (fun d => d.parameters.length) = some 2 := by decide +kernel
theorem zcm_145 : zcw 145 = .code (zy 145) (zby 145) (zmx 145) (zrt 145) := rfl
set_option maxRecDepth 20000 in
theorem zct_145 : zcw 145 ∈ zT := zT_mem (zt_6 158 rfl) rfl
theorem zpd_145 : (zy 145).cls ≠ "java/lang/invoke/MethodHandle" ∧ (zy 145).cls ≠ "java/lang/invoke/VarHandle" ∧ (parseMethodDescriptor (zy 145).desc).map (fun d => d.parameters.length) = some 0 := by decide +kernel
theorem zcm_146 : zcw 146 = .codeWith (zy 146) (zby 146) (zmx 146) (zrt 146) (ztb 146) := rfl
set_option maxRecDepth 20000 in
theorem zct_146 : zcw 146 ∈ zT := zT_mem (zt_6 162 rfl) rfl
theorem zpd_146 : (zy 146).cls ≠ "java/lang/invoke/MethodHandle" ∧ (zy 146).cls ≠ "java/lang/invoke/VarHandle" ∧ (parseMethodDescriptor (zy 146).desc).map (fun d => d.parameters.length) = some 4 := by decide +kernel
theorem zcm_147 : zcw 147 = .code (zy 147) (zby 147) (zmx 147) (zrt 147) := rfl
set_option maxRecDepth 20000 in
theorem zct_147 : zcw 147 ∈ zT := zT_mem (zt_6 166 rfl) rfl
theorem zpd_147 : (zy 147).cls ≠ "java/lang/invoke/MethodHandle" ∧ (zy 147).cls ≠ "java/lang/invoke/VarHandle" ∧ (parseMethodDescriptor (zy 147).desc).map (fun d => d.parameters.length) = some 2 := by decide +kernel
theorem zcm_148 : zcw 148 = .code (zy 148) (zby 148) (zmx 148) (zrt 148) := rfl
set_option maxRecDepth 20000 in
theorem zct_148 : zcw 148 ∈ zT := zT_mem (zt_6 171 rfl) rfl
theorem zpd_148 : (zy 148).cls ≠ "java/lang/invoke/MethodHandle" ∧ (zy 148).cls ≠ "java/lang/invoke/VarHandle" ∧ (parseMethodDescriptor (zy 148).desc).map (fun d => d.parameters.length) = some 3 := by decide +kernel
theorem zcm_149 : zcw 149 = .code (zy 149) (zby 149) (zmx 149) (zrt 149) := rfl
set_option maxRecDepth 20000 in
theorem zct_149 : zcw 149 ∈ zT := zT_mem (zt_6 175 rfl) rfl
theorem zpd_149 : (zy 149).cls ≠ "java/lang/invoke/MethodHandle" ∧ (zy 149).cls ≠ "java/lang/invoke/VarHandle" ∧ (parseMethodDescriptor (zy 149).desc).map (fun d => d.parameters.length) = some 1 := by decide +kernel
theorem zcm_150 : zcw 150 = .code (zy 150) (zby 150) (zmx 150) (zrt 150) := rfl
set_option maxRecDepth 20000 in
theorem zct_150 : zcw 150 ∈ zT := zT_mem (zt_6 182 rfl) rfl
theorem zpd_150 : (zy 150).cls ≠ "java/lang/invoke/MethodHandle" ∧ (zy 150).cls ≠ "java/lang/invoke/VarHandle" ∧ (parseMethodDescriptor (zy 150).desc).map (fun d => d.parameters.length) = some 2 := by decide +kernel
theorem zcm_151 : zcw 151 = .code (zy 151) (zby 151) (zmx 151) (zrt 151) := rfl
set_option maxRecDepth 20000 in
theorem zct_151 : zcw 151 ∈ zT := zT_mem (zt_6 188 rfl) rfl
theorem zpd_151 : (zy 151).cls ≠ "java/lang/invoke/MethodHandle" ∧ (zy 151).cls ≠ "java/lang/invoke/VarHandle" ∧ (parseMethodDescriptor (zy 151).desc).map (fun d => d.parameters.length) = some 1 := by decide +kernel
theorem zcm_152 : zcw 152 = .code (zy 152) (zby 152) (zmx 152) (zrt 152) := rfl
set_option maxRecDepth 20000 in
theorem zct_152 : zcw 152 ∈ zT := zT_mem (zt_6 193 rfl) rfl
theorem zpd_152 : (zy 152).cls ≠ "java/lang/invoke/MethodHandle" ∧ (zy 152).cls ≠ "java/lang/invoke/VarHandle" ∧ (parseMethodDescriptor (zy 152).desc).map (fun d => d.parameters.length) = some 1 := by decide +kernel
theorem zcm_153 : zcw 153 = .code (zy 153) (zby 153) (zmx 153) (zrt 153) := rfl
set_option maxRecDepth 20000 in
theorem zct_153 : zcw 153 ∈ zT := zT_mem (zt_6 197 rfl) rfl
theorem zpd_153 : (zy 153).cls ≠ "java/lang/invoke/MethodHandle" ∧ (zy 153).cls ≠ "java/lang/invoke/VarHandle" ∧ (parseMethodDescriptor (zy 153).desc).map (fun d => d.parameters.length) = some 1 := by decide +kernel
theorem zcm_154 : zcw 154 = .code (zy 154) (zby 154) (zmx 154) (zrt 154) := rfl
set_option maxRecDepth 20000 in
theorem zct_154 : zcw 154 ∈ zT := zT_mem (zt_6 203 rfl) rfl
theorem zpd_154 : (zy 154).cls ≠ "java/lang/invoke/MethodHandle" ∧ (zy 154).cls ≠ "java/lang/invoke/VarHandle" ∧ (parseMethodDescriptor (zy 154).desc).map (fun d => d.parameters.length) = some 1 := by decide +kernel
theorem zcm_155 : zcw 155 = .code (zy 155) (zby 155) (zmx 155) (zrt 155) := rfl
set_option maxRecDepth 20000 in
theorem zct_155 : zcw 155 ∈ zT := zT_mem (zt_6 208 rfl) rfl
theorem zpd_155 : (zy 155).cls ≠ "java/lang/invoke/MethodHandle" ∧ (zy 155).cls ≠ "java/lang/invoke/VarHandle" ∧ (parseMethodDescriptor (zy 155).desc).map (fun d => d.parameters.length) = some 2 := by decide +kernel
theorem zcm_156 : zcw 156 = .code (zy 156) (zby 156) (zmx 156) (zrt 156) := rfl
set_option maxRecDepth 20000 in
theorem zct_156 : zcw 156 ∈ zT := zT_mem (zt_6 211 rfl) rfl
theorem zpd_156 : (zy 156).cls ≠ "java/lang/invoke/MethodHandle" ∧ (zy 156).cls ≠ "java/lang/invoke/VarHandle" ∧ (parseMethodDescriptor (zy 156).desc).map (fun d => d.parameters.length) = some 3 := by decide +kernel
theorem zcm_157 : zcw 157 = .code (zy 157) (zby 157) (zmx 157) (zrt 157) := rfl
set_option maxRecDepth 20000 in
theorem zct_157 : zcw 157 ∈ zT := zT_mem (zt_6 216 rfl) rfl
theorem zpd_157 : (zy 157).cls ≠ "java/lang/invoke/MethodHandle" ∧ (zy 157).cls ≠ "java/lang/invoke/VarHandle" ∧ (parseMethodDescriptor (zy 157).desc).map (fun d => d.parameters.length) = some 2 := by decide +kernel
theorem zcm_158 : zcw 158 = .code (zy 158) (zby 158) (zmx 158) (zrt 158) := rfl
set_option maxRecDepth 20000 in
theorem zct_158 : zcw 158 ∈ zT := zT_mem (zt_6 221 rfl) rfl
theorem zpd_158 : (zy 158).cls ≠ "java/lang/invoke/MethodHandle" ∧ (zy 158).cls ≠ "java/lang/invoke/VarHandle" ∧ (parseMethodDescriptor (zy 158).desc).map (fun d => d.parameters.length) = some 3 := by decide +kernel
theorem zcm_159 : zcw 159 = .code (zy 159) (zby 159) (zmx 159) (zrt 159) := rfl
set_option maxRecDepth 20000 in
theorem zct_159 : zcw 159 ∈ zT := zT_mem (zt_6 226 rfl) rfl
theorem zpd_159 : (zy 159).cls ≠ "java/lang/invoke/MethodHandle" ∧ (zy 159).cls ≠ "java/lang/invoke/VarHandle" ∧ (parseMethodDescriptor (zy 159).desc).map (fun d => d.parameters.length) = some 1 := by decide +kernel
theorem zcm_160 : zcw 160 = .code (zy 160) (zby 160) (zmx 160) (zrt 160) := rfl
set_option maxRecDepth 20000 in
theorem zct_160 : zcw 160 ∈ zT := zT_mem (zt_6 231 rfl) rfl
theorem zpd_160 : (zy 160).cls ≠ "java/lang/invoke/MethodHandle" ∧ (zy 160).cls ≠ "java/lang/invoke/VarHandle" ∧ (parseMethodDescriptor (zy 160).desc).map (fun d => d.parameters.length) = some 3 := by decide +kernel
theorem zcm_161 : zcw 161 = .code (zy 161) (zby 161) (zmx 161) (zrt 161) := rfl
set_option maxRecDepth 20000 in
theorem zct_161 : zcw 161 ∈ zT := zT_mem (zt_6 235 rfl) rfl
theorem zpd_161 : (zy 161).cls ≠ "java/lang/invoke/MethodHandle" ∧ (zy 161).cls ≠ "java/lang/invoke/VarHandle" ∧ (parseMethodDescriptor (zy 161).desc).map (fun d => d.parameters.length) = some 4 := by decide +kernel
theorem zcm_162 : zcw 162 = .code (zy 162) (zby 162) (zmx 162) (zrt 162) := rfl
set_option maxRecDepth 20000 in
theorem zct_162 : zcw 162 ∈ zT := zT_mem (zt_6 239 rfl) rfl
theorem zpd_162 : (zy 162).cls ≠ "java/lang/invoke/MethodHandle" ∧ (zy 162).cls ≠ "java/lang/invoke/VarHandle" ∧ (parseMethodDescriptor (zy 162).desc).map (fun d => d.parameters.length) = some 4 := by decide +kernel
theorem zcm_163 : zcw 163 = .code (zy 163) (zby 163) (zmx 163) (zrt 163) := rfl
set_option maxRecDepth 20000 in
theorem zct_163 : zcw 163 ∈ zT := zT_mem (zt_7 5 rfl) rfl
theorem zpd_163 : (zy 163).cls ≠ "java/lang/invoke/MethodHandle" ∧ (zy 163).cls ≠ "java/lang/invoke/VarHandle" ∧ (parseMethodDescriptor (zy 163).desc).map (fun d => d.parameters.length) = some 4 := by decide +kernel
theorem zcm_164 : zcw 164 = .code (zy 164) (zby 164) (zmx 164) (zrt 164) := rfl
set_option maxRecDepth 20000 in
theorem zct_164 : zcw 164 ∈ zT := zT_mem (zt_7 9 rfl) rfl
theorem zpd_164 : (zy 164).cls ≠ "java/lang/invoke/MethodHandle" ∧ (zy 164).cls ≠ "java/lang/invoke/VarHandle" ∧ (parseMethodDescriptor (zy 164).desc).map (fun d => d.parameters.length) = some 0 := by decide +kernel
theorem zcm_165 : zcw 165 = .code (zy 165) (zby 165) (zmx 165) (zrt 165) := rfl
set_option maxRecDepth 20000 in
theorem zct_165 : zcw 165 ∈ zT := zT_mem (zt_7 12 rfl) rfl
theorem zpd_165 : (zy 165).cls ≠ "java/lang/invoke/MethodHandle" ∧ (zy 165).cls ≠ "java/lang/invoke/VarHandle" ∧ (parseMethodDescriptor (zy 165).desc).map (fun d => d.parameters.length) = some 2 := by decide +kernel
theorem zcm_166 : zcw 166 = .code (zy 166) (zby 166) (zmx 166) (zrt 166) := rfl
set_option maxRecDepth 20000 in
theorem zct_166 : zcw 166 ∈ zT := zT_mem (zt_7 16 rfl) rfl
theorem zpd_166 : (zy 166).cls ≠ "java/lang/invoke/MethodHandle" ∧ (zy 166).cls ≠ "java/lang/invoke/VarHandle" ∧ (parseMethodDescriptor (zy 166).desc).map (fun d => d.parameters.length) = some 2 := by decide +kernel
theorem zcm_167 : zcw 167 = .code (zy 167) (zby 167) (zmx 167) (zrt 167) := rfl
set_option maxRecDepth 20000 in
theorem zct_167 : zcw 167 ∈ zT := zT_mem (zt_7 19 rfl) rfl
theorem zpd_167 : (zy 167).cls ≠ "java/lang/invoke/MethodHandle" ∧ (zy 167).cls ≠ "java/lang/invoke/VarHandle" ∧ (parseMethodDescriptor (zy 167).desc).map (fun d => d.parameters.length) = some 2 := by decide +kernel
theorem zcm_168 : zcw 168 = .code (zy 168) (zby 168) (zmx 168) (zrt 168) := rfl
set_option maxRecDepth 20000 in
theorem zct_168 : zcw 168 ∈ zT := zT_mem (zt_7 26 rfl) rfl
theorem zpd_168 : (zy 168).cls ≠ "java/lang/invoke/MethodHandle" ∧ (zy 168).cls ≠ "java/lang/invoke/VarHandle" ∧ (parseMethodDescriptor (zy 168).desc).map (fun d => d.parameters.length) = some 1 := by decide +kernel
theorem zcm_169 : zcw 169 = .code (zy 169) (zby 169) (zmx 169) (zrt 169) := rfl
set_option maxRecDepth 20000 in
theorem zct_169 : zcw 169 ∈ zT := zT_mem (zt_7 31 rfl) rfl
theorem zpd_169 : (zy 169).cls ≠ "java/lang/invoke/MethodHandle" ∧ (zy 169).cls ≠ "java/lang/invoke/VarHandle" ∧ (parseMethodDescriptor (zy 169).desc).map (fun d => d.parameters.length) = some 1 := by decide +kernel
theorem zcm_170 : zcw 170 = .code (zy 170) (zby 170) (zmx 170) (zrt 170) := rfl
set_option maxRecDepth 20000 in
theorem zct_170 : zcw 170 ∈ zT := zT_mem (zt_7 35 rfl) rfl
theorem zpd_170 : (zy 170).cls ≠ "java/lang/invoke/MethodHandle" ∧ (zy 170).cls ≠ "java/lang/invoke/VarHandle" ∧ (parseMethodDescriptor (zy 170).desc).map (fun d => d.parameters.length) = some 2 := by decide +kernel
theorem zcm_171 : zcw 171 = .codeWith (zy 171) (zby 171) (zmx 171) (zrt 171) (ztb 171) := rfl
set_option maxRecDepth 20000 in
theorem zct_171 : zcw 171 ∈ zT := zT_mem (zt_7 39 rfl) rfl
theorem zpd_171 : (zy 171).cls ≠ "java/lang/invoke/MethodHandle" ∧ (zy 171).cls ≠ "java/lang/invoke/VarHandle" ∧ (parseMethodDescriptor (zy 171).desc).map (fun d => d.parameters.length) = some 3 := by decide +kernel
theorem zcm_172 : zcw 172 = .code (zy 172) (zby 172) (zmx 172) (zrt 172) := rfl
set_option maxRecDepth 20000 in
theorem zct_172 : zcw 172 ∈ zT := zT_mem (zt_7 43 rfl) rfl
theorem zpd_172 : (zy 172).cls ≠ "java/lang/invoke/MethodHandle" ∧ (zy 172).cls ≠ "java/lang/invoke/VarHandle" ∧ (parseMethodDescriptor (zy 172).desc).map (fun d => d.parameters.length) = some 1 := by decide +kernel
theorem zcm_173 : zcw 173 = .codeWith (zy 173) (zby 173) (zmx 173) (zrt 173) (ztb 173) := rfl
set_option maxRecDepth 20000 in
theorem zct_173 : zcw 173 ∈ zT := zT_mem (zt_7 47 rfl) rfl
theorem zpd_173 : (zy 173).cls ≠ "java/lang/invoke/MethodHandle" ∧ (zy 173).cls ≠ "java/lang/invoke/VarHandle" ∧ (parseMethodDescriptor (zy 173).desc).map (fun d => d.parameters.length) = some 3 := by decide +kernel
theorem zcm_174 : zcw 174 = .code (zy 174) (zby 174) (zmx 174) (zrt 174) := rfl
set_option maxRecDepth 20000 in
theorem zct_174 : zcw 174 ∈ zT := zT_mem (zt_7 51 rfl) rfl
theorem zpd_174 : (zy 174).cls ≠ "java/lang/invoke/MethodHandle" ∧ (zy 174).cls ≠ "java/lang/invoke/VarHandle" ∧ (parseMethodDescriptor (zy 174).desc).map (fun d => d.parameters.length) = some 1 := by decide +kernel
theorem zcm_175 : zcw 175 = .codeWith (zy 175) (zby 175) (zmx 175) (zrt 175) (ztb 175) := rfl
set_option maxRecDepth 20000 in
theorem zct_175 : zcw 175 ∈ zT := zT_mem (zt_7 57 rfl) rfl
theorem zpd_175 : (zy 175).cls ≠ "java/lang/invoke/MethodHandle" ∧ (zy 175).cls ≠ "java/lang/invoke/VarHandle" ∧ (parseMethodDescriptor (zy 175).desc).map (fun d => d.parameters.length) = some 3 := by decide +kernel
theorem zcm_176 : zcw 176 = .code (zy 176) (zby 176) (zmx 176) (zrt 176) := rfl
set_option maxRecDepth 20000 in
theorem zct_176 : zcw 176 ∈ zT := zT_mem (zt_7 61 rfl) rfl
theorem zpd_176 : (zy 176).cls ≠ "java/lang/invoke/MethodHandle" ∧ (zy 176).cls ≠ "java/lang/invoke/VarHandle" ∧ (parseMethodDescriptor (zy 176).desc).map (fun d => d.parameters.length) = some 1 := by decide +kernel
theorem zcm_177 : zcw 177 = .codeWith (zy 177) (zby 177) (zmx 177) (zrt 177) (ztb 177) := rfl
set_option maxRecDepth 20000 in
theorem zct_177 : zcw 177 ∈ zT := zT_mem (zt_7 64 rfl) rfl
theorem zpd_177 : (zy 177).cls ≠ "java/lang/invoke/MethodHandle" ∧ (zy 177).cls ≠ "java/lang/invoke/VarHandle" ∧ (parseMethodDescriptor (zy 177).desc).map (fun d => d.parameters.length) = some 3 := by decide +kernel
theorem zcm_178 : zcw 178 = .code (zy 178) (zby 178) (zmx 178) (zrt 178) := rfl
set_option maxRecDepth 20000 in
theorem zct_178 : zcw 178 ∈ zT := zT_mem (zt_7 68 rfl) rfl
theorem zpd_178 : (zy 178).cls ≠ "java/lang/invoke/MethodHandle" ∧ (zy 178).cls ≠ "java/lang/invoke/VarHandle" ∧ (parseMethodDescriptor (zy 178).desc).map (fun d => d.parameters.length) = some 1 := by decide +kernel
theorem zcm_179 : zcw 179 = .codeWith (zy 179) (zby 179) (zmx 179) (zrt 179) (ztb 179) := rfl
set_option maxRecDepth 20000 in
theorem zct_179 : zcw 179 ∈ zT := zT_mem (zt_7 71 rfl) rfl
theorem zpd_179 : (zy 179).cls ≠ "java/lang/invoke/MethodHandle" ∧ (zy 179).cls ≠ "java/lang/invoke/VarHandle" ∧ (parseMethodDescriptor (zy 179).desc).map (fun d => d.parameters.length) = some 4 := by decide +kernel
theorem zcm_180 : zcw 180 = .code (zy 180) (zby 180) (zmx 180) (zrt 180) := rfl
set_option maxRecDepth 20000 in
theorem zct_180 : zcw 180 ∈ zT := zT_mem (zt_7 75 rfl) rfl
theorem zpd_180 : (zy 180).cls ≠ "java/lang/invoke/MethodHandle" ∧ (zy 180).cls ≠ "java/lang/invoke/VarHandle" ∧ (parseMethodDescriptor (zy 180).desc).map (fun d => d.parameters.length) = some 2 := by decide +kernel
theorem zcm_181 : zcw 181 = .code (zy 181) (zby 181) (zmx 181) (zrt 181) := rfl
set_option maxRecDepth 20000 in
theorem zct_181 : zcw 181 ∈ zT := zT_mem (zt_7 81 rfl) rfl
theorem zpd_181 : (zy 181).cls ≠ "java/lang/invoke/MethodHandle" ∧ (zy 181).cls ≠ "java/lang/invoke/VarHandle" ∧ (parseMethodDescriptor (zy 181).desc).map (fun d => d.parameters.length) = some 1 := by decide +kernel
theorem zcm_182 : zcw 182 = .code (zy 182) (zby 182) (zmx 182) (none) := rfl
set_option maxRecDepth 20000 in
theorem zct_182 : zcw 182 ∈ zT := zT_mem (zt_7 86 rfl) rfl
theorem zpd_182 : (zy 182).cls ≠ "java/lang/invoke/MethodHandle" ∧ (zy 182).cls ≠ "java/lang/invoke/VarHandle" ∧ (parseMethodDescriptor (zy 182).desc).map (fun d => d.parameters.length) = some 0 := by decide +kernel
theorem zcm_183 : zcw 183 = .code (zy 183) (zby 183) (zmx 183) (zrt 183) := rfl
set_option maxRecDepth 20000 in
theorem zct_183 : zcw 183 ∈ zT := zT_mem (zt_8 129 rfl) rfl
theorem zpd_183 : (zy 183).cls ≠ "java/lang/invoke/MethodHandle" ∧ (zy 183).cls ≠ "java/lang/invoke/VarHandle" ∧ (parseMethodDescriptor (zy 183).desc).map (fun d => d.parameters.length) = some 0 := by decide +kernel
theorem zcm_184 : zcw 184 = .code (zy 184) (zby 184) (zmx 184) (zrt 184) := rfl
set_option maxRecDepth 20000 in
theorem zct_184 : zcw 184 ∈ zT := zT_mem (zt_8 133 rfl) rfl
theorem zpd_184 : (zy 184).cls ≠ "java/lang/invoke/MethodHandle" ∧ (zy 184).cls ≠ "java/lang/invoke/VarHandle" ∧ (parseMethodDescriptor (zy 184).desc).map (fun d => d.parameters.length) = some 5 := by decide +kernel
theorem zcm_185 : zcw 185 = .code (zy 185) (zby 185) (zmx 185) (zrt 185) := rfl
set_option maxRecDepth 20000 in
theorem zct_185 : zcw 185 ∈ zT := zT_mem (zt_8 137 rfl) rfl
theorem zpd_185 : (zy 185).cls ≠ "java/lang/invoke/MethodHandle" ∧ (zy 185).cls ≠ "java/lang/invoke/VarHandle" ∧ (parseMethodDescriptor (zy 185).desc).map (fun d => d.parameters.length) = some 1 := by decide +kernel
theorem zcm_186 : zcw 186 = .code (zy 186) (zby 186) (zmx 186) (zrt 186) := rfl
set_option maxRecDepth 20000 in
theorem zct_186 : zcw 186 ∈ zT := zT_mem (zt_8 141 rfl) rfl
theorem zpd_186 : (zy 186).cls ≠ "java/lang/invoke/MethodHandle" ∧ (zy 186).cls ≠ "java/lang/invoke/VarHandle" ∧ (parseMethodDescriptor (zy 186).desc).map (fun d => d.parameters.length) = some 1 := by decide +kernel
theorem zcm_187 : zcw 187 = .code (zy 187) (zby 187) (zmx 187) (zrt 187) := rfl
set_option maxRecDepth 20000 in
theorem zct_187 : zcw 187 ∈ zT := zT_mem (zt_8 144 rfl) rfl
theorem zpd_187 : (zy 187).cls ≠ "java/lang/invoke/MethodHandle" ∧ (zy 187).cls ≠ "java/lang/invoke/VarHandle" ∧ (parseMethodDescriptor (zy 187).desc).map (fun d => d.parameters.length) = some 3 := by decide +kernel
theorem zcm_188 : zcw 188 = .code (zy 188) (zby 188) (zmx 188) (zrt 188) := rfl
set_option maxRecDepth 20000 in
theorem zct_188 : zcw 188 ∈ zT := zT_mem (zt_8 148 rfl) rfl
theorem zpd_188 : (zy 188).cls ≠ "java/lang/invoke/MethodHandle" ∧ (zy 188).cls ≠ "java/lang/invoke/VarHandle" ∧ (parseMethodDescriptor (zy 188).desc).map (fun d => d.parameters.length) = some 0 := by decide +kernel
theorem zcm_189 : zcw 189 = .code (zy 189) (zby 189) (zmx 189) (zrt 189) := rfl
set_option maxRecDepth 20000 in
theorem zct_189 : zcw 189 ∈ zT := zT_mem (zt_8 152 rfl) rfl
theorem zpd_189 : (zy 189).cls ≠ "java/lang/invoke/MethodHandle" ∧ (zy 189).cls ≠ "java/lang/invoke/VarHandle" ∧ (parseMethodDescriptor (zy 189).desc).map (fun d => d.parameters.length) = some 0 := by decide +kernel
theorem zcm_190 : zcw 190 = .code (zy 190) (zby 190) (zmx 190) (zrt 190) := rfl
set_option maxRecDepth 20000 in
theorem zct_190 : zcw 190 ∈ zT := zT_mem (zt_8 156 rfl) rfl
theorem zpd_190 : (zy 190).cls ≠ "java/lang/invoke/MethodHandle" ∧ (zy 190).cls ≠ "java/lang/invoke/VarHandle" ∧ (parseMethodDescriptor (zy 190).desc).map (fun d => d.parameters.length) = some 0 := by decide +kernel
theorem zcm_191 : zcw 191 = .code (zy 191) (zby 191) (zmx 191) (zrt 191) := rfl
set_option maxRecDepth 20000 in
theorem zct_191 : zcw 191 ∈ zT := zT_mem (zt_8 160 rfl) rfl
theorem zpd_191 : (zy 191).cls ≠ "java/lang/invoke/MethodHandle" ∧ (zy 191).cls ≠ "java/lang/invoke/VarHandle" ∧ (parseMethodDescriptor (zy 191).desc).map (fun d => d.parameters.length) = some 1 := by decide +kernel
theorem zcm_192 : zcw 192 = .code (zy 192) (zby 192) (zmx 192) (zrt 192) := rfl
set_option maxRecDepth 20000 in
theorem zct_192 : zcw 192 ∈ zT := zT_mem (zt_8 163 rfl) rfl
theorem zpd_192 : (zy 192).cls ≠ "java/lang/invoke/MethodHandle" ∧ (zy 192).cls ≠ "java/lang/invoke/VarHandle" ∧ (parseMethodDescriptor (zy 192).desc).map (fun d => d.parameters.length) = some 1 := by decide +kernel
theorem zcm_193 : zcw 193 = .code (zy 193) (zby 193) (zmx 193) (zrt 193) := rfl
set_option maxRecDepth 20000 in
theorem zct_193 : zcw 193 ∈ zT := zT_mem (zt_8 166 rfl) rfl
theorem zpd_193 : (zy 193).cls ≠ "java/lang/invoke/MethodHandle" ∧ (zy 193).cls ≠ "java/lang/invoke/VarHandle" ∧ (parseMethodDescriptor (zy 193).desc).map (fun d => d.parameters.length) = some 1 := by decide +kernel
theorem zcm_194 : zcw 194 = .code (zy 194) (zby 194) (zmx 194) (zrt 194) := rfl
set_option maxRecDepth 20000 in
theorem zct_194 : zcw 194 ∈ zT := zT_mem (zt_8 169 rfl) rfl
theorem zpd_194 : (zy 194).cls ≠ "java/lang/invoke/MethodHandle" ∧ (zy 194).cls ≠ "java/lang/invoke/VarHandle" ∧ (parseMethodDescriptor (zy 194).desc).map (fun d => d.parameters.length) = some 1 := by decide +kernel
theorem zcm_195 : zcw 195 = .code (zy 195) (zby 195) (zmx 195) (zrt 195) := rfl
set_option maxRecDepth 20000 in
theorem zct_195 : zcw 195 ∈ zT := zT_mem (zt_8 173 rfl) rfl
theorem zpd_195 : (zy 195).cls ≠ "java/lang/invoke/MethodHandle" ∧ (zy 195).cls ≠ "java/lang/invoke/VarHandle" ∧ (parseMethodDescriptor (zy 195).desc).map (fun d => d.parameters.length) = some 1 := by decide +kernel
theorem zcm_196 : zcw 196 = .code (zy 196) (zby 196) (zmx 196) (zrt 196) := rfl
set_option maxRecDepth 20000 in
theorem zct_196 : zcw 196 ∈ zT := zT_mem (zt_8 177 rfl) rfl
theorem zpd_196 : (zy 196).cls ≠ "java/lang/invoke/MethodHandle" ∧ (zy 196).cls ≠ "java/lang/invoke/VarHandle" ∧ (parseMethodDescriptor (zy 196).desc).map (fun d => d.parameters.length) = some 2 := by decide +kernel
theorem zcm_197 : zcw 197 = .code (zy 197) (zby 197) (zmx 197) (zrt 197) := rfl
set_option maxRecDepth 20000 in
theorem zct_197 : zcw 197 ∈ zT := zT_mem (zt_8 181 rfl) rfl
theorem zpd_197 : (zy 197).cls ≠ "java/lang/invoke/MethodHandle" ∧ (zy 197).cls ≠ "java/lang/invoke/VarHandle" ∧ (parseMethodDescriptor (zy 197).desc).map (fun d => d.parameters.length) = some 1 := by decide +kernel
theorem zcm_198 : zcw 198 = .code (zy 198) (zby 198) (zmx 198) (zrt 198) := rfl
set_option maxRecDepth 20000 in
theorem zct_198 : zcw 198 ∈ zT := zT_mem (zt_8 185 rfl) rfl
theorem zpd_198 : (zy 198).cls ≠ "java/lang/invoke/MethodHandle" ∧ (zy 198).cls ≠ "java/lang/invoke/VarHandle" ∧ (parseMethodDescriptor (zy 198).desc).map (fun d => d.parameters.length) = some 0 := by decide +kernel
theorem zcm_199 : zcw 199 = .code (zy 199) (zby 199) (zmx 199) (zrt 199) := rfl
set_option maxRecDepth 20000 in
theorem zct_199 : zcw 199 ∈ zT := zT_mem (zt_8 190 rfl) rfl
theorem zpd_199 : (zy 199).cls ≠ "java/lang/invoke/MethodHandle" ∧ (zy 199).cls ≠ "java/lang/invoke/VarHandle" ∧ (parseMethodDescriptor (zy 199).desc).map (fun d => d.parameters.length) = some 1 := by decide +kernel
theorem zcm_200 : zcw 200 = .code (zy 200) (zby 200) (zmx 200) (zrt 200) := rfl
set_option maxRecDepth 20000 in
theorem zct_200 : zcw 200 ∈ zT := zT_mem (zt_8 196 rfl) rfl
theorem zpd_200 : (zy 200).cls ≠ "java/lang/invoke/MethodHandle" ∧ (zy 200).cls ≠ "java/lang/invoke/VarHandle" ∧ (parseMethodDescriptor (zy 200).desc).map (fun d => d.parameters.length) = some 1 := by decide +kernel
theorem zcm_201 : zcw 201 = .code (zy 201) (zby 201) (zmx 201) (zrt 201) := rfl
set_option maxRecDepth 20000 in
theorem zct_201 : zcw 201 ∈ zT := zT_mem (zt_8 200 rfl) rfl
theorem zpd_201 : (zy 201).cls ≠ "java/lang/invoke/MethodHandle" ∧ (zy 201).cls ≠ "java/lang/invoke/VarHandle" ∧ (parseMethodDescriptor (zy 201).desc).map (fun d => d.parameters.length) = some 0 := by decide +kernel
theorem zcm_202 : zcw 202 = .code (zy 202) (zby 202) (zmx 202) (zrt 202) := rfl
set_option maxRecDepth 20000 in
theorem zct_202 : zcw 202 ∈ zT := zT_mem (zt_8 204 rfl) rfl
theorem zpd_202 : (zy 202).cls ≠ "java/lang/invoke/MethodHandle" ∧ (zy 202).cls ≠ "java/lang/invoke/VarHandle" ∧ (parseMethodDescriptor (zy 202).desc).map (fun d => d.parameters.length) = some 3 := by decide +kernel
theorem zcm_203 : zcw 203 = .code (zy 203) (zby 203) (zmx 203) (zrt 203) := rfl
set_option maxRecDepth 20000 in
theorem zct_203 : zcw 203 ∈ zT := zT_mem (zt_8 208 rfl) rfl
theorem zpd_203 : (zy 203).cls ≠ "java/lang/invoke/MethodHandle" ∧ (zy 203).cls ≠ "java/lang/invoke/VarHandle" ∧ (parseMethodDescriptor (zy 203).desc).map (fun d => d.parameters.length) = some 0 := by decide +kernel
theorem zcm_204 : zcw 204 = .code (zy 204) (zby 204) (zmx 204) (zrt 204) := rfl
set_option maxRecDepth 20000 in
theorem zct_204 : zcw 204 ∈ zT := zT_mem (zt_8 213 rfl) rfl
theorem zpd_204 : (zy 204).cls ≠ "java/lang/invoke/MethodHandle" ∧ (zy 204).cls ≠ "java/lang/invoke/VarHandle" ∧ (parseMethodDescriptor (zy 204).desc).map (fun d => d.parameters.length) = some 5 := by decide +kernel
theorem zcm_205 : zcw 205 = .code (zy 205) (zby 205) (zmx 205) (zrt 205) := rfl
set_option maxRecDepth 20000 in
theorem zct_205 : zcw 205 ∈ zT := zT_mem (zt_8 217 rfl) rfl
theorem zpd_205 : (zy 205).cls ≠ "java/lang/invoke/MethodHandle" ∧ (zy 205).cls ≠ "java/lang/invoke/VarHandle" ∧ (parseMethodDescriptor (zy 205).desc).map (fun d => d.parameters.length) = some 3 := by decide +kernel
theorem zcm_206 : zcw 206 = .code (zy 206) (zby 206) (zmx 206) (zrt 206) := rfl
set_option maxRecDepth 20000 in
theorem zct_206 : zcw 206 ∈ zT := zT_mem (zt_8 221 rfl) rfl
theorem zpd_206 : (zy 206).cls ≠ "java/lang/invoke/MethodHandle" ∧ (zy 206).cls ≠ "java/lang/invoke/VarHandle" ∧ (parseMethodDescriptor (zy 206).desc).map (fun d => d.parameters.length) = some 0 := by decide +kernel
theorem zcm_207 : zcw 207 = .code (zy 207) (zby 207) (zmx 207) (zrt 207) := rfl
set_option maxRecDepth 20000 in
theorem zct_207 : zcw 207 ∈ zT := zT_mem (zt_8 225 rfl) rfl
theorem zpd_207 : (zy 207).cls ≠ "java/lang/invoke/MethodHandle" ∧ (zy 207).cls ≠ "java/lang/invoke/VarHandle" ∧ (parseMethodDescriptor (zy 207).desc).map (fun d => d.parameters.length) = some 3 := by decide +kernel
theorem zcm_208 : zcw 208 = .code (zy 208) (zby 208) (zmx 208) (zrt 208) := rfl
set_option maxRecDepth 20000 in
theorem zct_208 : zcw 208 ∈ zT := zT_mem (zt_8 229 rfl) rfl
theorem zpd_208 : (zy 208).cls ≠ "java/lang/invoke/MethodHandle" ∧ (zy 208).cls ≠ "java/lang/invoke/VarHandle" ∧ (parseMethodDescriptor (zy 208).desc).map (fun d => d.parameters.length) = some 1 := by decide +kernel
theorem zcm_209 : zcw 209 = .code (zy 209) (zby 209) (zmx 209) (zrt 209) := rfl
set_option maxRecDepth 20000 in
theorem zct_209 : zcw 209 ∈ zT := zT_mem (zt_8 233 rfl) rfl
theorem zpd_209 : (zy 209).cls ≠ "java/lang/invoke/MethodHandle" ∧ (zy 209).cls ≠ "java/lang/invoke/VarHandle" ∧ (parseMethodDescriptor (zy 209).desc).map (fun d => d.parameters.length) = some 1 := by decide +kernel
theorem zcm_210 : zcw 210 = .code (zy 210) (zby 210) (zmx 210) (zrt 210) := rfl
set_option maxRecDepth 20000 in
theorem zct_210 : zcw 210 ∈ zT := zT_mem (zt_8 237 rfl) rfl
theorem zpd_210 : (zy 210).cls ≠ "java/lang/invoke/MethodHandle" ∧ (zy 210).cls ≠ "java/lang/invoke/VarHandle" ∧ (parseMethodDescriptor (zy 210).desc).map (fun d => d.parameters.length) = some 0 := by decide +kernel
theorem zcm_211 : zcw 211 = .code (zy 211) (zby 211) (zmx 211) (zrt 211) := rfl
set_option maxRecDepth 20000 in
theorem zct_211 : zcw 211 ∈ zT := zT_mem (zt_9 1 rfl) rfl
theorem zpd_211 : (zy 211).cls ≠ "java/lang/invoke/MethodHandle" ∧ (zy 211).cls ≠ "java/lang/invoke/VarHandle" ∧ (parseMethodDescriptor (zy 211).desc).map (fun d => d.parameters.length) = some 1 := by decide +kernel
theorem zcm_212 : zcw 212 = .code (zy 212) (zby 212) (zmx 212) (zrt 212) := rfl
set_option maxRecDepth 20000 in
theorem zct_212 : zcw 212 ∈ zT := zT_mem (zt_9 5 rfl) rfl
theorem zpd_212 : (zy 212).cls ≠ "java/lang/invoke/MethodHandle" ∧ (zy 212).cls ≠ "java/lang/invoke/VarHandle" ∧ (parseMethodDescriptor (zy 212).desc).map (fun d => d.parameters.length) = some 0 := by decide +kernel
theorem zcm_213 : zcw 213 = .code (zy 213) (zby 213) (zmx 213) (zrt 213) := rfl
set_option maxRecDepth 20000 in
theorem zct_213 : zcw 213 ∈ zT := zT_mem (zt_9 10 rfl) rfl
theorem zpd_213 : (zy 213).cls ≠ "java/lang/invoke/MethodHandle" ∧ (zy 213).cls ≠ "java/lang/invoke/VarHandle" ∧ (parseMethodDescriptor (zy 213).desc).map (fun d => d.parameters.length) = some 1 := by decide +kernel
theorem zcm_214 : zcw 214 = .code (zy 214) (zby 214) (zmx 214) (zrt 214) := rfl
set_option maxRecDepth 20000 in
theorem zct_214 : zcw 214 ∈ zT := zT_mem (zt_9 14 rfl) rfl
theorem zpd_214 : (zy 214).cls ≠ "java/lang/invoke/MethodHandle" ∧ (zy 214).cls ≠ "java/lang/invoke/VarHandle" ∧ (parseMethodDescriptor (zy 214).desc).map (fun d => d.parameters.length) = some 0 := by decide +kernel
theorem zcm_215 : zcw 215 = .code (zy 215) (zby 215) (zmx 215) (zrt 215) := rfl
set_option maxRecDepth 20000 in
theorem zct_215 : zcw 215 ∈ zT := zT_mem (zt_9 18 rfl) rfl
theorem zpd_215 : (zy 215).cls ≠ "java/lang/invoke/MethodHandle" ∧ (zy 215).cls ≠ "java/lang/invoke/VarHandle" ∧ (parseMethodDescriptor (zy 215).desc).map (fun d => d.parameters.length) = some 1 := by decide +kernel
theorem zcm_216 : zcw 216 = .code (zy 216) (zby 216) (zmx 216) (zrt 216) := rfl
set_option maxRecDepth 20000 in
theorem zct_216 : zcw 216 ∈ zT := zT_mem (zt_9 23 rfl) rfl
theorem zpd_216 : (zy 216).cls ≠ "java/lang/invoke/MethodHandle" ∧ (zy 216).cls ≠ "java/lang/invoke/VarHandle" ∧ (parseMethodDescriptor (zy 216).desc).map (fun d => d.parameters.length) = some 3 := by decide +kernel
theorem zcm_217 : zcw 217 = .code (zy 217) (zby 217) (zmx 217) (zrt 217) := rfl
set_option maxRecDepth 20000 in
theorem zct_217 : zcw 217 ∈ zT := zT_mem (zt_9 27 rfl) rfl
theorem zpd_217 : (zy 217).cls ≠ "java/lang/invoke/MethodHandle" ∧ (zy 217).cls ≠ "java/lang/invoke/VarHandle" ∧ (parseMethodDescriptor (zy 217).desc).map (fun d => d.parameters.length) = some 1 := by decide +kernel
theorem zcm_218 : zcw 218 = .code (zy 218) (zby 218) (zmx 218) (zrt 218) := rfl
set_option maxRecDepth 20000 in
theorem zct_218 : zcw 218 ∈ zT := zT_mem (zt_9 32 rfl) rfl
theorem zpd_218 : (zy 218).cls ≠ "java/lang/invoke/MethodHandle" ∧ (zy 218).cls ≠ "java/lang/invoke/VarHandle" ∧ (parseMethodDescriptor (zy 218).desc).map (fun d => d.parameters.length) = some 1 := by decide +kernel
theorem zcm_219 : zcw 219 = .code (zy 219) (zby 219) (zmx 219) (zrt 219) := rfl
set_option maxRecDepth 20000 in
theorem zct_219 : zcw 219 ∈ zT := zT_mem (zt_9 36 rfl) rfl
theorem zpd_219 : (zy 219).cls ≠ "java/lang/invoke/MethodHandle" ∧ (zy 219).cls ≠ "java/lang/invoke/VarHandle" ∧ (parseMethodDescriptor (zy 219).desc).map (fun d => d.parameters.length) = some 1 := by decide +kernel
theorem zcm_220 : zcw 220 = .code (zy 220) (zby 220) (zmx 220) (zrt 220) := rfl
set_option maxRecDepth 20000 in
theorem zct_220 : zcw 220 ∈ zT := zT_mem (zt_9 40 rfl) rfl
theorem zpd_220 : (zy 220).cls ≠ "java/lang/invoke/MethodHandle" ∧ (zy 220).cls ≠ "java/lang/invoke/VarHandle" ∧ (parseMethodDescriptor (zy 220).desc).map (fun d => d.parameters.length) = some 3 := by decide +kernel
theorem zcm_221 : zcw 221 = .code (zy 221) (zby 221) (zmx 221) (zrt 221) := rfl
set_option maxRecDepth 20000 in
theorem zct_221 : zcw 221 ∈ zT := zT_mem (zt_9 44 rfl) rfl
theorem zpd_221 : (zy 221).cls ≠ "java/lang/invoke/MethodHandle" ∧ (zy 221).cls ≠ "java/lang/invoke/VarHandle" ∧ (parseMethodDescriptor (zy 221).desc).map (fun d => d.parameters.length) = some 1 := by decide +kernel
theorem zcm_222 : zcw 222 = .code (zy 222) (zby 222) (zmx 222) (zrt 222) := rfl
set_option maxRecDepth 20000 in
theorem zct_222 : zcw 222 ∈ zT := zT_mem (zt_9 48 rfl) rfl
theorem zpd_222 : (zy 222).cls ≠ "java/lang/invoke/MethodHandle" ∧ (zy 222).cls ≠ "java/lang/invoke/VarHandle" ∧ (parseMethodDescriptor (zy 222).desc).map (fun d => d.parameters.length) = some 1 := by decide +kernel
theorem zcm_223 : zcw 223 = .code (zy 223) (zby 223) (zmx 223) (zrt 223) := rfl
set_option maxRecDepth 20000 in
theorem zct_223 : zcw 223 ∈ zT := zT_mem (zt_9 53 rfl) rfl
theorem zpd_223 : (zy 223).cls ≠ "java/lang/invoke/MethodHandle" ∧ (zy 223).cls ≠ "java/lang/invoke/VarHandle" ∧ (parseMethodDescriptor (zy 223).desc).map (fun d => d.parameters.length) = some 1 := by decide +kernel
theorem zcm_224 : zcw 224 = .code (zy 224) (zby 224) (zmx 224) (zrt 224) := rfl
set_option maxRecDepth 20000 in
theorem zct_224 : zcw 224 ∈ zT := zT_mem (zt_9 57 rfl) rfl
theorem zpd_224 : (zy 224).cls ≠ "java/lang/invoke/MethodHandle" ∧ (zy 224).cls ≠ "java/lang/invoke/VarHandle" ∧ (parseMethodDescriptor (zy 224).desc).map (fun d => d.parameters.length) = some 0 := by decide +kernel
theorem zcm_225 : zcw 225 = .code (zy 225) (zby 225) (zmx 225) (zrt 225) := rfl
set_option maxRecDepth 20000 in
theorem zct_225 : zcw 225 ∈ zT := zT_mem (zt_9 62 rfl) rfl
theorem zpd_225 : (zy 225).cls ≠ "java/lang/invoke/MethodHandle" ∧ (zy 225).cls ≠ "java/lang/invoke/VarHandle" ∧ (parseMethodDescriptor (zy 225).desc).map (fun d => d.parameters.length) = some 0 := by decide +kernel
theorem zcm_226 : zcw 226 = .code (zy 226) (zby 226) (zmx 226) (zrt 226) := rfl
set_option maxRecDepth 20000 in
theorem zct_226 : zcw 226 ∈ zT := zT_mem (zt_9 66 rfl) rfl
theorem zpd_226 : (zy 226).cls ≠ "java/lang/invoke/MethodHandle" ∧ (zy 226).cls ≠ "java/lang/invoke/VarHandle" ∧ (parseMethodDescriptor (zy 226).desc).map (fun d => d.parameters.length) = some 0 := by decide +kernel
theorem zcm_227 : zcw 227 = .code (zy 227) (zby 227) (zmx 227) (zrt 227) := rfl
set_option maxRecDepth 20000 in
theorem zct_227 : zcw 227 ∈ zT := zT_mem (zt_9 71 rfl) rfl
theorem zpd_227 : (zy 227).cls ≠ "java/lang/invoke/MethodHandle" ∧ (zy 227).cls ≠ "java/lang/invoke/VarHandle" ∧ (parseMethodDescriptor (zy 227).desc).map (fun d => d.parameters.length) = some 1 := by decide +kernel
theorem zcm_228 : zcw 228 = .code (zy 228) (zby 228) (zmx 228) (zrt 228) := rfl
set_option maxRecDepth 20000 in
theorem zct_228 : zcw 228 ∈ zT := zT_mem (zt_9 76 rfl) rfl
theorem zpd_228 : (zy 228).cls ≠ "java/lang/invoke/MethodHandle" ∧ (zy 228).cls ≠ "java/lang/invoke/VarHandle" ∧ (parseMethodDescriptor (zy 228).desc).map (fun d => d.parameters.length) = some 1 := by decide +kernel
theorem zcm_229 : zcw 229 = .code (zy 229) (zby 229) (zmx 229) (zrt 229) := rfl
set_option maxRecDepth 20000 in
theorem zct_229 : zcw 229 ∈ zT := zT_mem (zt_9 80 rfl) rfl
theorem zpd_229 : (zy 229).cls ≠ "java/lang/invoke/MethodHandle" ∧ (zy 229).cls ≠ "java/lang/invoke/VarHandle" ∧ (parseMethodDescriptor (zy 229).desc).map (fun d => d.parameters.length) = some 1 := by decide +kernel
theorem zcm_230 : zcw 230 = .code (zy 230) (zby 230) (zmx 230) (zrt 230) := rfl
set_option maxRecDepth 20000 in
theorem zct_230 : zcw 230 ∈ zT := zT_mem (zt_9 86 rfl) rfl
theorem zpd_230 : (zy 230).cls ≠ "java/lang/invoke/MethodHandle" ∧ (zy 230).cls ≠ "java/lang/invoke/VarHandle" ∧ (parseMethodDescriptor (zy 230).desc).map (fun d => d.parameters.length) = some 2 := by decide +kernel
theorem zcm_231 : zcw 231 = .code (zy 231) (zby 231) (zmx 231) (zrt 231) := rfl
set_option maxRecDepth 20000 in
theorem zct_231 : zcw 231 ∈ zT := zT_mem (zt_9 90 rfl) rfl
theorem zpd_231 : (zy 231).cls ≠ "java/lang/invoke/MethodHandle" ∧ (zy 231).cls ≠ "java/lang/invoke/VarHandle" ∧ (parseMethodDescriptor (zy 231).desc).map (fun d => d.parameters.length) = some 0 := by decide +kernel
theorem zcm_232 : zcw 232 = .code (zy 232) (zby 232) (zmx 232) (zrt 232) := rfl
set_option maxRecDepth 20000 in
theorem zct_232 : zcw 232 ∈ zT := zT_mem (zt_9 94 rfl) rfl
theorem zpd_232 : (zy 232).cls ≠ "java/lang/invoke/MethodHandle" ∧ (zy 232).cls ≠ "java/lang/invoke/VarHandle" ∧ (parseMethodDescriptor (zy 232).desc).map (fun d => d.parameters.length) = some 1 := by decide +kernel
theorem zcm_233 : zcw 233 = .code (zy 233) (zby 233) (zmx 233) (zrt 233) := rfl
set_option maxRecDepth 20000 in
theorem zct_233 : zcw 233 ∈ zT := zT_mem (zt_9 103 rfl) rfl
theorem zpd_233 : (zy 233).cls ≠ "java/lang/invoke/MethodHandle" ∧ (zy 233).cls ≠ "java/lang/invoke/VarHandle" ∧ (parseMethodDescriptor (zy 233).desc).map (fun d => d.parameters.length) = some 1 := by decide +kernel
theorem zcm_234 : zcw 234 = .code (zy 234) (zby 234) (zmx 234) (zrt 234) := rfl
set_option maxRecDepth 20000 in
theorem zct_234 : zcw 234 ∈ zT := zT_mem (zt_9 108 rfl) rfl
theorem zpd_234 : (zy 234).cls ≠ "java/lang/invoke/MethodHandle" ∧ (zy 234).cls ≠ "java/lang/invoke/VarHandle" ∧ (parseMethodDescriptor (zy 234).desc).map (fun d => d.parameters.length) = some 2 := by decide +kernel
theorem zcm_235 : zcw 235 = .code (zy 235) (zby 235) (zmx 235) (zrt 235) := rfl
set_option maxRecDepth 20000 in
theorem zct_235 : zcw 235 ∈ zT := zT_mem (zt_9 112 rfl) rfl
theorem zpd_235 : (zy 235).cls ≠ "java/lang/invoke/MethodHandle" ∧ (zy 235).cls ≠ "java/lang/invoke/VarHandle" ∧ (parseMethodDescriptor (zy 235).desc).map (fun d => d.parameters.length) = some 0 := by decide +kernel
theorem zcm_236 : zcw 236 = .code (zy 236) (zby 236) (zmx 236) (zrt 236) := rfl
set_option maxRecDepth 20000 in
theorem zct_236 : zcw 236 ∈ zT := zT_mem (zt_9 118 rfl) rfl
theorem zpd_236 : (zy 236).cls ≠ "java/lang/invoke/MethodHandle" ∧ (zy 236).cls ≠ "java/lang/invoke/VarHandle" ∧ (parseMethodDescriptor (zy 236).desc).map (fun d => d.parameters.length) = some 2 := by decide +kernel
theorem zcm_237 : zcw 237 = .code (zy 237) (zby 237) (zmx 237) (zrt 237) := rfl
set_option maxRecDepth 20000 in
theorem zct_237 : zcw 237 ∈ zT := zT_mem (zt_9 122 rfl) rfl
theorem zpd_237 : (zy 237).cls ≠ "java/lang/invoke/MethodHandle" ∧ (zy 237).cls ≠ "java/lang/invoke/VarHandle" ∧ (parseMethodDescriptor (zy 237).desc).map (fun d => d.parameters.length) = some 0 := by decide +kernel
theorem zcm_238 : zcw 238 = .code (zy 238) (zby 238) (zmx 238) (zrt 238) := rfl
set_option maxRecDepth 20000 in
theorem zct_238 : zcw 238 ∈ zT := zT_mem (zt_9 126 rfl) rfl
theorem zpd_238 : (zy 238).cls ≠ "java/lang/invoke/MethodHandle" ∧ (zy 238).cls ≠ "java/lang/invoke/VarHandle" ∧ (parseMethodDescriptor (zy 238).desc).map (fun d => d.parameters.length) = some 2 := by decide +kernel
theorem zcm_239 : zcw 239 = .code (zy 239) (zby 239) (zmx 239) (zrt 239) := rfl
set_option maxRecDepth 20000 in
theorem zct_239 : zcw 239 ∈ zT := zT_mem (zt_9 130 rfl) rfl
theorem zpd_239 : (zy 239).cls ≠ "java/lang/invoke/MethodHandle" ∧ (zy 239).cls ≠ "java/lang/invoke/VarHandle" ∧ (parseMethodDescriptor (zy 239).desc).map (fun d => d.parameters.length) = some 0 := by decide +kernel
theorem zcm_240 : zcw 240 = .code (zy 240) (zby 240) (zmx 240) (zrt 240) := rfl
set_option maxRecDepth 20000 in
theorem zct_240 : zcw 240 ∈ zT := zT_mem (zt_9 134 rfl) rfl
theorem zpd_240 : (zy 240).cls ≠ "java/lang/invoke/MethodHandle" ∧ (zy 240).cls ≠ "java/lang/invoke/VarHandle" ∧ (parseMethodDescriptor (zy 240).desc).map (fun d => d.parameters.length) = some 1 := by decide +kernel
theorem zcm_241 : zcw 241 = .code (zy 241) (zby 241) (zmx 241) (zrt 241) := rfl
set_option maxRecDepth 20000 in
theorem zct_241 : zcw 241 ∈ zT := zT_mem (zt_9 138 rfl) rfl
theorem zpd_241 : (zy 241).cls ≠ "java/lang/invoke/MethodHandle" ∧ (zy 241).cls ≠ "java/lang/invoke/VarHandle" ∧ (parseMethodDescriptor (zy 241).desc).map (fun d => d.parameters.length) = some 0 := by decide +kernel
theorem zcm_242 : zcw 242 = .code (zy 242) (zby 242) (zmx 242) (zrt 242) := rfl
set_option maxRecDepth 20000 in
theorem zct_242 : zcw 242 ∈ zT := zT_mem (zt_9 142 rfl) rfl
theorem zpd_242 : (zy 242).cls ≠ "java/lang/invoke/MethodHandle" ∧ (zy 242).cls ≠ "java/lang/invoke/VarHandle" ∧ (parseMethodDescriptor (zy 242).desc).map (fun d => d.parameters.length) = some 1 := by decide +kernel
theorem zcm_243 : zcw 243 = .code (zy 243) (zby 243) (zmx 243) (zrt 243) := rfl
set_option maxRecDepth 20000 in
theorem zct_243 : zcw 243 ∈ zT := zT_mem (zt_9 146 rfl) rfl
theorem zpd_243 : (zy 243).cls ≠ "java/lang/invoke/MethodHandle" ∧ (zy 243).cls ≠ "java/lang/invoke/VarHandle" ∧ (parseMethodDescriptor (zy 243).desc).map (fun d => d.parameters.length) = some 0 := by decide +kernel
theorem zcm_244 : zcw 244 = .code (zy 244) (zby 244) (zmx 244) (zrt 244) := rfl
set_option maxRecDepth 20000 in
theorem zct_244 : zcw 244 ∈ zT := zT_mem (zt_9 150 rfl) rfl
theorem zpd_244 : (zy 244).cls ≠ "java/lang/invoke/MethodHandle" ∧ (zy 244).cls ≠ "java/lang/invoke/VarHandle" ∧ (parseMethodDescriptor (zy 244).desc).map (fun d => d.parameters.length) = some 0 := by decide +kernel
theorem zcm_245 : zcw 245 = .code (zy 245) (zby 245) (zmx 245) (zrt 245) := rfl
set_option maxRecDepth 20000 in
theorem zct_245 : zcw 245 ∈ zT := zT_mem (zt_9 154 rfl) rfl
theorem zpd_245 : (zy 245).cls ≠ "java/lang/invoke/MethodHandle" ∧ (zy 245).cls ≠ "java/lang/invoke/VarHandle" ∧ (parseMethodDescriptor (zy 245).desc).map (fun d => d.parameters.length) = some 1 := by decide +kernel
theorem zcm_246 : zcw 246 = .code (zy 246) (zby 246) (zmx 246) (zrt 246) := rfl
set_option maxRecDepth 20000 in
theorem zct_246 : zcw 246 ∈ zT := zT_mem (zt_9 158 rfl) rfl
theorem zpd_246 : (zy 246).cls ≠ "java/lang/invoke/MethodHandle" ∧ (zy 246).cls ≠ "java/lang/invoke/VarHandle" ∧ (parseMethodDescriptor (zy 246).desc).map (fun d => d.parameters.length) = some 3 := by decide +kernel
theorem zcm_247 : zcw 247 = .code (zy 247) (zby 247) (zmx 247) (zrt 247) := rfl
set_option maxRecDepth 20000 in
theorem zct_247 : zcw 247 ∈ zT := zT_mem (zt_9 162 rfl) rfl
theorem zpd_247 : (zy 247).cls ≠ "java/lang/invoke/MethodHandle" ∧ (zy 247).cls ≠ "java/lang/invoke/VarHandle" ∧ (parseMethodDescriptor (zy 247).desc).map (fun d => d.parameters.length) = some 2 := by decide +kernel
theorem zcm_248 : zcw 248 = .code (zy 248) (zby 248) (zmx 248) (zrt 248) := rfl
set_option maxRecDepth 20000 in
theorem zct_248 : zcw 248 ∈ zT := zT_mem (zt_9 166 rfl) rfl
theorem zpd_248 : (zy 248).cls ≠ "java/lang/invoke/MethodHandle" ∧ (zy 248).cls ≠ "java/lang/invoke/VarHandle" ∧ (parseMethodDescriptor (zy 248).desc).map (fun d => d.parameters.length) = some 1 := by decide +kernel
theorem zcm_249 : zcw 249 = .code (zy 249) (zby 249) (zmx 249) (zrt 249) := rfl
set_option maxRecDepth 20000 in
theorem zct_249 : zcw 249 ∈ zT := zT_mem (zt_9 170 rfl) rfl
theorem zpd_249 : (zy 249).cls ≠ "java/lang/invoke/MethodHandle" ∧ (zy 249).cls ≠ "java/lang/invoke/VarHandle" ∧ (parseMethodDescriptor (zy 249).desc).map (fun d => d.parameters.length) = some 1 := by decide +kernel
theorem zcm_250 : zcw 250 = .code (zy 250) (zby 250) (zmx 250) (zrt 250) := rfl
set_option maxRecDepth 20000 in
theorem zct_250 : zcw 250 ∈ zT := zT_mem (zt_9 174 rfl) rfl
theorem zpd_250 : (zy 250).cls ≠ "java/lang/invoke/MethodHandle" ∧ (zy 250).cls ≠ "java/lang/invoke/VarHandle" ∧ (parseMethodDescriptor (zy 250).desc).map (fun d => d.parameters.length) = some 2 := by decide +kernel
theorem zcm_251 : zcw 251 = .code (zy 251) (zby 251) (zmx 251) (zrt 251) := rfl
set_option maxRecDepth 20000 in
theorem zct_251 : zcw 251 ∈ zT := zT_mem (zt_9 178 rfl) rfl
theorem zpd_251 : (zy 251).cls ≠ "java/lang/invoke/MethodHandle" ∧ (zy 251).cls ≠ "java/lang/invoke/VarHandle" ∧ (parseMethodDescriptor (zy 251).desc).map (fun d => d.parameters.length) = some 0 := by decide +kernel
theorem zcm_252 : zcw 252 = .code (zy 252) (zby 252) (zmx 252) (zrt 252) := rfl
set_option maxRecDepth 20000 in
theorem zct_252 : zcw 252 ∈ zT := zT_mem (zt_9 182 rfl) rfl
theorem zpd_252 : (zy 252).cls ≠ "java/lang/invoke/MethodHandle" ∧ (zy 252).cls ≠ "java/lang/invoke/VarHandle" ∧ (parseMethodDescriptor (zy 252).desc).map (fun d => d.parameters.length) = some 3 := by decide +kernel
theorem zcm_253 : zcw 253 = .code (zy 253) (zby 253) (zmx 253) (zrt 253) := rfl
set_option maxRecDepth 20000 in
theorem zct_253 : zcw 253 ∈ zT := zT_mem (zt_9 186 rfl) rfl
theorem zpd_253 : (zy 253).cls ≠ "java/lang/invoke/MethodHandle" ∧ (zy 253).cls ≠ "java/lang/invoke/VarHandle" ∧ (parseMethodDescriptor (zy 253).desc).map (fun d => d.parameters.length) = some 1 := by decide +kernel
theorem zcm_254 : zcw 254 = .code (zy 254) (zby 254) (zmx 254) (zrt 254) := rfl
set_option maxRecDepth 20000 in
theorem zct_254 : zcw 254 ∈ zT := zT_mem (zt_9 190 rfl) rfl
theorem zpd_254 : (zy 254).cls ≠ "java/lang/invoke/MethodHandle" ∧ (zy 254).cls ≠ "java/lang/invoke/VarHandle" ∧ (parseMethodDescriptor (zy 254).desc).map (fun d => d.parameters.length) = some 1 := by decide +kernel
theorem zcm_255 : zcw 255 = .code (zy 255) (zby 255) (zmx 255) (zrt 255) := rfl
set_option maxRecDepth 20000 in
theorem zct_255 : zcw 255 ∈ zT := zT_mem (zt_9 194 rfl) rfl
theorem zpd_255 : (zy 255).cls ≠ "java/lang/invoke/MethodHandle" ∧ (zy 255).cls ≠ "java/lang/invoke/VarHandle" ∧ (parseMethodDescriptor (zy 255).desc).map (fun d => d.parameters.length) = some 2 := by decide +kernel
theorem zcm_256 : zcw 256 = .code (zy 256) (zby 256) (zmx 256) (zrt 256) := rfl
set_option maxRecDepth 20000 in
theorem zct_256 : zcw 256 ∈ zT := zT_mem (zt_9 198 rfl) rfl
theorem zpd_256 : (zy 256).cls ≠ "java/lang/invoke/MethodHandle" ∧ (zy 256).cls ≠ "java/lang/invoke/VarHandle" ∧ (parseMethodDescriptor (zy 256).desc).map (fun d => d.parameters.length) = some 3 := by decide +kernel
theorem zcm_257 : zcw 257 = .code (zy 257) (zby 257) (zmx 257) (zrt 257) := rfl
set_option maxRecDepth 20000 in
theorem zct_257 : zcw 257 ∈ zT := zT_mem (zt_9 202 rfl) rfl
theorem zpd_257 : (zy 257).cls ≠ "java/lang/invoke/MethodHandle" ∧ (zy 257).cls ≠ "java/lang/invoke/VarHandle" ∧ (parseMethodDescriptor (zy 257).desc).map (fun d => d.parameters.length) = some 2 := by decide +kernel
theorem zcm_258 : zcw 258 = .code (zy 258) (zby 258) (zmx 258) (zrt 258) := rfl
set_option maxRecDepth 20000 in
theorem zct_258 : zcw 258 ∈ zT := zT_mem (zt_9 206 rfl) rfl
theorem zpd_258 : (zy 258).cls ≠ "java/lang/invoke/MethodHandle" ∧ (zy 258).cls ≠ "java/lang/invoke/VarHandle" ∧ (parseMethodDescriptor (zy 258).desc).map (fun d => d.parameters.length) = some 2 := by decide +kernel
theorem zcm_259 : zcw 259 = .code (zy 259) (zby 259) (zmx 259) (zrt 259) := rfl
set_option maxRecDepth 20000 in
theorem zct_259 : zcw 259 ∈ zT := zT_mem (zt_9 210 rfl) rfl
theorem zpd_259 : (zy 259).cls ≠ "java/lang/invoke/MethodHandle" ∧ (zy 259).cls ≠ "java/lang/invoke/VarHandle" ∧ (parseMethodDescriptor (zy 259).desc).map (fun d => d.parameters.length) = some 3 := by decide +kernel
theorem zcm_260 : zcw 260 = .code (zy 260) (zby 260) (zmx 260) (zrt 260) := rfl
set_option maxRecDepth 20000 in
theorem zct_260 : zcw 260 ∈ zT := zT_mem (zt_9 214 rfl) rfl
theorem zpd_260 : (zy 260).cls ≠ "java/lang/invoke/MethodHandle" ∧ (zy 260).cls ≠ "java/lang/invoke/VarHandle" ∧ (parseMethodDescriptor (zy 260).desc).map (fun d => d.parameters.length) = some 4 := by decide +kernel
theorem zcm_261 : zcw 261 = .code (zy 261) (zby 261) (zmx 261) (zrt 261) := rfl
set_option maxRecDepth 20000 in
theorem zct_261 : zcw 261 ∈ zT := zT_mem (zt_9 218 rfl) rfl
theorem zpd_261 : (zy 261).cls ≠ "java/lang/invoke/MethodHandle" ∧ (zy 261).cls ≠ "java/lang/invoke/VarHandle" ∧ (parseMethodDescriptor (zy 261).desc).map (fun d => d.parameters.length) = some 2 := by decide +kernel
theorem zcm_262 : zcw 262 = .code (zy 262) (zby 262) (zmx 262) (zrt 262) := rfl
set_option maxRecDepth 20000 in
theorem zct_262 : zcw 262 ∈ zT := zT_mem (zt_9 222 rfl) rfl
theorem zpd_262 : (zy 262).cls ≠ "java/lang/invoke/MethodHandle" ∧ (zy 262).cls ≠ "java/lang/invoke/VarHandle" ∧ (parseMethodDescriptor (zy 262).desc).map (fun d => d.parameters.length) = some 1 := by decide +kernel
theorem zcm_263 : zcw 263 = .code (zy 263) (zby 263) (zmx 263) (zrt 263) := rfl
set_option maxRecDepth 20000 in
theorem zct_263 : zcw 263 ∈ zT := zT_mem (zt_9 226 rfl) rfl
theorem zpd_263 : (zy 263).cls ≠ "java/lang/invoke/MethodHandle" ∧ (zy 263).cls ≠ "java/lang/invoke/VarHandle" ∧ (parseMethodDescriptor (zy 263).desc).map (fun d => d.parameters.length) = some 2 := by decide +kernel
theorem zcm_264 : zcw 264 = .code (zy 264) (zby 264) (zmx 264) (zrt 264) := rfl
set_option maxRecDepth 20000 in
theorem zct_264 : zcw 264 ∈ zT := zT_mem (zt_9 231 rfl) rfl
theorem zpd_264 : (zy 264).cls ≠ "java/lang/invoke/MethodHandle" ∧ (zy 264).cls ≠ "java/lang/invoke/VarHandle" ∧ (parseMethodDescriptor (zy 264).desc).map (fun d => d.parameters.length) = some 1 := by decide +kernel
theorem zcm_265 : zcw 265 = .code (zy 265) (zby 265) (zmx 265) (zrt 265) := rfl
set_option maxRecDepth 20000 in
theorem zct_265 : zcw 265 ∈ zT := zT_mem (zt_9 236 rfl) rfl
theorem zpd_265 : (zy 265).cls ≠ "java/lang/invoke/MethodHandle" ∧ (zy 265).cls ≠ "java/lang/invoke/VarHandle" ∧ (parseMethodDescriptor (zy 265).desc).map (fun d => d.parameters.length) = some 1 := by decide +kernel
theorem zcm_266 : zcw 266 = .code (zy 266) (zby 266) (zmx 266) (zrt 266) := rfl
set_option maxRecDepth 20000 in
theorem zct_266 : zcw 266 ∈ zT := zT_mem (zt_10 2 rfl) rfl
theorem zpd_266 : (zy 266).cls ≠ "java/lang/invoke/MethodHandle" ∧ (zy 266).cls ≠ "java/lang/invoke/VarHandle" ∧ (parseMethodDescriptor (zy 266).desc).map (fun d => d.parameters.length) = some 1 := by decide +kernel
theorem zcm_267 : zcw 267 = .code (zy 267) (zby 267) (zmx 267) (zrt 267) := rfl
set_option maxRecDepth 20000 in
theorem zct_267 : zcw 267 ∈ zT := zT_mem (zt_10 6 rfl) rfl
theorem zpd_267 : (zy 267).cls ≠ "java/lang/invoke/MethodHandle" ∧ (zy 267).cls ≠ "java/lang/invoke/VarHandle" ∧ (parseMethodDescriptor (zy 267).desc).map (fun d => d.parameters.length) = some 1 := by decide +kernel
theorem zcm_268 : zcw 268 = .code (zy 268) (zby 268) (zmx 268) (zrt 268) := rfl
set_option maxRecDepth 20000 in
theorem zct_268 : zcw 268 ∈ zT := zT_mem (zt_10 10 rfl) rfl
theorem zpd_268 : (zy 268).cls ≠ "java/lang/invoke/MethodHandle" ∧ (zy 268).cls ≠ "java/lang/invoke/VarHandle" ∧ (parseMethodDescriptor (zy 268).desc).map (fun d => d.parameters.length) = some 1 := by decide +kernel
theorem zcm_269 : zcw 269 = .code (zy 269) (zby 269) (zmx 269) (zrt 269) := rfl
set_option maxRecDepth 20000 in
theorem zct_269 : zcw 269 ∈ zT := zT_mem (zt_10 14 rfl) rfl
theorem zpd_269 : (zy 269).cls ≠ "java/lang/invoke/MethodHandle" ∧ (zy 269).cls ≠ "java/lang/invoke/VarHandle" ∧ (parseMethodDescriptor (zy 269).desc).map (fun d => d.parameters.length) = some 1 := by decide +kernel
theorem zcm_270 : zcw 270 = .code (zy 270) (zby 270) (zmx 270) (zrt 270) := rfl
set_option maxRecDepth 20000 in
theorem zct_270 : zcw 270 ∈ zT := zT_mem (zt_10 18 rfl) rfl
theorem zpd_270 : (zy 270).cls ≠ "java/lang/invoke/MethodHandle" ∧ (zy 270).cls ≠ "java/lang/invoke/VarHandle" ∧ (parseMethodDescriptor (zy 270).desc).map (fun d => d.parameters.length) = some 2 := by decide +kernel
end ZFACU
