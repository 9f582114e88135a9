theorem mw_0 : (Cond.selects "RoofWar" ⟨"RoofWar", "isRoof", "(I)Z"⟩ ⟨"RoofWar", "isRoof", "(I)Z"⟩) ∈ WT := WT_s (List.mem_of_getElem? (i := 0) rfl) rfl
theorem mw_1 : (Cond.selects "RoofWar$Hill" ⟨"RoofWar$Hill", "goOut", "(I)V"⟩ ⟨"RoofWar$Hill", "goOut", "(I)V"⟩) ∈ WT := WT_s (List.mem_of_getElem? (i := 1) rfl) rfl
theorem mw_2 : (Cond.selects "RoofWar$Hill" ⟨"RoofWar$Hill", "roofOfSet", "(II)I"⟩ ⟨"RoofWar$Hill", "roofOfSet", "(II)I"⟩) ∈ WT := WT_s (List.mem_of_getElem? (i := 2) rfl) rfl
theorem mw_3 : (Cond.selects "RoofWar$Hill" ⟨"RoofWar$Hill", "rainsIn", "()I"⟩ ⟨"RoofWar$Hill", "rainsIn", "()I"⟩) ∈ WT := WT_s (List.mem_of_getElem? (i := 3) rfl) rfl
theorem mw_4 : (Cond.selects "RoofWar$Fitting" ⟨"RoofWar$Fitting", "mostFrom", "(LRoofWar$Hill;III)I"⟩ ⟨"RoofWar$Fitting", "mostFrom", "(LRoofWar$Hill;III)I"⟩) ∈ WT := WT_s (List.mem_of_getElem? (i := 4) rfl) rfl
theorem mw_5 : (Cond.selects "RoofWar$Fitting" ⟨"RoofWar$Fitting", "dryWith", "(LRoofWar$Hill;IIII)I"⟩ ⟨"RoofWar$Fitting", "dryWith", "(LRoofWar$Hill;IIII)I"⟩) ∈ WT := WT_s (List.mem_of_getElem? (i := 5) rfl) rfl
theorem mw_6 : (Cond.selects "RoofWar$Fitting" ⟨"RoofWar$Fitting", "choose", "(LRoofWar$Hill;I)V"⟩ ⟨"RoofWar$Fitting", "choose", "(LRoofWar$Hill;I)V"⟩) ∈ WT := WT_s (List.mem_of_getElem? (i := 6) rfl) rfl
theorem mw_7 : (Cond.selects "RoofWar$Fitting" ⟨"RoofWar$Fitting", "leastOfBest", "(LRoofWar$Hill;III)I"⟩ ⟨"RoofWar$Fitting", "leastOfBest", "(LRoofWar$Hill;III)I"⟩) ∈ WT := WT_s (List.mem_of_getElem? (i := 7) rfl) rfl
theorem mw_8 : (Cond.selects "RoofWar" ⟨"RoofWar", "countHits", "(LRoofWar$Row;)V"⟩ ⟨"RoofWar", "countHits", "(LRoofWar$Row;)V"⟩) ∈ WT := WT_s (List.mem_of_getElem? (i := 8) rfl) rfl
theorem mw_9 : (Cond.selects "RoofWar$Reader" ⟨"RoofWar$Reader", "step", "()V"⟩ ⟨"RoofWar$Reader", "step", "()V"⟩) ∈ WT := WT_s (List.mem_of_getElem? (i := 9) rfl) rfl
theorem mw_10 : (Cond.selects "RoofWar$Reader" ⟨"RoofWar$Reader", "readKey", "()Z"⟩ ⟨"RoofWar$Reader", "readKey", "()Z"⟩) ∈ WT := WT_s (List.mem_of_getElem? (i := 10) rfl) rfl
theorem mw_11 : (Cond.selects "RoofWar$Reader" ⟨"RoofWar$Reader", "isWord", "(Ljava/lang/String;)Z"⟩ ⟨"RoofWar$Reader", "isWord", "(Ljava/lang/String;)Z"⟩) ∈ WT := WT_s (List.mem_of_getElem? (i := 11) rfl) rfl
theorem mw_12 : (Cond.selects "RoofWar$Reader" ⟨"RoofWar$Reader", "readLevel", "(I)Z"⟩ ⟨"RoofWar$Reader", "readLevel", "(I)Z"⟩) ∈ WT := WT_s (List.mem_of_getElem? (i := 12) rfl) rfl
theorem mw_13 : (Cond.selects "RoofWar$Reader" ⟨"RoofWar$Reader", "readBelow", "(I)Z"⟩ ⟨"RoofWar$Reader", "readBelow", "(I)Z"⟩) ∈ WT := WT_s (List.mem_of_getElem? (i := 13) rfl) rfl
theorem mw_14 : (Cond.selects "RoofWar$Reader" ⟨"RoofWar$Reader", "readPiece", "()Z"⟩ ⟨"RoofWar$Reader", "readPiece", "()Z"⟩) ∈ WT := WT_s (List.mem_of_getElem? (i := 14) rfl) rfl
theorem mw_15 : (Cond.selects "RoofWar$Reader" ⟨"RoofWar$Reader", "number", "()I"⟩ ⟨"RoofWar$Reader", "number", "()I"⟩) ∈ WT := WT_s (List.mem_of_getElem? (i := 15) rfl) rfl
theorem mw_16 : (Cond.selects "RoofWar$Law" ⟨"RoofWar$Law", "addCode", "(I)V"⟩ ⟨"RoofWar$Law", "addCode", "(I)V"⟩) ∈ WT := WT_s (List.mem_of_getElem? (i := 16) rfl) rfl
theorem mw_17 : (Cond.selects "RoofWar$Reader" ⟨"RoofWar$Reader", "readName", "()Z"⟩ ⟨"RoofWar$Reader", "readName", "()Z"⟩) ∈ WT := WT_s (List.mem_of_getElem? (i := 17) rfl) rfl
theorem mw_18 : (Cond.selects "RoofWar$Reader" ⟨"RoofWar$Reader", "isSign", "(Ljava/lang/String;)Z"⟩ ⟨"RoofWar$Reader", "isSign", "(Ljava/lang/String;)Z"⟩) ∈ WT := WT_s (List.mem_of_getElem? (i := 18) rfl) rfl
theorem mw_19 : (Cond.selects "RoofWar$Reader" ⟨"RoofWar$Reader", "readNot", "()Z"⟩ ⟨"RoofWar$Reader", "readNot", "()Z"⟩) ∈ WT := WT_s (List.mem_of_getElem? (i := 19) rfl) rfl
theorem mw_20 : (Cond.selects "RoofWar$Reader" ⟨"RoofWar$Reader", "readBracket", "()Z"⟩ ⟨"RoofWar$Reader", "readBracket", "()Z"⟩) ∈ WT := WT_s (List.mem_of_getElem? (i := 20) rfl) rfl
theorem mw_21 : (Cond.selects "RoofWar" ⟨"RoofWar", "waitsAt", "(III)Z"⟩ ⟨"RoofWar", "waitsAt", "(III)Z"⟩) ∈ WT := WT_s (List.mem_of_getElem? (i := 21) rfl) rfl
theorem mw_22 : (Cond.selects "RoofWarModel" ⟨"RoofWarModel", "over", "(I)I"⟩ ⟨"RoofWarModel", "over", "(I)I"⟩) ∈ WT := WT_s (List.mem_of_getElem? (i := 22) rfl) rfl
theorem mw_23 : (Cond.selects "RoofWarModel" ⟨"RoofWarModel", "of", "(II)I"⟩ ⟨"RoofWarModel", "of", "(II)I"⟩) ∈ WT := WT_s (List.mem_of_getElem? (i := 23) rfl) rfl
theorem mw_24 : (Cond.selects "RoofWarModel" ⟨"RoofWarModel", "comes", "(IIII)V"⟩ ⟨"RoofWarModel", "comes", "(IIII)V"⟩) ∈ WT := WT_s (List.mem_of_getElem? (i := 24) rfl) rfl
theorem mw_25 : (Cond.selects "RoofWarModel" ⟨"RoofWarModel", "sets", "(III)V"⟩ ⟨"RoofWarModel", "sets", "(III)V"⟩) ∈ WT := WT_s (List.mem_of_getElem? (i := 25) rfl) rfl
theorem mw_26 : (Cond.selects "RoofWarModel" ⟨"RoofWarModel", "isRoof", "(I)Z"⟩ ⟨"RoofWarModel", "isRoof", "(I)Z"⟩) ∈ WT := WT_s (List.mem_of_getElem? (i := 26) rfl) rfl
theorem mw_27 : (Cond.selects "RoofWarModel" ⟨"RoofWarModel", "weighs", "(I)I"⟩ ⟨"RoofWarModel", "weighs", "(I)I"⟩) ∈ WT := WT_s (List.mem_of_getElem? (i := 27) rfl) rfl
theorem mw_28 : (Cond.selects "RoofWarModel" ⟨"RoofWarModel", "covers", "(I)I"⟩ ⟨"RoofWarModel", "covers", "(I)I"⟩) ∈ WT := WT_s (List.mem_of_getElem? (i := 28) rfl) rfl
theorem mw_29 : (Cond.selects "RoofWarModel" ⟨"RoofWarModel", "drips", "(I)I"⟩ ⟨"RoofWarModel", "drips", "(I)I"⟩) ∈ WT := WT_s (List.mem_of_getElem? (i := 29) rfl) rfl
theorem mw_30 : (Cond.selects "RoofWarModel" ⟨"RoofWarModel", "worth", "(I)I"⟩ ⟨"RoofWarModel", "worth", "(I)I"⟩) ∈ WT := WT_s (List.mem_of_getElem? (i := 30) rfl) rfl
theorem mw_31 : (Cond.selects "RoofWarModel" ⟨"RoofWarModel", "changes", "(II)I"⟩ ⟨"RoofWarModel", "changes", "(II)I"⟩) ∈ WT := WT_s (List.mem_of_getElem? (i := 31) rfl) rfl
theorem mw_32 : (Cond.selects "RoofWarModel" ⟨"RoofWarModel", "dryIn", "(I)I"⟩ ⟨"RoofWarModel", "dryIn", "(I)I"⟩) ∈ WT := WT_s (List.mem_of_getElem? (i := 32) rfl) rfl
theorem mw_33 : (Cond.selects "RoofWarModel" ⟨"RoofWarModel", "least", "(II)I"⟩ ⟨"RoofWarModel", "least", "(II)I"⟩) ∈ WT := WT_s (List.mem_of_getElem? (i := 33) rfl) rfl
theorem mw_34 : (Cond.selects "RoofWarModel" ⟨"RoofWarModel", "drawn", "()I"⟩ ⟨"RoofWarModel", "drawn", "()I"⟩) ∈ WT := WT_s (List.mem_of_getElem? (i := 34) rfl) rfl
theorem mw_35 : (Cond.selects "RoofWarModel" ⟨"RoofWarModel", "goesOnMany", "(I)V"⟩ ⟨"RoofWarModel", "goesOnMany", "(I)V"⟩) ∈ WT := WT_s (List.mem_of_getElem? (i := 35) rfl) rfl
theorem mw_36 : (Cond.selects "RoofWarModel" ⟨"RoofWarModel", "goesOn", "()V"⟩ ⟨"RoofWarModel", "goesOn", "()V"⟩) ∈ WT := WT_s (List.mem_of_getElem? (i := 36) rfl) rfl
theorem mw_37 : (Cond.selects "RoofWarModel" ⟨"RoofWarModel", "goesOut", "(I)V"⟩ ⟨"RoofWarModel", "goesOut", "(I)V"⟩) ∈ WT := WT_s (List.mem_of_getElem? (i := 37) rfl) rfl
theorem mw_38 : (Cond.selects "RoofWarModel" ⟨"RoofWarModel", "lootOf", "(I)I"⟩ ⟨"RoofWarModel", "lootOf", "(I)I"⟩) ∈ WT := WT_s (List.mem_of_getElem? (i := 38) rfl) rfl
theorem mw_39 : (Cond.selects "RoofWarModel" ⟨"RoofWarModel", "mayCarry", "(II)Z"⟩ ⟨"RoofWarModel", "mayCarry", "(II)Z"⟩) ∈ WT := WT_s (List.mem_of_getElem? (i := 39) rfl) rfl
theorem mw_40 : (Cond.selects "RoofWarModel" ⟨"RoofWarModel", "townOf", "(I)I"⟩ ⟨"RoofWarModel", "townOf", "(I)I"⟩) ∈ WT := WT_s (List.mem_of_getElem? (i := 40) rfl) rfl
theorem mw_41 : (Cond.selects "RoofWarModel" ⟨"RoofWarModel", "homeOf", "(I)I"⟩ ⟨"RoofWarModel", "homeOf", "(I)I"⟩) ∈ WT := WT_s (List.mem_of_getElem? (i := 41) rfl) rfl
theorem mw_42 : (Cond.selects "RoofWarModel" ⟨"RoofWarModel", "isCarried", "(II)V"⟩ ⟨"RoofWarModel", "isCarried", "(II)V"⟩) ∈ WT := WT_s (List.mem_of_getElem? (i := 42) rfl) rfl
theorem mw_43 : (Cond.selects "RoofWarModel" ⟨"RoofWarModel", "spiteOf", "(I)I"⟩ ⟨"RoofWarModel", "spiteOf", "(I)I"⟩) ∈ WT := WT_s (List.mem_of_getElem? (i := 43) rfl) rfl
theorem mw_44 : (Cond.selects "RoofWarModel" ⟨"RoofWarModel", "counts", "(I)I"⟩ ⟨"RoofWarModel", "counts", "(I)I"⟩) ∈ WT := WT_s (List.mem_of_getElem? (i := 44) rfl) rfl
theorem mw_45 : (Cond.selects "RoofWarModel" ⟨"RoofWarModel", "textAt", "(I)I"⟩ ⟨"RoofWarModel", "textAt", "(I)I"⟩) ∈ WT := WT_s (List.mem_of_getElem? (i := 45) rfl) rfl
theorem mw_46 : (Cond.selects "RoofWarModel" ⟨"RoofWarModel", "worked", "(I)I"⟩ ⟨"RoofWarModel", "worked", "(I)I"⟩) ∈ WT := WT_s (List.mem_of_getElem? (i := 46) rfl) rfl
theorem mw_47 : (Cond.selects "RoofWarModel" ⟨"RoofWarModel", "rains", "()I"⟩ ⟨"RoofWarModel", "rains", "()I"⟩) ∈ WT := WT_s (List.mem_of_getElem? (i := 47) rfl) rfl
theorem mw_48 : (Cond.selects "RoofWarModel" ⟨"RoofWarModel", "hillOf", "(I)I"⟩ ⟨"RoofWarModel", "hillOf", "(I)I"⟩) ∈ WT := WT_s (List.mem_of_getElem? (i := 48) rfl) rfl
theorem mw_49 : (Cond.selects "RoofWarModel" ⟨"RoofWarModel", "dryOf", "(I)I"⟩ ⟨"RoofWarModel", "dryOf", "(I)I"⟩) ∈ WT := WT_s (List.mem_of_getElem? (i := 49) rfl) rfl
theorem mw_50 : (Cond.selects "RoofWarModel" ⟨"RoofWarModel", "leaks", "()I"⟩ ⟨"RoofWarModel", "leaks", "()I"⟩) ∈ WT := WT_s (List.mem_of_getElem? (i := 50) rfl) rfl
theorem mw_51 : (Cond.selects "RoofWarModel" ⟨"RoofWarModel", "laysFrom", "(IIII)V"⟩ ⟨"RoofWarModel", "laysFrom", "(IIII)V"⟩) ∈ WT := WT_s (List.mem_of_getElem? (i := 51) rfl) rfl
theorem mw_52 : (Cond.selects "RoofWarModel" ⟨"RoofWarModel", "prizeOf", "(III)I"⟩ ⟨"RoofWarModel", "prizeOf", "(III)I"⟩) ∈ WT := WT_s (List.mem_of_getElem? (i := 52) rfl) rfl
theorem mw_53 : (Cond.selects "RoofWarModel" ⟨"RoofWarModel", "laysBy", "()V"⟩ ⟨"RoofWarModel", "laysBy", "()V"⟩) ∈ WT := WT_s (List.mem_of_getElem? (i := 53) rfl) rfl
theorem mw_54 : (Cond.selects "RoofWarModel" ⟨"RoofWarModel", "laysBack", "()V"⟩ ⟨"RoofWarModel", "laysBack", "()V"⟩) ∈ WT := WT_s (List.mem_of_getElem? (i := 54) rfl) rfl
theorem mw_55 : (Cond.selects "RoofWarModel" ⟨"RoofWarModel", "parse", "()I"⟩ ⟨"RoofWarModel", "parse", "()I"⟩) ∈ WT := WT_s (List.mem_of_getElem? (i := 55) rfl) rfl
theorem mw_56 : (Cond.selects "RoofWarModel" ⟨"RoofWarModel", "nextToken", "()V"⟩ ⟨"RoofWarModel", "nextToken", "()V"⟩) ∈ WT := WT_s (List.mem_of_getElem? (i := 56) rfl) rfl
theorem mw_57 : (Cond.selects "RoofWarModel" ⟨"RoofWarModel", "isLetter", "(I)Z"⟩ ⟨"RoofWarModel", "isLetter", "(I)Z"⟩) ∈ WT := WT_s (List.mem_of_getElem? (i := 57) rfl) rfl
theorem mw_58 : (Cond.selects "RoofWarModel" ⟨"RoofWarModel", "isDigit", "(I)Z"⟩ ⟨"RoofWarModel", "isDigit", "(I)Z"⟩) ∈ WT := WT_s (List.mem_of_getElem? (i := 58) rfl) rfl
theorem mw_59 : (Cond.selects "RoofWarModel" ⟨"RoofWarModel", "key", "()I"⟩ ⟨"RoofWarModel", "key", "()I"⟩) ∈ WT := WT_s (List.mem_of_getElem? (i := 59) rfl) rfl
theorem mw_60 : (Cond.selects "RoofWarModel" ⟨"RoofWarModel", "isLong", "(IIIIII)Z"⟩ ⟨"RoofWarModel", "isLong", "(IIIIII)Z"⟩) ∈ WT := WT_s (List.mem_of_getElem? (i := 60) rfl) rfl
theorem mw_61 : (Cond.selects "RoofWarModel" ⟨"RoofWarModel", "isWordAt", "(IIII)Z"⟩ ⟨"RoofWarModel", "isWordAt", "(IIII)Z"⟩) ∈ WT := WT_s (List.mem_of_getElem? (i := 61) rfl) rfl
theorem mw_62 : (Cond.selects "RoofWarModel" ⟨"RoofWarModel", "either", "(I)Z"⟩ ⟨"RoofWarModel", "either", "(I)Z"⟩) ∈ WT := WT_s (List.mem_of_getElem? (i := 62) rfl) rfl
theorem mw_63 : (Cond.selects "RoofWarModel" ⟨"RoofWarModel", "both", "(I)Z"⟩ ⟨"RoofWarModel", "both", "(I)Z"⟩) ∈ WT := WT_s (List.mem_of_getElem? (i := 63) rfl) rfl
theorem mw_64 : (Cond.selects "RoofWarModel" ⟨"RoofWarModel", "test", "(I)Z"⟩ ⟨"RoofWarModel", "test", "(I)Z"⟩) ∈ WT := WT_s (List.mem_of_getElem? (i := 64) rfl) rfl
theorem mw_65 : (Cond.selects "RoofWarModel" ⟨"RoofWarModel", "sum", "(I)Z"⟩ ⟨"RoofWarModel", "sum", "(I)Z"⟩) ∈ WT := WT_s (List.mem_of_getElem? (i := 65) rfl) rfl
theorem mw_66 : (Cond.selects "RoofWarModel" ⟨"RoofWarModel", "term", "(I)Z"⟩ ⟨"RoofWarModel", "term", "(I)Z"⟩) ∈ WT := WT_s (List.mem_of_getElem? (i := 66) rfl) rfl
theorem mw_67 : (Cond.selects "RoofWarModel" ⟨"RoofWarModel", "part0", "(I)Z"⟩ ⟨"RoofWarModel", "part0", "(I)Z"⟩) ∈ WT := WT_s (List.mem_of_getElem? (i := 67) rfl) rfl
theorem mw_68 : (Cond.selects "RoofWarModel" ⟨"RoofWarModel", "step", "(II)V"⟩ ⟨"RoofWarModel", "step", "(II)V"⟩) ∈ WT := WT_s (List.mem_of_getElem? (i := 68) rfl) rfl
theorem mw_69 : (Cond.selects "RoofWarModel" ⟨"RoofWarModel", "isSign", "(I)Z"⟩ ⟨"RoofWarModel", "isSign", "(I)Z"⟩) ∈ WT := WT_s (List.mem_of_getElem? (i := 69) rfl) rfl
theorem mw_70 : (Cond.selects "RoofWarModel" ⟨"RoofWarModel", "isText", "(I)Z"⟩ ⟨"RoofWarModel", "isText", "(I)Z"⟩) ∈ WT := WT_s (List.mem_of_getElem? (i := 70) rfl) rfl
theorem mw_71 : (Cond.selects "RoofWarModel" ⟨"RoofWarModel", "likeOnes", "(II)I"⟩ ⟨"RoofWarModel", "likeOnes", "(II)I"⟩) ∈ WT := WT_s (List.mem_of_getElem? (i := 71) rfl) rfl
theorem mw_72 : (Cond.selects "RoofWarModel" ⟨"RoofWarModel", "setAside", "([I[I)V"⟩ ⟨"RoofWarModel", "setAside", "([I[I)V"⟩) ∈ WT := WT_s (List.mem_of_getElem? (i := 72) rfl) rfl
theorem mw_73 : (Jvm.Cond.initialized "RoofWarLaw") ∈ WT := WT_1 (List.mem_of_getElem? (i := 0) rfl) rfl
theorem mw_74 : (Jvm.Cond.initialized "RoofWar") ∈ WT := WT_1 (List.mem_of_getElem? (i := 1) rfl) rfl
theorem mw_75 : (Jvm.Cond.initialized "RoofWar$Laws") ∈ WT := WT_1 (List.mem_of_getElem? (i := 2) rfl) rfl
theorem mw_76 : (Jvm.Cond.initialized "RoofWar$Law") ∈ WT := WT_1 (List.mem_of_getElem? (i := 3) rfl) rfl
theorem mw_77 : (Jvm.Cond.initialized "RoofWar$Hill") ∈ WT := WT_1 (List.mem_of_getElem? (i := 4) rfl) rfl
theorem mw_78 : (Jvm.Cond.initialized "RoofWar$Fitting") ∈ WT := WT_1 (List.mem_of_getElem? (i := 5) rfl) rfl
theorem mw_79 : (Jvm.Cond.initialized "RoofWar$Tape") ∈ WT := WT_1 (List.mem_of_getElem? (i := 6) rfl) rfl
theorem mw_80 : (Jvm.Cond.initialized "RoofWar$Reader") ∈ WT := WT_1 (List.mem_of_getElem? (i := 7) rfl) rfl
theorem mw_81 : (Jvm.Cond.initialized "RoofWar$Row") ∈ WT := WT_1 (List.mem_of_getElem? (i := 8) rfl) rfl
theorem mw_82 : (Jvm.Cond.initialized "RoofWar$Slot") ∈ WT := WT_1 (List.mem_of_getElem? (i := 9) rfl) rfl
theorem mw_83 : (Jvm.Cond.initialized "RoofWarModel") ∈ WT := WT_1 (List.mem_of_getElem? (i := 10) rfl) rfl
theorem mw_84 : (Jvm.Cond.initialized "RoofWar$Kinds") ∈ WT := WT_1 (List.mem_of_getElem? (i := 11) rfl) rfl
theorem mw_85 : (Jvm.Cond.initialized "java/lang/Math") ∈ WT := WT_1 (List.mem_of_getElem? (i := 12) rfl) rfl
theorem mw_86 : (Jvm.Cond.initialized "java/lang/Integer") ∈ WT := WT_1 (List.mem_of_getElem? (i := 13) rfl) rfl
theorem mw_87 : (Jvm.Cond.initialized "java/lang/System") ∈ WT := WT_1 (List.mem_of_getElem? (i := 14) rfl) rfl
theorem mw_88 : (Jvm.Cond.initialized "java/lang/String") ∈ WT := WT_1 (List.mem_of_getElem? (i := 15) rfl) rfl
theorem mw_89 : (Jvm.Cond.initialized "java/lang/StringLatin1") ∈ WT := WT_1 (List.mem_of_getElem? (i := 16) rfl) rfl
theorem mw_90 : (Jvm.Cond.initialized "jdk/internal/util/Preconditions") ∈ WT := WT_1 (List.mem_of_getElem? (i := 17) rfl) rfl
theorem mw_91 : (Jvm.Cond.initialized "java/lang/StringUTF16") ∈ WT := WT_1 (List.mem_of_getElem? (i := 18) rfl) rfl
theorem mw_92 : (Jvm.Cond.initialized "java/lang/Character") ∈ WT := WT_1 (List.mem_of_getElem? (i := 19) rfl) rfl
theorem mw_93 : (Jvm.Cond.classLink "RoofWarLaw" (7 : Nat) "RoofWar") ∈ WT := WT_1 (List.mem_of_getElem? (i := 20) rfl) rfl
theorem mw_94 : (Jvm.Cond.instantiable "RoofWar" (13 : Nat)) ∈ WT := WT_1 (List.mem_of_getElem? (i := 21) rfl) rfl
theorem mw_95 : (Jvm.Cond.methodLink "RoofWarLaw" (9 : Nat) ({ cls := "RoofWar", name := "<init>", desc := "()V" } : Jvm.MethodName)) ∈ WT := WT_1 (List.mem_of_getElem? (i := 22) rfl) rfl
theorem mw_96 : (Jvm.Cond.instanceMethod ({ cls := "RoofWar", name := "<init>", desc := "()V" } : Jvm.MethodName)) ∈ WT := WT_1 (List.mem_of_getElem? (i := 23) rfl) rfl
theorem mw_97 : (Jvm.Cond.code ({ cls := "RoofWar", name := "<init>", desc := "()V" } : Jvm.MethodName) prog_1_method_1_code (2 : Nat) (Option.none : Option Jvm.ClassFile.FieldType)) ∈ WT := WT_1 (List.mem_of_getElem? (i := 24) rfl) rfl
theorem mw_98 : (Jvm.Cond.methodLink "RoofWar" (1 : Nat) ({ cls := "java/lang/Object", name := "<init>", desc := "()V" } : Jvm.MethodName)) ∈ WT := WT_1 (List.mem_of_getElem? (i := 25) rfl) rfl
theorem mw_99 : (Jvm.Cond.instanceMethod ({ cls := "java/lang/Object", name := "<init>", desc := "()V" } : Jvm.MethodName)) ∈ WT := WT_1 (List.mem_of_getElem? (i := 26) rfl) rfl
theorem mw_100 : (Jvm.Cond.code ({ cls := "java/lang/Object", name := "<init>", desc := "()V" } : Jvm.MethodName) object_method_1_code (1 : Nat) (Option.none : Option Jvm.ClassFile.FieldType)) ∈ WT := WT_1 (List.mem_of_getElem? (i := 27) rfl) rfl
theorem mw_101 : (Jvm.Cond.classLink "RoofWar" (7 : Nat) "RoofWar$Laws") ∈ WT := WT_1 (List.mem_of_getElem? (i := 28) rfl) rfl
theorem mw_102 : (Jvm.Cond.instantiable "RoofWar$Laws" (2 : Nat)) ∈ WT := WT_1 (List.mem_of_getElem? (i := 29) rfl) rfl
theorem mw_103 : (Jvm.Cond.methodLink "RoofWar" (9 : Nat) ({ cls := "RoofWar$Laws", name := "<init>", desc := "()V" } : Jvm.MethodName)) ∈ WT := WT_1 (List.mem_of_getElem? (i := 30) rfl) rfl
theorem mw_104 : (Jvm.Cond.instanceMethod ({ cls := "RoofWar$Laws", name := "<init>", desc := "()V" } : Jvm.MethodName)) ∈ WT := WT_1 (List.mem_of_getElem? (i := 31) rfl) rfl
theorem mw_105 : (Jvm.Cond.code ({ cls := "RoofWar$Laws", name := "<init>", desc := "()V" } : Jvm.MethodName) prog_6_method_1_code (2 : Nat) (Option.none : Option Jvm.ClassFile.FieldType)) ∈ WT := WT_1 (List.mem_of_getElem? (i := 32) rfl) rfl
theorem mw_106 : (Jvm.Cond.methodLink "RoofWar$Laws" (3 : Nat) ({ cls := "java/lang/Object", name := "<init>", desc := "()V" } : Jvm.MethodName)) ∈ WT := WT_1 (List.mem_of_getElem? (i := 33) rfl) rfl
theorem mw_107 : (Jvm.Cond.classLink "RoofWar$Laws" (9 : Nat) "RoofWar$Law") ∈ WT := WT_1 (List.mem_of_getElem? (i := 34) rfl) rfl
theorem mw_108 : (Jvm.Cond.instantiable "RoofWar$Law" (4 : Nat)) ∈ WT := WT_1 (List.mem_of_getElem? (i := 36) rfl) rfl
theorem mw_109 : (Jvm.Cond.instanceMethod ({ cls := "RoofWar$Law", name := "<init>", desc := "()V" } : Jvm.MethodName)) ∈ WT := WT_1 (List.mem_of_getElem? (i := 38) rfl) rfl
theorem mw_110 : (Jvm.Cond.code ({ cls := "RoofWar$Law", name := "<init>", desc := "()V" } : Jvm.MethodName) prog_5_method_1_code (1 : Nat) (Option.none : Option Jvm.ClassFile.FieldType)) ∈ WT := WT_1 (List.mem_of_getElem? (i := 39) rfl) rfl
theorem mw_111 : (Jvm.Cond.methodLink "RoofWar$Law" (3 : Nat) ({ cls := "java/lang/Object", name := "<init>", desc := "()V" } : Jvm.MethodName)) ∈ WT := WT_1 (List.mem_of_getElem? (i := 40) rfl) rfl
theorem mw_112 : (Jvm.Cond.fieldLink "RoofWar$Laws" (22 : Nat) "RoofWar$Law" "key" "I") ∈ WT := WT_1 (List.mem_of_getElem? (i := 41) rfl) rfl
theorem mw_113 : (Jvm.Cond.fieldLink "RoofWar$Reader" (106 : Nat) "RoofWar$Law" "key" "I") ∈ WT := WT_1 (List.mem_of_getElem? (i := 42) rfl) rfl
theorem mw_114 : (Jvm.Cond.fieldLink "RoofWar" (275 : Nat) "RoofWar$Law" "key" "I") ∈ WT := WT_1 (List.mem_of_getElem? (i := 43) rfl) rfl
theorem mw_115 : (Jvm.Cond.fieldLink "RoofWar$Law" (15 : Nat) "RoofWar$Law" "leaves" "I") ∈ WT := WT_1 (List.mem_of_getElem? (i := 44) rfl) rfl
theorem mw_116 : (Jvm.Cond.fieldLink "RoofWar" (280 : Nat) "RoofWar$Law" "leaves" "I") ∈ WT := WT_1 (List.mem_of_getElem? (i := 45) rfl) rfl
theorem mw_117 : (Jvm.Cond.fieldLink "RoofWar$Law" (19 : Nat) "RoofWar$Law" "length" "I") ∈ WT := WT_1 (List.mem_of_getElem? (i := 46) rfl) rfl
theorem mw_118 : (Jvm.Cond.fieldLink "RoofWar$Laws" (57 : Nat) "RoofWar$Law" "length" "I") ∈ WT := WT_1 (List.mem_of_getElem? (i := 47) rfl) rfl
theorem mw_119 : (Jvm.Cond.fieldLink "RoofWar$Law" (9 : Nat) "RoofWar$Law" "codes" "[I") ∈ WT := WT_1 (List.mem_of_getElem? (i := 48) rfl) rfl
theorem mw_120 : (Jvm.Cond.fieldLink "RoofWar$Laws" (60 : Nat) "RoofWar$Law" "codes" "[I") ∈ WT := WT_1 (List.mem_of_getElem? (i := 49) rfl) rfl
theorem mw_121 : (Jvm.Cond.lays "RoofWar$Law" "RoofWar$Law" "key" "I") ∈ WT := WT_1 (List.mem_of_getElem? (i := 50) rfl) rfl
theorem mw_122 : (Jvm.Cond.soleField "RoofWar$Law" "key") ∈ WT := WT_1 (List.mem_of_getElem? (i := 51) rfl) rfl
theorem mw_123 : (Jvm.Cond.lays "RoofWar$Law" "RoofWar$Law" "leaves" "I") ∈ WT := WT_1 (List.mem_of_getElem? (i := 52) rfl) rfl
theorem mw_124 : (Jvm.Cond.soleField "RoofWar$Law" "leaves") ∈ WT := WT_1 (List.mem_of_getElem? (i := 53) rfl) rfl
theorem mw_125 : (Jvm.Cond.lays "RoofWar$Law" "RoofWar$Law" "length" "I") ∈ WT := WT_1 (List.mem_of_getElem? (i := 54) rfl) rfl
theorem mw_126 : (Jvm.Cond.soleField "RoofWar$Law" "length") ∈ WT := WT_1 (List.mem_of_getElem? (i := 55) rfl) rfl
theorem mw_127 : (Jvm.Cond.laysFinal "RoofWar$Law" "RoofWar$Law" "codes" "[I") ∈ WT := WT_1 (List.mem_of_getElem? (i := 56) rfl) rfl
theorem mw_128 : (Jvm.Cond.soleField "RoofWar$Law" "codes") ∈ WT := WT_1 (List.mem_of_getElem? (i := 57) rfl) rfl
theorem mw_129 : (Jvm.Cond.superclass "RoofWar$Law" "java/lang/Object") ∈ WT := WT_1 (List.mem_of_getElem? (i := 58) rfl) rfl
theorem mw_130 : (Jvm.Cond.arrayClass Jvm.ClassFile.FieldType.int) ∈ WT := WT_1 (List.mem_of_getElem? (i := 59) rfl) rfl
theorem mw_131 : (Jvm.Cond.fieldLink "RoofWar$Laws" (11 : Nat) "RoofWar$Laws" "all" "[LRoofWar$Law;") ∈ WT := WT_1 (List.mem_of_getElem? (i := 60) rfl) rfl
theorem mw_132 : (Jvm.Cond.fieldLink "RoofWar" (267 : Nat) "RoofWar$Laws" "all" "[LRoofWar$Law;") ∈ WT := WT_1 (List.mem_of_getElem? (i := 61) rfl) rfl
theorem mw_133 : (Jvm.Cond.fieldLink "RoofWar$Laws" (17 : Nat) "RoofWar$Laws" "stack" "[I") ∈ WT := WT_1 (List.mem_of_getElem? (i := 62) rfl) rfl
theorem mw_134 : (Jvm.Cond.laysFinal "RoofWar$Laws" "RoofWar$Laws" "all" "[LRoofWar$Law;") ∈ WT := WT_1 (List.mem_of_getElem? (i := 63) rfl) rfl
theorem mw_135 : (Jvm.Cond.soleField "RoofWar$Laws" "all") ∈ WT := WT_1 (List.mem_of_getElem? (i := 64) rfl) rfl
theorem mw_136 : (Jvm.Cond.laysFinal "RoofWar$Laws" "RoofWar$Laws" "stack" "[I") ∈ WT := WT_1 (List.mem_of_getElem? (i := 65) rfl) rfl
theorem mw_137 : (Jvm.Cond.soleField "RoofWar$Laws" "stack") ∈ WT := WT_1 (List.mem_of_getElem? (i := 66) rfl) rfl
theorem mw_138 : (Jvm.Cond.superclass "RoofWar$Laws" "java/lang/Object") ∈ WT := WT_1 (List.mem_of_getElem? (i := 67) rfl) rfl
theorem mw_139 : (Jvm.Cond.classLink "RoofWar" (16 : Nat) "RoofWar$Hill") ∈ WT := WT_1 (List.mem_of_getElem? (i := 68) rfl) rfl
theorem mw_140 : (Jvm.Cond.instantiable "RoofWar$Hill" (17 : Nat)) ∈ WT := WT_1 (List.mem_of_getElem? (i := 69) rfl) rfl
theorem mw_141 : (Jvm.Cond.methodLink "RoofWar" (18 : Nat) ({ cls := "RoofWar$Hill", name := "<init>", desc := "(LRoofWar$Laws;)V" } : Jvm.MethodName)) ∈ WT := WT_1 (List.mem_of_getElem? (i := 70) rfl) rfl
theorem mw_142 : (Jvm.Cond.instanceMethod ({ cls := "RoofWar$Hill", name := "<init>", desc := "(LRoofWar$Laws;)V" } : Jvm.MethodName)) ∈ WT := WT_1 (List.mem_of_getElem? (i := 71) rfl) rfl
theorem mw_143 : (Jvm.Cond.code ({ cls := "RoofWar$Hill", name := "<init>", desc := "(LRoofWar$Laws;)V" } : Jvm.MethodName) prog_3_method_1_code (3 : Nat) (Option.none : Option Jvm.ClassFile.FieldType)) ∈ WT := WT_1 (List.mem_of_getElem? (i := 72) rfl) rfl
theorem mw_144 : (Jvm.Cond.methodLink "RoofWar$Hill" (3 : Nat) ({ cls := "java/lang/Object", name := "<init>", desc := "()V" } : Jvm.MethodName)) ∈ WT := WT_1 (List.mem_of_getElem? (i := 73) rfl) rfl
theorem mw_145 : (Jvm.Cond.constant "RoofWar$Hill" (40 : Nat) (-1000000005 : Int32)) ∈ WT := WT_1 (List.mem_of_getElem? (i := 74) rfl) rfl
theorem mw_146 : (Jvm.Cond.fieldLink "RoofWar$Hill" (36 : Nat) "RoofWar$Hill" "laws" "LRoofWar$Laws;") ∈ WT := WT_1 (List.mem_of_getElem? (i := 75) rfl) rfl
theorem mw_147 : (Jvm.Cond.fieldLink "RoofWar$Hill" (9 : Nat) "RoofWar$Hill" "kinds" "[I") ∈ WT := WT_1 (List.mem_of_getElem? (i := 76) rfl) rfl
theorem mw_148 : (Jvm.Cond.fieldLink "RoofWar" (111 : Nat) "RoofWar$Hill" "kinds" "[I") ∈ WT := WT_1 (List.mem_of_getElem? (i := 77) rfl) rfl
theorem mw_149 : (Jvm.Cond.fieldLink "RoofWar$Hill" (15 : Nat) "RoofWar$Hill" "sizes" "[I") ∈ WT := WT_1 (List.mem_of_getElem? (i := 78) rfl) rfl
theorem mw_150 : (Jvm.Cond.fieldLink "RoofWar" (114 : Nat) "RoofWar$Hill" "sizes" "[I") ∈ WT := WT_1 (List.mem_of_getElem? (i := 79) rfl) rfl
theorem mw_151 : (Jvm.Cond.fieldLink "RoofWar$Laws" (43 : Nat) "RoofWar$Hill" "sizes" "[I") ∈ WT := WT_1 (List.mem_of_getElem? (i := 80) rfl) rfl
theorem mw_152 : (Jvm.Cond.fieldLink "RoofWar$Hill" (18 : Nat) "RoofWar$Hill" "leaks" "[I") ∈ WT := WT_1 (List.mem_of_getElem? (i := 81) rfl) rfl
theorem mw_153 : (Jvm.Cond.fieldLink "RoofWar" (117 : Nat) "RoofWar$Hill" "leaks" "[I") ∈ WT := WT_1 (List.mem_of_getElem? (i := 82) rfl) rfl
theorem mw_154 : (Jvm.Cond.fieldLink "RoofWar$Laws" (40 : Nat) "RoofWar$Hill" "leaks" "[I") ∈ WT := WT_1 (List.mem_of_getElem? (i := 83) rfl) rfl
theorem mw_155 : (Jvm.Cond.fieldLink "RoofWar$Hill" (21 : Nat) "RoofWar$Hill" "over" "[I") ∈ WT := WT_1 (List.mem_of_getElem? (i := 84) rfl) rfl
theorem mw_156 : (Jvm.Cond.fieldLink "RoofWar$Fitting" (31 : Nat) "RoofWar$Hill" "over" "[I") ∈ WT := WT_1 (List.mem_of_getElem? (i := 85) rfl) rfl
theorem mw_157 : (Jvm.Cond.fieldLink "RoofWar" (120 : Nat) "RoofWar$Hill" "over" "[I") ∈ WT := WT_1 (List.mem_of_getElem? (i := 86) rfl) rfl
theorem mw_158 : (Jvm.Cond.fieldLink "RoofWar$Hill" (24 : Nat) "RoofWar$Hill" "people" "[I") ∈ WT := WT_1 (List.mem_of_getElem? (i := 87) rfl) rfl
theorem mw_159 : (Jvm.Cond.fieldLink "RoofWar" (147 : Nat) "RoofWar$Hill" "people" "[I") ∈ WT := WT_1 (List.mem_of_getElem? (i := 88) rfl) rfl
theorem mw_160 : (Jvm.Cond.fieldLink "RoofWar$Hill" (27 : Nat) "RoofWar$Hill" "watches" "[I") ∈ WT := WT_1 (List.mem_of_getElem? (i := 89) rfl) rfl
theorem mw_161 : (Jvm.Cond.fieldLink "RoofWar" (150 : Nat) "RoofWar$Hill" "watches" "[I") ∈ WT := WT_1 (List.mem_of_getElem? (i := 90) rfl) rfl
theorem mw_162 : (Jvm.Cond.fieldLink "RoofWar$Hill" (30 : Nat) "RoofWar$Hill" "roofOver" "[I") ∈ WT := WT_1 (List.mem_of_getElem? (i := 91) rfl) rfl
theorem mw_163 : (Jvm.Cond.fieldLink "RoofWar" (95 : Nat) "RoofWar$Hill" "roofOver" "[I") ∈ WT := WT_1 (List.mem_of_getElem? (i := 92) rfl) rfl
theorem mw_164 : (Jvm.Cond.fieldLink "RoofWar$Hill" (33 : Nat) "RoofWar$Hill" "strengths" "[I") ∈ WT := WT_1 (List.mem_of_getElem? (i := 93) rfl) rfl
theorem mw_165 : (Jvm.Cond.fieldLink "RoofWar" (157 : Nat) "RoofWar$Hill" "strengths" "[I") ∈ WT := WT_1 (List.mem_of_getElem? (i := 94) rfl) rfl
theorem mw_166 : (Jvm.Cond.fieldLink "RoofWar$Fitting" (27 : Nat) "RoofWar$Hill" "roofs" "I") ∈ WT := WT_1 (List.mem_of_getElem? (i := 95) rfl) rfl
theorem mw_167 : (Jvm.Cond.fieldLink "RoofWar" (100 : Nat) "RoofWar$Hill" "roofs" "I") ∈ WT := WT_1 (List.mem_of_getElem? (i := 96) rfl) rfl
theorem mw_168 : (Jvm.Cond.fieldLink "RoofWar$Hill" (54 : Nat) "RoofWar$Hill" "roofs" "I") ∈ WT := WT_1 (List.mem_of_getElem? (i := 97) rfl) rfl
theorem mw_169 : (Jvm.Cond.fieldLink "RoofWar$Hill" (41 : Nat) "RoofWar$Hill" "rain" "I") ∈ WT := WT_1 (List.mem_of_getElem? (i := 98) rfl) rfl
theorem mw_170 : (Jvm.Cond.fieldLink "RoofWar" (160 : Nat) "RoofWar$Hill" "rain" "I") ∈ WT := WT_1 (List.mem_of_getElem? (i := 99) rfl) rfl
theorem mw_171 : (Jvm.Cond.fieldLink "RoofWar$Hill" (57 : Nat) "RoofWar$Hill" "stolen" "I") ∈ WT := WT_1 (List.mem_of_getElem? (i := 100) rfl) rfl
theorem mw_172 : (Jvm.Cond.fieldLink "RoofWar" (174 : Nat) "RoofWar$Hill" "stolen" "I") ∈ WT := WT_1 (List.mem_of_getElem? (i := 101) rfl) rfl
theorem mw_173 : (Jvm.Cond.fieldLink "RoofWar$Hill" (60 : Nat) "RoofWar$Hill" "caught" "I") ∈ WT := WT_1 (List.mem_of_getElem? (i := 102) rfl) rfl
theorem mw_174 : (Jvm.Cond.fieldLink "RoofWar" (184 : Nat) "RoofWar$Hill" "caught" "I") ∈ WT := WT_1 (List.mem_of_getElem? (i := 103) rfl) rfl
theorem mw_175 : (Jvm.Cond.fieldLink "RoofWar$Hill" (63 : Nat) "RoofWar$Hill" "wet" "I") ∈ WT := WT_1 (List.mem_of_getElem? (i := 104) rfl) rfl
theorem mw_176 : (Jvm.Cond.fieldLink "RoofWar" (187 : Nat) "RoofWar$Hill" "wet" "I") ∈ WT := WT_1 (List.mem_of_getElem? (i := 105) rfl) rfl
theorem mw_177 : (Jvm.Cond.fieldLink "RoofWar$Hill" (66 : Nat) "RoofWar$Hill" "night" "I") ∈ WT := WT_1 (List.mem_of_getElem? (i := 106) rfl) rfl
theorem mw_178 : (Jvm.Cond.fieldLink "RoofWar$Laws" (46 : Nat) "RoofWar$Hill" "night" "I") ∈ WT := WT_1 (List.mem_of_getElem? (i := 107) rfl) rfl
theorem mw_179 : (Jvm.Cond.fieldLink "RoofWar" (177 : Nat) "RoofWar$Hill" "night" "I") ∈ WT := WT_1 (List.mem_of_getElem? (i := 108) rfl) rfl
theorem mw_180 : (Jvm.Cond.fieldLink "RoofWar$Hill" (45 : Nat) "RoofWar$Hill" "z" "I") ∈ WT := WT_1 (List.mem_of_getElem? (i := 109) rfl) rfl
theorem mw_181 : (Jvm.Cond.fieldLink "RoofWar" (171 : Nat) "RoofWar$Hill" "z" "I") ∈ WT := WT_1 (List.mem_of_getElem? (i := 110) rfl) rfl
theorem mw_182 : (Jvm.Cond.fieldLink "RoofWar$Hill" (69 : Nat) "RoofWar$Hill" "texts" "I") ∈ WT := WT_1 (List.mem_of_getElem? (i := 111) rfl) rfl
theorem mw_183 : (Jvm.Cond.fieldLink "RoofWar$Laws" (31 : Nat) "RoofWar$Hill" "texts" "I") ∈ WT := WT_1 (List.mem_of_getElem? (i := 112) rfl) rfl
theorem mw_184 : (Jvm.Cond.fieldLink "RoofWar" (250 : Nat) "RoofWar$Hill" "texts" "I") ∈ WT := WT_1 (List.mem_of_getElem? (i := 113) rfl) rfl
theorem mw_185 : (Jvm.Cond.laysFinal "RoofWar$Hill" "RoofWar$Hill" "laws" "LRoofWar$Laws;") ∈ WT := WT_1 (List.mem_of_getElem? (i := 114) rfl) rfl
theorem mw_186 : (Jvm.Cond.soleField "RoofWar$Hill" "laws") ∈ WT := WT_1 (List.mem_of_getElem? (i := 115) rfl) rfl
theorem mw_187 : (Jvm.Cond.laysFinal "RoofWar$Hill" "RoofWar$Hill" "kinds" "[I") ∈ WT := WT_1 (List.mem_of_getElem? (i := 116) rfl) rfl
theorem mw_188 : (Jvm.Cond.soleField "RoofWar$Hill" "kinds") ∈ WT := WT_1 (List.mem_of_getElem? (i := 117) rfl) rfl
theorem mw_189 : (Jvm.Cond.laysFinal "RoofWar$Hill" "RoofWar$Hill" "sizes" "[I") ∈ WT := WT_1 (List.mem_of_getElem? (i := 118) rfl) rfl
theorem mw_190 : (Jvm.Cond.soleField "RoofWar$Hill" "sizes") ∈ WT := WT_1 (List.mem_of_getElem? (i := 119) rfl) rfl
theorem mw_191 : (Jvm.Cond.laysFinal "RoofWar$Hill" "RoofWar$Hill" "leaks" "[I") ∈ WT := WT_1 (List.mem_of_getElem? (i := 120) rfl) rfl
theorem mw_192 : (Jvm.Cond.soleField "RoofWar$Hill" "leaks") ∈ WT := WT_1 (List.mem_of_getElem? (i := 121) rfl) rfl
theorem mw_193 : (Jvm.Cond.laysFinal "RoofWar$Hill" "RoofWar$Hill" "over" "[I") ∈ WT := WT_1 (List.mem_of_getElem? (i := 122) rfl) rfl
theorem mw_194 : (Jvm.Cond.soleField "RoofWar$Hill" "over") ∈ WT := WT_1 (List.mem_of_getElem? (i := 123) rfl) rfl
theorem mw_195 : (Jvm.Cond.laysFinal "RoofWar$Hill" "RoofWar$Hill" "people" "[I") ∈ WT := WT_1 (List.mem_of_getElem? (i := 124) rfl) rfl
theorem mw_196 : (Jvm.Cond.soleField "RoofWar$Hill" "people") ∈ WT := WT_1 (List.mem_of_getElem? (i := 125) rfl) rfl
theorem mw_197 : (Jvm.Cond.laysFinal "RoofWar$Hill" "RoofWar$Hill" "watches" "[I") ∈ WT := WT_1 (List.mem_of_getElem? (i := 126) rfl) rfl
theorem mw_198 : (Jvm.Cond.soleField "RoofWar$Hill" "watches") ∈ WT := WT_1 (List.mem_of_getElem? (i := 127) rfl) rfl
theorem mw_199 : (Jvm.Cond.laysFinal "RoofWar$Hill" "RoofWar$Hill" "roofOver" "[I") ∈ WT := WT_1 (List.mem_of_getElem? (i := 128) rfl) rfl
theorem mw_200 : (Jvm.Cond.soleField "RoofWar$Hill" "roofOver") ∈ WT := WT_1 (List.mem_of_getElem? (i := 129) rfl) rfl
theorem mw_201 : (Jvm.Cond.laysFinal "RoofWar$Hill" "RoofWar$Hill" "strengths" "[I") ∈ WT := WT_1 (List.mem_of_getElem? (i := 130) rfl) rfl
theorem mw_202 : (Jvm.Cond.soleField "RoofWar$Hill" "strengths") ∈ WT := WT_1 (List.mem_of_getElem? (i := 131) rfl) rfl
theorem mw_203 : (Jvm.Cond.lays "RoofWar$Hill" "RoofWar$Hill" "roofs" "I") ∈ WT := WT_1 (List.mem_of_getElem? (i := 132) rfl) rfl
theorem mw_204 : (Jvm.Cond.soleField "RoofWar$Hill" "roofs") ∈ WT := WT_1 (List.mem_of_getElem? (i := 133) rfl) rfl
theorem mw_205 : (Jvm.Cond.lays "RoofWar$Hill" "RoofWar$Hill" "rain" "I") ∈ WT := WT_1 (List.mem_of_getElem? (i := 134) rfl) rfl
theorem mw_206 : (Jvm.Cond.soleField "RoofWar$Hill" "rain") ∈ WT := WT_1 (List.mem_of_getElem? (i := 135) rfl) rfl
theorem mw_207 : (Jvm.Cond.lays "RoofWar$Hill" "RoofWar$Hill" "stolen" "I") ∈ WT := WT_1 (List.mem_of_getElem? (i := 136) rfl) rfl
theorem mw_208 : (Jvm.Cond.soleField "RoofWar$Hill" "stolen") ∈ WT := WT_1 (List.mem_of_getElem? (i := 137) rfl) rfl
theorem mw_209 : (Jvm.Cond.lays "RoofWar$Hill" "RoofWar$Hill" "caught" "I") ∈ WT := WT_1 (List.mem_of_getElem? (i := 138) rfl) rfl
theorem mw_210 : (Jvm.Cond.soleField "RoofWar$Hill" "caught") ∈ WT := WT_1 (List.mem_of_getElem? (i := 139) rfl) rfl
theorem mw_211 : (Jvm.Cond.lays "RoofWar$Hill" "RoofWar$Hill" "wet" "I") ∈ WT := WT_1 (List.mem_of_getElem? (i := 140) rfl) rfl
theorem mw_212 : (Jvm.Cond.soleField "RoofWar$Hill" "wet") ∈ WT := WT_1 (List.mem_of_getElem? (i := 141) rfl) rfl
theorem mw_213 : (Jvm.Cond.lays "RoofWar$Hill" "RoofWar$Hill" "night" "I") ∈ WT := WT_1 (List.mem_of_getElem? (i := 142) rfl) rfl
theorem mw_214 : (Jvm.Cond.soleField "RoofWar$Hill" "night") ∈ WT := WT_1 (List.mem_of_getElem? (i := 143) rfl) rfl
theorem mw_215 : (Jvm.Cond.lays "RoofWar$Hill" "RoofWar$Hill" "z" "I") ∈ WT := WT_1 (List.mem_of_getElem? (i := 144) rfl) rfl
theorem mw_216 : (Jvm.Cond.soleField "RoofWar$Hill" "z") ∈ WT := WT_1 (List.mem_of_getElem? (i := 145) rfl) rfl
theorem mw_217 : (Jvm.Cond.lays "RoofWar$Hill" "RoofWar$Hill" "texts" "I") ∈ WT := WT_1 (List.mem_of_getElem? (i := 146) rfl) rfl
theorem mw_218 : (Jvm.Cond.soleField "RoofWar$Hill" "texts") ∈ WT := WT_1 (List.mem_of_getElem? (i := 147) rfl) rfl
theorem mw_219 : (Jvm.Cond.superclass "RoofWar$Hill" "java/lang/Object") ∈ WT := WT_1 (List.mem_of_getElem? (i := 148) rfl) rfl
theorem mw_220 : (Jvm.Cond.classLink "RoofWar" (35 : Nat) "RoofWar$Fitting") ∈ WT := WT_1 (List.mem_of_getElem? (i := 149) rfl) rfl
theorem mw_221 : (Jvm.Cond.instantiable "RoofWar$Fitting" (4 : Nat)) ∈ WT := WT_1 (List.mem_of_getElem? (i := 150) rfl) rfl
theorem mw_222 : (Jvm.Cond.instanceMethod ({ cls := "RoofWar$Fitting", name := "<init>", desc := "()V" } : Jvm.MethodName)) ∈ WT := WT_1 (List.mem_of_getElem? (i := 152) rfl) rfl
theorem mw_223 : (Jvm.Cond.code ({ cls := "RoofWar$Fitting", name := "<init>", desc := "()V" } : Jvm.MethodName) prog_2_method_1_code (1 : Nat) (Option.none : Option Jvm.ClassFile.FieldType)) ∈ WT := WT_1 (List.mem_of_getElem? (i := 153) rfl) rfl
theorem mw_224 : (Jvm.Cond.methodLink "RoofWar$Fitting" (3 : Nat) ({ cls := "java/lang/Object", name := "<init>", desc := "()V" } : Jvm.MethodName)) ∈ WT := WT_1 (List.mem_of_getElem? (i := 154) rfl) rfl
theorem mw_225 : (Jvm.Cond.classLink "RoofWar$Fitting" (15 : Nat) "[[I") ∈ WT := WT_1 (List.mem_of_getElem? (i := 155) rfl) rfl
theorem mw_226 : (Jvm.Cond.fieldLink "RoofWar$Fitting" (9 : Nat) "RoofWar$Fitting" "roofs" "[I") ∈ WT := WT_1 (List.mem_of_getElem? (i := 157) rfl) rfl
theorem mw_227 : (Jvm.Cond.fieldLink "RoofWar$Fitting" (23 : Nat) "RoofWar$Fitting" "many" "I") ∈ WT := WT_1 (List.mem_of_getElem? (i := 158) rfl) rfl
theorem mw_228 : (Jvm.Cond.fieldLink "RoofWar$Fitting" (17 : Nat) "RoofWar$Fitting" "most" "[[I") ∈ WT := WT_1 (List.mem_of_getElem? (i := 159) rfl) rfl
theorem mw_229 : (Jvm.Cond.fieldLink "RoofWar$Fitting" (20 : Nat) "RoofWar$Fitting" "chosen" "[I") ∈ WT := WT_1 (List.mem_of_getElem? (i := 160) rfl) rfl
theorem mw_230 : (Jvm.Cond.laysFinal "RoofWar$Fitting" "RoofWar$Fitting" "roofs" "[I") ∈ WT := WT_1 (List.mem_of_getElem? (i := 161) rfl) rfl
theorem mw_231 : (Jvm.Cond.soleField "RoofWar$Fitting" "roofs") ∈ WT := WT_1 (List.mem_of_getElem? (i := 162) rfl) rfl
theorem mw_232 : (Jvm.Cond.lays "RoofWar$Fitting" "RoofWar$Fitting" "many" "I") ∈ WT := WT_1 (List.mem_of_getElem? (i := 163) rfl) rfl
theorem mw_233 : (Jvm.Cond.soleField "RoofWar$Fitting" "many") ∈ WT := WT_1 (List.mem_of_getElem? (i := 164) rfl) rfl
theorem mw_234 : (Jvm.Cond.laysFinal "RoofWar$Fitting" "RoofWar$Fitting" "most" "[[I") ∈ WT := WT_1 (List.mem_of_getElem? (i := 165) rfl) rfl
theorem mw_235 : (Jvm.Cond.soleField "RoofWar$Fitting" "most") ∈ WT := WT_1 (List.mem_of_getElem? (i := 166) rfl) rfl
theorem mw_236 : (Jvm.Cond.laysFinal "RoofWar$Fitting" "RoofWar$Fitting" "chosen" "[I") ∈ WT := WT_1 (List.mem_of_getElem? (i := 167) rfl) rfl
theorem mw_237 : (Jvm.Cond.soleField "RoofWar$Fitting" "chosen") ∈ WT := WT_1 (List.mem_of_getElem? (i := 168) rfl) rfl
theorem mw_238 : (Jvm.Cond.superclass "RoofWar$Fitting" "java/lang/Object") ∈ WT := WT_1 (List.mem_of_getElem? (i := 169) rfl) rfl
theorem mw_239 : (Jvm.Cond.classLink "RoofWar" (42 : Nat) "RoofWar$Tape") ∈ WT := WT_1 (List.mem_of_getElem? (i := 170) rfl) rfl
theorem mw_240 : (Jvm.Cond.instantiable "RoofWar$Tape" (2 : Nat)) ∈ WT := WT_1 (List.mem_of_getElem? (i := 171) rfl) rfl
theorem mw_241 : (Jvm.Cond.instanceMethod ({ cls := "RoofWar$Tape", name := "<init>", desc := "()V" } : Jvm.MethodName)) ∈ WT := WT_1 (List.mem_of_getElem? (i := 173) rfl) rfl
theorem mw_242 : (Jvm.Cond.code ({ cls := "RoofWar$Tape", name := "<init>", desc := "()V" } : Jvm.MethodName) prog_10_method_1_code (1 : Nat) (Option.none : Option Jvm.ClassFile.FieldType)) ∈ WT := WT_1 (List.mem_of_getElem? (i := 174) rfl) rfl
theorem mw_243 : (Jvm.Cond.methodLink "RoofWar$Tape" (3 : Nat) ({ cls := "java/lang/Object", name := "<init>", desc := "()V" } : Jvm.MethodName)) ∈ WT := WT_1 (List.mem_of_getElem? (i := 175) rfl) rfl
theorem mw_244 : (Jvm.Cond.fieldLink "RoofWar$Tape" (9 : Nat) "RoofWar$Tape" "bytes" "[I") ∈ WT := WT_1 (List.mem_of_getElem? (i := 176) rfl) rfl
theorem mw_245 : (Jvm.Cond.fieldLink "RoofWar$Reader" (56 : Nat) "RoofWar$Tape" "bytes" "[I") ∈ WT := WT_1 (List.mem_of_getElem? (i := 177) rfl) rfl
theorem mw_246 : (Jvm.Cond.fieldLink "RoofWar$Tape" (15 : Nat) "RoofWar$Tape" "length" "I") ∈ WT := WT_1 (List.mem_of_getElem? (i := 178) rfl) rfl
theorem mw_247 : (Jvm.Cond.fieldLink "RoofWar$Reader" (51 : Nat) "RoofWar$Tape" "length" "I") ∈ WT := WT_1 (List.mem_of_getElem? (i := 179) rfl) rfl
theorem mw_248 : (Jvm.Cond.fieldLink "RoofWar" (261 : Nat) "RoofWar$Tape" "length" "I") ∈ WT := WT_1 (List.mem_of_getElem? (i := 180) rfl) rfl
theorem mw_249 : (Jvm.Cond.laysFinal "RoofWar$Tape" "RoofWar$Tape" "bytes" "[I") ∈ WT := WT_1 (List.mem_of_getElem? (i := 181) rfl) rfl
theorem mw_250 : (Jvm.Cond.soleField "RoofWar$Tape" "bytes") ∈ WT := WT_1 (List.mem_of_getElem? (i := 182) rfl) rfl
theorem mw_251 : (Jvm.Cond.lays "RoofWar$Tape" "RoofWar$Tape" "length" "I") ∈ WT := WT_1 (List.mem_of_getElem? (i := 183) rfl) rfl
theorem mw_252 : (Jvm.Cond.soleField "RoofWar$Tape" "length") ∈ WT := WT_1 (List.mem_of_getElem? (i := 184) rfl) rfl
theorem mw_253 : (Jvm.Cond.superclass "RoofWar$Tape" "java/lang/Object") ∈ WT := WT_1 (List.mem_of_getElem? (i := 185) rfl) rfl
theorem mw_254 : (Jvm.Cond.classLink "RoofWar" (49 : Nat) "RoofWar$Reader") ∈ WT := WT_1 (List.mem_of_getElem? (i := 186) rfl) rfl
theorem mw_255 : (Jvm.Cond.instantiable "RoofWar$Reader" (7 : Nat)) ∈ WT := WT_1 (List.mem_of_getElem? (i := 187) rfl) rfl
theorem mw_256 : (Jvm.Cond.methodLink "RoofWar" (51 : Nat) ({ cls := "RoofWar$Reader", name := "<init>", desc := "(LRoofWar$Tape;)V" } : Jvm.MethodName)) ∈ WT := WT_1 (List.mem_of_getElem? (i := 188) rfl) rfl
theorem mw_257 : (Jvm.Cond.instanceMethod ({ cls := "RoofWar$Reader", name := "<init>", desc := "(LRoofWar$Tape;)V" } : Jvm.MethodName)) ∈ WT := WT_1 (List.mem_of_getElem? (i := 189) rfl) rfl
theorem mw_258 : (Jvm.Cond.code ({ cls := "RoofWar$Reader", name := "<init>", desc := "(LRoofWar$Tape;)V" } : Jvm.MethodName) prog_7_method_1_code (2 : Nat) (Option.none : Option Jvm.ClassFile.FieldType)) ∈ WT := WT_1 (List.mem_of_getElem? (i := 190) rfl) rfl
theorem mw_259 : (Jvm.Cond.methodLink "RoofWar$Reader" (3 : Nat) ({ cls := "java/lang/Object", name := "<init>", desc := "()V" } : Jvm.MethodName)) ∈ WT := WT_1 (List.mem_of_getElem? (i := 191) rfl) rfl
theorem mw_260 : (Jvm.Cond.fieldLink "RoofWar$Reader" (9 : Nat) "RoofWar$Reader" "tape" "LRoofWar$Tape;") ∈ WT := WT_1 (List.mem_of_getElem? (i := 192) rfl) rfl
theorem mw_261 : (Jvm.Cond.fieldLink "RoofWar$Reader" (15 : Nat) "RoofWar$Reader" "law" "LRoofWar$Law;") ∈ WT := WT_1 (List.mem_of_getElem? (i := 193) rfl) rfl
theorem mw_262 : (Jvm.Cond.fieldLink "RoofWar$Reader" (24 : Nat) "RoofWar$Reader" "sort" "I") ∈ WT := WT_1 (List.mem_of_getElem? (i := 194) rfl) rfl
theorem mw_263 : (Jvm.Cond.fieldLink "RoofWar$Reader" (48 : Nat) "RoofWar$Reader" "start" "I") ∈ WT := WT_1 (List.mem_of_getElem? (i := 195) rfl) rfl
theorem mw_264 : (Jvm.Cond.fieldLink "RoofWar$Reader" (28 : Nat) "RoofWar$Reader" "end" "I") ∈ WT := WT_1 (List.mem_of_getElem? (i := 196) rfl) rfl
theorem mw_265 : (Jvm.Cond.fieldLink "RoofWar$Reader" (31 : Nat) "RoofWar$Reader" "brackets" "I") ∈ WT := WT_1 (List.mem_of_getElem? (i := 197) rfl) rfl
theorem mw_266 : (Jvm.Cond.fieldLink "RoofWar$Reader" (34 : Nat) "RoofWar$Reader" "nots" "I") ∈ WT := WT_1 (List.mem_of_getElem? (i := 198) rfl) rfl
theorem mw_267 : (Jvm.Cond.laysFinal "RoofWar$Reader" "RoofWar$Reader" "tape" "LRoofWar$Tape;") ∈ WT := WT_1 (List.mem_of_getElem? (i := 199) rfl) rfl
theorem mw_268 : (Jvm.Cond.soleField "RoofWar$Reader" "tape") ∈ WT := WT_1 (List.mem_of_getElem? (i := 200) rfl) rfl
theorem mw_269 : (Jvm.Cond.lays "RoofWar$Reader" "RoofWar$Reader" "law" "LRoofWar$Law;") ∈ WT := WT_1 (List.mem_of_getElem? (i := 201) rfl) rfl
theorem mw_270 : (Jvm.Cond.soleField "RoofWar$Reader" "law") ∈ WT := WT_1 (List.mem_of_getElem? (i := 202) rfl) rfl
theorem mw_271 : (Jvm.Cond.lays "RoofWar$Reader" "RoofWar$Reader" "sort" "I") ∈ WT := WT_1 (List.mem_of_getElem? (i := 203) rfl) rfl
theorem mw_272 : (Jvm.Cond.soleField "RoofWar$Reader" "sort") ∈ WT := WT_1 (List.mem_of_getElem? (i := 204) rfl) rfl
theorem mw_273 : (Jvm.Cond.lays "RoofWar$Reader" "RoofWar$Reader" "start" "I") ∈ WT := WT_1 (List.mem_of_getElem? (i := 205) rfl) rfl
theorem mw_274 : (Jvm.Cond.soleField "RoofWar$Reader" "start") ∈ WT := WT_1 (List.mem_of_getElem? (i := 206) rfl) rfl
theorem mw_275 : (Jvm.Cond.lays "RoofWar$Reader" "RoofWar$Reader" "end" "I") ∈ WT := WT_1 (List.mem_of_getElem? (i := 207) rfl) rfl
theorem mw_276 : (Jvm.Cond.soleField "RoofWar$Reader" "end") ∈ WT := WT_1 (List.mem_of_getElem? (i := 208) rfl) rfl
theorem mw_277 : (Jvm.Cond.lays "RoofWar$Reader" "RoofWar$Reader" "brackets" "I") ∈ WT := WT_1 (List.mem_of_getElem? (i := 209) rfl) rfl
theorem mw_278 : (Jvm.Cond.soleField "RoofWar$Reader" "brackets") ∈ WT := WT_1 (List.mem_of_getElem? (i := 210) rfl) rfl
theorem mw_279 : (Jvm.Cond.lays "RoofWar$Reader" "RoofWar$Reader" "nots" "I") ∈ WT := WT_1 (List.mem_of_getElem? (i := 211) rfl) rfl
theorem mw_280 : (Jvm.Cond.soleField "RoofWar$Reader" "nots") ∈ WT := WT_1 (List.mem_of_getElem? (i := 212) rfl) rfl
theorem mw_281 : (Jvm.Cond.superclass "RoofWar$Reader" "java/lang/Object") ∈ WT := WT_1 (List.mem_of_getElem? (i := 213) rfl) rfl
theorem mw_282 : (Jvm.Cond.classLink "RoofWar" (58 : Nat) "RoofWar$Row") ∈ WT := WT_1 (List.mem_of_getElem? (i := 214) rfl) rfl
theorem mw_283 : (Jvm.Cond.instantiable "RoofWar$Row" (3 : Nat)) ∈ WT := WT_1 (List.mem_of_getElem? (i := 216) rfl) rfl
theorem mw_284 : (Jvm.Cond.instanceMethod ({ cls := "RoofWar$Row", name := "<init>", desc := "()V" } : Jvm.MethodName)) ∈ WT := WT_1 (List.mem_of_getElem? (i := 218) rfl) rfl
theorem mw_285 : (Jvm.Cond.code ({ cls := "RoofWar$Row", name := "<init>", desc := "()V" } : Jvm.MethodName) prog_8_method_1_code (1 : Nat) (Option.none : Option Jvm.ClassFile.FieldType)) ∈ WT := WT_1 (List.mem_of_getElem? (i := 219) rfl) rfl
theorem mw_286 : (Jvm.Cond.methodLink "RoofWar$Row" (3 : Nat) ({ cls := "java/lang/Object", name := "<init>", desc := "()V" } : Jvm.MethodName)) ∈ WT := WT_1 (List.mem_of_getElem? (i := 220) rfl) rfl
theorem mw_287 : (Jvm.Cond.fieldLink "RoofWar$Row" (11 : Nat) "RoofWar$Row" "sort" "I") ∈ WT := WT_1 (List.mem_of_getElem? (i := 221) rfl) rfl
theorem mw_288 : (Jvm.Cond.fieldLink "RoofWar" (294 : Nat) "RoofWar$Row" "sort" "I") ∈ WT := WT_1 (List.mem_of_getElem? (i := 222) rfl) rfl
theorem mw_289 : (Jvm.Cond.fieldLink "RoofWar$Row" (19 : Nat) "RoofWar$Row" "length" "I") ∈ WT := WT_1 (List.mem_of_getElem? (i := 223) rfl) rfl
theorem mw_290 : (Jvm.Cond.fieldLink "RoofWar" (302 : Nat) "RoofWar$Row" "length" "I") ∈ WT := WT_1 (List.mem_of_getElem? (i := 224) rfl) rfl
theorem mw_291 : (Jvm.Cond.fieldLink "RoofWar$Row" (15 : Nat) "RoofWar$Row" "places" "[I") ∈ WT := WT_1 (List.mem_of_getElem? (i := 225) rfl) rfl
theorem mw_292 : (Jvm.Cond.fieldLink "RoofWar" (297 : Nat) "RoofWar$Row" "places" "[I") ∈ WT := WT_1 (List.mem_of_getElem? (i := 226) rfl) rfl
theorem mw_293 : (Jvm.Cond.lays "RoofWar$Row" "RoofWar$Row" "sort" "I") ∈ WT := WT_1 (List.mem_of_getElem? (i := 227) rfl) rfl
theorem mw_294 : (Jvm.Cond.soleField "RoofWar$Row" "sort") ∈ WT := WT_1 (List.mem_of_getElem? (i := 228) rfl) rfl
theorem mw_295 : (Jvm.Cond.lays "RoofWar$Row" "RoofWar$Row" "length" "I") ∈ WT := WT_1 (List.mem_of_getElem? (i := 229) rfl) rfl
theorem mw_296 : (Jvm.Cond.soleField "RoofWar$Row" "length") ∈ WT := WT_1 (List.mem_of_getElem? (i := 230) rfl) rfl
theorem mw_297 : (Jvm.Cond.laysFinal "RoofWar$Row" "RoofWar$Row" "places" "[I") ∈ WT := WT_1 (List.mem_of_getElem? (i := 231) rfl) rfl
theorem mw_298 : (Jvm.Cond.soleField "RoofWar$Row" "places") ∈ WT := WT_1 (List.mem_of_getElem? (i := 232) rfl) rfl
theorem mw_299 : (Jvm.Cond.superclass "RoofWar$Row" "java/lang/Object") ∈ WT := WT_1 (List.mem_of_getElem? (i := 233) rfl) rfl
theorem mw_300 : (Jvm.Cond.classLink "RoofWar" (65 : Nat) "RoofWar$Slot") ∈ WT := WT_1 (List.mem_of_getElem? (i := 234) rfl) rfl
theorem mw_301 : (Jvm.Cond.instantiable "RoofWar$Slot" (5 : Nat)) ∈ WT := WT_1 (List.mem_of_getElem? (i := 236) rfl) rfl
theorem mw_302 : (Jvm.Cond.instanceMethod ({ cls := "RoofWar$Slot", name := "<init>", desc := "()V" } : Jvm.MethodName)) ∈ WT := WT_1 (List.mem_of_getElem? (i := 238) rfl) rfl
theorem mw_303 : (Jvm.Cond.code ({ cls := "RoofWar$Slot", name := "<init>", desc := "()V" } : Jvm.MethodName) prog_9_method_1_code (1 : Nat) (Option.none : Option Jvm.ClassFile.FieldType)) ∈ WT := WT_1 (List.mem_of_getElem? (i := 239) rfl) rfl
theorem mw_304 : (Jvm.Cond.methodLink "RoofWar$Slot" (1 : Nat) ({ cls := "java/lang/Object", name := "<init>", desc := "()V" } : Jvm.MethodName)) ∈ WT := WT_2 (List.mem_of_getElem? (i := 0) rfl) rfl
theorem mw_305 : (Jvm.Cond.classLink "RoofWar$Slot" (7 : Nat) "RoofWar$Row") ∈ WT := WT_2 (List.mem_of_getElem? (i := 1) rfl) rfl
theorem mw_306 : (Jvm.Cond.fieldLink "RoofWar" (322 : Nat) "RoofWar$Slot" "holds" "I") ∈ WT := WT_2 (List.mem_of_getElem? (i := 3) rfl) rfl
theorem mw_307 : (Jvm.Cond.fieldLink "RoofWar" (325 : Nat) "RoofWar$Slot" "kind" "I") ∈ WT := WT_2 (List.mem_of_getElem? (i := 4) rfl) rfl
theorem mw_308 : (Jvm.Cond.fieldLink "RoofWar" (328 : Nat) "RoofWar$Slot" "size" "I") ∈ WT := WT_2 (List.mem_of_getElem? (i := 5) rfl) rfl
theorem mw_309 : (Jvm.Cond.fieldLink "RoofWar" (337 : Nat) "RoofWar$Slot" "number" "I") ∈ WT := WT_2 (List.mem_of_getElem? (i := 6) rfl) rfl
theorem mw_310 : (Jvm.Cond.fieldLink "RoofWar$Slot" (10 : Nat) "RoofWar$Slot" "row" "LRoofWar$Row;") ∈ WT := WT_2 (List.mem_of_getElem? (i := 7) rfl) rfl
theorem mw_311 : (Jvm.Cond.fieldLink "RoofWar" (331 : Nat) "RoofWar$Slot" "row" "LRoofWar$Row;") ∈ WT := WT_2 (List.mem_of_getElem? (i := 8) rfl) rfl
theorem mw_312 : (Jvm.Cond.lays "RoofWar$Slot" "RoofWar$Slot" "holds" "I") ∈ WT := WT_2 (List.mem_of_getElem? (i := 9) rfl) rfl
theorem mw_313 : (Jvm.Cond.soleField "RoofWar$Slot" "holds") ∈ WT := WT_2 (List.mem_of_getElem? (i := 10) rfl) rfl
theorem mw_314 : (Jvm.Cond.lays "RoofWar$Slot" "RoofWar$Slot" "kind" "I") ∈ WT := WT_2 (List.mem_of_getElem? (i := 11) rfl) rfl
theorem mw_315 : (Jvm.Cond.soleField "RoofWar$Slot" "kind") ∈ WT := WT_2 (List.mem_of_getElem? (i := 12) rfl) rfl
theorem mw_316 : (Jvm.Cond.lays "RoofWar$Slot" "RoofWar$Slot" "size" "I") ∈ WT := WT_2 (List.mem_of_getElem? (i := 13) rfl) rfl
theorem mw_317 : (Jvm.Cond.soleField "RoofWar$Slot" "size") ∈ WT := WT_2 (List.mem_of_getElem? (i := 14) rfl) rfl
theorem mw_318 : (Jvm.Cond.lays "RoofWar$Slot" "RoofWar$Slot" "number" "I") ∈ WT := WT_2 (List.mem_of_getElem? (i := 15) rfl) rfl
theorem mw_319 : (Jvm.Cond.soleField "RoofWar$Slot" "number") ∈ WT := WT_2 (List.mem_of_getElem? (i := 16) rfl) rfl
theorem mw_320 : (Jvm.Cond.laysFinal "RoofWar$Slot" "RoofWar$Slot" "row" "LRoofWar$Row;") ∈ WT := WT_2 (List.mem_of_getElem? (i := 17) rfl) rfl
theorem mw_321 : (Jvm.Cond.soleField "RoofWar$Slot" "row") ∈ WT := WT_2 (List.mem_of_getElem? (i := 18) rfl) rfl
theorem mw_322 : (Jvm.Cond.superclass "RoofWar$Slot" "java/lang/Object") ∈ WT := WT_2 (List.mem_of_getElem? (i := 19) rfl) rfl
theorem mw_323 : (Jvm.Cond.fieldLink "RoofWar" (10 : Nat) "RoofWar" "laws" "LRoofWar$Laws;") ∈ WT := WT_2 (List.mem_of_getElem? (i := 20) rfl) rfl
theorem mw_324 : (Jvm.Cond.fieldLink "RoofWar" (21 : Nat) "RoofWar" "now" "LRoofWar$Hill;") ∈ WT := WT_2 (List.mem_of_getElem? (i := 21) rfl) rfl
theorem mw_325 : (Jvm.Cond.fieldLink "RoofWar" (25 : Nat) "RoofWar" "image" "LRoofWar$Hill;") ∈ WT := WT_2 (List.mem_of_getElem? (i := 22) rfl) rfl
theorem mw_326 : (Jvm.Cond.fieldLink "RoofWar" (28 : Nat) "RoofWar" "thought" "LRoofWar$Hill;") ∈ WT := WT_2 (List.mem_of_getElem? (i := 23) rfl) rfl
theorem mw_327 : (Jvm.Cond.fieldLink "RoofWar" (31 : Nat) "RoofWar" "kept" "Z") ∈ WT := WT_2 (List.mem_of_getElem? (i := 24) rfl) rfl
theorem mw_328 : (Jvm.Cond.fieldLink "RoofWar" (38 : Nat) "RoofWar" "fitting" "LRoofWar$Fitting;") ∈ WT := WT_2 (List.mem_of_getElem? (i := 25) rfl) rfl
theorem mw_329 : (Jvm.Cond.fieldLink "RoofWar" (45 : Nat) "RoofWar" "tape" "LRoofWar$Tape;") ∈ WT := WT_2 (List.mem_of_getElem? (i := 26) rfl) rfl
theorem mw_330 : (Jvm.Cond.fieldLink "RoofWar" (54 : Nat) "RoofWar" "reader" "LRoofWar$Reader;") ∈ WT := WT_2 (List.mem_of_getElem? (i := 27) rfl) rfl
theorem mw_331 : (Jvm.Cond.fieldLink "RoofWar" (60 : Nat) "RoofWar" "rows" "[LRoofWar$Row;") ∈ WT := WT_2 (List.mem_of_getElem? (i := 28) rfl) rfl
theorem mw_332 : (Jvm.Cond.fieldLink "RoofWar" (67 : Nat) "RoofWar" "slots" "[LRoofWar$Slot;") ∈ WT := WT_2 (List.mem_of_getElem? (i := 29) rfl) rfl
theorem mw_333 : (Jvm.Cond.fieldLink "RoofWar" (72 : Nat) "RoofWar" "waiting" "[I") ∈ WT := WT_2 (List.mem_of_getElem? (i := 30) rfl) rfl
theorem mw_334 : (Jvm.Cond.fieldLink "RoofWar" (76 : Nat) "RoofWar" "waits" "I") ∈ WT := WT_2 (List.mem_of_getElem? (i := 31) rfl) rfl
theorem mw_335 : (Jvm.Cond.fieldLink "RoofWar" (80 : Nat) "RoofWar" "hits" "[I") ∈ WT := WT_2 (List.mem_of_getElem? (i := 32) rfl) rfl
theorem mw_336 : (Jvm.Cond.laysFinal "RoofWar" "RoofWar" "laws" "LRoofWar$Laws;") ∈ WT := WT_2 (List.mem_of_getElem? (i := 33) rfl) rfl
theorem mw_337 : (Jvm.Cond.soleField "RoofWar" "laws") ∈ WT := WT_2 (List.mem_of_getElem? (i := 34) rfl) rfl
theorem mw_338 : (Jvm.Cond.laysFinal "RoofWar" "RoofWar" "now" "LRoofWar$Hill;") ∈ WT := WT_2 (List.mem_of_getElem? (i := 35) rfl) rfl
theorem mw_339 : (Jvm.Cond.soleField "RoofWar" "now") ∈ WT := WT_2 (List.mem_of_getElem? (i := 36) rfl) rfl
theorem mw_340 : (Jvm.Cond.laysFinal "RoofWar" "RoofWar" "image" "LRoofWar$Hill;") ∈ WT := WT_2 (List.mem_of_getElem? (i := 37) rfl) rfl
theorem mw_341 : (Jvm.Cond.soleField "RoofWar" "image") ∈ WT := WT_2 (List.mem_of_getElem? (i := 38) rfl) rfl
theorem mw_342 : (Jvm.Cond.laysFinal "RoofWar" "RoofWar" "thought" "LRoofWar$Hill;") ∈ WT := WT_2 (List.mem_of_getElem? (i := 39) rfl) rfl
theorem mw_343 : (Jvm.Cond.soleField "RoofWar" "thought") ∈ WT := WT_2 (List.mem_of_getElem? (i := 40) rfl) rfl
theorem mw_344 : (Jvm.Cond.lays "RoofWar" "RoofWar" "kept" "Z") ∈ WT := WT_2 (List.mem_of_getElem? (i := 41) rfl) rfl
theorem mw_345 : (Jvm.Cond.soleField "RoofWar" "kept") ∈ WT := WT_2 (List.mem_of_getElem? (i := 42) rfl) rfl
theorem mw_346 : (Jvm.Cond.laysFinal "RoofWar" "RoofWar" "fitting" "LRoofWar$Fitting;") ∈ WT := WT_2 (List.mem_of_getElem? (i := 43) rfl) rfl
theorem mw_347 : (Jvm.Cond.soleField "RoofWar" "fitting") ∈ WT := WT_2 (List.mem_of_getElem? (i := 44) rfl) rfl
theorem mw_348 : (Jvm.Cond.laysFinal "RoofWar" "RoofWar" "tape" "LRoofWar$Tape;") ∈ WT := WT_2 (List.mem_of_getElem? (i := 45) rfl) rfl
theorem mw_349 : (Jvm.Cond.soleField "RoofWar" "tape") ∈ WT := WT_2 (List.mem_of_getElem? (i := 46) rfl) rfl
theorem mw_350 : (Jvm.Cond.laysFinal "RoofWar" "RoofWar" "reader" "LRoofWar$Reader;") ∈ WT := WT_2 (List.mem_of_getElem? (i := 47) rfl) rfl
theorem mw_351 : (Jvm.Cond.soleField "RoofWar" "reader") ∈ WT := WT_2 (List.mem_of_getElem? (i := 48) rfl) rfl
theorem mw_352 : (Jvm.Cond.laysFinal "RoofWar" "RoofWar" "rows" "[LRoofWar$Row;") ∈ WT := WT_2 (List.mem_of_getElem? (i := 49) rfl) rfl
theorem mw_353 : (Jvm.Cond.soleField "RoofWar" "rows") ∈ WT := WT_2 (List.mem_of_getElem? (i := 50) rfl) rfl
theorem mw_354 : (Jvm.Cond.laysFinal "RoofWar" "RoofWar" "slots" "[LRoofWar$Slot;") ∈ WT := WT_2 (List.mem_of_getElem? (i := 51) rfl) rfl
theorem mw_355 : (Jvm.Cond.soleField "RoofWar" "slots") ∈ WT := WT_2 (List.mem_of_getElem? (i := 52) rfl) rfl
theorem mw_356 : (Jvm.Cond.laysFinal "RoofWar" "RoofWar" "waiting" "[I") ∈ WT := WT_2 (List.mem_of_getElem? (i := 53) rfl) rfl
theorem mw_357 : (Jvm.Cond.soleField "RoofWar" "waiting") ∈ WT := WT_2 (List.mem_of_getElem? (i := 54) rfl) rfl
theorem mw_358 : (Jvm.Cond.lays "RoofWar" "RoofWar" "waits" "I") ∈ WT := WT_2 (List.mem_of_getElem? (i := 55) rfl) rfl
theorem mw_359 : (Jvm.Cond.soleField "RoofWar" "waits") ∈ WT := WT_2 (List.mem_of_getElem? (i := 56) rfl) rfl
theorem mw_360 : (Jvm.Cond.laysFinal "RoofWar" "RoofWar" "hits" "[I") ∈ WT := WT_2 (List.mem_of_getElem? (i := 57) rfl) rfl
theorem mw_361 : (Jvm.Cond.soleField "RoofWar" "hits") ∈ WT := WT_2 (List.mem_of_getElem? (i := 58) rfl) rfl
theorem mw_362 : (Jvm.Cond.superclass "RoofWar" "java/lang/Object") ∈ WT := WT_2 (List.mem_of_getElem? (i := 59) rfl) rfl
theorem mw_363 : (Jvm.Cond.methodLink "RoofWarLaw" (13 : Nat) ({ cls := "RoofWar", name := "roof", desc := "(IIII)I" } : Jvm.MethodName)) ∈ WT := WT_2 (List.mem_of_getElem? (i := 60) rfl) rfl
theorem mw_364 : (Jvm.Cond.instanceMethod ({ cls := "RoofWar", name := "roof", desc := "(IIII)I" } : Jvm.MethodName)) ∈ WT := WT_2 (List.mem_of_getElem? (i := 61) rfl) rfl
theorem mw_365 : (Jvm.Cond.selects "RoofWar" ({ cls := "RoofWar", name := "roof", desc := "(IIII)I" } : Jvm.MethodName) ({ cls := "RoofWar", name := "roof", desc := "(IIII)I" } : Jvm.MethodName)) ∈ WT := WT_2 (List.mem_of_getElem? (i := 62) rfl) rfl
theorem mw_366 : (Jvm.Cond.code ({ cls := "RoofWar", name := "roof", desc := "(IIII)I" } : Jvm.MethodName) prog_1_method_2_code (5 : Nat) (Option.some Jvm.ClassFile.FieldType.int)) ∈ WT := WT_2 (List.mem_of_getElem? (i := 63) rfl) rfl
theorem mw_367 : (Jvm.Cond.methodLink "RoofWar" (83 : Nat) ({ cls := "RoofWar", name := "isKind", desc := "(I)Z" } : Jvm.MethodName)) ∈ WT := WT_2 (List.mem_of_getElem? (i := 64) rfl) rfl
theorem mw_368 : (Jvm.Cond.static ({ cls := "RoofWar", name := "isKind", desc := "(I)Z" } : Jvm.MethodName)) ∈ WT := WT_2 (List.mem_of_getElem? (i := 65) rfl) rfl
theorem mw_369 : (Jvm.Cond.code ({ cls := "RoofWar", name := "isKind", desc := "(I)Z" } : Jvm.MethodName) prog_1_method_48_code (1 : Nat) (Option.some Jvm.ClassFile.FieldType.boolean)) ∈ WT := WT_2 (List.mem_of_getElem? (i := 66) rfl) rfl
theorem mw_370 : (Jvm.Cond.methodLink "RoofWar" (87 : Nat) ({ cls := "RoofWar", name := "within", desc := "(III)Z" } : Jvm.MethodName)) ∈ WT := WT_2 (List.mem_of_getElem? (i := 67) rfl) rfl
theorem mw_371 : (Jvm.Cond.static ({ cls := "RoofWar", name := "within", desc := "(III)Z" } : Jvm.MethodName)) ∈ WT := WT_2 (List.mem_of_getElem? (i := 68) rfl) rfl
theorem mw_372 : (Jvm.Cond.code ({ cls := "RoofWar", name := "within", desc := "(III)Z" } : Jvm.MethodName) prog_1_method_45_code (3 : Nat) (Option.some Jvm.ClassFile.FieldType.boolean)) ∈ WT := WT_2 (List.mem_of_getElem? (i := 69) rfl) rfl
theorem mw_373 : (Jvm.Cond.methodLink "RoofWar" (91 : Nat) ({ cls := "RoofWar", name := "isHouse", desc := "(I)Z" } : Jvm.MethodName)) ∈ WT := WT_2 (List.mem_of_getElem? (i := 70) rfl) rfl
theorem mw_374 : (Jvm.Cond.static ({ cls := "RoofWar", name := "isHouse", desc := "(I)Z" } : Jvm.MethodName)) ∈ WT := WT_2 (List.mem_of_getElem? (i := 71) rfl) rfl
theorem mw_375 : (Jvm.Cond.code ({ cls := "RoofWar", name := "isHouse", desc := "(I)Z" } : Jvm.MethodName) prog_1_method_49_code (1 : Nat) (Option.some Jvm.ClassFile.FieldType.boolean)) ∈ WT := WT_2 (List.mem_of_getElem? (i := 72) rfl) rfl
theorem mw_376 : (Jvm.Cond.constant "RoofWar" (94 : Nat) (-1000000001 : Int32)) ∈ WT := WT_2 (List.mem_of_getElem? (i := 73) rfl) rfl
theorem mw_377 : (Jvm.Cond.constant "RoofWar" (98 : Nat) (-1000000005 : Int32)) ∈ WT := WT_2 (List.mem_of_getElem? (i := 74) rfl) rfl
theorem mw_378 : (Jvm.Cond.constant "RoofWar" (99 : Nat) (-1000000002 : Int32)) ∈ WT := WT_2 (List.mem_of_getElem? (i := 75) rfl) rfl
theorem mw_379 : (Jvm.Cond.constant "RoofWar" (103 : Nat) (-1000000003 : Int32)) ∈ WT := WT_2 (List.mem_of_getElem? (i := 76) rfl) rfl
theorem mw_380 : (Jvm.Cond.methodLink "RoofWar" (104 : Nat) ({ cls := "RoofWar$Hill", name := "build", desc := "(IIII)I" } : Jvm.MethodName)) ∈ WT := WT_2 (List.mem_of_getElem? (i := 77) rfl) rfl
theorem mw_381 : (Jvm.Cond.instanceMethod ({ cls := "RoofWar$Hill", name := "build", desc := "(IIII)I" } : Jvm.MethodName)) ∈ WT := WT_2 (List.mem_of_getElem? (i := 78) rfl) rfl
theorem mw_382 : (Jvm.Cond.selects "RoofWar$Hill" ({ cls := "RoofWar$Hill", name := "build", desc := "(IIII)I" } : Jvm.MethodName) ({ cls := "RoofWar$Hill", name := "build", desc := "(IIII)I" } : Jvm.MethodName)) ∈ WT := WT_2 (List.mem_of_getElem? (i := 79) rfl) rfl
theorem mw_383 : (Jvm.Cond.code ({ cls := "RoofWar$Hill", name := "build", desc := "(IIII)I" } : Jvm.MethodName) prog_3_method_3_code (6 : Nat) (Option.some Jvm.ClassFile.FieldType.int)) ∈ WT := WT_2 (List.mem_of_getElem? (i := 80) rfl) rfl
theorem mw_384 : (Jvm.Cond.methodLink "RoofWarLaw" (18 : Nat) ({ cls := "RoofWar", name := "told", desc := "(II)I" } : Jvm.MethodName)) ∈ WT := WT_2 (List.mem_of_getElem? (i := 81) rfl) rfl
theorem mw_385 : (Jvm.Cond.instanceMethod ({ cls := "RoofWar", name := "told", desc := "(II)I" } : Jvm.MethodName)) ∈ WT := WT_2 (List.mem_of_getElem? (i := 82) rfl) rfl
theorem mw_386 : (Jvm.Cond.selects "RoofWar" ({ cls := "RoofWar", name := "told", desc := "(II)I" } : Jvm.MethodName) ({ cls := "RoofWar", name := "told", desc := "(II)I" } : Jvm.MethodName)) ∈ WT := WT_2 (List.mem_of_getElem? (i := 83) rfl) rfl
theorem mw_387 : (Jvm.Cond.code ({ cls := "RoofWar", name := "told", desc := "(II)I" } : Jvm.MethodName) prog_1_method_3_code (5 : Nat) (Option.some Jvm.ClassFile.FieldType.int)) ∈ WT := WT_2 (List.mem_of_getElem? (i := 84) rfl) rfl
theorem mw_388 : (Jvm.Cond.methodLink "RoofWar" (108 : Nat) ({ cls := "RoofWar", name := "isRoof", desc := "(I)Z" } : Jvm.MethodName)) ∈ WT := WT_2 (List.mem_of_getElem? (i := 85) rfl) rfl
theorem mw_389 : (Jvm.Cond.instanceMethod ({ cls := "RoofWar", name := "isRoof", desc := "(I)Z" } : Jvm.MethodName)) ∈ WT := WT_2 (List.mem_of_getElem? (i := 87) rfl) rfl
theorem mw_390 : (Jvm.Cond.code ({ cls := "RoofWar", name := "isRoof", desc := "(I)Z" } : Jvm.MethodName) prog_1_method_56_code (2 : Nat) (Option.some Jvm.ClassFile.FieldType.boolean)) ∈ WT := WT_2 (List.mem_of_getElem? (i := 88) rfl) rfl
theorem mw_391 : (Jvm.Cond.methodLink "RoofWar" (123 : Nat) ({ cls := "RoofWar$Kinds", name := "weighs", desc := "(II)I" } : Jvm.MethodName)) ∈ WT := WT_2 (List.mem_of_getElem? (i := 89) rfl) rfl
theorem mw_392 : (Jvm.Cond.static ({ cls := "RoofWar$Kinds", name := "weighs", desc := "(II)I" } : Jvm.MethodName)) ∈ WT := WT_2 (List.mem_of_getElem? (i := 90) rfl) rfl
theorem mw_393 : (Jvm.Cond.code ({ cls := "RoofWar$Kinds", name := "weighs", desc := "(II)I" } : Jvm.MethodName) prog_4_method_4_code (3 : Nat) (Option.some Jvm.ClassFile.FieldType.int)) ∈ WT := WT_2 (List.mem_of_getElem? (i := 91) rfl) rfl
theorem mw_394 : (Jvm.Cond.methodLink "RoofWar" (129 : Nat) ({ cls := "RoofWar$Kinds", name := "covers", desc := "(II)I" } : Jvm.MethodName)) ∈ WT := WT_2 (List.mem_of_getElem? (i := 92) rfl) rfl
theorem mw_395 : (Jvm.Cond.static ({ cls := "RoofWar$Kinds", name := "covers", desc := "(II)I" } : Jvm.MethodName)) ∈ WT := WT_2 (List.mem_of_getElem? (i := 93) rfl) rfl
theorem mw_396 : (Jvm.Cond.code ({ cls := "RoofWar$Kinds", name := "covers", desc := "(II)I" } : Jvm.MethodName) prog_4_method_5_code (2 : Nat) (Option.some Jvm.ClassFile.FieldType.int)) ∈ WT := WT_2 (List.mem_of_getElem? (i := 94) rfl) rfl
theorem mw_397 : (Jvm.Cond.methodLink "RoofWar" (132 : Nat) ({ cls := "RoofWar$Kinds", name := "drips", desc := "(II)I" } : Jvm.MethodName)) ∈ WT := WT_2 (List.mem_of_getElem? (i := 95) rfl) rfl
theorem mw_398 : (Jvm.Cond.static ({ cls := "RoofWar$Kinds", name := "drips", desc := "(II)I" } : Jvm.MethodName)) ∈ WT := WT_2 (List.mem_of_getElem? (i := 96) rfl) rfl
theorem mw_399 : (Jvm.Cond.code ({ cls := "RoofWar$Kinds", name := "drips", desc := "(II)I" } : Jvm.MethodName) prog_4_method_6_code (3 : Nat) (Option.some Jvm.ClassFile.FieldType.int)) ∈ WT := WT_2 (List.mem_of_getElem? (i := 97) rfl) rfl
theorem mw_400 : (Jvm.Cond.methodLink "RoofWar" (135 : Nat) ({ cls := "RoofWar$Kinds", name := "worth", desc := "(II)I" } : Jvm.MethodName)) ∈ WT := WT_2 (List.mem_of_getElem? (i := 98) rfl) rfl
theorem mw_401 : (Jvm.Cond.static ({ cls := "RoofWar$Kinds", name := "worth", desc := "(II)I" } : Jvm.MethodName)) ∈ WT := WT_2 (List.mem_of_getElem? (i := 99) rfl) rfl
theorem mw_402 : (Jvm.Cond.code ({ cls := "RoofWar$Kinds", name := "worth", desc := "(II)I" } : Jvm.MethodName) prog_4_method_7_code (2 : Nat) (Option.some Jvm.ClassFile.FieldType.int)) ∈ WT := WT_2 (List.mem_of_getElem? (i := 100) rfl) rfl
theorem mw_403 : (Jvm.Cond.methodLink "RoofWarLaw" (23 : Nat) ({ cls := "RoofWar", name := "as", desc := "(II)I" } : Jvm.MethodName)) ∈ WT := WT_2 (List.mem_of_getElem? (i := 101) rfl) rfl
theorem mw_404 : (Jvm.Cond.instanceMethod ({ cls := "RoofWar", name := "as", desc := "(II)I" } : Jvm.MethodName)) ∈ WT := WT_2 (List.mem_of_getElem? (i := 102) rfl) rfl
theorem mw_405 : (Jvm.Cond.selects "RoofWar" ({ cls := "RoofWar", name := "as", desc := "(II)I" } : Jvm.MethodName) ({ cls := "RoofWar", name := "as", desc := "(II)I" } : Jvm.MethodName)) ∈ WT := WT_2 (List.mem_of_getElem? (i := 103) rfl) rfl
theorem mw_406 : (Jvm.Cond.code ({ cls := "RoofWar", name := "as", desc := "(II)I" } : Jvm.MethodName) prog_1_method_4_code (3 : Nat) (Option.some Jvm.ClassFile.FieldType.int)) ∈ WT := WT_2 (List.mem_of_getElem? (i := 104) rfl) rfl
theorem mw_407 : (Jvm.Cond.methodLink "RoofWar" (138 : Nat) ({ cls := "RoofWar$Kinds", name := "isOne", desc := "(II)Z" } : Jvm.MethodName)) ∈ WT := WT_2 (List.mem_of_getElem? (i := 105) rfl) rfl
theorem mw_408 : (Jvm.Cond.static ({ cls := "RoofWar$Kinds", name := "isOne", desc := "(II)Z" } : Jvm.MethodName)) ∈ WT := WT_2 (List.mem_of_getElem? (i := 106) rfl) rfl
theorem mw_409 : (Jvm.Cond.code ({ cls := "RoofWar$Kinds", name := "isOne", desc := "(II)Z" } : Jvm.MethodName) prog_4_method_3_code (4 : Nat) (Option.some Jvm.ClassFile.FieldType.boolean)) ∈ WT := WT_2 (List.mem_of_getElem? (i := 107) rfl) rfl
theorem mw_410 : (Jvm.Cond.methodLink "RoofWar$Kinds" (9 : Nat) ({ cls := "RoofWar$Kinds", name := "above", desc := "(I)I" } : Jvm.MethodName)) ∈ WT := WT_2 (List.mem_of_getElem? (i := 108) rfl) rfl
theorem mw_411 : (Jvm.Cond.static ({ cls := "RoofWar$Kinds", name := "above", desc := "(I)I" } : Jvm.MethodName)) ∈ WT := WT_2 (List.mem_of_getElem? (i := 109) rfl) rfl
theorem mw_412 : (Jvm.Cond.code ({ cls := "RoofWar$Kinds", name := "above", desc := "(I)I" } : Jvm.MethodName) prog_4_method_2_code (1 : Nat) (Option.some Jvm.ClassFile.FieldType.int)) ∈ WT := WT_2 (List.mem_of_getElem? (i := 110) rfl) rfl
theorem mw_413 : (Jvm.Cond.constant "RoofWar" (142 : Nat) (-1000000012 : Int32)) ∈ WT := WT_2 (List.mem_of_getElem? (i := 111) rfl) rfl
theorem mw_414 : (Jvm.Cond.methodLink "RoofWarLaw" (27 : Nat) ({ cls := "RoofWar", name := "turns", desc := "(II)I" } : Jvm.MethodName)) ∈ WT := WT_2 (List.mem_of_getElem? (i := 112) rfl) rfl
theorem mw_415 : (Jvm.Cond.instanceMethod ({ cls := "RoofWar", name := "turns", desc := "(II)I" } : Jvm.MethodName)) ∈ WT := WT_2 (List.mem_of_getElem? (i := 113) rfl) rfl
theorem mw_416 : (Jvm.Cond.selects "RoofWar" ({ cls := "RoofWar", name := "turns", desc := "(II)I" } : Jvm.MethodName) ({ cls := "RoofWar", name := "turns", desc := "(II)I" } : Jvm.MethodName)) ∈ WT := WT_2 (List.mem_of_getElem? (i := 114) rfl) rfl
theorem mw_417 : (Jvm.Cond.code ({ cls := "RoofWar", name := "turns", desc := "(II)I" } : Jvm.MethodName) prog_1_method_5_code (4 : Nat) (Option.some Jvm.ClassFile.FieldType.int)) ∈ WT := WT_2 (List.mem_of_getElem? (i := 115) rfl) rfl
theorem mw_418 : (Jvm.Cond.methodLink "RoofWarLaw" (31 : Nat) ({ cls := "RoofWar", name := "set", desc := "(III)I" } : Jvm.MethodName)) ∈ WT := WT_2 (List.mem_of_getElem? (i := 116) rfl) rfl
theorem mw_419 : (Jvm.Cond.instanceMethod ({ cls := "RoofWar", name := "set", desc := "(III)I" } : Jvm.MethodName)) ∈ WT := WT_2 (List.mem_of_getElem? (i := 117) rfl) rfl
theorem mw_420 : (Jvm.Cond.selects "RoofWar" ({ cls := "RoofWar", name := "set", desc := "(III)I" } : Jvm.MethodName) ({ cls := "RoofWar", name := "set", desc := "(III)I" } : Jvm.MethodName)) ∈ WT := WT_2 (List.mem_of_getElem? (i := 118) rfl) rfl
theorem mw_421 : (Jvm.Cond.code ({ cls := "RoofWar", name := "set", desc := "(III)I" } : Jvm.MethodName) prog_1_method_6_code (5 : Nat) (Option.some Jvm.ClassFile.FieldType.int)) ∈ WT := WT_2 (List.mem_of_getElem? (i := 119) rfl) rfl
theorem mw_422 : (Jvm.Cond.methodLink "RoofWarLaw" (36 : Nat) ({ cls := "RoofWar", name := "moves", desc := "(II)I" } : Jvm.MethodName)) ∈ WT := WT_2 (List.mem_of_getElem? (i := 120) rfl) rfl
theorem mw_423 : (Jvm.Cond.instanceMethod ({ cls := "RoofWar", name := "moves", desc := "(II)I" } : Jvm.MethodName)) ∈ WT := WT_2 (List.mem_of_getElem? (i := 121) rfl) rfl
theorem mw_424 : (Jvm.Cond.selects "RoofWar" ({ cls := "RoofWar", name := "moves", desc := "(II)I" } : Jvm.MethodName) ({ cls := "RoofWar", name := "moves", desc := "(II)I" } : Jvm.MethodName)) ∈ WT := WT_2 (List.mem_of_getElem? (i := 122) rfl) rfl
theorem mw_425 : (Jvm.Cond.code ({ cls := "RoofWar", name := "moves", desc := "(II)I" } : Jvm.MethodName) prog_1_method_7_code (4 : Nat) (Option.some Jvm.ClassFile.FieldType.int)) ∈ WT := WT_2 (List.mem_of_getElem? (i := 123) rfl) rfl
theorem mw_426 : (Jvm.Cond.methodLink "RoofWar" (143 : Nat) ({ cls := "RoofWar$Hill", name := "put", desc := "(II)V" } : Jvm.MethodName)) ∈ WT := WT_2 (List.mem_of_getElem? (i := 124) rfl) rfl
theorem mw_427 : (Jvm.Cond.instanceMethod ({ cls := "RoofWar$Hill", name := "put", desc := "(II)V" } : Jvm.MethodName)) ∈ WT := WT_2 (List.mem_of_getElem? (i := 125) rfl) rfl
theorem mw_428 : (Jvm.Cond.selects "RoofWar$Hill" ({ cls := "RoofWar$Hill", name := "put", desc := "(II)V" } : Jvm.MethodName) ({ cls := "RoofWar$Hill", name := "put", desc := "(II)V" } : Jvm.MethodName)) ∈ WT := WT_2 (List.mem_of_getElem? (i := 126) rfl) rfl
theorem mw_429 : (Jvm.Cond.code ({ cls := "RoofWar$Hill", name := "put", desc := "(II)V" } : Jvm.MethodName) prog_3_method_4_code (3 : Nat) (Option.none : Option Jvm.ClassFile.FieldType)) ∈ WT := WT_2 (List.mem_of_getElem? (i := 127) rfl) rfl
theorem mw_430 : (Jvm.Cond.methodLink "RoofWarLaw" (40 : Nat) ({ cls := "RoofWar", name := "house", desc := "(II)I" } : Jvm.MethodName)) ∈ WT := WT_2 (List.mem_of_getElem? (i := 128) rfl) rfl
theorem mw_431 : (Jvm.Cond.instanceMethod ({ cls := "RoofWar", name := "house", desc := "(II)I" } : Jvm.MethodName)) ∈ WT := WT_2 (List.mem_of_getElem? (i := 129) rfl) rfl
theorem mw_432 : (Jvm.Cond.selects "RoofWar" ({ cls := "RoofWar", name := "house", desc := "(II)I" } : Jvm.MethodName) ({ cls := "RoofWar", name := "house", desc := "(II)I" } : Jvm.MethodName)) ∈ WT := WT_2 (List.mem_of_getElem? (i := 130) rfl) rfl
theorem mw_433 : (Jvm.Cond.code ({ cls := "RoofWar", name := "house", desc := "(II)I" } : Jvm.MethodName) prog_1_method_8_code (3 : Nat) (Option.some Jvm.ClassFile.FieldType.int)) ∈ WT := WT_2 (List.mem_of_getElem? (i := 131) rfl) rfl
theorem mw_434 : (Jvm.Cond.methodLink "RoofWar" (153 : Nat) ({ cls := "RoofWar$Hill", name := "dryIn", desc := "(I)I" } : Jvm.MethodName)) ∈ WT := WT_2 (List.mem_of_getElem? (i := 132) rfl) rfl
theorem mw_435 : (Jvm.Cond.instanceMethod ({ cls := "RoofWar$Hill", name := "dryIn", desc := "(I)I" } : Jvm.MethodName)) ∈ WT := WT_2 (List.mem_of_getElem? (i := 133) rfl) rfl
theorem mw_436 : (Jvm.Cond.selects "RoofWar$Hill" ({ cls := "RoofWar$Hill", name := "dryIn", desc := "(I)I" } : Jvm.MethodName) ({ cls := "RoofWar$Hill", name := "dryIn", desc := "(I)I" } : Jvm.MethodName)) ∈ WT := WT_2 (List.mem_of_getElem? (i := 134) rfl) rfl
theorem mw_437 : (Jvm.Cond.code ({ cls := "RoofWar$Hill", name := "dryIn", desc := "(I)I" } : Jvm.MethodName) prog_3_method_8_code (3 : Nat) (Option.some Jvm.ClassFile.FieldType.int)) ∈ WT := WT_2 (List.mem_of_getElem? (i := 135) rfl) rfl
theorem mw_438 : (Jvm.Cond.methodLink "RoofWar$Hill" (92 : Nat) ({ cls := "RoofWar$Hill", name := "dryWere", desc := "(II)I" } : Jvm.MethodName)) ∈ WT := WT_2 (List.mem_of_getElem? (i := 136) rfl) rfl
theorem mw_439 : (Jvm.Cond.instanceMethod ({ cls := "RoofWar$Hill", name := "dryWere", desc := "(II)I" } : Jvm.MethodName)) ∈ WT := WT_2 (List.mem_of_getElem? (i := 137) rfl) rfl
theorem mw_440 : (Jvm.Cond.selects "RoofWar$Hill" ({ cls := "RoofWar$Hill", name := "dryWere", desc := "(II)I" } : Jvm.MethodName) ({ cls := "RoofWar$Hill", name := "dryWere", desc := "(II)I" } : Jvm.MethodName)) ∈ WT := WT_2 (List.mem_of_getElem? (i := 138) rfl) rfl
theorem mw_441 : (Jvm.Cond.code ({ cls := "RoofWar$Hill", name := "dryWere", desc := "(II)I" } : Jvm.MethodName) prog_3_method_7_code (3 : Nat) (Option.some Jvm.ClassFile.FieldType.int)) ∈ WT := WT_2 (List.mem_of_getElem? (i := 139) rfl) rfl
theorem mw_442 : (Jvm.Cond.methodLink "RoofWar$Hill" (83 : Nat) ({ cls := "RoofWar$Kinds", name := "covers", desc := "(II)I" } : Jvm.MethodName)) ∈ WT := WT_2 (List.mem_of_getElem? (i := 140) rfl) rfl
theorem mw_443 : (Jvm.Cond.methodLink "RoofWar$Hill" (87 : Nat) ({ cls := "java/lang/Math", name := "min", desc := "(II)I" } : Jvm.MethodName)) ∈ WT := WT_2 (List.mem_of_getElem? (i := 141) rfl) rfl
theorem mw_444 : (Jvm.Cond.static ({ cls := "java/lang/Math", name := "min", desc := "(II)I" } : Jvm.MethodName)) ∈ WT := WT_2 (List.mem_of_getElem? (i := 142) rfl) rfl
theorem mw_445 : (Jvm.Cond.code ({ cls := "java/lang/Math", name := "min", desc := "(II)I" } : Jvm.MethodName) prog_15_method_69_code (2 : Nat) (Option.some Jvm.ClassFile.FieldType.int)) ∈ WT := WT_2 (List.mem_of_getElem? (i := 143) rfl) rfl
theorem mw_446 : (Jvm.Cond.methodLink "RoofWarLaw" (44 : Nat) ({ cls := "RoofWar", name := "lodges", desc := "(III)I" } : Jvm.MethodName)) ∈ WT := WT_2 (List.mem_of_getElem? (i := 144) rfl) rfl
theorem mw_447 : (Jvm.Cond.instanceMethod ({ cls := "RoofWar", name := "lodges", desc := "(III)I" } : Jvm.MethodName)) ∈ WT := WT_2 (List.mem_of_getElem? (i := 145) rfl) rfl
theorem mw_448 : (Jvm.Cond.selects "RoofWar" ({ cls := "RoofWar", name := "lodges", desc := "(III)I" } : Jvm.MethodName) ({ cls := "RoofWar", name := "lodges", desc := "(III)I" } : Jvm.MethodName)) ∈ WT := WT_2 (List.mem_of_getElem? (i := 146) rfl) rfl
theorem mw_449 : (Jvm.Cond.code ({ cls := "RoofWar", name := "lodges", desc := "(III)I" } : Jvm.MethodName) prog_1_method_9_code (5 : Nat) (Option.some Jvm.ClassFile.FieldType.int)) ∈ WT := WT_2 (List.mem_of_getElem? (i := 147) rfl) rfl
theorem mw_450 : (Jvm.Cond.methodLink "RoofWarLaw" (48 : Nat) ({ cls := "RoofWar", name := "rule", desc := "(II)I" } : Jvm.MethodName)) ∈ WT := WT_2 (List.mem_of_getElem? (i := 148) rfl) rfl
theorem mw_451 : (Jvm.Cond.instanceMethod ({ cls := "RoofWar", name := "rule", desc := "(II)I" } : Jvm.MethodName)) ∈ WT := WT_2 (List.mem_of_getElem? (i := 149) rfl) rfl
theorem mw_452 : (Jvm.Cond.selects "RoofWar" ({ cls := "RoofWar", name := "rule", desc := "(II)I" } : Jvm.MethodName) ({ cls := "RoofWar", name := "rule", desc := "(II)I" } : Jvm.MethodName)) ∈ WT := WT_2 (List.mem_of_getElem? (i := 150) rfl) rfl
theorem mw_453 : (Jvm.Cond.code ({ cls := "RoofWar", name := "rule", desc := "(II)I" } : Jvm.MethodName) prog_1_method_10_code (4 : Nat) (Option.some Jvm.ClassFile.FieldType.int)) ∈ WT := WT_2 (List.mem_of_getElem? (i := 151) rfl) rfl
theorem mw_454 : (Jvm.Cond.methodLink "RoofWarLaw" (52 : Nat) ({ cls := "RoofWar", name := "deal", desc := "(I)I" } : Jvm.MethodName)) ∈ WT := WT_2 (List.mem_of_getElem? (i := 152) rfl) rfl
theorem mw_455 : (Jvm.Cond.instanceMethod ({ cls := "RoofWar", name := "deal", desc := "(I)I" } : Jvm.MethodName)) ∈ WT := WT_2 (List.mem_of_getElem? (i := 153) rfl) rfl
theorem mw_456 : (Jvm.Cond.selects "RoofWar" ({ cls := "RoofWar", name := "deal", desc := "(I)I" } : Jvm.MethodName) ({ cls := "RoofWar", name := "deal", desc := "(I)I" } : Jvm.MethodName)) ∈ WT := WT_2 (List.mem_of_getElem? (i := 154) rfl) rfl
theorem mw_457 : (Jvm.Cond.code ({ cls := "RoofWar", name := "deal", desc := "(I)I" } : Jvm.MethodName) prog_1_method_11_code (4 : Nat) (Option.some Jvm.ClassFile.FieldType.int)) ∈ WT := WT_2 (List.mem_of_getElem? (i := 155) rfl) rfl
theorem mw_458 : (Jvm.Cond.methodLink "RoofWar" (163 : Nat) ({ cls := "java/lang/Math", name := "min", desc := "(II)I" } : Jvm.MethodName)) ∈ WT := WT_2 (List.mem_of_getElem? (i := 156) rfl) rfl
theorem mw_459 : (Jvm.Cond.methodLink "RoofWar" (168 : Nat) ({ cls := "RoofWar$Hill", name := "drawRoof", desc := "()V" } : Jvm.MethodName)) ∈ WT := WT_2 (List.mem_of_getElem? (i := 157) rfl) rfl
theorem mw_460 : (Jvm.Cond.instanceMethod ({ cls := "RoofWar$Hill", name := "drawRoof", desc := "()V" } : Jvm.MethodName)) ∈ WT := WT_2 (List.mem_of_getElem? (i := 158) rfl) rfl
theorem mw_461 : (Jvm.Cond.selects "RoofWar$Hill" ({ cls := "RoofWar$Hill", name := "drawRoof", desc := "()V" } : Jvm.MethodName) ({ cls := "RoofWar$Hill", name := "drawRoof", desc := "()V" } : Jvm.MethodName)) ∈ WT := WT_2 (List.mem_of_getElem? (i := 159) rfl) rfl
theorem mw_462 : (Jvm.Cond.code ({ cls := "RoofWar$Hill", name := "drawRoof", desc := "()V" } : Jvm.MethodName) prog_3_method_6_code (6 : Nat) (Option.none : Option Jvm.ClassFile.FieldType)) ∈ WT := WT_2 (List.mem_of_getElem? (i := 160) rfl) rfl
theorem mw_463 : (Jvm.Cond.methodLink "RoofWar$Hill" (73 : Nat) ({ cls := "RoofWar$Hill", name := "draw", desc := "()I" } : Jvm.MethodName)) ∈ WT := WT_2 (List.mem_of_getElem? (i := 161) rfl) rfl
theorem mw_464 : (Jvm.Cond.instanceMethod ({ cls := "RoofWar$Hill", name := "draw", desc := "()I" } : Jvm.MethodName)) ∈ WT := WT_2 (List.mem_of_getElem? (i := 162) rfl) rfl
theorem mw_465 : (Jvm.Cond.selects "RoofWar$Hill" ({ cls := "RoofWar$Hill", name := "draw", desc := "()I" } : Jvm.MethodName) ({ cls := "RoofWar$Hill", name := "draw", desc := "()I" } : Jvm.MethodName)) ∈ WT := WT_2 (List.mem_of_getElem? (i := 163) rfl) rfl
theorem mw_466 : (Jvm.Cond.code ({ cls := "RoofWar$Hill", name := "draw", desc := "()I" } : Jvm.MethodName) prog_3_method_5_code (1 : Nat) (Option.some Jvm.ClassFile.FieldType.int)) ∈ WT := WT_2 (List.mem_of_getElem? (i := 164) rfl) rfl
theorem mw_467 : (Jvm.Cond.constant "RoofWar$Hill" (72 : Nat) (1103515245 : Int32)) ∈ WT := WT_2 (List.mem_of_getElem? (i := 165) rfl) rfl
theorem mw_468 : (Jvm.Cond.methodLink "RoofWar$Hill" (79 : Nat) ({ cls := "RoofWar$Hill", name := "build", desc := "(IIII)I" } : Jvm.MethodName)) ∈ WT := WT_2 (List.mem_of_getElem? (i := 166) rfl) rfl
theorem mw_469 : (Jvm.Cond.methodLink "RoofWarLaw" (57 : Nat) ({ cls := "RoofWar", name := "seed", desc := "(I)I" } : Jvm.MethodName)) ∈ WT := WT_2 (List.mem_of_getElem? (i := 167) rfl) rfl
theorem mw_470 : (Jvm.Cond.instanceMethod ({ cls := "RoofWar", name := "seed", desc := "(I)I" } : Jvm.MethodName)) ∈ WT := WT_2 (List.mem_of_getElem? (i := 168) rfl) rfl
theorem mw_471 : (Jvm.Cond.selects "RoofWar" ({ cls := "RoofWar", name := "seed", desc := "(I)I" } : Jvm.MethodName) ({ cls := "RoofWar", name := "seed", desc := "(I)I" } : Jvm.MethodName)) ∈ WT := WT_2 (List.mem_of_getElem? (i := 169) rfl) rfl
theorem mw_472 : (Jvm.Cond.code ({ cls := "RoofWar", name := "seed", desc := "(I)I" } : Jvm.MethodName) prog_1_method_12_code (3 : Nat) (Option.some Jvm.ClassFile.FieldType.int)) ∈ WT := WT_2 (List.mem_of_getElem? (i := 170) rfl) rfl
theorem mw_473 : (Jvm.Cond.methodLink "RoofWarLaw" (61 : Nat) ({ cls := "RoofWar", name := "nights", desc := "(I)I" } : Jvm.MethodName)) ∈ WT := WT_2 (List.mem_of_getElem? (i := 171) rfl) rfl
theorem mw_474 : (Jvm.Cond.instanceMethod ({ cls := "RoofWar", name := "nights", desc := "(I)I" } : Jvm.MethodName)) ∈ WT := WT_2 (List.mem_of_getElem? (i := 172) rfl) rfl
theorem mw_475 : (Jvm.Cond.selects "RoofWar" ({ cls := "RoofWar", name := "nights", desc := "(I)I" } : Jvm.MethodName) ({ cls := "RoofWar", name := "nights", desc := "(I)I" } : Jvm.MethodName)) ∈ WT := WT_2 (List.mem_of_getElem? (i := 173) rfl) rfl
theorem mw_476 : (Jvm.Cond.code ({ cls := "RoofWar", name := "nights", desc := "(I)I" } : Jvm.MethodName) prog_1_method_13_code (3 : Nat) (Option.some Jvm.ClassFile.FieldType.int)) ∈ WT := WT_2 (List.mem_of_getElem? (i := 174) rfl) rfl
theorem mw_477 : (Jvm.Cond.methodLink "RoofWar" (180 : Nat) ({ cls := "RoofWar$Hill", name := "pass", desc := "(I)V" } : Jvm.MethodName)) ∈ WT := WT_2 (List.mem_of_getElem? (i := 175) rfl) rfl
theorem mw_478 : (Jvm.Cond.instanceMethod ({ cls := "RoofWar$Hill", name := "pass", desc := "(I)V" } : Jvm.MethodName)) ∈ WT := WT_2 (List.mem_of_getElem? (i := 176) rfl) rfl
theorem mw_479 : (Jvm.Cond.selects "RoofWar$Hill" ({ cls := "RoofWar$Hill", name := "pass", desc := "(I)V" } : Jvm.MethodName) ({ cls := "RoofWar$Hill", name := "pass", desc := "(I)V" } : Jvm.MethodName)) ∈ WT := WT_2 (List.mem_of_getElem? (i := 177) rfl) rfl
theorem mw_480 : (Jvm.Cond.code ({ cls := "RoofWar$Hill", name := "pass", desc := "(I)V" } : Jvm.MethodName) prog_3_method_17_code (4 : Nat) (Option.none : Option Jvm.ClassFile.FieldType)) ∈ WT := WT_2 (List.mem_of_getElem? (i := 178) rfl) rfl
theorem mw_481 : (Jvm.Cond.methodLink "RoofWar$Hill" (142 : Nat) ({ cls := "RoofWar$Hill", name := "goOut", desc := "(I)V" } : Jvm.MethodName)) ∈ WT := WT_2 (List.mem_of_getElem? (i := 179) rfl) rfl
theorem mw_482 : (Jvm.Cond.instanceMethod ({ cls := "RoofWar$Hill", name := "goOut", desc := "(I)V" } : Jvm.MethodName)) ∈ WT := WT_2 (List.mem_of_getElem? (i := 181) rfl) rfl
theorem mw_483 : (Jvm.Cond.code ({ cls := "RoofWar$Hill", name := "goOut", desc := "(I)V" } : Jvm.MethodName) prog_3_method_15_code (7 : Nat) (Option.none : Option Jvm.ClassFile.FieldType)) ∈ WT := WT_2 (List.mem_of_getElem? (i := 182) rfl) rfl
theorem mw_484 : (Jvm.Cond.methodLink "RoofWar$Hill" (122 : Nat) ({ cls := "RoofWar$Hill", name := "mayCarry", desc := "(I)I" } : Jvm.MethodName)) ∈ WT := WT_2 (List.mem_of_getElem? (i := 183) rfl) rfl
theorem mw_485 : (Jvm.Cond.instanceMethod ({ cls := "RoofWar$Hill", name := "mayCarry", desc := "(I)I" } : Jvm.MethodName)) ∈ WT := WT_2 (List.mem_of_getElem? (i := 184) rfl) rfl
theorem mw_486 : (Jvm.Cond.selects "RoofWar$Hill" ({ cls := "RoofWar$Hill", name := "mayCarry", desc := "(I)I" } : Jvm.MethodName) ({ cls := "RoofWar$Hill", name := "mayCarry", desc := "(I)I" } : Jvm.MethodName)) ∈ WT := WT_2 (List.mem_of_getElem? (i := 185) rfl) rfl
theorem mw_487 : (Jvm.Cond.code ({ cls := "RoofWar$Hill", name := "mayCarry", desc := "(I)I" } : Jvm.MethodName) prog_3_method_12_code (4 : Nat) (Option.some Jvm.ClassFile.FieldType.int)) ∈ WT := WT_2 (List.mem_of_getElem? (i := 186) rfl) rfl
theorem mw_488 : (Jvm.Cond.static ({ cls := "RoofWar", name := "townOf", desc := "(I)I" } : Jvm.MethodName)) ∈ WT := WT_2 (List.mem_of_getElem? (i := 188) rfl) rfl
theorem mw_489 : (Jvm.Cond.code ({ cls := "RoofWar", name := "townOf", desc := "(I)I" } : Jvm.MethodName) prog_1_method_53_code (1 : Nat) (Option.some Jvm.ClassFile.FieldType.int)) ∈ WT := WT_2 (List.mem_of_getElem? (i := 189) rfl) rfl
theorem mw_490 : (Jvm.Cond.methodLink "RoofWar$Hill" (105 : Nat) ({ cls := "RoofWar$Kinds", name := "weighs", desc := "(II)I" } : Jvm.MethodName)) ∈ WT := WT_2 (List.mem_of_getElem? (i := 190) rfl) rfl
theorem mw_491 : (Jvm.Cond.methodLink "RoofWar$Hill" (125 : Nat) ({ cls := "RoofWar$Hill", name := "homeOf", desc := "(I)I" } : Jvm.MethodName)) ∈ WT := WT_2 (List.mem_of_getElem? (i := 191) rfl) rfl
theorem mw_492 : (Jvm.Cond.instanceMethod ({ cls := "RoofWar$Hill", name := "homeOf", desc := "(I)I" } : Jvm.MethodName)) ∈ WT := WT_2 (List.mem_of_getElem? (i := 192) rfl) rfl
theorem mw_493 : (Jvm.Cond.selects "RoofWar$Hill" ({ cls := "RoofWar$Hill", name := "homeOf", desc := "(I)I" } : Jvm.MethodName) ({ cls := "RoofWar$Hill", name := "homeOf", desc := "(I)I" } : Jvm.MethodName)) ∈ WT := WT_2 (List.mem_of_getElem? (i := 193) rfl) rfl
theorem mw_494 : (Jvm.Cond.code ({ cls := "RoofWar$Hill", name := "homeOf", desc := "(I)I" } : Jvm.MethodName) prog_3_method_11_code (4 : Nat) (Option.some Jvm.ClassFile.FieldType.int)) ∈ WT := WT_2 (List.mem_of_getElem? (i := 194) rfl) rfl
theorem mw_495 : (Jvm.Cond.static ({ cls := "RoofWar", name := "firstHouse", desc := "(I)I" } : Jvm.MethodName)) ∈ WT := WT_2 (List.mem_of_getElem? (i := 196) rfl) rfl
theorem mw_496 : (Jvm.Cond.code ({ cls := "RoofWar", name := "firstHouse", desc := "(I)I" } : Jvm.MethodName) prog_1_method_55_code (1 : Nat) (Option.some Jvm.ClassFile.FieldType.int)) ∈ WT := WT_2 (List.mem_of_getElem? (i := 197) rfl) rfl
theorem mw_497 : (Jvm.Cond.methodLink "RoofWar$Hill" (128 : Nat) ({ cls := "java/lang/Integer", name := "bitCount", desc := "(I)I" } : Jvm.MethodName)) ∈ WT := WT_2 (List.mem_of_getElem? (i := 198) rfl) rfl
theorem mw_498 : (Jvm.Cond.static ({ cls := "java/lang/Integer", name := "bitCount", desc := "(I)I" } : Jvm.MethodName)) ∈ WT := WT_2 (List.mem_of_getElem? (i := 199) rfl) rfl
theorem mw_499 : (Jvm.Cond.code ({ cls := "java/lang/Integer", name := "bitCount", desc := "(I)I" } : Jvm.MethodName) prog_14_method_49_code (1 : Nat) (Option.some Jvm.ClassFile.FieldType.int)) ∈ WT := WT_2 (List.mem_of_getElem? (i := 200) rfl) rfl
theorem mw_500 : (Jvm.Cond.constant "java/lang/Integer" (265 : Nat) (1431655765 : Int32)) ∈ WT := WT_2 (List.mem_of_getElem? (i := 201) rfl) rfl
theorem mw_501 : (Jvm.Cond.constant "java/lang/Integer" (266 : Nat) (858993459 : Int32)) ∈ WT := WT_2 (List.mem_of_getElem? (i := 202) rfl) rfl
theorem mw_502 : (Jvm.Cond.constant "java/lang/Integer" (267 : Nat) (252645135 : Int32)) ∈ WT := WT_2 (List.mem_of_getElem? (i := 203) rfl) rfl
theorem mw_503 : (Jvm.Cond.methodLink "RoofWar$Hill" (133 : Nat) ({ cls := "RoofWar$Hill", name := "roofOfSet", desc := "(II)I" } : Jvm.MethodName)) ∈ WT := WT_2 (List.mem_of_getElem? (i := 204) rfl) rfl
theorem mw_504 : (Jvm.Cond.instanceMethod ({ cls := "RoofWar$Hill", name := "roofOfSet", desc := "(II)I" } : Jvm.MethodName)) ∈ WT := WT_2 (List.mem_of_getElem? (i := 206) rfl) rfl
theorem mw_505 : (Jvm.Cond.code ({ cls := "RoofWar$Hill", name := "roofOfSet", desc := "(II)I" } : Jvm.MethodName) prog_3_method_14_code (5 : Nat) (Option.some Jvm.ClassFile.FieldType.int)) ∈ WT := WT_2 (List.mem_of_getElem? (i := 207) rfl) rfl
theorem mw_506 : (Jvm.Cond.static ({ cls := "RoofWar", name := "inSet", desc := "(II)Z" } : Jvm.MethodName)) ∈ WT := WT_2 (List.mem_of_getElem? (i := 209) rfl) rfl
theorem mw_507 : (Jvm.Cond.code ({ cls := "RoofWar", name := "inSet", desc := "(II)Z" } : Jvm.MethodName) prog_1_method_47_code (2 : Nat) (Option.some Jvm.ClassFile.FieldType.boolean)) ∈ WT := WT_2 (List.mem_of_getElem? (i := 210) rfl) rfl
theorem mw_508 : (Jvm.Cond.methodLink "RoofWar$Hill" (136 : Nat) ({ cls := "RoofWar$Hill", name := "carry", desc := "(II)V" } : Jvm.MethodName)) ∈ WT := WT_2 (List.mem_of_getElem? (i := 211) rfl) rfl
theorem mw_509 : (Jvm.Cond.instanceMethod ({ cls := "RoofWar$Hill", name := "carry", desc := "(II)V" } : Jvm.MethodName)) ∈ WT := WT_2 (List.mem_of_getElem? (i := 212) rfl) rfl
theorem mw_510 : (Jvm.Cond.selects "RoofWar$Hill" ({ cls := "RoofWar$Hill", name := "carry", desc := "(II)V" } : Jvm.MethodName) ({ cls := "RoofWar$Hill", name := "carry", desc := "(II)V" } : Jvm.MethodName)) ∈ WT := WT_2 (List.mem_of_getElem? (i := 213) rfl) rfl
theorem mw_511 : (Jvm.Cond.code ({ cls := "RoofWar$Hill", name := "carry", desc := "(II)V" } : Jvm.MethodName) prog_3_method_13_code (4 : Nat) (Option.none : Option Jvm.ClassFile.FieldType)) ∈ WT := WT_2 (List.mem_of_getElem? (i := 214) rfl) rfl
theorem mw_512 : (Jvm.Cond.methodLink "RoofWar$Hill" (108 : Nat) ({ cls := "RoofWar$Laws", name := "spiteOf", desc := "(LRoofWar$Hill;I)I" } : Jvm.MethodName)) ∈ WT := WT_2 (List.mem_of_getElem? (i := 215) rfl) rfl
theorem mw_513 : (Jvm.Cond.instanceMethod ({ cls := "RoofWar$Laws", name := "spiteOf", desc := "(LRoofWar$Hill;I)I" } : Jvm.MethodName)) ∈ WT := WT_2 (List.mem_of_getElem? (i := 216) rfl) rfl
theorem mw_514 : (Jvm.Cond.selects "RoofWar$Laws" ({ cls := "RoofWar$Laws", name := "spiteOf", desc := "(LRoofWar$Hill;I)I" } : Jvm.MethodName) ({ cls := "RoofWar$Laws", name := "spiteOf", desc := "(LRoofWar$Hill;I)I" } : Jvm.MethodName)) ∈ WT := WT_2 (List.mem_of_getElem? (i := 217) rfl) rfl
theorem mw_515 : (Jvm.Cond.code ({ cls := "RoofWar$Laws", name := "spiteOf", desc := "(LRoofWar$Hill;I)I" } : Jvm.MethodName) prog_6_method_4_code (4 : Nat) (Option.some Jvm.ClassFile.FieldType.int)) ∈ WT := WT_2 (List.mem_of_getElem? (i := 218) rfl) rfl
theorem mw_516 : (Jvm.Cond.methodLink "RoofWar$Laws" (36 : Nat) ({ cls := "RoofWar$Laws", name := "counting", desc := "(II)LRoofWar$Law;" } : Jvm.MethodName)) ∈ WT := WT_2 (List.mem_of_getElem? (i := 219) rfl) rfl
theorem mw_517 : (Jvm.Cond.instanceMethod ({ cls := "RoofWar$Laws", name := "counting", desc := "(II)LRoofWar$Law;" } : Jvm.MethodName)) ∈ WT := WT_2 (List.mem_of_getElem? (i := 220) rfl) rfl
theorem mw_518 : (Jvm.Cond.selects "RoofWar$Laws" ({ cls := "RoofWar$Laws", name := "counting", desc := "(II)LRoofWar$Law;" } : Jvm.MethodName) ({ cls := "RoofWar$Laws", name := "counting", desc := "(II)LRoofWar$Law;" } : Jvm.MethodName)) ∈ WT := WT_2 (List.mem_of_getElem? (i := 221) rfl) rfl
theorem mw_519 : (Jvm.Cond.code ({ cls := "RoofWar$Laws", name := "counting", desc := "(II)LRoofWar$Law;" } : Jvm.MethodName) prog_6_method_3_code (4 : Nat) (Option.some (Jvm.ClassFile.FieldType.object "RoofWar$Law"))) ∈ WT := WT_2 (List.mem_of_getElem? (i := 222) rfl) rfl
theorem mw_520 : (Jvm.Cond.methodLink "RoofWar$Laws" (27 : Nat) ({ cls := "RoofWar$Laws", name := "lastOf", desc := "(II)I" } : Jvm.MethodName)) ∈ WT := WT_2 (List.mem_of_getElem? (i := 223) rfl) rfl
theorem mw_521 : (Jvm.Cond.instanceMethod ({ cls := "RoofWar$Laws", name := "lastOf", desc := "(II)I" } : Jvm.MethodName)) ∈ WT := WT_2 (List.mem_of_getElem? (i := 224) rfl) rfl
theorem mw_522 : (Jvm.Cond.selects "RoofWar$Laws" ({ cls := "RoofWar$Laws", name := "lastOf", desc := "(II)I" } : Jvm.MethodName) ({ cls := "RoofWar$Laws", name := "lastOf", desc := "(II)I" } : Jvm.MethodName)) ∈ WT := WT_2 (List.mem_of_getElem? (i := 225) rfl) rfl
theorem mw_523 : (Jvm.Cond.code ({ cls := "RoofWar$Laws", name := "lastOf", desc := "(II)I" } : Jvm.MethodName) prog_6_method_2_code (4 : Nat) (Option.some Jvm.ClassFile.FieldType.int)) ∈ WT := WT_2 (List.mem_of_getElem? (i := 226) rfl) rfl
theorem mw_524 : (Jvm.Cond.constant "RoofWar$Laws" (26 : Nat) (-1000000005 : Int32)) ∈ WT := WT_2 (List.mem_of_getElem? (i := 227) rfl) rfl
theorem mw_525 : (Jvm.Cond.methodLink "RoofWar$Laws" (49 : Nat) ({ cls := "RoofWar$Laws", name := "workOut", desc := "(LRoofWar$Law;III)I" } : Jvm.MethodName)) ∈ WT := WT_2 (List.mem_of_getElem? (i := 228) rfl) rfl
theorem mw_526 : (Jvm.Cond.instanceMethod ({ cls := "RoofWar$Laws", name := "workOut", desc := "(LRoofWar$Law;III)I" } : Jvm.MethodName)) ∈ WT := WT_2 (List.mem_of_getElem? (i := 229) rfl) rfl
theorem mw_527 : (Jvm.Cond.selects "RoofWar$Laws" ({ cls := "RoofWar$Laws", name := "workOut", desc := "(LRoofWar$Law;III)I" } : Jvm.MethodName) ({ cls := "RoofWar$Laws", name := "workOut", desc := "(LRoofWar$Law;III)I" } : Jvm.MethodName)) ∈ WT := WT_2 (List.mem_of_getElem? (i := 230) rfl) rfl
theorem mw_528 : (Jvm.Cond.code ({ cls := "RoofWar$Laws", name := "workOut", desc := "(LRoofWar$Law;III)I" } : Jvm.MethodName) prog_6_method_5_code (8 : Nat) (Option.some Jvm.ClassFile.FieldType.int)) ∈ WT := WT_2 (List.mem_of_getElem? (i := 231) rfl) rfl
theorem mw_529 : (Jvm.Cond.methodLink "RoofWar$Laws" (63 : Nat) ({ cls := "RoofWar$Laws", name := "named", desc := "(IIII)I" } : Jvm.MethodName)) ∈ WT := WT_2 (List.mem_of_getElem? (i := 232) rfl) rfl
theorem mw_530 : (Jvm.Cond.static ({ cls := "RoofWar$Laws", name := "named", desc := "(IIII)I" } : Jvm.MethodName)) ∈ WT := WT_2 (List.mem_of_getElem? (i := 233) rfl) rfl
theorem mw_531 : (Jvm.Cond.code ({ cls := "RoofWar$Laws", name := "named", desc := "(IIII)I" } : Jvm.MethodName) prog_6_method_6_code (4 : Nat) (Option.some Jvm.ClassFile.FieldType.int)) ∈ WT := WT_2 (List.mem_of_getElem? (i := 234) rfl) rfl
theorem mw_532 : (Jvm.Cond.methodLink "RoofWar$Laws" (67 : Nat) ({ cls := "RoofWar$Laws", name := "joined", desc := "(III)I" } : Jvm.MethodName)) ∈ WT := WT_2 (List.mem_of_getElem? (i := 235) rfl) rfl
theorem mw_533 : (Jvm.Cond.static ({ cls := "RoofWar$Laws", name := "joined", desc := "(III)I" } : Jvm.MethodName)) ∈ WT := WT_2 (List.mem_of_getElem? (i := 236) rfl) rfl
theorem mw_534 : (Jvm.Cond.code ({ cls := "RoofWar$Laws", name := "joined", desc := "(III)I" } : Jvm.MethodName) prog_6_method_7_code (3 : Nat) (Option.some Jvm.ClassFile.FieldType.int)) ∈ WT := WT_2 (List.mem_of_getElem? (i := 237) rfl) rfl
theorem mw_535 : (Jvm.Cond.static ({ cls := "RoofWar", name := "heldWithin", desc := "(III)I" } : Jvm.MethodName)) ∈ WT := WT_2 (List.mem_of_getElem? (i := 239) rfl) rfl
theorem mw_536 : (Jvm.Cond.code ({ cls := "RoofWar", name := "heldWithin", desc := "(III)I" } : Jvm.MethodName) prog_1_method_46_code (3 : Nat) (Option.some Jvm.ClassFile.FieldType.int)) ∈ WT := WT_3 (List.mem_of_getElem? (i := 0) rfl) rfl
theorem mw_537 : (Jvm.Cond.methodLink "RoofWar" (343 : Nat) ({ cls := "java/lang/Math", name := "max", desc := "(II)I" } : Jvm.MethodName)) ∈ WT := WT_3 (List.mem_of_getElem? (i := 1) rfl) rfl
theorem mw_538 : (Jvm.Cond.static ({ cls := "java/lang/Math", name := "max", desc := "(II)I" } : Jvm.MethodName)) ∈ WT := WT_3 (List.mem_of_getElem? (i := 2) rfl) rfl
theorem mw_539 : (Jvm.Cond.code ({ cls := "java/lang/Math", name := "max", desc := "(II)I" } : Jvm.MethodName) prog_15_method_65_code (2 : Nat) (Option.some Jvm.ClassFile.FieldType.int)) ∈ WT := WT_3 (List.mem_of_getElem? (i := 3) rfl) rfl
theorem mw_540 : (Jvm.Cond.methodLink "RoofWar$Hill" (114 : Nat) ({ cls := "RoofWar$Hill", name := "put", desc := "(II)V" } : Jvm.MethodName)) ∈ WT := WT_3 (List.mem_of_getElem? (i := 4) rfl) rfl
theorem mw_541 : (Jvm.Cond.static ({ cls := "RoofWar", name := "otherTown", desc := "(I)I" } : Jvm.MethodName)) ∈ WT := WT_3 (List.mem_of_getElem? (i := 6) rfl) rfl
theorem mw_542 : (Jvm.Cond.code ({ cls := "RoofWar", name := "otherTown", desc := "(I)I" } : Jvm.MethodName) prog_1_method_54_code (1 : Nat) (Option.some Jvm.ClassFile.FieldType.int)) ∈ WT := WT_3 (List.mem_of_getElem? (i := 7) rfl) rfl
theorem mw_543 : (Jvm.Cond.methodLink "RoofWar$Hill" (149 : Nat) ({ cls := "RoofWar$Hill", name := "rainsIn", desc := "()I" } : Jvm.MethodName)) ∈ WT := WT_3 (List.mem_of_getElem? (i := 8) rfl) rfl
theorem mw_544 : (Jvm.Cond.instanceMethod ({ cls := "RoofWar$Hill", name := "rainsIn", desc := "()I" } : Jvm.MethodName)) ∈ WT := WT_3 (List.mem_of_getElem? (i := 10) rfl) rfl
theorem mw_545 : (Jvm.Cond.code ({ cls := "RoofWar$Hill", name := "rainsIn", desc := "()I" } : Jvm.MethodName) prog_3_method_16_code (3 : Nat) (Option.some Jvm.ClassFile.FieldType.int)) ∈ WT := WT_3 (List.mem_of_getElem? (i := 11) rfl) rfl
theorem mw_546 : (Jvm.Cond.methodLink "RoofWar$Hill" (139 : Nat) ({ cls := "RoofWar$Kinds", name := "drips", desc := "(II)I" } : Jvm.MethodName)) ∈ WT := WT_3 (List.mem_of_getElem? (i := 12) rfl) rfl
theorem mw_547 : (Jvm.Cond.methodLink "RoofWarLaw" (65 : Nat) ({ cls := "RoofWar", name := "hill", desc := "(I)I" } : Jvm.MethodName)) ∈ WT := WT_3 (List.mem_of_getElem? (i := 13) rfl) rfl
theorem mw_548 : (Jvm.Cond.instanceMethod ({ cls := "RoofWar", name := "hill", desc := "(I)I" } : Jvm.MethodName)) ∈ WT := WT_3 (List.mem_of_getElem? (i := 14) rfl) rfl
theorem mw_549 : (Jvm.Cond.selects "RoofWar" ({ cls := "RoofWar", name := "hill", desc := "(I)I" } : Jvm.MethodName) ({ cls := "RoofWar", name := "hill", desc := "(I)I" } : Jvm.MethodName)) ∈ WT := WT_3 (List.mem_of_getElem? (i := 15) rfl) rfl
theorem mw_550 : (Jvm.Cond.code ({ cls := "RoofWar", name := "hill", desc := "(I)I" } : Jvm.MethodName) prog_1_method_14_code (2 : Nat) (Option.some Jvm.ClassFile.FieldType.int)) ∈ WT := WT_3 (List.mem_of_getElem? (i := 16) rfl) rfl
theorem mw_551 : (Jvm.Cond.methodLink "RoofWar" (190 : Nat) ({ cls := "RoofWar$Hill", name := "dryOf", desc := "(I)I" } : Jvm.MethodName)) ∈ WT := WT_3 (List.mem_of_getElem? (i := 17) rfl) rfl
theorem mw_552 : (Jvm.Cond.instanceMethod ({ cls := "RoofWar$Hill", name := "dryOf", desc := "(I)I" } : Jvm.MethodName)) ∈ WT := WT_3 (List.mem_of_getElem? (i := 18) rfl) rfl
theorem mw_553 : (Jvm.Cond.selects "RoofWar$Hill" ({ cls := "RoofWar$Hill", name := "dryOf", desc := "(I)I" } : Jvm.MethodName) ({ cls := "RoofWar$Hill", name := "dryOf", desc := "(I)I" } : Jvm.MethodName)) ∈ WT := WT_3 (List.mem_of_getElem? (i := 19) rfl) rfl
theorem mw_554 : (Jvm.Cond.code ({ cls := "RoofWar$Hill", name := "dryOf", desc := "(I)I" } : Jvm.MethodName) prog_3_method_9_code (5 : Nat) (Option.some Jvm.ClassFile.FieldType.int)) ∈ WT := WT_3 (List.mem_of_getElem? (i := 20) rfl) rfl
theorem mw_555 : (Jvm.Cond.methodLink "RoofWar$Hill" (99 : Nat) ({ cls := "RoofWar$Hill", name := "dryIn", desc := "(I)I" } : Jvm.MethodName)) ∈ WT := WT_3 (List.mem_of_getElem? (i := 21) rfl) rfl
theorem mw_556 : (Jvm.Cond.methodLink "RoofWar" (193 : Nat) ({ cls := "RoofWar$Hill", name := "leakOfAll", desc := "()I" } : Jvm.MethodName)) ∈ WT := WT_3 (List.mem_of_getElem? (i := 22) rfl) rfl
theorem mw_557 : (Jvm.Cond.instanceMethod ({ cls := "RoofWar$Hill", name := "leakOfAll", desc := "()I" } : Jvm.MethodName)) ∈ WT := WT_3 (List.mem_of_getElem? (i := 23) rfl) rfl
theorem mw_558 : (Jvm.Cond.selects "RoofWar$Hill" ({ cls := "RoofWar$Hill", name := "leakOfAll", desc := "()I" } : Jvm.MethodName) ({ cls := "RoofWar$Hill", name := "leakOfAll", desc := "()I" } : Jvm.MethodName)) ∈ WT := WT_3 (List.mem_of_getElem? (i := 24) rfl) rfl
theorem mw_559 : (Jvm.Cond.code ({ cls := "RoofWar$Hill", name := "leakOfAll", desc := "()I" } : Jvm.MethodName) prog_3_method_10_code (3 : Nat) (Option.some Jvm.ClassFile.FieldType.int)) ∈ WT := WT_3 (List.mem_of_getElem? (i := 25) rfl) rfl
theorem mw_560 : (Jvm.Cond.methodLink "RoofWarLaw" (69 : Nat) ({ cls := "RoofWar", name := "loot", desc := "(II)I" } : Jvm.MethodName)) ∈ WT := WT_3 (List.mem_of_getElem? (i := 26) rfl) rfl
theorem mw_561 : (Jvm.Cond.instanceMethod ({ cls := "RoofWar", name := "loot", desc := "(II)I" } : Jvm.MethodName)) ∈ WT := WT_3 (List.mem_of_getElem? (i := 27) rfl) rfl
theorem mw_562 : (Jvm.Cond.selects "RoofWar" ({ cls := "RoofWar", name := "loot", desc := "(II)I" } : Jvm.MethodName) ({ cls := "RoofWar", name := "loot", desc := "(II)I" } : Jvm.MethodName)) ∈ WT := WT_3 (List.mem_of_getElem? (i := 28) rfl) rfl
theorem mw_563 : (Jvm.Cond.code ({ cls := "RoofWar", name := "loot", desc := "(II)I" } : Jvm.MethodName) prog_1_method_15_code (3 : Nat) (Option.some Jvm.ClassFile.FieldType.int)) ∈ WT := WT_3 (List.mem_of_getElem? (i := 29) rfl) rfl
theorem mw_564 : (Jvm.Cond.methodLink "RoofWar" (197 : Nat) ({ cls := "RoofWar", name := "isTown", desc := "(I)Z" } : Jvm.MethodName)) ∈ WT := WT_3 (List.mem_of_getElem? (i := 30) rfl) rfl
theorem mw_565 : (Jvm.Cond.static ({ cls := "RoofWar", name := "isTown", desc := "(I)Z" } : Jvm.MethodName)) ∈ WT := WT_3 (List.mem_of_getElem? (i := 31) rfl) rfl
theorem mw_566 : (Jvm.Cond.code ({ cls := "RoofWar", name := "isTown", desc := "(I)Z" } : Jvm.MethodName) prog_1_method_50_code (1 : Nat) (Option.some Jvm.ClassFile.FieldType.boolean)) ∈ WT := WT_3 (List.mem_of_getElem? (i := 32) rfl) rfl
theorem mw_567 : (Jvm.Cond.methodLink "RoofWar" (200 : Nat) ({ cls := "RoofWar$Hill", name := "mayCarry", desc := "(I)I" } : Jvm.MethodName)) ∈ WT := WT_3 (List.mem_of_getElem? (i := 33) rfl) rfl
theorem mw_568 : (Jvm.Cond.methodLink "RoofWar" (203 : Nat) ({ cls := "RoofWar$Hill", name := "homeOf", desc := "(I)I" } : Jvm.MethodName)) ∈ WT := WT_3 (List.mem_of_getElem? (i := 34) rfl) rfl
theorem mw_569 : (Jvm.Cond.methodLink "RoofWarLaw" (73 : Nat) ({ cls := "RoofWar", name := "steals", desc := "(I)I" } : Jvm.MethodName)) ∈ WT := WT_3 (List.mem_of_getElem? (i := 35) rfl) rfl
theorem mw_570 : (Jvm.Cond.instanceMethod ({ cls := "RoofWar", name := "steals", desc := "(I)I" } : Jvm.MethodName)) ∈ WT := WT_3 (List.mem_of_getElem? (i := 36) rfl) rfl
theorem mw_571 : (Jvm.Cond.selects "RoofWar" ({ cls := "RoofWar", name := "steals", desc := "(I)I" } : Jvm.MethodName) ({ cls := "RoofWar", name := "steals", desc := "(I)I" } : Jvm.MethodName)) ∈ WT := WT_3 (List.mem_of_getElem? (i := 37) rfl) rfl
theorem mw_572 : (Jvm.Cond.code ({ cls := "RoofWar", name := "steals", desc := "(I)I" } : Jvm.MethodName) prog_1_method_16_code (4 : Nat) (Option.some Jvm.ClassFile.FieldType.int)) ∈ WT := WT_3 (List.mem_of_getElem? (i := 38) rfl) rfl
theorem mw_573 : (Jvm.Cond.methodLink "RoofWar" (206 : Nat) ({ cls := "RoofWar", name := "townOf", desc := "(I)I" } : Jvm.MethodName)) ∈ WT := WT_3 (List.mem_of_getElem? (i := 39) rfl) rfl
theorem mw_574 : (Jvm.Cond.methodLink "RoofWar" (209 : Nat) ({ cls := "RoofWar", name := "otherTown", desc := "(I)I" } : Jvm.MethodName)) ∈ WT := WT_3 (List.mem_of_getElem? (i := 40) rfl) rfl
theorem mw_575 : (Jvm.Cond.methodLink "RoofWar" (212 : Nat) ({ cls := "RoofWar", name := "inSet", desc := "(II)Z" } : Jvm.MethodName)) ∈ WT := WT_3 (List.mem_of_getElem? (i := 41) rfl) rfl
theorem mw_576 : (Jvm.Cond.methodLink "RoofWar" (215 : Nat) ({ cls := "RoofWar$Hill", name := "carry", desc := "(II)V" } : Jvm.MethodName)) ∈ WT := WT_3 (List.mem_of_getElem? (i := 42) rfl) rfl
theorem mw_577 : (Jvm.Cond.methodLink "RoofWarLaw" (77 : Nat) ({ cls := "RoofWar", name := "fits", desc := "(II)I" } : Jvm.MethodName)) ∈ WT := WT_3 (List.mem_of_getElem? (i := 43) rfl) rfl
theorem mw_578 : (Jvm.Cond.instanceMethod ({ cls := "RoofWar", name := "fits", desc := "(II)I" } : Jvm.MethodName)) ∈ WT := WT_3 (List.mem_of_getElem? (i := 44) rfl) rfl
theorem mw_579 : (Jvm.Cond.selects "RoofWar" ({ cls := "RoofWar", name := "fits", desc := "(II)I" } : Jvm.MethodName) ({ cls := "RoofWar", name := "fits", desc := "(II)I" } : Jvm.MethodName)) ∈ WT := WT_3 (List.mem_of_getElem? (i := 45) rfl) rfl
theorem mw_580 : (Jvm.Cond.code ({ cls := "RoofWar", name := "fits", desc := "(II)I" } : Jvm.MethodName) prog_1_method_17_code (3 : Nat) (Option.some Jvm.ClassFile.FieldType.int)) ∈ WT := WT_3 (List.mem_of_getElem? (i := 46) rfl) rfl
theorem mw_581 : (Jvm.Cond.methodLink "RoofWar" (218 : Nat) ({ cls := "RoofWar$Fitting", name := "think", desc := "(LRoofWar$Hill;I)V" } : Jvm.MethodName)) ∈ WT := WT_3 (List.mem_of_getElem? (i := 47) rfl) rfl
theorem mw_582 : (Jvm.Cond.instanceMethod ({ cls := "RoofWar$Fitting", name := "think", desc := "(LRoofWar$Hill;I)V" } : Jvm.MethodName)) ∈ WT := WT_3 (List.mem_of_getElem? (i := 48) rfl) rfl
theorem mw_583 : (Jvm.Cond.selects "RoofWar$Fitting" ({ cls := "RoofWar$Fitting", name := "think", desc := "(LRoofWar$Hill;I)V" } : Jvm.MethodName) ({ cls := "RoofWar$Fitting", name := "think", desc := "(LRoofWar$Hill;I)V" } : Jvm.MethodName)) ∈ WT := WT_3 (List.mem_of_getElem? (i := 49) rfl) rfl
theorem mw_584 : (Jvm.Cond.code ({ cls := "RoofWar$Fitting", name := "think", desc := "(LRoofWar$Hill;I)V" } : Jvm.MethodName) prog_2_method_2_code (5 : Nat) (Option.none : Option Jvm.ClassFile.FieldType)) ∈ WT := WT_3 (List.mem_of_getElem? (i := 50) rfl) rfl
theorem mw_585 : (Jvm.Cond.methodLink "RoofWar$Fitting" (38 : Nat) ({ cls := "RoofWar$Fitting", name := "mostFrom", desc := "(LRoofWar$Hill;III)I" } : Jvm.MethodName)) ∈ WT := WT_3 (List.mem_of_getElem? (i := 52) rfl) rfl
theorem mw_586 : (Jvm.Cond.instanceMethod ({ cls := "RoofWar$Fitting", name := "mostFrom", desc := "(LRoofWar$Hill;III)I" } : Jvm.MethodName)) ∈ WT := WT_3 (List.mem_of_getElem? (i := 54) rfl) rfl
theorem mw_587 : (Jvm.Cond.code ({ cls := "RoofWar$Fitting", name := "mostFrom", desc := "(LRoofWar$Hill;III)I" } : Jvm.MethodName) prog_2_method_6_code (7 : Nat) (Option.some Jvm.ClassFile.FieldType.int)) ∈ WT := WT_3 (List.mem_of_getElem? (i := 55) rfl) rfl
theorem mw_588 : (Jvm.Cond.methodLink "RoofWar$Fitting" (57 : Nat) ({ cls := "RoofWar$Fitting", name := "dryWith", desc := "(LRoofWar$Hill;IIII)I" } : Jvm.MethodName)) ∈ WT := WT_3 (List.mem_of_getElem? (i := 57) rfl) rfl
theorem mw_589 : (Jvm.Cond.instanceMethod ({ cls := "RoofWar$Fitting", name := "dryWith", desc := "(LRoofWar$Hill;IIII)I" } : Jvm.MethodName)) ∈ WT := WT_3 (List.mem_of_getElem? (i := 59) rfl) rfl
theorem mw_590 : (Jvm.Cond.code ({ cls := "RoofWar$Fitting", name := "dryWith", desc := "(LRoofWar$Hill;IIII)I" } : Jvm.MethodName) prog_2_method_5_code (6 : Nat) (Option.some Jvm.ClassFile.FieldType.int)) ∈ WT := WT_3 (List.mem_of_getElem? (i := 60) rfl) rfl
theorem mw_591 : (Jvm.Cond.methodLink "RoofWar$Fitting" (49 : Nat) ({ cls := "RoofWar$Hill", name := "dryWere", desc := "(II)I" } : Jvm.MethodName)) ∈ WT := WT_3 (List.mem_of_getElem? (i := 62) rfl) rfl
theorem mw_592 : (Jvm.Cond.methodLink "RoofWar$Fitting" (61 : Nat) ({ cls := "java/lang/Math", name := "max", desc := "(II)I" } : Jvm.MethodName)) ∈ WT := WT_3 (List.mem_of_getElem? (i := 63) rfl) rfl
theorem mw_593 : (Jvm.Cond.methodLink "RoofWar$Fitting" (42 : Nat) ({ cls := "RoofWar$Fitting", name := "choose", desc := "(LRoofWar$Hill;I)V" } : Jvm.MethodName)) ∈ WT := WT_3 (List.mem_of_getElem? (i := 64) rfl) rfl
theorem mw_594 : (Jvm.Cond.instanceMethod ({ cls := "RoofWar$Fitting", name := "choose", desc := "(LRoofWar$Hill;I)V" } : Jvm.MethodName)) ∈ WT := WT_3 (List.mem_of_getElem? (i := 66) rfl) rfl
theorem mw_595 : (Jvm.Cond.code ({ cls := "RoofWar$Fitting", name := "choose", desc := "(LRoofWar$Hill;I)V" } : Jvm.MethodName) prog_2_method_7_code (6 : Nat) (Option.none : Option Jvm.ClassFile.FieldType)) ∈ WT := WT_3 (List.mem_of_getElem? (i := 67) rfl) rfl
theorem mw_596 : (Jvm.Cond.methodLink "RoofWar$Fitting" (66 : Nat) ({ cls := "RoofWar$Fitting", name := "leastOfBest", desc := "(LRoofWar$Hill;III)I" } : Jvm.MethodName)) ∈ WT := WT_3 (List.mem_of_getElem? (i := 68) rfl) rfl
theorem mw_597 : (Jvm.Cond.instanceMethod ({ cls := "RoofWar$Fitting", name := "leastOfBest", desc := "(LRoofWar$Hill;III)I" } : Jvm.MethodName)) ∈ WT := WT_3 (List.mem_of_getElem? (i := 70) rfl) rfl
theorem mw_598 : (Jvm.Cond.code ({ cls := "RoofWar$Fitting", name := "leastOfBest", desc := "(LRoofWar$Hill;III)I" } : Jvm.MethodName) prog_2_method_8_code (6 : Nat) (Option.some Jvm.ClassFile.FieldType.int)) ∈ WT := WT_3 (List.mem_of_getElem? (i := 71) rfl) rfl
theorem mw_599 : (Jvm.Cond.constant "RoofWar$Fitting" (69 : Nat) (-1000000005 : Int32)) ∈ WT := WT_3 (List.mem_of_getElem? (i := 72) rfl) rfl
theorem mw_600 : (Jvm.Cond.methodLink "RoofWar" (222 : Nat) ({ cls := "RoofWar$Fitting", name := "dry", desc := "()I" } : Jvm.MethodName)) ∈ WT := WT_3 (List.mem_of_getElem? (i := 73) rfl) rfl
theorem mw_601 : (Jvm.Cond.instanceMethod ({ cls := "RoofWar$Fitting", name := "dry", desc := "()I" } : Jvm.MethodName)) ∈ WT := WT_3 (List.mem_of_getElem? (i := 74) rfl) rfl
theorem mw_602 : (Jvm.Cond.selects "RoofWar$Fitting" ({ cls := "RoofWar$Fitting", name := "dry", desc := "()I" } : Jvm.MethodName) ({ cls := "RoofWar$Fitting", name := "dry", desc := "()I" } : Jvm.MethodName)) ∈ WT := WT_3 (List.mem_of_getElem? (i := 75) rfl) rfl
theorem mw_603 : (Jvm.Cond.code ({ cls := "RoofWar$Fitting", name := "dry", desc := "()I" } : Jvm.MethodName) prog_2_method_3_code (1 : Nat) (Option.some Jvm.ClassFile.FieldType.int)) ∈ WT := WT_3 (List.mem_of_getElem? (i := 76) rfl) rfl
theorem mw_604 : (Jvm.Cond.methodLink "RoofWar" (225 : Nat) ({ cls := "RoofWar$Fitting", name := "roofFor", desc := "(I)I" } : Jvm.MethodName)) ∈ WT := WT_3 (List.mem_of_getElem? (i := 77) rfl) rfl
theorem mw_605 : (Jvm.Cond.instanceMethod ({ cls := "RoofWar$Fitting", name := "roofFor", desc := "(I)I" } : Jvm.MethodName)) ∈ WT := WT_3 (List.mem_of_getElem? (i := 78) rfl) rfl
theorem mw_606 : (Jvm.Cond.selects "RoofWar$Fitting" ({ cls := "RoofWar$Fitting", name := "roofFor", desc := "(I)I" } : Jvm.MethodName) ({ cls := "RoofWar$Fitting", name := "roofFor", desc := "(I)I" } : Jvm.MethodName)) ∈ WT := WT_3 (List.mem_of_getElem? (i := 79) rfl) rfl
theorem mw_607 : (Jvm.Cond.code ({ cls := "RoofWar$Fitting", name := "roofFor", desc := "(I)I" } : Jvm.MethodName) prog_2_method_4_code (2 : Nat) (Option.some Jvm.ClassFile.FieldType.int)) ∈ WT := WT_3 (List.mem_of_getElem? (i := 80) rfl) rfl
theorem mw_608 : (Jvm.Cond.methodLink "RoofWarLaw" (81 : Nat) ({ cls := "RoofWar", name := "prize", desc := "(II)I" } : Jvm.MethodName)) ∈ WT := WT_3 (List.mem_of_getElem? (i := 81) rfl) rfl
theorem mw_609 : (Jvm.Cond.instanceMethod ({ cls := "RoofWar", name := "prize", desc := "(II)I" } : Jvm.MethodName)) ∈ WT := WT_3 (List.mem_of_getElem? (i := 82) rfl) rfl
theorem mw_610 : (Jvm.Cond.selects "RoofWar" ({ cls := "RoofWar", name := "prize", desc := "(II)I" } : Jvm.MethodName) ({ cls := "RoofWar", name := "prize", desc := "(II)I" } : Jvm.MethodName)) ∈ WT := WT_3 (List.mem_of_getElem? (i := 83) rfl) rfl
theorem mw_611 : (Jvm.Cond.code ({ cls := "RoofWar", name := "prize", desc := "(II)I" } : Jvm.MethodName) prog_1_method_18_code (10 : Nat) (Option.some Jvm.ClassFile.FieldType.int)) ∈ WT := WT_3 (List.mem_of_getElem? (i := 84) rfl) rfl
theorem mw_612 : (Jvm.Cond.methodLink "RoofWar" (228 : Nat) ({ cls := "RoofWar$Hill", name := "dryWere", desc := "(II)I" } : Jvm.MethodName)) ∈ WT := WT_3 (List.mem_of_getElem? (i := 85) rfl) rfl
theorem mw_613 : (Jvm.Cond.methodLink "RoofWarLaw" (85 : Nat) ({ cls := "RoofWar", name := "behind", desc := "(II)I" } : Jvm.MethodName)) ∈ WT := WT_3 (List.mem_of_getElem? (i := 86) rfl) rfl
theorem mw_614 : (Jvm.Cond.instanceMethod ({ cls := "RoofWar", name := "behind", desc := "(II)I" } : Jvm.MethodName)) ∈ WT := WT_3 (List.mem_of_getElem? (i := 87) rfl) rfl
theorem mw_615 : (Jvm.Cond.selects "RoofWar" ({ cls := "RoofWar", name := "behind", desc := "(II)I" } : Jvm.MethodName) ({ cls := "RoofWar", name := "behind", desc := "(II)I" } : Jvm.MethodName)) ∈ WT := WT_3 (List.mem_of_getElem? (i := 88) rfl) rfl
theorem mw_616 : (Jvm.Cond.code ({ cls := "RoofWar", name := "behind", desc := "(II)I" } : Jvm.MethodName) prog_1_method_19_code (3 : Nat) (Option.some Jvm.ClassFile.FieldType.int)) ∈ WT := WT_3 (List.mem_of_getElem? (i := 89) rfl) rfl
theorem mw_617 : (Jvm.Cond.methodLink "RoofWar" (231 : Nat) ({ cls := "RoofWar$Hill", name := "becomeLike", desc := "(LRoofWar$Hill;)V" } : Jvm.MethodName)) ∈ WT := WT_3 (List.mem_of_getElem? (i := 90) rfl) rfl
theorem mw_618 : (Jvm.Cond.instanceMethod ({ cls := "RoofWar$Hill", name := "becomeLike", desc := "(LRoofWar$Hill;)V" } : Jvm.MethodName)) ∈ WT := WT_3 (List.mem_of_getElem? (i := 91) rfl) rfl
theorem mw_619 : (Jvm.Cond.selects "RoofWar$Hill" ({ cls := "RoofWar$Hill", name := "becomeLike", desc := "(LRoofWar$Hill;)V" } : Jvm.MethodName) ({ cls := "RoofWar$Hill", name := "becomeLike", desc := "(LRoofWar$Hill;)V" } : Jvm.MethodName)) ∈ WT := WT_3 (List.mem_of_getElem? (i := 92) rfl) rfl
theorem mw_620 : (Jvm.Cond.code ({ cls := "RoofWar$Hill", name := "becomeLike", desc := "(LRoofWar$Hill;)V" } : Jvm.MethodName) prog_3_method_2_code (2 : Nat) (Option.none : Option Jvm.ClassFile.FieldType)) ∈ WT := WT_3 (List.mem_of_getElem? (i := 93) rfl) rfl
theorem mw_621 : (Jvm.Cond.methodLink "RoofWar$Hill" (48 : Nat) ({ cls := "java/lang/System", name := "arraycopy", desc := "(Ljava/lang/Object;ILjava/lang/Object;II)V" } : Jvm.MethodName)) ∈ WT := WT_3 (List.mem_of_getElem? (i := 94) rfl) rfl
theorem mw_622 : (Jvm.Cond.static ({ cls := "java/lang/System", name := "arraycopy", desc := "(Ljava/lang/Object;ILjava/lang/Object;II)V" } : Jvm.MethodName)) ∈ WT := WT_3 (List.mem_of_getElem? (i := 95) rfl) rfl
theorem mw_623 : (Jvm.Cond.native ({ cls := "java/lang/System", name := "arraycopy", desc := "(Ljava/lang/Object;ILjava/lang/Object;II)V" } : Jvm.MethodName)) ∈ WT := WT_3 (List.mem_of_getElem? (i := 96) rfl) rfl
theorem mw_624 : (Jvm.Cond.methodLink "RoofWarLaw" (89 : Nat) ({ cls := "RoofWar", name := "gone", desc := "(I)I" } : Jvm.MethodName)) ∈ WT := WT_3 (List.mem_of_getElem? (i := 97) rfl) rfl
theorem mw_625 : (Jvm.Cond.instanceMethod ({ cls := "RoofWar", name := "gone", desc := "(I)I" } : Jvm.MethodName)) ∈ WT := WT_3 (List.mem_of_getElem? (i := 98) rfl) rfl
theorem mw_626 : (Jvm.Cond.selects "RoofWar" ({ cls := "RoofWar", name := "gone", desc := "(I)I" } : Jvm.MethodName) ({ cls := "RoofWar", name := "gone", desc := "(I)I" } : Jvm.MethodName)) ∈ WT := WT_3 (List.mem_of_getElem? (i := 99) rfl) rfl
theorem mw_627 : (Jvm.Cond.code ({ cls := "RoofWar", name := "gone", desc := "(I)I" } : Jvm.MethodName) prog_1_method_20_code (4 : Nat) (Option.some Jvm.ClassFile.FieldType.int)) ∈ WT := WT_3 (List.mem_of_getElem? (i := 100) rfl) rfl
theorem mw_628 : (Jvm.Cond.methodLink "RoofWarLaw" (93 : Nat) ({ cls := "RoofWar", name := "guard", desc := "(III)I" } : Jvm.MethodName)) ∈ WT := WT_3 (List.mem_of_getElem? (i := 101) rfl) rfl
theorem mw_629 : (Jvm.Cond.instanceMethod ({ cls := "RoofWar", name := "guard", desc := "(III)I" } : Jvm.MethodName)) ∈ WT := WT_3 (List.mem_of_getElem? (i := 102) rfl) rfl
theorem mw_630 : (Jvm.Cond.selects "RoofWar" ({ cls := "RoofWar", name := "guard", desc := "(III)I" } : Jvm.MethodName) ({ cls := "RoofWar", name := "guard", desc := "(III)I" } : Jvm.MethodName)) ∈ WT := WT_3 (List.mem_of_getElem? (i := 103) rfl) rfl
theorem mw_631 : (Jvm.Cond.code ({ cls := "RoofWar", name := "guard", desc := "(III)I" } : Jvm.MethodName) prog_1_method_21_code (9 : Nat) (Option.some Jvm.ClassFile.FieldType.int)) ∈ WT := WT_3 (List.mem_of_getElem? (i := 104) rfl) rfl
theorem mw_632 : (Jvm.Cond.methodLink "RoofWar" (235 : Nat) ({ cls := "RoofWar", name := "firstHouse", desc := "(I)I" } : Jvm.MethodName)) ∈ WT := WT_3 (List.mem_of_getElem? (i := 105) rfl) rfl
theorem mw_633 : (Jvm.Cond.methodLink "RoofWarLaw" (97 : Nat) ({ cls := "RoofWar", name := "becomes", desc := "(III)I" } : Jvm.MethodName)) ∈ WT := WT_3 (List.mem_of_getElem? (i := 106) rfl) rfl
theorem mw_634 : (Jvm.Cond.instanceMethod ({ cls := "RoofWar", name := "becomes", desc := "(III)I" } : Jvm.MethodName)) ∈ WT := WT_3 (List.mem_of_getElem? (i := 107) rfl) rfl
theorem mw_635 : (Jvm.Cond.selects "RoofWar" ({ cls := "RoofWar", name := "becomes", desc := "(III)I" } : Jvm.MethodName) ({ cls := "RoofWar", name := "becomes", desc := "(III)I" } : Jvm.MethodName)) ∈ WT := WT_3 (List.mem_of_getElem? (i := 108) rfl) rfl
theorem mw_636 : (Jvm.Cond.code ({ cls := "RoofWar", name := "becomes", desc := "(III)I" } : Jvm.MethodName) prog_1_method_22_code (9 : Nat) (Option.some Jvm.ClassFile.FieldType.int)) ∈ WT := WT_3 (List.mem_of_getElem? (i := 109) rfl) rfl
theorem mw_637 : (Jvm.Cond.methodLink "RoofWarLaw" (101 : Nat) ({ cls := "RoofWar", name := "like", desc := "(II)I" } : Jvm.MethodName)) ∈ WT := WT_3 (List.mem_of_getElem? (i := 110) rfl) rfl
theorem mw_638 : (Jvm.Cond.instanceMethod ({ cls := "RoofWar", name := "like", desc := "(II)I" } : Jvm.MethodName)) ∈ WT := WT_3 (List.mem_of_getElem? (i := 111) rfl) rfl
theorem mw_639 : (Jvm.Cond.selects "RoofWar" ({ cls := "RoofWar", name := "like", desc := "(II)I" } : Jvm.MethodName) ({ cls := "RoofWar", name := "like", desc := "(II)I" } : Jvm.MethodName)) ∈ WT := WT_3 (List.mem_of_getElem? (i := 112) rfl) rfl
theorem mw_640 : (Jvm.Cond.code ({ cls := "RoofWar", name := "like", desc := "(II)I" } : Jvm.MethodName) prog_1_method_23_code (6 : Nat) (Option.some Jvm.ClassFile.FieldType.int)) ∈ WT := WT_3 (List.mem_of_getElem? (i := 113) rfl) rfl
theorem mw_641 : (Jvm.Cond.methodLink "RoofWar" (238 : Nat) ({ cls := "RoofWar", name := "isSheet", desc := "(I)Z" } : Jvm.MethodName)) ∈ WT := WT_3 (List.mem_of_getElem? (i := 114) rfl) rfl
theorem mw_642 : (Jvm.Cond.static ({ cls := "RoofWar", name := "isSheet", desc := "(I)Z" } : Jvm.MethodName)) ∈ WT := WT_3 (List.mem_of_getElem? (i := 115) rfl) rfl
theorem mw_643 : (Jvm.Cond.code ({ cls := "RoofWar", name := "isSheet", desc := "(I)Z" } : Jvm.MethodName) prog_1_method_51_code (1 : Nat) (Option.some Jvm.ClassFile.FieldType.boolean)) ∈ WT := WT_3 (List.mem_of_getElem? (i := 116) rfl) rfl
theorem mw_644 : (Jvm.Cond.methodLink "RoofWar" (241 : Nat) ({ cls := "RoofWar$Row", name := "isMissing", desc := "()Z" } : Jvm.MethodName)) ∈ WT := WT_3 (List.mem_of_getElem? (i := 117) rfl) rfl
theorem mw_645 : (Jvm.Cond.instanceMethod ({ cls := "RoofWar$Row", name := "isMissing", desc := "()Z" } : Jvm.MethodName)) ∈ WT := WT_3 (List.mem_of_getElem? (i := 118) rfl) rfl
theorem mw_646 : (Jvm.Cond.selects "RoofWar$Row" ({ cls := "RoofWar$Row", name := "isMissing", desc := "()Z" } : Jvm.MethodName) ({ cls := "RoofWar$Row", name := "isMissing", desc := "()Z" } : Jvm.MethodName)) ∈ WT := WT_3 (List.mem_of_getElem? (i := 119) rfl) rfl
theorem mw_647 : (Jvm.Cond.code ({ cls := "RoofWar$Row", name := "isMissing", desc := "()Z" } : Jvm.MethodName) prog_8_method_4_code (1 : Nat) (Option.some Jvm.ClassFile.FieldType.boolean)) ∈ WT := WT_3 (List.mem_of_getElem? (i := 120) rfl) rfl
theorem mw_648 : (Jvm.Cond.constant "RoofWar" (245 : Nat) (-1000000011 : Int32)) ∈ WT := WT_3 (List.mem_of_getElem? (i := 121) rfl) rfl
theorem mw_649 : (Jvm.Cond.methodLink "RoofWar" (246 : Nat) ({ cls := "RoofWar", name := "countHits", desc := "(LRoofWar$Row;)V" } : Jvm.MethodName)) ∈ WT := WT_3 (List.mem_of_getElem? (i := 122) rfl) rfl
theorem mw_650 : (Jvm.Cond.instanceMethod ({ cls := "RoofWar", name := "countHits", desc := "(LRoofWar$Row;)V" } : Jvm.MethodName)) ∈ WT := WT_3 (List.mem_of_getElem? (i := 124) rfl) rfl
theorem mw_651 : (Jvm.Cond.code ({ cls := "RoofWar", name := "countHits", desc := "(LRoofWar$Row;)V" } : Jvm.MethodName) prog_1_method_58_code (4 : Nat) (Option.none : Option Jvm.ClassFile.FieldType)) ∈ WT := WT_3 (List.mem_of_getElem? (i := 125) rfl) rfl
theorem mw_652 : (Jvm.Cond.methodLink "RoofWar" (303 : Nat) ({ cls := "RoofWar$Row", name := "isNumber", desc := "(I)Z" } : Jvm.MethodName)) ∈ WT := WT_3 (List.mem_of_getElem? (i := 126) rfl) rfl
theorem mw_653 : (Jvm.Cond.instanceMethod ({ cls := "RoofWar$Row", name := "isNumber", desc := "(I)Z" } : Jvm.MethodName)) ∈ WT := WT_3 (List.mem_of_getElem? (i := 127) rfl) rfl
theorem mw_654 : (Jvm.Cond.selects "RoofWar$Row" ({ cls := "RoofWar$Row", name := "isNumber", desc := "(I)Z" } : Jvm.MethodName) ({ cls := "RoofWar$Row", name := "isNumber", desc := "(I)Z" } : Jvm.MethodName)) ∈ WT := WT_3 (List.mem_of_getElem? (i := 128) rfl) rfl
theorem mw_655 : (Jvm.Cond.code ({ cls := "RoofWar$Row", name := "isNumber", desc := "(I)Z" } : Jvm.MethodName) prog_8_method_7_code (2 : Nat) (Option.some Jvm.ClassFile.FieldType.boolean)) ∈ WT := WT_3 (List.mem_of_getElem? (i := 129) rfl) rfl
theorem mw_656 : (Jvm.Cond.constant "RoofWar$Row" (28 : Nat) (-1000000005 : Int32)) ∈ WT := WT_3 (List.mem_of_getElem? (i := 130) rfl) rfl
theorem mw_657 : (Jvm.Cond.methodLink "RoofWarLaw" (105 : Nat) ({ cls := "RoofWar", name := "fee", desc := "()I" } : Jvm.MethodName)) ∈ WT := WT_3 (List.mem_of_getElem? (i := 131) rfl) rfl
theorem mw_658 : (Jvm.Cond.instanceMethod ({ cls := "RoofWar", name := "fee", desc := "()I" } : Jvm.MethodName)) ∈ WT := WT_3 (List.mem_of_getElem? (i := 132) rfl) rfl
theorem mw_659 : (Jvm.Cond.selects "RoofWar" ({ cls := "RoofWar", name := "fee", desc := "()I" } : Jvm.MethodName) ({ cls := "RoofWar", name := "fee", desc := "()I" } : Jvm.MethodName)) ∈ WT := WT_3 (List.mem_of_getElem? (i := 133) rfl) rfl
theorem mw_660 : (Jvm.Cond.code ({ cls := "RoofWar", name := "fee", desc := "()I" } : Jvm.MethodName) prog_1_method_24_code (2 : Nat) (Option.some Jvm.ClassFile.FieldType.int)) ∈ WT := WT_3 (List.mem_of_getElem? (i := 134) rfl) rfl
theorem mw_661 : (Jvm.Cond.methodLink "RoofWar" (253 : Nat) ({ cls := "RoofWar$Laws", name := "counting", desc := "(II)LRoofWar$Law;" } : Jvm.MethodName)) ∈ WT := WT_3 (List.mem_of_getElem? (i := 135) rfl) rfl
theorem mw_662 : (Jvm.Cond.methodLink "RoofWar" (257 : Nat) ({ cls := "RoofWar$Laws", name := "workOut", desc := "(LRoofWar$Law;III)I" } : Jvm.MethodName)) ∈ WT := WT_3 (List.mem_of_getElem? (i := 136) rfl) rfl
theorem mw_663 : (Jvm.Cond.methodLink "RoofWarLaw" (110 : Nat) ({ cls := "RoofWar", name := "fine", desc := "(I)I" } : Jvm.MethodName)) ∈ WT := WT_3 (List.mem_of_getElem? (i := 137) rfl) rfl
theorem mw_664 : (Jvm.Cond.instanceMethod ({ cls := "RoofWar", name := "fine", desc := "(I)I" } : Jvm.MethodName)) ∈ WT := WT_3 (List.mem_of_getElem? (i := 138) rfl) rfl
theorem mw_665 : (Jvm.Cond.selects "RoofWar" ({ cls := "RoofWar", name := "fine", desc := "(I)I" } : Jvm.MethodName) ({ cls := "RoofWar", name := "fine", desc := "(I)I" } : Jvm.MethodName)) ∈ WT := WT_3 (List.mem_of_getElem? (i := 139) rfl) rfl
theorem mw_666 : (Jvm.Cond.code ({ cls := "RoofWar", name := "fine", desc := "(I)I" } : Jvm.MethodName) prog_1_method_25_code (3 : Nat) (Option.some Jvm.ClassFile.FieldType.int)) ∈ WT := WT_3 (List.mem_of_getElem? (i := 140) rfl) rfl
theorem mw_667 : (Jvm.Cond.methodLink "RoofWarLaw" (114 : Nat) ({ cls := "RoofWar", name := "feed", desc := "(III)I" } : Jvm.MethodName)) ∈ WT := WT_3 (List.mem_of_getElem? (i := 141) rfl) rfl
theorem mw_668 : (Jvm.Cond.instanceMethod ({ cls := "RoofWar", name := "feed", desc := "(III)I" } : Jvm.MethodName)) ∈ WT := WT_3 (List.mem_of_getElem? (i := 142) rfl) rfl
theorem mw_669 : (Jvm.Cond.selects "RoofWar" ({ cls := "RoofWar", name := "feed", desc := "(III)I" } : Jvm.MethodName) ({ cls := "RoofWar", name := "feed", desc := "(III)I" } : Jvm.MethodName)) ∈ WT := WT_3 (List.mem_of_getElem? (i := 143) rfl) rfl
theorem mw_670 : (Jvm.Cond.code ({ cls := "RoofWar", name := "feed", desc := "(III)I" } : Jvm.MethodName) prog_1_method_26_code (4 : Nat) (Option.some Jvm.ClassFile.FieldType.int)) ∈ WT := WT_3 (List.mem_of_getElem? (i := 144) rfl) rfl
theorem mw_671 : (Jvm.Cond.methodLink "RoofWar" (264 : Nat) ({ cls := "RoofWar$Tape", name := "add", desc := "(I)V" } : Jvm.MethodName)) ∈ WT := WT_3 (List.mem_of_getElem? (i := 145) rfl) rfl
theorem mw_672 : (Jvm.Cond.instanceMethod ({ cls := "RoofWar$Tape", name := "add", desc := "(I)V" } : Jvm.MethodName)) ∈ WT := WT_3 (List.mem_of_getElem? (i := 146) rfl) rfl
theorem mw_673 : (Jvm.Cond.selects "RoofWar$Tape" ({ cls := "RoofWar$Tape", name := "add", desc := "(I)V" } : Jvm.MethodName) ({ cls := "RoofWar$Tape", name := "add", desc := "(I)V" } : Jvm.MethodName)) ∈ WT := WT_3 (List.mem_of_getElem? (i := 147) rfl) rfl
theorem mw_674 : (Jvm.Cond.code ({ cls := "RoofWar$Tape", name := "add", desc := "(I)V" } : Jvm.MethodName) prog_10_method_2_code (3 : Nat) (Option.none : Option Jvm.ClassFile.FieldType)) ∈ WT := WT_3 (List.mem_of_getElem? (i := 148) rfl) rfl
theorem mw_675 : (Jvm.Cond.methodLink "RoofWarLaw" (118 : Nat) ({ cls := "RoofWar", name := "trim", desc := "(I)I" } : Jvm.MethodName)) ∈ WT := WT_3 (List.mem_of_getElem? (i := 149) rfl) rfl
theorem mw_676 : (Jvm.Cond.instanceMethod ({ cls := "RoofWar", name := "trim", desc := "(I)I" } : Jvm.MethodName)) ∈ WT := WT_3 (List.mem_of_getElem? (i := 150) rfl) rfl
theorem mw_677 : (Jvm.Cond.selects "RoofWar" ({ cls := "RoofWar", name := "trim", desc := "(I)I" } : Jvm.MethodName) ({ cls := "RoofWar", name := "trim", desc := "(I)I" } : Jvm.MethodName)) ∈ WT := WT_3 (List.mem_of_getElem? (i := 151) rfl) rfl
theorem mw_678 : (Jvm.Cond.code ({ cls := "RoofWar", name := "trim", desc := "(I)I" } : Jvm.MethodName) prog_1_method_27_code (2 : Nat) (Option.some Jvm.ClassFile.FieldType.int)) ∈ WT := WT_3 (List.mem_of_getElem? (i := 152) rfl) rfl
theorem mw_679 : (Jvm.Cond.methodLink "RoofWarLaw" (122 : Nat) ({ cls := "RoofWar", name := "text", desc := "()I" } : Jvm.MethodName)) ∈ WT := WT_3 (List.mem_of_getElem? (i := 153) rfl) rfl
theorem mw_680 : (Jvm.Cond.instanceMethod ({ cls := "RoofWar", name := "text", desc := "()I" } : Jvm.MethodName)) ∈ WT := WT_3 (List.mem_of_getElem? (i := 154) rfl) rfl
theorem mw_681 : (Jvm.Cond.selects "RoofWar" ({ cls := "RoofWar", name := "text", desc := "()I" } : Jvm.MethodName) ({ cls := "RoofWar", name := "text", desc := "()I" } : Jvm.MethodName)) ∈ WT := WT_3 (List.mem_of_getElem? (i := 155) rfl) rfl
theorem mw_682 : (Jvm.Cond.code ({ cls := "RoofWar", name := "text", desc := "()I" } : Jvm.MethodName) prog_1_method_28_code (3 : Nat) (Option.some Jvm.ClassFile.FieldType.int)) ∈ WT := WT_3 (List.mem_of_getElem? (i := 156) rfl) rfl
theorem mw_683 : (Jvm.Cond.methodLink "RoofWar" (271 : Nat) ({ cls := "RoofWar$Reader", name := "faultIn", desc := "(LRoofWar$Law;)I" } : Jvm.MethodName)) ∈ WT := WT_3 (List.mem_of_getElem? (i := 157) rfl) rfl
theorem mw_684 : (Jvm.Cond.instanceMethod ({ cls := "RoofWar$Reader", name := "faultIn", desc := "(LRoofWar$Law;)I" } : Jvm.MethodName)) ∈ WT := WT_3 (List.mem_of_getElem? (i := 158) rfl) rfl
theorem mw_685 : (Jvm.Cond.selects "RoofWar$Reader" ({ cls := "RoofWar$Reader", name := "faultIn", desc := "(LRoofWar$Law;)I" } : Jvm.MethodName) ({ cls := "RoofWar$Reader", name := "faultIn", desc := "(LRoofWar$Law;)I" } : Jvm.MethodName)) ∈ WT := WT_3 (List.mem_of_getElem? (i := 159) rfl) rfl
theorem mw_686 : (Jvm.Cond.code ({ cls := "RoofWar$Reader", name := "faultIn", desc := "(LRoofWar$Law;)I" } : Jvm.MethodName) prog_7_method_2_code (2 : Nat) (Option.some Jvm.ClassFile.FieldType.int)) ∈ WT := WT_3 (List.mem_of_getElem? (i := 160) rfl) rfl
theorem mw_687 : (Jvm.Cond.methodLink "RoofWar$Reader" (19 : Nat) ({ cls := "RoofWar$Law", name := "clear", desc := "()V" } : Jvm.MethodName)) ∈ WT := WT_3 (List.mem_of_getElem? (i := 161) rfl) rfl
theorem mw_688 : (Jvm.Cond.instanceMethod ({ cls := "RoofWar$Law", name := "clear", desc := "()V" } : Jvm.MethodName)) ∈ WT := WT_3 (List.mem_of_getElem? (i := 162) rfl) rfl
theorem mw_689 : (Jvm.Cond.selects "RoofWar$Law" ({ cls := "RoofWar$Law", name := "clear", desc := "()V" } : Jvm.MethodName) ({ cls := "RoofWar$Law", name := "clear", desc := "()V" } : Jvm.MethodName)) ∈ WT := WT_3 (List.mem_of_getElem? (i := 163) rfl) rfl
theorem mw_690 : (Jvm.Cond.code ({ cls := "RoofWar$Law", name := "clear", desc := "()V" } : Jvm.MethodName) prog_5_method_2_code (1 : Nat) (Option.none : Option Jvm.ClassFile.FieldType)) ∈ WT := WT_3 (List.mem_of_getElem? (i := 164) rfl) rfl
theorem mw_691 : (Jvm.Cond.methodLink "RoofWar$Reader" (37 : Nat) ({ cls := "RoofWar$Reader", name := "step", desc := "()V" } : Jvm.MethodName)) ∈ WT := WT_3 (List.mem_of_getElem? (i := 165) rfl) rfl
theorem mw_692 : (Jvm.Cond.instanceMethod ({ cls := "RoofWar$Reader", name := "step", desc := "()V" } : Jvm.MethodName)) ∈ WT := WT_3 (List.mem_of_getElem? (i := 167) rfl) rfl
theorem mw_693 : (Jvm.Cond.code ({ cls := "RoofWar$Reader", name := "step", desc := "()V" } : Jvm.MethodName) prog_7_method_3_code (3 : Nat) (Option.none : Option Jvm.ClassFile.FieldType)) ∈ WT := WT_3 (List.mem_of_getElem? (i := 168) rfl) rfl
theorem mw_694 : (Jvm.Cond.methodLink "RoofWar$Reader" (60 : Nat) ({ cls := "RoofWar$Reader", name := "sortOf", desc := "(I)I" } : Jvm.MethodName)) ∈ WT := WT_3 (List.mem_of_getElem? (i := 169) rfl) rfl
theorem mw_695 : (Jvm.Cond.static ({ cls := "RoofWar$Reader", name := "sortOf", desc := "(I)I" } : Jvm.MethodName)) ∈ WT := WT_3 (List.mem_of_getElem? (i := 170) rfl) rfl
theorem mw_696 : (Jvm.Cond.code ({ cls := "RoofWar$Reader", name := "sortOf", desc := "(I)I" } : Jvm.MethodName) prog_7_method_4_code (1 : Nat) (Option.some Jvm.ClassFile.FieldType.int)) ∈ WT := WT_3 (List.mem_of_getElem? (i := 171) rfl) rfl
theorem mw_697 : (Jvm.Cond.methodLink "RoofWar$Reader" (40 : Nat) ({ cls := "RoofWar$Reader", name := "readKey", desc := "()Z" } : Jvm.MethodName)) ∈ WT := WT_3 (List.mem_of_getElem? (i := 172) rfl) rfl
theorem mw_698 : (Jvm.Cond.instanceMethod ({ cls := "RoofWar$Reader", name := "readKey", desc := "()Z" } : Jvm.MethodName)) ∈ WT := WT_3 (List.mem_of_getElem? (i := 174) rfl) rfl
theorem mw_699 : (Jvm.Cond.code ({ cls := "RoofWar$Reader", name := "readKey", desc := "()Z" } : Jvm.MethodName) prog_7_method_10_code (2 : Nat) (Option.some Jvm.ClassFile.FieldType.boolean)) ∈ WT := WT_3 (List.mem_of_getElem? (i := 175) rfl) rfl
theorem mw_700 : (Jvm.Cond.methodLink "RoofWar$Reader" (98 : Nat) ({ cls := "RoofWar$Reader", name := "keyWord", desc := "(I)Ljava/lang/String;" } : Jvm.MethodName)) ∈ WT := WT_3 (List.mem_of_getElem? (i := 176) rfl) rfl
theorem mw_701 : (Jvm.Cond.static ({ cls := "RoofWar$Reader", name := "keyWord", desc := "(I)Ljava/lang/String;" } : Jvm.MethodName)) ∈ WT := WT_3 (List.mem_of_getElem? (i := 177) rfl) rfl
theorem mw_702 : (Jvm.Cond.code ({ cls := "RoofWar$Reader", name := "keyWord", desc := "(I)Ljava/lang/String;" } : Jvm.MethodName) prog_7_method_5_code (1 : Nat) (Option.some (Jvm.ClassFile.FieldType.object "java/lang/String"))) ∈ WT := WT_3 (List.mem_of_getElem? (i := 178) rfl) rfl
theorem mw_703 : (Jvm.Cond.methodLink "RoofWar$Reader" (102 : Nat) ({ cls := "RoofWar$Reader", name := "isWord", desc := "(Ljava/lang/String;)Z" } : Jvm.MethodName)) ∈ WT := WT_3 (List.mem_of_getElem? (i := 182) rfl) rfl
theorem mw_704 : (Jvm.Cond.instanceMethod ({ cls := "RoofWar$Reader", name := "isWord", desc := "(Ljava/lang/String;)Z" } : Jvm.MethodName)) ∈ WT := WT_3 (List.mem_of_getElem? (i := 184) rfl) rfl
theorem mw_705 : (Jvm.Cond.code ({ cls := "RoofWar$Reader", name := "isWord", desc := "(Ljava/lang/String;)Z" } : Jvm.MethodName) prog_7_method_8_code (3 : Nat) (Option.some Jvm.ClassFile.FieldType.boolean)) ∈ WT := WT_3 (List.mem_of_getElem? (i := 185) rfl) rfl
theorem mw_706 : (Jvm.Cond.methodLink "RoofWar$Reader" (86 : Nat) ({ cls := "java/lang/String", name := "length", desc := "()I" } : Jvm.MethodName)) ∈ WT := WT_3 (List.mem_of_getElem? (i := 186) rfl) rfl
theorem mw_707 : (Jvm.Cond.instanceMethod ({ cls := "java/lang/String", name := "length", desc := "()I" } : Jvm.MethodName)) ∈ WT := WT_3 (List.mem_of_getElem? (i := 187) rfl) rfl
theorem mw_708 : (Jvm.Cond.selects "java/lang/String" ({ cls := "java/lang/String", name := "length", desc := "()I" } : Jvm.MethodName) ({ cls := "java/lang/String", name := "length", desc := "()I" } : Jvm.MethodName)) ∈ WT := WT_3 (List.mem_of_getElem? (i := 188) rfl) rfl
theorem mw_709 : (Jvm.Cond.code ({ cls := "java/lang/String", name := "length", desc := "()I" } : Jvm.MethodName) prog_16_method_54_code (1 : Nat) (Option.some Jvm.ClassFile.FieldType.int)) ∈ WT := WT_3 (List.mem_of_getElem? (i := 189) rfl) rfl
theorem mw_710 : (Jvm.Cond.methodLink "java/lang/String" (335 : Nat) ({ cls := "java/lang/String", name := "coder", desc := "()B" } : Jvm.MethodName)) ∈ WT := WT_3 (List.mem_of_getElem? (i := 190) rfl) rfl
theorem mw_711 : (Jvm.Cond.instanceMethod ({ cls := "java/lang/String", name := "coder", desc := "()B" } : Jvm.MethodName)) ∈ WT := WT_3 (List.mem_of_getElem? (i := 191) rfl) rfl
theorem mw_712 : (Jvm.Cond.selects "java/lang/String" ({ cls := "java/lang/String", name := "coder", desc := "()B" } : Jvm.MethodName) ({ cls := "java/lang/String", name := "coder", desc := "()B" } : Jvm.MethodName)) ∈ WT := WT_3 (List.mem_of_getElem? (i := 192) rfl) rfl
theorem mw_713 : (Jvm.Cond.code ({ cls := "java/lang/String", name := "coder", desc := "()B" } : Jvm.MethodName) prog_16_method_152_code (1 : Nat) (Option.some Jvm.ClassFile.FieldType.byte)) ∈ WT := WT_3 (List.mem_of_getElem? (i := 193) rfl) rfl
theorem mw_714 : (Jvm.Cond.fieldLink "java/lang/String" (38 : Nat) "java/lang/String" "COMPACT_STRINGS" "Z") ∈ WT := WT_3 (List.mem_of_getElem? (i := 194) rfl) rfl
theorem mw_715 : (Jvm.Cond.methodLink "RoofWar$Reader" (91 : Nat) ({ cls := "java/lang/String", name := "charAt", desc := "(I)C" } : Jvm.MethodName)) ∈ WT := WT_3 (List.mem_of_getElem? (i := 196) rfl) rfl
theorem mw_716 : (Jvm.Cond.instanceMethod ({ cls := "java/lang/String", name := "charAt", desc := "(I)C" } : Jvm.MethodName)) ∈ WT := WT_3 (List.mem_of_getElem? (i := 197) rfl) rfl
theorem mw_717 : (Jvm.Cond.selects "java/lang/String" ({ cls := "java/lang/String", name := "charAt", desc := "(I)C" } : Jvm.MethodName) ({ cls := "java/lang/String", name := "charAt", desc := "(I)C" } : Jvm.MethodName)) ∈ WT := WT_3 (List.mem_of_getElem? (i := 198) rfl) rfl
theorem mw_718 : (Jvm.Cond.code ({ cls := "java/lang/String", name := "charAt", desc := "(I)C" } : Jvm.MethodName) prog_16_method_56_code (2 : Nat) (Option.some Jvm.ClassFile.FieldType.char)) ∈ WT := WT_3 (List.mem_of_getElem? (i := 199) rfl) rfl
theorem mw_719 : (Jvm.Cond.methodLink "java/lang/String" (492 : Nat) ({ cls := "java/lang/String", name := "isLatin1", desc := "()Z" } : Jvm.MethodName)) ∈ WT := WT_3 (List.mem_of_getElem? (i := 200) rfl) rfl
theorem mw_720 : (Jvm.Cond.instanceMethod ({ cls := "java/lang/String", name := "isLatin1", desc := "()Z" } : Jvm.MethodName)) ∈ WT := WT_3 (List.mem_of_getElem? (i := 201) rfl) rfl
theorem mw_721 : (Jvm.Cond.selects "java/lang/String" ({ cls := "java/lang/String", name := "isLatin1", desc := "()Z" } : Jvm.MethodName) ({ cls := "java/lang/String", name := "isLatin1", desc := "()Z" } : Jvm.MethodName)) ∈ WT := WT_3 (List.mem_of_getElem? (i := 202) rfl) rfl
theorem mw_722 : (Jvm.Cond.code ({ cls := "java/lang/String", name := "isLatin1", desc := "()Z" } : Jvm.MethodName) prog_16_method_154_code (1 : Nat) (Option.some Jvm.ClassFile.FieldType.boolean)) ∈ WT := WT_3 (List.mem_of_getElem? (i := 203) rfl) rfl
theorem mw_723 : (Jvm.Cond.methodLink "java/lang/String" (495 : Nat) ({ cls := "java/lang/StringLatin1", name := "charAt", desc := "([BI)C" } : Jvm.MethodName)) ∈ WT := WT_3 (List.mem_of_getElem? (i := 204) rfl) rfl
theorem mw_724 : (Jvm.Cond.static ({ cls := "java/lang/StringLatin1", name := "charAt", desc := "([BI)C" } : Jvm.MethodName)) ∈ WT := WT_3 (List.mem_of_getElem? (i := 205) rfl) rfl
theorem mw_725 : (Jvm.Cond.code ({ cls := "java/lang/StringLatin1", name := "charAt", desc := "([BI)C" } : Jvm.MethodName) prog_17_method_2_code (2 : Nat) (Option.some Jvm.ClassFile.FieldType.char)) ∈ WT := WT_3 (List.mem_of_getElem? (i := 206) rfl) rfl
theorem mw_726 : (Jvm.Cond.methodLink "java/lang/StringLatin1" (9 : Nat) ({ cls := "java/lang/String", name := "checkIndex", desc := "(II)V" } : Jvm.MethodName)) ∈ WT := WT_3 (List.mem_of_getElem? (i := 207) rfl) rfl
theorem mw_727 : (Jvm.Cond.static ({ cls := "java/lang/String", name := "checkIndex", desc := "(II)V" } : Jvm.MethodName)) ∈ WT := WT_3 (List.mem_of_getElem? (i := 208) rfl) rfl
theorem mw_728 : (Jvm.Cond.code ({ cls := "java/lang/String", name := "checkIndex", desc := "(II)V" } : Jvm.MethodName) prog_16_method_155_code (2 : Nat) (Option.none : Option Jvm.ClassFile.FieldType)) ∈ WT := WT_3 (List.mem_of_getElem? (i := 209) rfl) rfl
theorem mw_729 : (Jvm.Cond.fieldLink "java/lang/String" (1053 : Nat) "jdk/internal/util/Preconditions" "SIOOBE_FORMATTER" "Ljava/util/function/BiFunction;") ∈ WT := WT_3 (List.mem_of_getElem? (i := 210) rfl) rfl
theorem mw_730 : (Jvm.Cond.methodLink "java/lang/String" (1059 : Nat) ({ cls := "jdk/internal/util/Preconditions", name := "checkIndex", desc := "(IILjava/util/function/BiFunction;)I" } : Jvm.MethodName)) ∈ WT := WT_3 (List.mem_of_getElem? (i := 212) rfl) rfl
theorem mw_731 : (Jvm.Cond.static ({ cls := "jdk/internal/util/Preconditions", name := "checkIndex", desc := "(IILjava/util/function/BiFunction;)I" } : Jvm.MethodName)) ∈ WT := WT_3 (List.mem_of_getElem? (i := 213) rfl) rfl
theorem mw_732 : (Jvm.Cond.code ({ cls := "jdk/internal/util/Preconditions", name := "checkIndex", desc := "(IILjava/util/function/BiFunction;)I" } : Jvm.MethodName) prog_20_method_11_code (3 : Nat) (Option.some Jvm.ClassFile.FieldType.int)) ∈ WT := WT_3 (List.mem_of_getElem? (i := 214) rfl) rfl
theorem mw_733 : (Jvm.Cond.methodLink "java/lang/String" (498 : Nat) ({ cls := "java/lang/StringUTF16", name := "charAt", desc := "([BI)C" } : Jvm.MethodName)) ∈ WT := WT_3 (List.mem_of_getElem? (i := 215) rfl) rfl
theorem mw_734 : (Jvm.Cond.static ({ cls := "java/lang/StringUTF16", name := "charAt", desc := "([BI)C" } : Jvm.MethodName)) ∈ WT := WT_3 (List.mem_of_getElem? (i := 216) rfl) rfl
theorem mw_735 : (Jvm.Cond.code ({ cls := "java/lang/StringUTF16", name := "charAt", desc := "([BI)C" } : Jvm.MethodName) prog_18_method_83_code (2 : Nat) (Option.some Jvm.ClassFile.FieldType.char)) ∈ WT := WT_3 (List.mem_of_getElem? (i := 217) rfl) rfl
theorem mw_736 : (Jvm.Cond.methodLink "java/lang/StringUTF16" (67 : Nat) ({ cls := "java/lang/StringUTF16", name := "checkIndex", desc := "(I[B)V" } : Jvm.MethodName)) ∈ WT := WT_3 (List.mem_of_getElem? (i := 218) rfl) rfl
theorem mw_737 : (Jvm.Cond.static ({ cls := "java/lang/StringUTF16", name := "checkIndex", desc := "(I[B)V" } : Jvm.MethodName)) ∈ WT := WT_3 (List.mem_of_getElem? (i := 219) rfl) rfl
theorem mw_738 : (Jvm.Cond.code ({ cls := "java/lang/StringUTF16", name := "checkIndex", desc := "(I[B)V" } : Jvm.MethodName) prog_18_method_91_code (2 : Nat) (Option.none : Option Jvm.ClassFile.FieldType)) ∈ WT := WT_3 (List.mem_of_getElem? (i := 220) rfl) rfl
theorem mw_739 : (Jvm.Cond.methodLink "java/lang/StringUTF16" (48 : Nat) ({ cls := "java/lang/StringUTF16", name := "length", desc := "([B)I" } : Jvm.MethodName)) ∈ WT := WT_3 (List.mem_of_getElem? (i := 221) rfl) rfl
theorem mw_740 : (Jvm.Cond.static ({ cls := "java/lang/StringUTF16", name := "length", desc := "([B)I" } : Jvm.MethodName)) ∈ WT := WT_3 (List.mem_of_getElem? (i := 222) rfl) rfl
theorem mw_741 : (Jvm.Cond.code ({ cls := "java/lang/StringUTF16", name := "length", desc := "([B)I" } : Jvm.MethodName) prog_18_method_6_code (1 : Nat) (Option.some Jvm.ClassFile.FieldType.int)) ∈ WT := WT_3 (List.mem_of_getElem? (i := 223) rfl) rfl
theorem mw_742 : (Jvm.Cond.methodLink "java/lang/StringUTF16" (414 : Nat) ({ cls := "java/lang/String", name := "checkIndex", desc := "(II)V" } : Jvm.MethodName)) ∈ WT := WT_3 (List.mem_of_getElem? (i := 224) rfl) rfl
theorem mw_743 : (Jvm.Cond.methodLink "java/lang/StringUTF16" (71 : Nat) ({ cls := "java/lang/StringUTF16", name := "getChar", desc := "([BI)C" } : Jvm.MethodName)) ∈ WT := WT_3 (List.mem_of_getElem? (i := 225) rfl) rfl
theorem mw_744 : (Jvm.Cond.static ({ cls := "java/lang/StringUTF16", name := "getChar", desc := "([BI)C" } : Jvm.MethodName)) ∈ WT := WT_3 (List.mem_of_getElem? (i := 226) rfl) rfl
theorem mw_745 : (Jvm.Cond.code ({ cls := "java/lang/StringUTF16", name := "getChar", desc := "([BI)C" } : Jvm.MethodName) prog_18_method_5_code (2 : Nat) (Option.some Jvm.ClassFile.FieldType.char)) ∈ WT := WT_3 (List.mem_of_getElem? (i := 227) rfl) rfl
theorem mw_746 : (Jvm.Cond.fieldLink "java/lang/StringUTF16" (44 : Nat) "java/lang/StringUTF16" "$assertionsDisabled" "Z") ∈ WT := WT_3 (List.mem_of_getElem? (i := 228) rfl) rfl
theorem mw_747 : (Jvm.Cond.fieldLink "java/lang/StringUTF16" (59 : Nat) "java/lang/StringUTF16" "HI_BYTE_SHIFT" "I") ∈ WT := WT_3 (List.mem_of_getElem? (i := 230) rfl) rfl
theorem mw_748 : (Jvm.Cond.fieldLink "java/lang/StringUTF16" (63 : Nat) "java/lang/StringUTF16" "LO_BYTE_SHIFT" "I") ∈ WT := WT_3 (List.mem_of_getElem? (i := 232) rfl) rfl
theorem mw_749 : (Jvm.Cond.methodLink "RoofWar$Reader" (44 : Nat) ({ cls := "RoofWar$Reader", name := "readLevel", desc := "(I)Z" } : Jvm.MethodName)) ∈ WT := WT_3 (List.mem_of_getElem? (i := 234) rfl) rfl
theorem mw_750 : (Jvm.Cond.instanceMethod ({ cls := "RoofWar$Reader", name := "readLevel", desc := "(I)Z" } : Jvm.MethodName)) ∈ WT := WT_3 (List.mem_of_getElem? (i := 236) rfl) rfl
theorem mw_751 : (Jvm.Cond.code ({ cls := "RoofWar$Reader", name := "readLevel", desc := "(I)Z" } : Jvm.MethodName) prog_7_method_11_code (5 : Nat) (Option.some Jvm.ClassFile.FieldType.boolean)) ∈ WT := WT_3 (List.mem_of_getElem? (i := 237) rfl) rfl
theorem mw_752 : (Jvm.Cond.methodLink "RoofWar$Reader" (109 : Nat) ({ cls := "RoofWar$Reader", name := "readBelow", desc := "(I)Z" } : Jvm.MethodName)) ∈ WT := WT_3 (List.mem_of_getElem? (i := 238) rfl) rfl
theorem mw_753 : (Jvm.Cond.instanceMethod ({ cls := "RoofWar$Reader", name := "readBelow", desc := "(I)Z" } : Jvm.MethodName)) ∈ WT := WT_4 (List.mem_of_getElem? (i := 0) rfl) rfl
theorem mw_754 : (Jvm.Cond.code ({ cls := "RoofWar$Reader", name := "readBelow", desc := "(I)Z" } : Jvm.MethodName) prog_7_method_12_code (2 : Nat) (Option.some Jvm.ClassFile.FieldType.boolean)) ∈ WT := WT_4 (List.mem_of_getElem? (i := 1) rfl) rfl
theorem mw_755 : (Jvm.Cond.methodLink "RoofWar$Reader" (122 : Nat) ({ cls := "RoofWar$Reader", name := "readPiece", desc := "()Z" } : Jvm.MethodName)) ∈ WT := WT_4 (List.mem_of_getElem? (i := 2) rfl) rfl
theorem mw_756 : (Jvm.Cond.instanceMethod ({ cls := "RoofWar$Reader", name := "readPiece", desc := "()Z" } : Jvm.MethodName)) ∈ WT := WT_4 (List.mem_of_getElem? (i := 4) rfl) rfl
theorem mw_757 : (Jvm.Cond.code ({ cls := "RoofWar$Reader", name := "readPiece", desc := "()Z" } : Jvm.MethodName) prog_7_method_13_code (1 : Nat) (Option.some Jvm.ClassFile.FieldType.boolean)) ∈ WT := WT_4 (List.mem_of_getElem? (i := 5) rfl) rfl
theorem mw_758 : (Jvm.Cond.methodLink "RoofWar$Reader" (125 : Nat) ({ cls := "RoofWar$Reader", name := "number", desc := "()I" } : Jvm.MethodName)) ∈ WT := WT_4 (List.mem_of_getElem? (i := 6) rfl) rfl
theorem mw_759 : (Jvm.Cond.instanceMethod ({ cls := "RoofWar$Reader", name := "number", desc := "()I" } : Jvm.MethodName)) ∈ WT := WT_4 (List.mem_of_getElem? (i := 8) rfl) rfl
theorem mw_760 : (Jvm.Cond.code ({ cls := "RoofWar$Reader", name := "number", desc := "()I" } : Jvm.MethodName) prog_7_method_14_code (3 : Nat) (Option.some Jvm.ClassFile.FieldType.int)) ∈ WT := WT_4 (List.mem_of_getElem? (i := 9) rfl) rfl
theorem mw_761 : (Jvm.Cond.methodLink "RoofWar$Reader" (128 : Nat) ({ cls := "RoofWar$Law", name := "addLeaf", desc := "(I)V" } : Jvm.MethodName)) ∈ WT := WT_4 (List.mem_of_getElem? (i := 10) rfl) rfl
theorem mw_762 : (Jvm.Cond.instanceMethod ({ cls := "RoofWar$Law", name := "addLeaf", desc := "(I)V" } : Jvm.MethodName)) ∈ WT := WT_4 (List.mem_of_getElem? (i := 11) rfl) rfl
theorem mw_763 : (Jvm.Cond.selects "RoofWar$Law" ({ cls := "RoofWar$Law", name := "addLeaf", desc := "(I)V" } : Jvm.MethodName) ({ cls := "RoofWar$Law", name := "addLeaf", desc := "(I)V" } : Jvm.MethodName)) ∈ WT := WT_4 (List.mem_of_getElem? (i := 12) rfl) rfl
theorem mw_764 : (Jvm.Cond.code ({ cls := "RoofWar$Law", name := "addLeaf", desc := "(I)V" } : Jvm.MethodName) prog_5_method_3_code (2 : Nat) (Option.none : Option Jvm.ClassFile.FieldType)) ∈ WT := WT_4 (List.mem_of_getElem? (i := 13) rfl) rfl
theorem mw_765 : (Jvm.Cond.methodLink "RoofWar$Law" (22 : Nat) ({ cls := "RoofWar$Law", name := "addCode", desc := "(I)V" } : Jvm.MethodName)) ∈ WT := WT_4 (List.mem_of_getElem? (i := 14) rfl) rfl
theorem mw_766 : (Jvm.Cond.instanceMethod ({ cls := "RoofWar$Law", name := "addCode", desc := "(I)V" } : Jvm.MethodName)) ∈ WT := WT_4 (List.mem_of_getElem? (i := 16) rfl) rfl
theorem mw_767 : (Jvm.Cond.code ({ cls := "RoofWar$Law", name := "addCode", desc := "(I)V" } : Jvm.MethodName) prog_5_method_5_code (2 : Nat) (Option.none : Option Jvm.ClassFile.FieldType)) ∈ WT := WT_4 (List.mem_of_getElem? (i := 17) rfl) rfl
theorem mw_768 : (Jvm.Cond.methodLink "RoofWar$Reader" (131 : Nat) ({ cls := "RoofWar$Reader", name := "readName", desc := "()Z" } : Jvm.MethodName)) ∈ WT := WT_4 (List.mem_of_getElem? (i := 18) rfl) rfl
theorem mw_769 : (Jvm.Cond.instanceMethod ({ cls := "RoofWar$Reader", name := "readName", desc := "()Z" } : Jvm.MethodName)) ∈ WT := WT_4 (List.mem_of_getElem? (i := 20) rfl) rfl
theorem mw_770 : (Jvm.Cond.code ({ cls := "RoofWar$Reader", name := "readName", desc := "()Z" } : Jvm.MethodName) prog_7_method_15_code (2 : Nat) (Option.some Jvm.ClassFile.FieldType.boolean)) ∈ WT := WT_4 (List.mem_of_getElem? (i := 21) rfl) rfl
theorem mw_771 : (Jvm.Cond.methodLink "RoofWar$Reader" (144 : Nat) ({ cls := "RoofWar$Reader", name := "names", desc := "(I)Ljava/lang/String;" } : Jvm.MethodName)) ∈ WT := WT_4 (List.mem_of_getElem? (i := 22) rfl) rfl
theorem mw_772 : (Jvm.Cond.static ({ cls := "RoofWar$Reader", name := "names", desc := "(I)Ljava/lang/String;" } : Jvm.MethodName)) ∈ WT := WT_4 (List.mem_of_getElem? (i := 23) rfl) rfl
theorem mw_773 : (Jvm.Cond.code ({ cls := "RoofWar$Reader", name := "names", desc := "(I)Ljava/lang/String;" } : Jvm.MethodName) prog_7_method_6_code (1 : Nat) (Option.some (Jvm.ClassFile.FieldType.object "java/lang/String"))) ∈ WT := WT_4 (List.mem_of_getElem? (i := 24) rfl) rfl
theorem mw_774 : (Jvm.Cond.methodLink "RoofWar$Reader" (95 : Nat) ({ cls := "java/lang/String", name := "indexOf", desc := "(I)I" } : Jvm.MethodName)) ∈ WT := WT_4 (List.mem_of_getElem? (i := 28) rfl) rfl
theorem mw_775 : (Jvm.Cond.instanceMethod ({ cls := "java/lang/String", name := "indexOf", desc := "(I)I" } : Jvm.MethodName)) ∈ WT := WT_4 (List.mem_of_getElem? (i := 29) rfl) rfl
theorem mw_776 : (Jvm.Cond.selects "java/lang/String" ({ cls := "java/lang/String", name := "indexOf", desc := "(I)I" } : Jvm.MethodName) ({ cls := "java/lang/String", name := "indexOf", desc := "(I)I" } : Jvm.MethodName)) ∈ WT := WT_4 (List.mem_of_getElem? (i := 30) rfl) rfl
theorem mw_777 : (Jvm.Cond.code ({ cls := "java/lang/String", name := "indexOf", desc := "(I)I" } : Jvm.MethodName) prog_16_method_79_code (2 : Nat) (Option.some Jvm.ClassFile.FieldType.int)) ∈ WT := WT_4 (List.mem_of_getElem? (i := 31) rfl) rfl
theorem mw_778 : (Jvm.Cond.methodLink "java/lang/String" (633 : Nat) ({ cls := "java/lang/String", name := "indexOf", desc := "(II)I" } : Jvm.MethodName)) ∈ WT := WT_4 (List.mem_of_getElem? (i := 32) rfl) rfl
theorem mw_779 : (Jvm.Cond.instanceMethod ({ cls := "java/lang/String", name := "indexOf", desc := "(II)I" } : Jvm.MethodName)) ∈ WT := WT_4 (List.mem_of_getElem? (i := 33) rfl) rfl
theorem mw_780 : (Jvm.Cond.selects "java/lang/String" ({ cls := "java/lang/String", name := "indexOf", desc := "(II)I" } : Jvm.MethodName) ({ cls := "java/lang/String", name := "indexOf", desc := "(II)I" } : Jvm.MethodName)) ∈ WT := WT_4 (List.mem_of_getElem? (i := 34) rfl) rfl
theorem mw_781 : (Jvm.Cond.code ({ cls := "java/lang/String", name := "indexOf", desc := "(II)I" } : Jvm.MethodName) prog_16_method_80_code (3 : Nat) (Option.some Jvm.ClassFile.FieldType.int)) ∈ WT := WT_4 (List.mem_of_getElem? (i := 35) rfl) rfl
theorem mw_782 : (Jvm.Cond.methodLink "java/lang/String" (505 : Nat) ({ cls := "java/lang/String", name := "length", desc := "()I" } : Jvm.MethodName)) ∈ WT := WT_4 (List.mem_of_getElem? (i := 36) rfl) rfl
theorem mw_783 : (Jvm.Cond.methodLink "java/lang/String" (637 : Nat) ({ cls := "java/lang/StringLatin1", name := "indexOf", desc := "([BIII)I" } : Jvm.MethodName)) ∈ WT := WT_4 (List.mem_of_getElem? (i := 37) rfl) rfl
theorem mw_784 : (Jvm.Cond.static ({ cls := "java/lang/StringLatin1", name := "indexOf", desc := "([BIII)I" } : Jvm.MethodName)) ∈ WT := WT_4 (List.mem_of_getElem? (i := 38) rfl) rfl
theorem mw_785 : (Jvm.Cond.code ({ cls := "java/lang/StringLatin1", name := "indexOf", desc := "([BIII)I" } : Jvm.MethodName) prog_17_method_22_code (4 : Nat) (Option.some Jvm.ClassFile.FieldType.int)) ∈ WT := WT_4 (List.mem_of_getElem? (i := 39) rfl) rfl
theorem mw_786 : (Jvm.Cond.methodLink "java/lang/StringLatin1" (88 : Nat) ({ cls := "java/lang/StringLatin1", name := "canEncode", desc := "(I)Z" } : Jvm.MethodName)) ∈ WT := WT_4 (List.mem_of_getElem? (i := 40) rfl) rfl
theorem mw_787 : (Jvm.Cond.static ({ cls := "java/lang/StringLatin1", name := "canEncode", desc := "(I)Z" } : Jvm.MethodName)) ∈ WT := WT_4 (List.mem_of_getElem? (i := 41) rfl) rfl
theorem mw_788 : (Jvm.Cond.code ({ cls := "java/lang/StringLatin1", name := "canEncode", desc := "(I)Z" } : Jvm.MethodName) prog_17_method_4_code (1 : Nat) (Option.some Jvm.ClassFile.FieldType.boolean)) ∈ WT := WT_4 (List.mem_of_getElem? (i := 42) rfl) rfl
theorem mw_789 : (Jvm.Cond.methodLink "java/lang/StringLatin1" (92 : Nat) ({ cls := "java/lang/Math", name := "max", desc := "(II)I" } : Jvm.MethodName)) ∈ WT := WT_4 (List.mem_of_getElem? (i := 43) rfl) rfl
theorem mw_790 : (Jvm.Cond.methodLink "java/lang/StringLatin1" (38 : Nat) ({ cls := "java/lang/Math", name := "min", desc := "(II)I" } : Jvm.MethodName)) ∈ WT := WT_4 (List.mem_of_getElem? (i := 44) rfl) rfl
theorem mw_791 : (Jvm.Cond.methodLink "java/lang/StringLatin1" (95 : Nat) ({ cls := "java/lang/StringLatin1", name := "indexOfChar", desc := "([BIII)I" } : Jvm.MethodName)) ∈ WT := WT_4 (List.mem_of_getElem? (i := 45) rfl) rfl
theorem mw_792 : (Jvm.Cond.static ({ cls := "java/lang/StringLatin1", name := "indexOfChar", desc := "([BIII)I" } : Jvm.MethodName)) ∈ WT := WT_4 (List.mem_of_getElem? (i := 46) rfl) rfl
theorem mw_793 : (Jvm.Cond.code ({ cls := "java/lang/StringLatin1", name := "indexOfChar", desc := "([BIII)I" } : Jvm.MethodName) prog_17_method_23_code (6 : Nat) (Option.some Jvm.ClassFile.FieldType.int)) ∈ WT := WT_4 (List.mem_of_getElem? (i := 47) rfl) rfl
theorem mw_794 : (Jvm.Cond.methodLink "java/lang/String" (640 : Nat) ({ cls := "java/lang/StringUTF16", name := "indexOf", desc := "([BIII)I" } : Jvm.MethodName)) ∈ WT := WT_4 (List.mem_of_getElem? (i := 48) rfl) rfl
theorem mw_795 : (Jvm.Cond.static ({ cls := "java/lang/StringUTF16", name := "indexOf", desc := "([BIII)I" } : Jvm.MethodName)) ∈ WT := WT_4 (List.mem_of_getElem? (i := 49) rfl) rfl
theorem mw_796 : (Jvm.Cond.code ({ cls := "java/lang/StringUTF16", name := "indexOf", desc := "([BIII)I" } : Jvm.MethodName) prog_18_method_40_code (4 : Nat) (Option.some Jvm.ClassFile.FieldType.int)) ∈ WT := WT_4 (List.mem_of_getElem? (i := 50) rfl) rfl
theorem mw_797 : (Jvm.Cond.methodLink "java/lang/StringUTF16" (224 : Nat) ({ cls := "java/lang/Math", name := "max", desc := "(II)I" } : Jvm.MethodName)) ∈ WT := WT_4 (List.mem_of_getElem? (i := 51) rfl) rfl
theorem mw_798 : (Jvm.Cond.methodLink "java/lang/StringUTF16" (183 : Nat) ({ cls := "java/lang/Math", name := "min", desc := "(II)I" } : Jvm.MethodName)) ∈ WT := WT_4 (List.mem_of_getElem? (i := 52) rfl) rfl
theorem mw_799 : (Jvm.Cond.constant "java/lang/StringUTF16" (227 : Nat) (65536 : Int32)) ∈ WT := WT_4 (List.mem_of_getElem? (i := 53) rfl) rfl
theorem mw_800 : (Jvm.Cond.methodLink "java/lang/StringUTF16" (228 : Nat) ({ cls := "java/lang/StringUTF16", name := "indexOfChar", desc := "([BIII)I" } : Jvm.MethodName)) ∈ WT := WT_4 (List.mem_of_getElem? (i := 54) rfl) rfl
theorem mw_801 : (Jvm.Cond.static ({ cls := "java/lang/StringUTF16", name := "indexOfChar", desc := "([BIII)I" } : Jvm.MethodName)) ∈ WT := WT_4 (List.mem_of_getElem? (i := 55) rfl) rfl
theorem mw_802 : (Jvm.Cond.code ({ cls := "java/lang/StringUTF16", name := "indexOfChar", desc := "([BIII)I" } : Jvm.MethodName) prog_18_method_47_code (4 : Nat) (Option.some Jvm.ClassFile.FieldType.int)) ∈ WT := WT_4 (List.mem_of_getElem? (i := 56) rfl) rfl
theorem mw_803 : (Jvm.Cond.methodLink "java/lang/StringUTF16" (96 : Nat) ({ cls := "java/lang/StringUTF16", name := "checkBoundsBeginEnd", desc := "(II[B)V" } : Jvm.MethodName)) ∈ WT := WT_4 (List.mem_of_getElem? (i := 57) rfl) rfl
theorem mw_804 : (Jvm.Cond.static ({ cls := "java/lang/StringUTF16", name := "checkBoundsBeginEnd", desc := "(II[B)V" } : Jvm.MethodName)) ∈ WT := WT_4 (List.mem_of_getElem? (i := 58) rfl) rfl
theorem mw_805 : (Jvm.Cond.code ({ cls := "java/lang/StringUTF16", name := "checkBoundsBeginEnd", desc := "(II[B)V" } : Jvm.MethodName) prog_18_method_93_code (3 : Nat) (Option.none : Option Jvm.ClassFile.FieldType)) ∈ WT := WT_4 (List.mem_of_getElem? (i := 59) rfl) rfl
theorem mw_806 : (Jvm.Cond.methodLink "java/lang/StringUTF16" (241 : Nat) ({ cls := "java/lang/String", name := "checkBoundsBeginEnd", desc := "(III)V" } : Jvm.MethodName)) ∈ WT := WT_4 (List.mem_of_getElem? (i := 60) rfl) rfl
theorem mw_807 : (Jvm.Cond.static ({ cls := "java/lang/String", name := "checkBoundsBeginEnd", desc := "(III)V" } : Jvm.MethodName)) ∈ WT := WT_4 (List.mem_of_getElem? (i := 61) rfl) rfl
theorem mw_808 : (Jvm.Cond.code ({ cls := "java/lang/String", name := "checkBoundsBeginEnd", desc := "(III)V" } : Jvm.MethodName) prog_16_method_158_code (3 : Nat) (Option.none : Option Jvm.ClassFile.FieldType)) ∈ WT := WT_4 (List.mem_of_getElem? (i := 62) rfl) rfl
theorem mw_809 : (Jvm.Cond.methodLink "java/lang/String" (1062 : Nat) ({ cls := "jdk/internal/util/Preconditions", name := "checkFromToIndex", desc := "(IIILjava/util/function/BiFunction;)I" } : Jvm.MethodName)) ∈ WT := WT_4 (List.mem_of_getElem? (i := 63) rfl) rfl
theorem mw_810 : (Jvm.Cond.static ({ cls := "jdk/internal/util/Preconditions", name := "checkFromToIndex", desc := "(IIILjava/util/function/BiFunction;)I" } : Jvm.MethodName)) ∈ WT := WT_4 (List.mem_of_getElem? (i := 64) rfl) rfl
theorem mw_811 : (Jvm.Cond.code ({ cls := "jdk/internal/util/Preconditions", name := "checkFromToIndex", desc := "(IIILjava/util/function/BiFunction;)I" } : Jvm.MethodName) prog_20_method_12_code (4 : Nat) (Option.some Jvm.ClassFile.FieldType.int)) ∈ WT := WT_4 (List.mem_of_getElem? (i := 65) rfl) rfl
theorem mw_812 : (Jvm.Cond.methodLink "java/lang/StringUTF16" (244 : Nat) ({ cls := "java/lang/StringUTF16", name := "indexOfCharUnsafe", desc := "([BIII)I" } : Jvm.MethodName)) ∈ WT := WT_4 (List.mem_of_getElem? (i := 66) rfl) rfl
theorem mw_813 : (Jvm.Cond.static ({ cls := "java/lang/StringUTF16", name := "indexOfCharUnsafe", desc := "([BIII)I" } : Jvm.MethodName)) ∈ WT := WT_4 (List.mem_of_getElem? (i := 67) rfl) rfl
theorem mw_814 : (Jvm.Cond.code ({ cls := "java/lang/StringUTF16", name := "indexOfCharUnsafe", desc := "([BIII)I" } : Jvm.MethodName) prog_18_method_48_code (5 : Nat) (Option.some Jvm.ClassFile.FieldType.int)) ∈ WT := WT_4 (List.mem_of_getElem? (i := 68) rfl) rfl
theorem mw_815 : (Jvm.Cond.methodLink "java/lang/StringUTF16" (232 : Nat) ({ cls := "java/lang/StringUTF16", name := "indexOfSupplementary", desc := "([BIII)I" } : Jvm.MethodName)) ∈ WT := WT_4 (List.mem_of_getElem? (i := 69) rfl) rfl
theorem mw_816 : (Jvm.Cond.static ({ cls := "java/lang/StringUTF16", name := "indexOfSupplementary", desc := "([BIII)I" } : Jvm.MethodName)) ∈ WT := WT_4 (List.mem_of_getElem? (i := 70) rfl) rfl
theorem mw_817 : (Jvm.Cond.code ({ cls := "java/lang/StringUTF16", name := "indexOfSupplementary", desc := "([BIII)I" } : Jvm.MethodName) prog_18_method_49_code (7 : Nat) (Option.some Jvm.ClassFile.FieldType.int)) ∈ WT := WT_4 (List.mem_of_getElem? (i := 71) rfl) rfl
theorem mw_818 : (Jvm.Cond.methodLink "java/lang/StringUTF16" (164 : Nat) ({ cls := "java/lang/Character", name := "isValidCodePoint", desc := "(I)Z" } : Jvm.MethodName)) ∈ WT := WT_4 (List.mem_of_getElem? (i := 72) rfl) rfl
theorem mw_819 : (Jvm.Cond.static ({ cls := "java/lang/Character", name := "isValidCodePoint", desc := "(I)Z" } : Jvm.MethodName)) ∈ WT := WT_4 (List.mem_of_getElem? (i := 73) rfl) rfl
theorem mw_820 : (Jvm.Cond.code ({ cls := "java/lang/Character", name := "isValidCodePoint", desc := "(I)Z" } : Jvm.MethodName) prog_13_method_11_code (2 : Nat) (Option.some Jvm.ClassFile.FieldType.boolean)) ∈ WT := WT_4 (List.mem_of_getElem? (i := 74) rfl) rfl
theorem mw_821 : (Jvm.Cond.methodLink "java/lang/StringUTF16" (157 : Nat) ({ cls := "java/lang/Character", name := "highSurrogate", desc := "(I)C" } : Jvm.MethodName)) ∈ WT := WT_4 (List.mem_of_getElem? (i := 75) rfl) rfl
theorem mw_822 : (Jvm.Cond.static ({ cls := "java/lang/Character", name := "highSurrogate", desc := "(I)C" } : Jvm.MethodName)) ∈ WT := WT_4 (List.mem_of_getElem? (i := 76) rfl) rfl
theorem mw_823 : (Jvm.Cond.code ({ cls := "java/lang/Character", name := "highSurrogate", desc := "(I)C" } : Jvm.MethodName) prog_13_method_28_code (1 : Nat) (Option.some Jvm.ClassFile.FieldType.char)) ∈ WT := WT_4 (List.mem_of_getElem? (i := 77) rfl) rfl
theorem mw_824 : (Jvm.Cond.constant "java/lang/Character" (110 : Nat) (55232 : Int32)) ∈ WT := WT_4 (List.mem_of_getElem? (i := 78) rfl) rfl
theorem mw_825 : (Jvm.Cond.methodLink "java/lang/StringUTF16" (161 : Nat) ({ cls := "java/lang/Character", name := "lowSurrogate", desc := "(I)C" } : Jvm.MethodName)) ∈ WT := WT_4 (List.mem_of_getElem? (i := 79) rfl) rfl
theorem mw_826 : (Jvm.Cond.static ({ cls := "java/lang/Character", name := "lowSurrogate", desc := "(I)C" } : Jvm.MethodName)) ∈ WT := WT_4 (List.mem_of_getElem? (i := 80) rfl) rfl
theorem mw_827 : (Jvm.Cond.code ({ cls := "java/lang/Character", name := "lowSurrogate", desc := "(I)C" } : Jvm.MethodName) prog_13_method_29_code (1 : Nat) (Option.some Jvm.ClassFile.FieldType.char)) ∈ WT := WT_4 (List.mem_of_getElem? (i := 81) rfl) rfl
theorem mw_828 : (Jvm.Cond.constant "java/lang/Character" (76 : Nat) (56320 : Int32)) ∈ WT := WT_4 (List.mem_of_getElem? (i := 82) rfl) rfl
theorem mw_829 : (Jvm.Cond.methodLink "RoofWar$Reader" (115 : Nat) ({ cls := "RoofWar$Reader", name := "isSign", desc := "(Ljava/lang/String;)Z" } : Jvm.MethodName)) ∈ WT := WT_4 (List.mem_of_getElem? (i := 84) rfl) rfl
theorem mw_830 : (Jvm.Cond.instanceMethod ({ cls := "RoofWar$Reader", name := "isSign", desc := "(Ljava/lang/String;)Z" } : Jvm.MethodName)) ∈ WT := WT_4 (List.mem_of_getElem? (i := 86) rfl) rfl
theorem mw_831 : (Jvm.Cond.code ({ cls := "RoofWar$Reader", name := "isSign", desc := "(Ljava/lang/String;)Z" } : Jvm.MethodName) prog_7_method_9_code (2 : Nat) (Option.some Jvm.ClassFile.FieldType.boolean)) ∈ WT := WT_4 (List.mem_of_getElem? (i := 87) rfl) rfl
theorem mw_832 : (Jvm.Cond.methodLink "RoofWar$Reader" (136 : Nat) ({ cls := "RoofWar$Reader", name := "readNot", desc := "()Z" } : Jvm.MethodName)) ∈ WT := WT_4 (List.mem_of_getElem? (i := 88) rfl) rfl
theorem mw_833 : (Jvm.Cond.instanceMethod ({ cls := "RoofWar$Reader", name := "readNot", desc := "()Z" } : Jvm.MethodName)) ∈ WT := WT_4 (List.mem_of_getElem? (i := 90) rfl) rfl
theorem mw_834 : (Jvm.Cond.code ({ cls := "RoofWar$Reader", name := "readNot", desc := "()Z" } : Jvm.MethodName) prog_7_method_16_code (1 : Nat) (Option.some Jvm.ClassFile.FieldType.boolean)) ∈ WT := WT_4 (List.mem_of_getElem? (i := 91) rfl) rfl
theorem mw_835 : (Jvm.Cond.methodLink "RoofWar$Reader" (118 : Nat) ({ cls := "RoofWar$Law", name := "addOperation", desc := "(I)V" } : Jvm.MethodName)) ∈ WT := WT_4 (List.mem_of_getElem? (i := 92) rfl) rfl
theorem mw_836 : (Jvm.Cond.instanceMethod ({ cls := "RoofWar$Law", name := "addOperation", desc := "(I)V" } : Jvm.MethodName)) ∈ WT := WT_4 (List.mem_of_getElem? (i := 93) rfl) rfl
theorem mw_837 : (Jvm.Cond.selects "RoofWar$Law" ({ cls := "RoofWar$Law", name := "addOperation", desc := "(I)V" } : Jvm.MethodName) ({ cls := "RoofWar$Law", name := "addOperation", desc := "(I)V" } : Jvm.MethodName)) ∈ WT := WT_4 (List.mem_of_getElem? (i := 94) rfl) rfl
theorem mw_838 : (Jvm.Cond.code ({ cls := "RoofWar$Law", name := "addOperation", desc := "(I)V" } : Jvm.MethodName) prog_5_method_4_code (2 : Nat) (Option.none : Option Jvm.ClassFile.FieldType)) ∈ WT := WT_4 (List.mem_of_getElem? (i := 95) rfl) rfl
theorem mw_839 : (Jvm.Cond.methodLink "RoofWar$Reader" (141 : Nat) ({ cls := "RoofWar$Reader", name := "readBracket", desc := "()Z" } : Jvm.MethodName)) ∈ WT := WT_4 (List.mem_of_getElem? (i := 97) rfl) rfl
theorem mw_840 : (Jvm.Cond.instanceMethod ({ cls := "RoofWar$Reader", name := "readBracket", desc := "()Z" } : Jvm.MethodName)) ∈ WT := WT_4 (List.mem_of_getElem? (i := 99) rfl) rfl
theorem mw_841 : (Jvm.Cond.code ({ cls := "RoofWar$Reader", name := "readBracket", desc := "()Z" } : Jvm.MethodName) prog_7_method_17_code (1 : Nat) (Option.some Jvm.ClassFile.FieldType.boolean)) ∈ WT := WT_4 (List.mem_of_getElem? (i := 100) rfl) rfl
theorem mw_842 : (Jvm.Cond.methodLink "RoofWar$Reader" (112 : Nat) ({ cls := "RoofWar$Reader", name := "signs", desc := "(I)Ljava/lang/String;" } : Jvm.MethodName)) ∈ WT := WT_4 (List.mem_of_getElem? (i := 102) rfl) rfl
theorem mw_843 : (Jvm.Cond.static ({ cls := "RoofWar$Reader", name := "signs", desc := "(I)Ljava/lang/String;" } : Jvm.MethodName)) ∈ WT := WT_4 (List.mem_of_getElem? (i := 103) rfl) rfl
theorem mw_844 : (Jvm.Cond.code ({ cls := "RoofWar$Reader", name := "signs", desc := "(I)Ljava/lang/String;" } : Jvm.MethodName) prog_7_method_7_code (1 : Nat) (Option.some (Jvm.ClassFile.FieldType.object "java/lang/String"))) ∈ WT := WT_4 (List.mem_of_getElem? (i := 104) rfl) rfl
theorem mw_845 : (Jvm.Cond.arrayClass Jvm.ClassFile.FieldType.byte) ∈ WT := WT_4 (List.mem_of_getElem? (i := 110) rfl) rfl
theorem mw_846 : (Jvm.Cond.methodLink "RoofWarLaw" (126 : Nat) ({ cls := "RoofWar", name := "textTold", desc := "(II)I" } : Jvm.MethodName)) ∈ WT := WT_4 (List.mem_of_getElem? (i := 111) rfl) rfl
theorem mw_847 : (Jvm.Cond.instanceMethod ({ cls := "RoofWar", name := "textTold", desc := "(II)I" } : Jvm.MethodName)) ∈ WT := WT_4 (List.mem_of_getElem? (i := 112) rfl) rfl
theorem mw_848 : (Jvm.Cond.selects "RoofWar" ({ cls := "RoofWar", name := "textTold", desc := "(II)I" } : Jvm.MethodName) ({ cls := "RoofWar", name := "textTold", desc := "(II)I" } : Jvm.MethodName)) ∈ WT := WT_4 (List.mem_of_getElem? (i := 113) rfl) rfl
theorem mw_849 : (Jvm.Cond.code ({ cls := "RoofWar", name := "textTold", desc := "(II)I" } : Jvm.MethodName) prog_1_method_29_code (4 : Nat) (Option.some Jvm.ClassFile.FieldType.int)) ∈ WT := WT_4 (List.mem_of_getElem? (i := 114) rfl) rfl
theorem mw_850 : (Jvm.Cond.methodLink "RoofWarLaw" (130 : Nat) ({ cls := "RoofWar", name := "why", desc := "(I)I" } : Jvm.MethodName)) ∈ WT := WT_4 (List.mem_of_getElem? (i := 115) rfl) rfl
theorem mw_851 : (Jvm.Cond.instanceMethod ({ cls := "RoofWar", name := "why", desc := "(I)I" } : Jvm.MethodName)) ∈ WT := WT_4 (List.mem_of_getElem? (i := 116) rfl) rfl
theorem mw_852 : (Jvm.Cond.selects "RoofWar" ({ cls := "RoofWar", name := "why", desc := "(I)I" } : Jvm.MethodName) ({ cls := "RoofWar", name := "why", desc := "(I)I" } : Jvm.MethodName)) ∈ WT := WT_4 (List.mem_of_getElem? (i := 117) rfl) rfl
theorem mw_853 : (Jvm.Cond.code ({ cls := "RoofWar", name := "why", desc := "(I)I" } : Jvm.MethodName) prog_1_method_30_code (2 : Nat) (Option.some Jvm.ClassFile.FieldType.int)) ∈ WT := WT_4 (List.mem_of_getElem? (i := 118) rfl) rfl
theorem mw_854 : (Jvm.Cond.methodLink "RoofWar" (283 : Nat) ({ cls := "RoofWar$Laws", name := "lastOf", desc := "(II)I" } : Jvm.MethodName)) ∈ WT := WT_4 (List.mem_of_getElem? (i := 119) rfl) rfl
theorem mw_855 : (Jvm.Cond.methodLink "RoofWarLaw" (134 : Nat) ({ cls := "RoofWar", name := "sheet", desc := "(III)I" } : Jvm.MethodName)) ∈ WT := WT_4 (List.mem_of_getElem? (i := 120) rfl) rfl
theorem mw_856 : (Jvm.Cond.instanceMethod ({ cls := "RoofWar", name := "sheet", desc := "(III)I" } : Jvm.MethodName)) ∈ WT := WT_4 (List.mem_of_getElem? (i := 121) rfl) rfl
theorem mw_857 : (Jvm.Cond.selects "RoofWar" ({ cls := "RoofWar", name := "sheet", desc := "(III)I" } : Jvm.MethodName) ({ cls := "RoofWar", name := "sheet", desc := "(III)I" } : Jvm.MethodName)) ∈ WT := WT_4 (List.mem_of_getElem? (i := 122) rfl) rfl
theorem mw_858 : (Jvm.Cond.code ({ cls := "RoofWar", name := "sheet", desc := "(III)I" } : Jvm.MethodName) prog_1_method_31_code (4 : Nat) (Option.some Jvm.ClassFile.FieldType.int)) ∈ WT := WT_4 (List.mem_of_getElem? (i := 123) rfl) rfl
theorem mw_859 : (Jvm.Cond.methodLink "RoofWar" (286 : Nat) ({ cls := "RoofWar$Row", name := "renew", desc := "(II)V" } : Jvm.MethodName)) ∈ WT := WT_4 (List.mem_of_getElem? (i := 124) rfl) rfl
theorem mw_860 : (Jvm.Cond.instanceMethod ({ cls := "RoofWar$Row", name := "renew", desc := "(II)V" } : Jvm.MethodName)) ∈ WT := WT_4 (List.mem_of_getElem? (i := 125) rfl) rfl
theorem mw_861 : (Jvm.Cond.selects "RoofWar$Row" ({ cls := "RoofWar$Row", name := "renew", desc := "(II)V" } : Jvm.MethodName) ({ cls := "RoofWar$Row", name := "renew", desc := "(II)V" } : Jvm.MethodName)) ∈ WT := WT_4 (List.mem_of_getElem? (i := 126) rfl) rfl
theorem mw_862 : (Jvm.Cond.code ({ cls := "RoofWar$Row", name := "renew", desc := "(II)V" } : Jvm.MethodName) prog_8_method_2_code (4 : Nat) (Option.none : Option Jvm.ClassFile.FieldType)) ∈ WT := WT_4 (List.mem_of_getElem? (i := 127) rfl) rfl
theorem mw_863 : (Jvm.Cond.constant "RoofWar" (289 : Nat) (-1000000014 : Int32)) ∈ WT := WT_4 (List.mem_of_getElem? (i := 128) rfl) rfl
theorem mw_864 : (Jvm.Cond.methodLink "RoofWarLaw" (138 : Nat) ({ cls := "RoofWar", name := "mark", desc := "(III)I" } : Jvm.MethodName)) ∈ WT := WT_4 (List.mem_of_getElem? (i := 129) rfl) rfl
theorem mw_865 : (Jvm.Cond.instanceMethod ({ cls := "RoofWar", name := "mark", desc := "(III)I" } : Jvm.MethodName)) ∈ WT := WT_4 (List.mem_of_getElem? (i := 130) rfl) rfl
theorem mw_866 : (Jvm.Cond.selects "RoofWar" ({ cls := "RoofWar", name := "mark", desc := "(III)I" } : Jvm.MethodName) ({ cls := "RoofWar", name := "mark", desc := "(III)I" } : Jvm.MethodName)) ∈ WT := WT_4 (List.mem_of_getElem? (i := 131) rfl) rfl
theorem mw_867 : (Jvm.Cond.code ({ cls := "RoofWar", name := "mark", desc := "(III)I" } : Jvm.MethodName) prog_1_method_32_code (5 : Nat) (Option.some Jvm.ClassFile.FieldType.int)) ∈ WT := WT_4 (List.mem_of_getElem? (i := 132) rfl) rfl
theorem mw_868 : (Jvm.Cond.methodLink "RoofWar" (290 : Nat) ({ cls := "RoofWar$Row", name := "hasPlace", desc := "(I)Z" } : Jvm.MethodName)) ∈ WT := WT_4 (List.mem_of_getElem? (i := 133) rfl) rfl
theorem mw_869 : (Jvm.Cond.instanceMethod ({ cls := "RoofWar$Row", name := "hasPlace", desc := "(I)Z" } : Jvm.MethodName)) ∈ WT := WT_4 (List.mem_of_getElem? (i := 134) rfl) rfl
theorem mw_870 : (Jvm.Cond.selects "RoofWar$Row" ({ cls := "RoofWar$Row", name := "hasPlace", desc := "(I)Z" } : Jvm.MethodName) ({ cls := "RoofWar$Row", name := "hasPlace", desc := "(I)Z" } : Jvm.MethodName)) ∈ WT := WT_4 (List.mem_of_getElem? (i := 135) rfl) rfl
theorem mw_871 : (Jvm.Cond.code ({ cls := "RoofWar$Row", name := "hasPlace", desc := "(I)Z" } : Jvm.MethodName) prog_8_method_5_code (2 : Nat) (Option.some Jvm.ClassFile.FieldType.boolean)) ∈ WT := WT_4 (List.mem_of_getElem? (i := 136) rfl) rfl
theorem mw_872 : (Jvm.Cond.constant "RoofWar" (293 : Nat) (-1000000013 : Int32)) ∈ WT := WT_4 (List.mem_of_getElem? (i := 137) rfl) rfl
theorem mw_873 : (Jvm.Cond.constant "RoofWar" (300 : Nat) (-99999 : Int32)) ∈ WT := WT_4 (List.mem_of_getElem? (i := 138) rfl) rfl
theorem mw_874 : (Jvm.Cond.constant "RoofWar" (301 : Nat) (99999 : Int32)) ∈ WT := WT_4 (List.mem_of_getElem? (i := 139) rfl) rfl
theorem mw_875 : (Jvm.Cond.methodLink "RoofWarLaw" (142 : Nat) ({ cls := "RoofWar", name := "pour", desc := "(I)I" } : Jvm.MethodName)) ∈ WT := WT_4 (List.mem_of_getElem? (i := 140) rfl) rfl
theorem mw_876 : (Jvm.Cond.instanceMethod ({ cls := "RoofWar", name := "pour", desc := "(I)I" } : Jvm.MethodName)) ∈ WT := WT_4 (List.mem_of_getElem? (i := 141) rfl) rfl
theorem mw_877 : (Jvm.Cond.selects "RoofWar" ({ cls := "RoofWar", name := "pour", desc := "(I)I" } : Jvm.MethodName) ({ cls := "RoofWar", name := "pour", desc := "(I)I" } : Jvm.MethodName)) ∈ WT := WT_4 (List.mem_of_getElem? (i := 142) rfl) rfl
theorem mw_878 : (Jvm.Cond.code ({ cls := "RoofWar", name := "pour", desc := "(I)I" } : Jvm.MethodName) prog_1_method_33_code (6 : Nat) (Option.some Jvm.ClassFile.FieldType.int)) ∈ WT := WT_4 (List.mem_of_getElem? (i := 143) rfl) rfl
theorem mw_879 : (Jvm.Cond.methodLink "RoofWar" (306 : Nat) ({ cls := "RoofWar", name := "heldWithin", desc := "(III)I" } : Jvm.MethodName)) ∈ WT := WT_4 (List.mem_of_getElem? (i := 144) rfl) rfl
theorem mw_880 : (Jvm.Cond.methodLink "RoofWarLaw" (146 : Nat) ({ cls := "RoofWar", name := "reads", desc := "(I)I" } : Jvm.MethodName)) ∈ WT := WT_4 (List.mem_of_getElem? (i := 145) rfl) rfl
theorem mw_881 : (Jvm.Cond.instanceMethod ({ cls := "RoofWar", name := "reads", desc := "(I)I" } : Jvm.MethodName)) ∈ WT := WT_4 (List.mem_of_getElem? (i := 146) rfl) rfl
theorem mw_882 : (Jvm.Cond.selects "RoofWar" ({ cls := "RoofWar", name := "reads", desc := "(I)I" } : Jvm.MethodName) ({ cls := "RoofWar", name := "reads", desc := "(I)I" } : Jvm.MethodName)) ∈ WT := WT_4 (List.mem_of_getElem? (i := 147) rfl) rfl
theorem mw_883 : (Jvm.Cond.code ({ cls := "RoofWar", name := "reads", desc := "(I)I" } : Jvm.MethodName) prog_1_method_34_code (4 : Nat) (Option.some Jvm.ClassFile.FieldType.int)) ∈ WT := WT_4 (List.mem_of_getElem? (i := 148) rfl) rfl
theorem mw_884 : (Jvm.Cond.methodLink "RoofWarLaw" (150 : Nat) ({ cls := "RoofWar", name := "copy", desc := "(IIIII)I" } : Jvm.MethodName)) ∈ WT := WT_4 (List.mem_of_getElem? (i := 149) rfl) rfl
theorem mw_885 : (Jvm.Cond.instanceMethod ({ cls := "RoofWar", name := "copy", desc := "(IIIII)I" } : Jvm.MethodName)) ∈ WT := WT_4 (List.mem_of_getElem? (i := 150) rfl) rfl
theorem mw_886 : (Jvm.Cond.selects "RoofWar" ({ cls := "RoofWar", name := "copy", desc := "(IIIII)I" } : Jvm.MethodName) ({ cls := "RoofWar", name := "copy", desc := "(IIIII)I" } : Jvm.MethodName)) ∈ WT := WT_4 (List.mem_of_getElem? (i := 151) rfl) rfl
theorem mw_887 : (Jvm.Cond.code ({ cls := "RoofWar", name := "copy", desc := "(IIIII)I" } : Jvm.MethodName) prog_1_method_35_code (8 : Nat) (Option.some Jvm.ClassFile.FieldType.int)) ∈ WT := WT_4 (List.mem_of_getElem? (i := 152) rfl) rfl
theorem mw_888 : (Jvm.Cond.methodLink "RoofWar" (310 : Nat) ({ cls := "RoofWar$Row", name := "hasPlaces", desc := "(II)Z" } : Jvm.MethodName)) ∈ WT := WT_4 (List.mem_of_getElem? (i := 153) rfl) rfl
theorem mw_889 : (Jvm.Cond.instanceMethod ({ cls := "RoofWar$Row", name := "hasPlaces", desc := "(II)Z" } : Jvm.MethodName)) ∈ WT := WT_4 (List.mem_of_getElem? (i := 154) rfl) rfl
theorem mw_890 : (Jvm.Cond.selects "RoofWar$Row" ({ cls := "RoofWar$Row", name := "hasPlaces", desc := "(II)Z" } : Jvm.MethodName) ({ cls := "RoofWar$Row", name := "hasPlaces", desc := "(II)Z" } : Jvm.MethodName)) ∈ WT := WT_4 (List.mem_of_getElem? (i := 155) rfl) rfl
theorem mw_891 : (Jvm.Cond.code ({ cls := "RoofWar$Row", name := "hasPlaces", desc := "(II)Z" } : Jvm.MethodName) prog_8_method_6_code (3 : Nat) (Option.some Jvm.ClassFile.FieldType.boolean)) ∈ WT := WT_4 (List.mem_of_getElem? (i := 156) rfl) rfl
theorem mw_892 : (Jvm.Cond.methodLink "RoofWar" (313 : Nat) ({ cls := "java/lang/System", name := "arraycopy", desc := "(Ljava/lang/Object;ILjava/lang/Object;II)V" } : Jvm.MethodName)) ∈ WT := WT_4 (List.mem_of_getElem? (i := 157) rfl) rfl
theorem mw_893 : (Jvm.Cond.methodLink "RoofWarLaw" (155 : Nat) ({ cls := "RoofWar", name := "lay", desc := "(III)I" } : Jvm.MethodName)) ∈ WT := WT_4 (List.mem_of_getElem? (i := 158) rfl) rfl
theorem mw_894 : (Jvm.Cond.instanceMethod ({ cls := "RoofWar", name := "lay", desc := "(III)I" } : Jvm.MethodName)) ∈ WT := WT_4 (List.mem_of_getElem? (i := 159) rfl) rfl
theorem mw_895 : (Jvm.Cond.selects "RoofWar" ({ cls := "RoofWar", name := "lay", desc := "(III)I" } : Jvm.MethodName) ({ cls := "RoofWar", name := "lay", desc := "(III)I" } : Jvm.MethodName)) ∈ WT := WT_4 (List.mem_of_getElem? (i := 160) rfl) rfl
theorem mw_896 : (Jvm.Cond.code ({ cls := "RoofWar", name := "lay", desc := "(III)I" } : Jvm.MethodName) prog_1_method_36_code (6 : Nat) (Option.some Jvm.ClassFile.FieldType.int)) ∈ WT := WT_4 (List.mem_of_getElem? (i := 161) rfl) rfl
theorem mw_897 : (Jvm.Cond.methodLink "RoofWar" (319 : Nat) ({ cls := "RoofWar", name := "isSlot", desc := "(I)Z" } : Jvm.MethodName)) ∈ WT := WT_4 (List.mem_of_getElem? (i := 162) rfl) rfl
theorem mw_898 : (Jvm.Cond.static ({ cls := "RoofWar", name := "isSlot", desc := "(I)Z" } : Jvm.MethodName)) ∈ WT := WT_4 (List.mem_of_getElem? (i := 163) rfl) rfl
theorem mw_899 : (Jvm.Cond.code ({ cls := "RoofWar", name := "isSlot", desc := "(I)Z" } : Jvm.MethodName) prog_1_method_52_code (1 : Nat) (Option.some Jvm.ClassFile.FieldType.boolean)) ∈ WT := WT_4 (List.mem_of_getElem? (i := 164) rfl) rfl
theorem mw_900 : (Jvm.Cond.methodLink "RoofWar" (335 : Nat) ({ cls := "RoofWar$Row", name := "becomeLike", desc := "(LRoofWar$Row;)V" } : Jvm.MethodName)) ∈ WT := WT_4 (List.mem_of_getElem? (i := 165) rfl) rfl
theorem mw_901 : (Jvm.Cond.instanceMethod ({ cls := "RoofWar$Row", name := "becomeLike", desc := "(LRoofWar$Row;)V" } : Jvm.MethodName)) ∈ WT := WT_4 (List.mem_of_getElem? (i := 166) rfl) rfl
theorem mw_902 : (Jvm.Cond.selects "RoofWar$Row" ({ cls := "RoofWar$Row", name := "becomeLike", desc := "(LRoofWar$Row;)V" } : Jvm.MethodName) ({ cls := "RoofWar$Row", name := "becomeLike", desc := "(LRoofWar$Row;)V" } : Jvm.MethodName)) ∈ WT := WT_4 (List.mem_of_getElem? (i := 167) rfl) rfl
theorem mw_903 : (Jvm.Cond.code ({ cls := "RoofWar$Row", name := "becomeLike", desc := "(LRoofWar$Row;)V" } : Jvm.MethodName) prog_8_method_3_code (2 : Nat) (Option.none : Option Jvm.ClassFile.FieldType)) ∈ WT := WT_4 (List.mem_of_getElem? (i := 168) rfl) rfl
theorem mw_904 : (Jvm.Cond.methodLink "RoofWar$Row" (22 : Nat) ({ cls := "java/lang/System", name := "arraycopy", desc := "(Ljava/lang/Object;ILjava/lang/Object;II)V" } : Jvm.MethodName)) ∈ WT := WT_4 (List.mem_of_getElem? (i := 169) rfl) rfl
theorem mw_905 : (Jvm.Cond.methodLink "RoofWarLaw" (159 : Nat) ({ cls := "RoofWar", name := "ask", desc := "(II)I" } : Jvm.MethodName)) ∈ WT := WT_4 (List.mem_of_getElem? (i := 170) rfl) rfl
theorem mw_906 : (Jvm.Cond.instanceMethod ({ cls := "RoofWar", name := "ask", desc := "(II)I" } : Jvm.MethodName)) ∈ WT := WT_4 (List.mem_of_getElem? (i := 171) rfl) rfl
theorem mw_907 : (Jvm.Cond.selects "RoofWar" ({ cls := "RoofWar", name := "ask", desc := "(II)I" } : Jvm.MethodName) ({ cls := "RoofWar", name := "ask", desc := "(II)I" } : Jvm.MethodName)) ∈ WT := WT_4 (List.mem_of_getElem? (i := 172) rfl) rfl
theorem mw_908 : (Jvm.Cond.code ({ cls := "RoofWar", name := "ask", desc := "(II)I" } : Jvm.MethodName) prog_1_method_37_code (4 : Nat) (Option.some Jvm.ClassFile.FieldType.int)) ∈ WT := WT_4 (List.mem_of_getElem? (i := 173) rfl) rfl
theorem mw_909 : (Jvm.Cond.methodLink "RoofWarLaw" (163 : Nat) ({ cls := "RoofWar", name := "item", desc := "(II)I" } : Jvm.MethodName)) ∈ WT := WT_4 (List.mem_of_getElem? (i := 174) rfl) rfl
theorem mw_910 : (Jvm.Cond.instanceMethod ({ cls := "RoofWar", name := "item", desc := "(II)I" } : Jvm.MethodName)) ∈ WT := WT_4 (List.mem_of_getElem? (i := 175) rfl) rfl
theorem mw_911 : (Jvm.Cond.selects "RoofWar" ({ cls := "RoofWar", name := "item", desc := "(II)I" } : Jvm.MethodName) ({ cls := "RoofWar", name := "item", desc := "(II)I" } : Jvm.MethodName)) ∈ WT := WT_4 (List.mem_of_getElem? (i := 176) rfl) rfl
theorem mw_912 : (Jvm.Cond.code ({ cls := "RoofWar", name := "item", desc := "(II)I" } : Jvm.MethodName) prog_1_method_38_code (4 : Nat) (Option.some Jvm.ClassFile.FieldType.int)) ∈ WT := WT_4 (List.mem_of_getElem? (i := 177) rfl) rfl
theorem mw_913 : (Jvm.Cond.methodLink "RoofWarLaw" (167 : Nat) ({ cls := "RoofWar", name := "rest", desc := "(II)I" } : Jvm.MethodName)) ∈ WT := WT_4 (List.mem_of_getElem? (i := 178) rfl) rfl
theorem mw_914 : (Jvm.Cond.instanceMethod ({ cls := "RoofWar", name := "rest", desc := "(II)I" } : Jvm.MethodName)) ∈ WT := WT_4 (List.mem_of_getElem? (i := 179) rfl) rfl
theorem mw_915 : (Jvm.Cond.selects "RoofWar" ({ cls := "RoofWar", name := "rest", desc := "(II)I" } : Jvm.MethodName) ({ cls := "RoofWar", name := "rest", desc := "(II)I" } : Jvm.MethodName)) ∈ WT := WT_4 (List.mem_of_getElem? (i := 180) rfl) rfl
theorem mw_916 : (Jvm.Cond.code ({ cls := "RoofWar", name := "rest", desc := "(II)I" } : Jvm.MethodName) prog_1_method_39_code (4 : Nat) (Option.some Jvm.ClassFile.FieldType.int)) ∈ WT := WT_4 (List.mem_of_getElem? (i := 181) rfl) rfl
theorem mw_917 : (Jvm.Cond.methodLink "RoofWarLaw" (171 : Nat) ({ cls := "RoofWar", name := "tell", desc := "(I)I" } : Jvm.MethodName)) ∈ WT := WT_4 (List.mem_of_getElem? (i := 182) rfl) rfl
theorem mw_918 : (Jvm.Cond.instanceMethod ({ cls := "RoofWar", name := "tell", desc := "(I)I" } : Jvm.MethodName)) ∈ WT := WT_4 (List.mem_of_getElem? (i := 183) rfl) rfl
theorem mw_919 : (Jvm.Cond.selects "RoofWar" ({ cls := "RoofWar", name := "tell", desc := "(I)I" } : Jvm.MethodName) ({ cls := "RoofWar", name := "tell", desc := "(I)I" } : Jvm.MethodName)) ∈ WT := WT_4 (List.mem_of_getElem? (i := 184) rfl) rfl
theorem mw_920 : (Jvm.Cond.code ({ cls := "RoofWar", name := "tell", desc := "(I)I" } : Jvm.MethodName) prog_1_method_40_code (2 : Nat) (Option.some Jvm.ClassFile.FieldType.int)) ∈ WT := WT_4 (List.mem_of_getElem? (i := 185) rfl) rfl
theorem mw_921 : (Jvm.Cond.methodLink "RoofWarLaw" (175 : Nat) ({ cls := "RoofWar", name := "check", desc := "(I)I" } : Jvm.MethodName)) ∈ WT := WT_4 (List.mem_of_getElem? (i := 186) rfl) rfl
theorem mw_922 : (Jvm.Cond.instanceMethod ({ cls := "RoofWar", name := "check", desc := "(I)I" } : Jvm.MethodName)) ∈ WT := WT_4 (List.mem_of_getElem? (i := 187) rfl) rfl
theorem mw_923 : (Jvm.Cond.selects "RoofWar" ({ cls := "RoofWar", name := "check", desc := "(I)I" } : Jvm.MethodName) ({ cls := "RoofWar", name := "check", desc := "(I)I" } : Jvm.MethodName)) ∈ WT := WT_4 (List.mem_of_getElem? (i := 188) rfl) rfl
theorem mw_924 : (Jvm.Cond.code ({ cls := "RoofWar", name := "check", desc := "(I)I" } : Jvm.MethodName) prog_1_method_41_code (5 : Nat) (Option.some Jvm.ClassFile.FieldType.int)) ∈ WT := WT_4 (List.mem_of_getElem? (i := 189) rfl) rfl
theorem mw_925 : (Jvm.Cond.methodLink "RoofWar" (340 : Nat) ({ cls := "RoofWar", name := "waitsAt", desc := "(III)Z" } : Jvm.MethodName)) ∈ WT := WT_4 (List.mem_of_getElem? (i := 190) rfl) rfl
theorem mw_926 : (Jvm.Cond.instanceMethod ({ cls := "RoofWar", name := "waitsAt", desc := "(III)Z" } : Jvm.MethodName)) ∈ WT := WT_4 (List.mem_of_getElem? (i := 192) rfl) rfl
theorem mw_927 : (Jvm.Cond.code ({ cls := "RoofWar", name := "waitsAt", desc := "(III)Z" } : Jvm.MethodName) prog_1_method_57_code (4 : Nat) (Option.some Jvm.ClassFile.FieldType.boolean)) ∈ WT := WT_4 (List.mem_of_getElem? (i := 193) rfl) rfl
theorem mw_928 : (Jvm.Cond.methodLink "RoofWarLaw" (179 : Nat) ({ cls := "RoofWar", name := "keep", desc := "()I" } : Jvm.MethodName)) ∈ WT := WT_4 (List.mem_of_getElem? (i := 194) rfl) rfl
theorem mw_929 : (Jvm.Cond.instanceMethod ({ cls := "RoofWar", name := "keep", desc := "()I" } : Jvm.MethodName)) ∈ WT := WT_4 (List.mem_of_getElem? (i := 195) rfl) rfl
theorem mw_930 : (Jvm.Cond.selects "RoofWar" ({ cls := "RoofWar", name := "keep", desc := "()I" } : Jvm.MethodName) ({ cls := "RoofWar", name := "keep", desc := "()I" } : Jvm.MethodName)) ∈ WT := WT_4 (List.mem_of_getElem? (i := 196) rfl) rfl
theorem mw_931 : (Jvm.Cond.code ({ cls := "RoofWar", name := "keep", desc := "()I" } : Jvm.MethodName) prog_1_method_42_code (1 : Nat) (Option.some Jvm.ClassFile.FieldType.int)) ∈ WT := WT_4 (List.mem_of_getElem? (i := 197) rfl) rfl
theorem mw_932 : (Jvm.Cond.methodLink "RoofWarLaw" (183 : Nat) ({ cls := "RoofWar", name := "back", desc := "()I" } : Jvm.MethodName)) ∈ WT := WT_4 (List.mem_of_getElem? (i := 198) rfl) rfl
theorem mw_933 : (Jvm.Cond.instanceMethod ({ cls := "RoofWar", name := "back", desc := "()I" } : Jvm.MethodName)) ∈ WT := WT_4 (List.mem_of_getElem? (i := 199) rfl) rfl
theorem mw_934 : (Jvm.Cond.selects "RoofWar" ({ cls := "RoofWar", name := "back", desc := "()I" } : Jvm.MethodName) ({ cls := "RoofWar", name := "back", desc := "()I" } : Jvm.MethodName)) ∈ WT := WT_4 (List.mem_of_getElem? (i := 200) rfl) rfl
theorem mw_935 : (Jvm.Cond.code ({ cls := "RoofWar", name := "back", desc := "()I" } : Jvm.MethodName) prog_1_method_43_code (1 : Nat) (Option.some Jvm.ClassFile.FieldType.int)) ∈ WT := WT_4 (List.mem_of_getElem? (i := 201) rfl) rfl
theorem mw_936 : (Jvm.Cond.methodLink "RoofWarLaw" (187 : Nat) ({ cls := "RoofWar", name := "count", desc := "(I)I" } : Jvm.MethodName)) ∈ WT := WT_4 (List.mem_of_getElem? (i := 202) rfl) rfl
theorem mw_937 : (Jvm.Cond.instanceMethod ({ cls := "RoofWar", name := "count", desc := "(I)I" } : Jvm.MethodName)) ∈ WT := WT_4 (List.mem_of_getElem? (i := 203) rfl) rfl
theorem mw_938 : (Jvm.Cond.selects "RoofWar" ({ cls := "RoofWar", name := "count", desc := "(I)I" } : Jvm.MethodName) ({ cls := "RoofWar", name := "count", desc := "(I)I" } : Jvm.MethodName)) ∈ WT := WT_4 (List.mem_of_getElem? (i := 204) rfl) rfl
theorem mw_939 : (Jvm.Cond.code ({ cls := "RoofWar", name := "count", desc := "(I)I" } : Jvm.MethodName) prog_1_method_44_code (2 : Nat) (Option.some Jvm.ClassFile.FieldType.int)) ∈ WT := WT_4 (List.mem_of_getElem? (i := 205) rfl) rfl
theorem mw_940 : (Jvm.Cond.classLink "RoofWarLaw" (10 : Nat) "RoofWarModel") ∈ WT := WT_4 (List.mem_of_getElem? (i := 206) rfl) rfl
theorem mw_941 : (Jvm.Cond.instantiable "RoofWarModel" (34 : Nat)) ∈ WT := WT_4 (List.mem_of_getElem? (i := 207) rfl) rfl
theorem mw_942 : (Jvm.Cond.methodLink "RoofWarLaw" (12 : Nat) ({ cls := "RoofWarModel", name := "<init>", desc := "()V" } : Jvm.MethodName)) ∈ WT := WT_4 (List.mem_of_getElem? (i := 208) rfl) rfl
theorem mw_943 : (Jvm.Cond.instanceMethod ({ cls := "RoofWarModel", name := "<init>", desc := "()V" } : Jvm.MethodName)) ∈ WT := WT_4 (List.mem_of_getElem? (i := 209) rfl) rfl
theorem mw_944 : (Jvm.Cond.code ({ cls := "RoofWarModel", name := "<init>", desc := "()V" } : Jvm.MethodName) prog_12_method_1_code (2 : Nat) (Option.none : Option Jvm.ClassFile.FieldType)) ∈ WT := WT_4 (List.mem_of_getElem? (i := 210) rfl) rfl
theorem mw_945 : (Jvm.Cond.methodLink "RoofWarModel" (1 : Nat) ({ cls := "java/lang/Object", name := "<init>", desc := "()V" } : Jvm.MethodName)) ∈ WT := WT_4 (List.mem_of_getElem? (i := 211) rfl) rfl
theorem mw_946 : (Jvm.Cond.fieldLink "RoofWarModel" (7 : Nat) "RoofWarModel" "s" "[I") ∈ WT := WT_4 (List.mem_of_getElem? (i := 212) rfl) rfl
theorem mw_947 : (Jvm.Cond.fieldLink "RoofWarModel" (13 : Nat) "RoofWarModel" "image" "[I") ∈ WT := WT_4 (List.mem_of_getElem? (i := 213) rfl) rfl
theorem mw_948 : (Jvm.Cond.fieldLink "RoofWarModel" (16 : Nat) "RoofWarModel" "aside" "[I") ∈ WT := WT_4 (List.mem_of_getElem? (i := 214) rfl) rfl
theorem mw_949 : (Jvm.Cond.fieldLink "RoofWarModel" (356 : Nat) "RoofWarModel" "hasImage" "Z") ∈ WT := WT_4 (List.mem_of_getElem? (i := 215) rfl) rfl
theorem mw_950 : (Jvm.Cond.fieldLink "RoofWarModel" (19 : Nat) "RoofWarModel" "tSort" "[I") ∈ WT := WT_4 (List.mem_of_getElem? (i := 216) rfl) rfl
theorem mw_951 : (Jvm.Cond.fieldLink "RoofWarModel" (22 : Nat) "RoofWarModel" "tSize" "[I") ∈ WT := WT_4 (List.mem_of_getElem? (i := 217) rfl) rfl
theorem mw_952 : (Jvm.Cond.fieldLink "RoofWarModel" (25 : Nat) "RoofWarModel" "tNumber" "[I") ∈ WT := WT_4 (List.mem_of_getElem? (i := 218) rfl) rfl
theorem mw_953 : (Jvm.Cond.fieldLink "RoofWarModel" (28 : Nat) "RoofWarModel" "held" "[I") ∈ WT := WT_4 (List.mem_of_getElem? (i := 219) rfl) rfl
theorem mw_954 : (Jvm.Cond.fieldLink "RoofWarModel" (31 : Nat) "RoofWarModel" "heldNumber" "[I") ∈ WT := WT_4 (List.mem_of_getElem? (i := 220) rfl) rfl
theorem mw_955 : (Jvm.Cond.fieldLink "RoofWarModel" (34 : Nat) "RoofWarModel" "heldWorth" "[I") ∈ WT := WT_4 (List.mem_of_getElem? (i := 221) rfl) rfl
theorem mw_956 : (Jvm.Cond.fieldLink "RoofWarModel" (37 : Nat) "RoofWarModel" "heldSize" "[I") ∈ WT := WT_4 (List.mem_of_getElem? (i := 222) rfl) rfl
theorem mw_957 : (Jvm.Cond.fieldLink "RoofWarModel" (40 : Nat) "RoofWarModel" "heldRow" "[I") ∈ WT := WT_4 (List.mem_of_getElem? (i := 223) rfl) rfl
theorem mw_958 : (Jvm.Cond.fieldLink "RoofWarModel" (43 : Nat) "RoofWarModel" "tried" "[I") ∈ WT := WT_4 (List.mem_of_getElem? (i := 224) rfl) rfl
theorem mw_959 : (Jvm.Cond.fieldLink "RoofWarModel" (46 : Nat) "RoofWarModel" "bestLaid" "[I") ∈ WT := WT_4 (List.mem_of_getElem? (i := 225) rfl) rfl
theorem mw_960 : (Jvm.Cond.fieldLink "RoofWarModel" (209 : Nat) "RoofWarModel" "mostDry" "I") ∈ WT := WT_4 (List.mem_of_getElem? (i := 226) rfl) rfl
theorem mw_961 : (Jvm.Cond.fieldLink "RoofWarModel" (49 : Nat) "RoofWarModel" "close" "[I") ∈ WT := WT_4 (List.mem_of_getElem? (i := 227) rfl) rfl
theorem mw_962 : (Jvm.Cond.fieldLink "RoofWarModel" (52 : Nat) "RoofWarModel" "tape" "[I") ∈ WT := WT_4 (List.mem_of_getElem? (i := 228) rfl) rfl
theorem mw_963 : (Jvm.Cond.fieldLink "RoofWarModel" (233 : Nat) "RoofWarModel" "taped" "I") ∈ WT := WT_4 (List.mem_of_getElem? (i := 229) rfl) rfl
theorem mw_964 : (Jvm.Cond.fieldLink "RoofWarModel" (250 : Nat) "RoofWarModel" "begin" "I") ∈ WT := WT_4 (List.mem_of_getElem? (i := 230) rfl) rfl
theorem mw_965 : (Jvm.Cond.fieldLink "RoofWarModel" (244 : Nat) "RoofWarModel" "behind" "I") ∈ WT := WT_4 (List.mem_of_getElem? (i := 231) rfl) rfl
theorem mw_966 : (Jvm.Cond.fieldLink "RoofWarModel" (247 : Nat) "RoofWarModel" "token" "I") ∈ WT := WT_4 (List.mem_of_getElem? (i := 232) rfl) rfl
theorem mw_967 : (Jvm.Cond.fieldLink "RoofWarModel" (262 : Nat) "RoofWarModel" "number" "I") ∈ WT := WT_4 (List.mem_of_getElem? (i := 233) rfl) rfl
theorem mw_968 : (Jvm.Cond.fieldLink "RoofWarModel" (256 : Nat) "RoofWarModel" "letter" "I") ∈ WT := WT_4 (List.mem_of_getElem? (i := 234) rfl) rfl
theorem mw_969 : (Jvm.Cond.fieldLink "RoofWarModel" (312 : Nat) "RoofWarModel" "deep" "I") ∈ WT := WT_4 (List.mem_of_getElem? (i := 235) rfl) rfl
theorem mw_970 : (Jvm.Cond.fieldLink "RoofWarModel" (309 : Nat) "RoofWarModel" "turned" "I") ∈ WT := WT_4 (List.mem_of_getElem? (i := 236) rfl) rfl
theorem mw_971 : (Jvm.Cond.fieldLink "RoofWarModel" (276 : Nat) "RoofWarModel" "laid" "I") ∈ WT := WT_4 (List.mem_of_getElem? (i := 237) rfl) rfl
theorem mw_972 : (Jvm.Cond.fieldLink "RoofWarModel" (273 : Nat) "RoofWarModel" "laidAt" "I") ∈ WT := WT_4 (List.mem_of_getElem? (i := 238) rfl) rfl
theorem mw_973 : (Jvm.Cond.fieldLink "RoofWarModel" (303 : Nat) "RoofWarModel" "said" "I") ∈ WT := WT_4 (List.mem_of_getElem? (i := 239) rfl) rfl
theorem mw_974 : (Jvm.Cond.fieldLink "RoofWarModel" (55 : Nat) "RoofWarModel" "named" "[I") ∈ WT := WT_5 (List.mem_of_getElem? (i := 0) rfl) rfl
theorem mw_975 : (Jvm.Cond.fieldLink "RoofWarModel" (58 : Nat) "RoofWarModel" "pile" "[I") ∈ WT := WT_5 (List.mem_of_getElem? (i := 1) rfl) rfl
theorem mw_976 : (Jvm.Cond.fieldLink "RoofWarModel" (61 : Nat) "RoofWarModel" "carried" "[I") ∈ WT := WT_5 (List.mem_of_getElem? (i := 2) rfl) rfl
theorem mw_977 : (Jvm.Cond.fieldLink "RoofWarModel" (64 : Nat) "RoofWarModel" "waits" "[I") ∈ WT := WT_5 (List.mem_of_getElem? (i := 3) rfl) rfl
theorem mw_978 : (Jvm.Cond.fieldLink "RoofWarModel" (351 : Nat) "RoofWarModel" "waiting" "I") ∈ WT := WT_5 (List.mem_of_getElem? (i := 4) rfl) rfl
theorem mw_979 : (Jvm.Cond.fieldLink "RoofWarModel" (67 : Nat) "RoofWarModel" "rowDue" "[I") ∈ WT := WT_5 (List.mem_of_getElem? (i := 5) rfl) rfl
theorem mw_980 : (Jvm.Cond.laysFinal "RoofWarModel" "RoofWarModel" "s" "[I") ∈ WT := WT_5 (List.mem_of_getElem? (i := 6) rfl) rfl
theorem mw_981 : (Jvm.Cond.soleField "RoofWarModel" "s") ∈ WT := WT_5 (List.mem_of_getElem? (i := 7) rfl) rfl
theorem mw_982 : (Jvm.Cond.laysFinal "RoofWarModel" "RoofWarModel" "image" "[I") ∈ WT := WT_5 (List.mem_of_getElem? (i := 8) rfl) rfl
theorem mw_983 : (Jvm.Cond.soleField "RoofWarModel" "image") ∈ WT := WT_5 (List.mem_of_getElem? (i := 9) rfl) rfl
theorem mw_984 : (Jvm.Cond.laysFinal "RoofWarModel" "RoofWarModel" "aside" "[I") ∈ WT := WT_5 (List.mem_of_getElem? (i := 10) rfl) rfl
theorem mw_985 : (Jvm.Cond.soleField "RoofWarModel" "aside") ∈ WT := WT_5 (List.mem_of_getElem? (i := 11) rfl) rfl
theorem mw_986 : (Jvm.Cond.lays "RoofWarModel" "RoofWarModel" "hasImage" "Z") ∈ WT := WT_5 (List.mem_of_getElem? (i := 12) rfl) rfl
theorem mw_987 : (Jvm.Cond.soleField "RoofWarModel" "hasImage") ∈ WT := WT_5 (List.mem_of_getElem? (i := 13) rfl) rfl
theorem mw_988 : (Jvm.Cond.laysFinal "RoofWarModel" "RoofWarModel" "tSort" "[I") ∈ WT := WT_5 (List.mem_of_getElem? (i := 14) rfl) rfl
theorem mw_989 : (Jvm.Cond.soleField "RoofWarModel" "tSort") ∈ WT := WT_5 (List.mem_of_getElem? (i := 15) rfl) rfl
theorem mw_990 : (Jvm.Cond.laysFinal "RoofWarModel" "RoofWarModel" "tSize" "[I") ∈ WT := WT_5 (List.mem_of_getElem? (i := 16) rfl) rfl
theorem mw_991 : (Jvm.Cond.soleField "RoofWarModel" "tSize") ∈ WT := WT_5 (List.mem_of_getElem? (i := 17) rfl) rfl
theorem mw_992 : (Jvm.Cond.laysFinal "RoofWarModel" "RoofWarModel" "tNumber" "[I") ∈ WT := WT_5 (List.mem_of_getElem? (i := 18) rfl) rfl
theorem mw_993 : (Jvm.Cond.soleField "RoofWarModel" "tNumber") ∈ WT := WT_5 (List.mem_of_getElem? (i := 19) rfl) rfl
theorem mw_994 : (Jvm.Cond.laysFinal "RoofWarModel" "RoofWarModel" "held" "[I") ∈ WT := WT_5 (List.mem_of_getElem? (i := 20) rfl) rfl
theorem mw_995 : (Jvm.Cond.soleField "RoofWarModel" "held") ∈ WT := WT_5 (List.mem_of_getElem? (i := 21) rfl) rfl
theorem mw_996 : (Jvm.Cond.laysFinal "RoofWarModel" "RoofWarModel" "heldNumber" "[I") ∈ WT := WT_5 (List.mem_of_getElem? (i := 22) rfl) rfl
theorem mw_997 : (Jvm.Cond.soleField "RoofWarModel" "heldNumber") ∈ WT := WT_5 (List.mem_of_getElem? (i := 23) rfl) rfl
theorem mw_998 : (Jvm.Cond.laysFinal "RoofWarModel" "RoofWarModel" "heldWorth" "[I") ∈ WT := WT_5 (List.mem_of_getElem? (i := 24) rfl) rfl
theorem mw_999 : (Jvm.Cond.soleField "RoofWarModel" "heldWorth") ∈ WT := WT_5 (List.mem_of_getElem? (i := 25) rfl) rfl
theorem mw_1000 : (Jvm.Cond.laysFinal "RoofWarModel" "RoofWarModel" "heldSize" "[I") ∈ WT := WT_5 (List.mem_of_getElem? (i := 26) rfl) rfl
theorem mw_1001 : (Jvm.Cond.soleField "RoofWarModel" "heldSize") ∈ WT := WT_5 (List.mem_of_getElem? (i := 27) rfl) rfl
theorem mw_1002 : (Jvm.Cond.laysFinal "RoofWarModel" "RoofWarModel" "heldRow" "[I") ∈ WT := WT_5 (List.mem_of_getElem? (i := 28) rfl) rfl
theorem mw_1003 : (Jvm.Cond.soleField "RoofWarModel" "heldRow") ∈ WT := WT_5 (List.mem_of_getElem? (i := 29) rfl) rfl
theorem mw_1004 : (Jvm.Cond.laysFinal "RoofWarModel" "RoofWarModel" "tried" "[I") ∈ WT := WT_5 (List.mem_of_getElem? (i := 30) rfl) rfl
theorem mw_1005 : (Jvm.Cond.soleField "RoofWarModel" "tried") ∈ WT := WT_5 (List.mem_of_getElem? (i := 31) rfl) rfl
theorem mw_1006 : (Jvm.Cond.laysFinal "RoofWarModel" "RoofWarModel" "bestLaid" "[I") ∈ WT := WT_5 (List.mem_of_getElem? (i := 32) rfl) rfl
theorem mw_1007 : (Jvm.Cond.soleField "RoofWarModel" "bestLaid") ∈ WT := WT_5 (List.mem_of_getElem? (i := 33) rfl) rfl
theorem mw_1008 : (Jvm.Cond.lays "RoofWarModel" "RoofWarModel" "mostDry" "I") ∈ WT := WT_5 (List.mem_of_getElem? (i := 34) rfl) rfl
theorem mw_1009 : (Jvm.Cond.soleField "RoofWarModel" "mostDry") ∈ WT := WT_5 (List.mem_of_getElem? (i := 35) rfl) rfl
theorem mw_1010 : (Jvm.Cond.laysFinal "RoofWarModel" "RoofWarModel" "close" "[I") ∈ WT := WT_5 (List.mem_of_getElem? (i := 36) rfl) rfl
theorem mw_1011 : (Jvm.Cond.soleField "RoofWarModel" "close") ∈ WT := WT_5 (List.mem_of_getElem? (i := 37) rfl) rfl
theorem mw_1012 : (Jvm.Cond.laysFinal "RoofWarModel" "RoofWarModel" "tape" "[I") ∈ WT := WT_5 (List.mem_of_getElem? (i := 38) rfl) rfl
theorem mw_1013 : (Jvm.Cond.soleField "RoofWarModel" "tape") ∈ WT := WT_5 (List.mem_of_getElem? (i := 39) rfl) rfl
theorem mw_1014 : (Jvm.Cond.lays "RoofWarModel" "RoofWarModel" "taped" "I") ∈ WT := WT_5 (List.mem_of_getElem? (i := 40) rfl) rfl
theorem mw_1015 : (Jvm.Cond.soleField "RoofWarModel" "taped") ∈ WT := WT_5 (List.mem_of_getElem? (i := 41) rfl) rfl
theorem mw_1016 : (Jvm.Cond.lays "RoofWarModel" "RoofWarModel" "begin" "I") ∈ WT := WT_5 (List.mem_of_getElem? (i := 42) rfl) rfl
theorem mw_1017 : (Jvm.Cond.soleField "RoofWarModel" "begin") ∈ WT := WT_5 (List.mem_of_getElem? (i := 43) rfl) rfl
theorem mw_1018 : (Jvm.Cond.lays "RoofWarModel" "RoofWarModel" "behind" "I") ∈ WT := WT_5 (List.mem_of_getElem? (i := 44) rfl) rfl
theorem mw_1019 : (Jvm.Cond.soleField "RoofWarModel" "behind") ∈ WT := WT_5 (List.mem_of_getElem? (i := 45) rfl) rfl
theorem mw_1020 : (Jvm.Cond.lays "RoofWarModel" "RoofWarModel" "token" "I") ∈ WT := WT_5 (List.mem_of_getElem? (i := 46) rfl) rfl
theorem mw_1021 : (Jvm.Cond.soleField "RoofWarModel" "token") ∈ WT := WT_5 (List.mem_of_getElem? (i := 47) rfl) rfl
theorem mw_1022 : (Jvm.Cond.lays "RoofWarModel" "RoofWarModel" "number" "I") ∈ WT := WT_5 (List.mem_of_getElem? (i := 48) rfl) rfl
theorem mw_1023 : (Jvm.Cond.soleField "RoofWarModel" "number") ∈ WT := WT_5 (List.mem_of_getElem? (i := 49) rfl) rfl
theorem mw_1024 : (Jvm.Cond.lays "RoofWarModel" "RoofWarModel" "letter" "I") ∈ WT := WT_5 (List.mem_of_getElem? (i := 50) rfl) rfl
theorem mw_1025 : (Jvm.Cond.soleField "RoofWarModel" "letter") ∈ WT := WT_5 (List.mem_of_getElem? (i := 51) rfl) rfl
theorem mw_1026 : (Jvm.Cond.lays "RoofWarModel" "RoofWarModel" "deep" "I") ∈ WT := WT_5 (List.mem_of_getElem? (i := 52) rfl) rfl
theorem mw_1027 : (Jvm.Cond.soleField "RoofWarModel" "deep") ∈ WT := WT_5 (List.mem_of_getElem? (i := 53) rfl) rfl
theorem mw_1028 : (Jvm.Cond.lays "RoofWarModel" "RoofWarModel" "turned" "I") ∈ WT := WT_5 (List.mem_of_getElem? (i := 54) rfl) rfl
theorem mw_1029 : (Jvm.Cond.soleField "RoofWarModel" "turned") ∈ WT := WT_5 (List.mem_of_getElem? (i := 55) rfl) rfl
theorem mw_1030 : (Jvm.Cond.lays "RoofWarModel" "RoofWarModel" "laid" "I") ∈ WT := WT_5 (List.mem_of_getElem? (i := 56) rfl) rfl
theorem mw_1031 : (Jvm.Cond.soleField "RoofWarModel" "laid") ∈ WT := WT_5 (List.mem_of_getElem? (i := 57) rfl) rfl
theorem mw_1032 : (Jvm.Cond.lays "RoofWarModel" "RoofWarModel" "laidAt" "I") ∈ WT := WT_5 (List.mem_of_getElem? (i := 58) rfl) rfl
theorem mw_1033 : (Jvm.Cond.soleField "RoofWarModel" "laidAt") ∈ WT := WT_5 (List.mem_of_getElem? (i := 59) rfl) rfl
theorem mw_1034 : (Jvm.Cond.lays "RoofWarModel" "RoofWarModel" "said" "I") ∈ WT := WT_5 (List.mem_of_getElem? (i := 60) rfl) rfl
theorem mw_1035 : (Jvm.Cond.soleField "RoofWarModel" "said") ∈ WT := WT_5 (List.mem_of_getElem? (i := 61) rfl) rfl
theorem mw_1036 : (Jvm.Cond.laysFinal "RoofWarModel" "RoofWarModel" "named" "[I") ∈ WT := WT_5 (List.mem_of_getElem? (i := 62) rfl) rfl
theorem mw_1037 : (Jvm.Cond.soleField "RoofWarModel" "named") ∈ WT := WT_5 (List.mem_of_getElem? (i := 63) rfl) rfl
theorem mw_1038 : (Jvm.Cond.laysFinal "RoofWarModel" "RoofWarModel" "pile" "[I") ∈ WT := WT_5 (List.mem_of_getElem? (i := 64) rfl) rfl
theorem mw_1039 : (Jvm.Cond.soleField "RoofWarModel" "pile") ∈ WT := WT_5 (List.mem_of_getElem? (i := 65) rfl) rfl
theorem mw_1040 : (Jvm.Cond.laysFinal "RoofWarModel" "RoofWarModel" "carried" "[I") ∈ WT := WT_5 (List.mem_of_getElem? (i := 66) rfl) rfl
theorem mw_1041 : (Jvm.Cond.soleField "RoofWarModel" "carried") ∈ WT := WT_5 (List.mem_of_getElem? (i := 67) rfl) rfl
theorem mw_1042 : (Jvm.Cond.laysFinal "RoofWarModel" "RoofWarModel" "waits" "[I") ∈ WT := WT_5 (List.mem_of_getElem? (i := 68) rfl) rfl
theorem mw_1043 : (Jvm.Cond.soleField "RoofWarModel" "waits") ∈ WT := WT_5 (List.mem_of_getElem? (i := 69) rfl) rfl
theorem mw_1044 : (Jvm.Cond.lays "RoofWarModel" "RoofWarModel" "waiting" "I") ∈ WT := WT_5 (List.mem_of_getElem? (i := 70) rfl) rfl
theorem mw_1045 : (Jvm.Cond.soleField "RoofWarModel" "waiting") ∈ WT := WT_5 (List.mem_of_getElem? (i := 71) rfl) rfl
theorem mw_1046 : (Jvm.Cond.laysFinal "RoofWarModel" "RoofWarModel" "rowDue" "[I") ∈ WT := WT_5 (List.mem_of_getElem? (i := 72) rfl) rfl
theorem mw_1047 : (Jvm.Cond.soleField "RoofWarModel" "rowDue") ∈ WT := WT_5 (List.mem_of_getElem? (i := 73) rfl) rfl
theorem mw_1048 : (Jvm.Cond.superclass "RoofWarModel" "java/lang/Object") ∈ WT := WT_5 (List.mem_of_getElem? (i := 74) rfl) rfl
theorem mw_1049 : (Jvm.Cond.methodLink "RoofWarLaw" (17 : Nat) ({ cls := "RoofWarModel", name := "roof", desc := "(IIII)I" } : Jvm.MethodName)) ∈ WT := WT_5 (List.mem_of_getElem? (i := 75) rfl) rfl
theorem mw_1050 : (Jvm.Cond.instanceMethod ({ cls := "RoofWarModel", name := "roof", desc := "(IIII)I" } : Jvm.MethodName)) ∈ WT := WT_5 (List.mem_of_getElem? (i := 76) rfl) rfl
theorem mw_1051 : (Jvm.Cond.selects "RoofWarModel" ({ cls := "RoofWarModel", name := "roof", desc := "(IIII)I" } : Jvm.MethodName) ({ cls := "RoofWarModel", name := "roof", desc := "(IIII)I" } : Jvm.MethodName)) ∈ WT := WT_5 (List.mem_of_getElem? (i := 77) rfl) rfl
theorem mw_1052 : (Jvm.Cond.code ({ cls := "RoofWarModel", name := "roof", desc := "(IIII)I" } : Jvm.MethodName) prog_12_method_23_code (5 : Nat) (Option.some Jvm.ClassFile.FieldType.int)) ∈ WT := WT_5 (List.mem_of_getElem? (i := 78) rfl) rfl
theorem mw_1053 : (Jvm.Cond.constantLong "RoofWarModel" (86 : Nat) (5 : Int64)) ∈ WT := WT_5 (List.mem_of_getElem? (i := 79) rfl) rfl
theorem mw_1054 : (Jvm.Cond.methodLink "RoofWarModel" (71 : Nat) ({ cls := "RoofWarModel", name := "isIn", desc := "(JJJ)Z" } : Jvm.MethodName)) ∈ WT := WT_5 (List.mem_of_getElem? (i := 80) rfl) rfl
theorem mw_1055 : (Jvm.Cond.static ({ cls := "RoofWarModel", name := "isIn", desc := "(JJJ)Z" } : Jvm.MethodName)) ∈ WT := WT_5 (List.mem_of_getElem? (i := 81) rfl) rfl
theorem mw_1056 : (Jvm.Cond.code ({ cls := "RoofWarModel", name := "isIn", desc := "(JJJ)Z" } : Jvm.MethodName) prog_12_method_2_code (6 : Nat) (Option.some Jvm.ClassFile.FieldType.boolean)) ∈ WT := WT_5 (List.mem_of_getElem? (i := 82) rfl) rfl
theorem mw_1057 : (Jvm.Cond.constantLong "RoofWarModel" (88 : Nat) (9 : Int64)) ∈ WT := WT_5 (List.mem_of_getElem? (i := 83) rfl) rfl
theorem mw_1058 : (Jvm.Cond.constantLong "RoofWarModel" (90 : Nat) (99 : Int64)) ∈ WT := WT_5 (List.mem_of_getElem? (i := 84) rfl) rfl
theorem mw_1059 : (Jvm.Cond.methodLink "RoofWarModel" (92 : Nat) ({ cls := "RoofWarModel", name := "isHouse", desc := "(I)Z" } : Jvm.MethodName)) ∈ WT := WT_5 (List.mem_of_getElem? (i := 85) rfl) rfl
theorem mw_1060 : (Jvm.Cond.static ({ cls := "RoofWarModel", name := "isHouse", desc := "(I)Z" } : Jvm.MethodName)) ∈ WT := WT_5 (List.mem_of_getElem? (i := 86) rfl) rfl
theorem mw_1061 : (Jvm.Cond.code ({ cls := "RoofWarModel", name := "isHouse", desc := "(I)Z" } : Jvm.MethodName) prog_12_method_14_code (1 : Nat) (Option.some Jvm.ClassFile.FieldType.boolean)) ∈ WT := WT_5 (List.mem_of_getElem? (i := 87) rfl) rfl
theorem mw_1062 : (Jvm.Cond.constantLong "RoofWarModel" (76 : Nat) (11 : Int64)) ∈ WT := WT_5 (List.mem_of_getElem? (i := 88) rfl) rfl
theorem mw_1063 : (Jvm.Cond.constant "RoofWarModel" (96 : Nat) (-1000000001 : Int32)) ∈ WT := WT_5 (List.mem_of_getElem? (i := 89) rfl) rfl
theorem mw_1064 : (Jvm.Cond.methodLink "RoofWarModel" (97 : Nat) ({ cls := "RoofWarModel", name := "over", desc := "(I)I" } : Jvm.MethodName)) ∈ WT := WT_5 (List.mem_of_getElem? (i := 90) rfl) rfl
theorem mw_1065 : (Jvm.Cond.instanceMethod ({ cls := "RoofWarModel", name := "over", desc := "(I)I" } : Jvm.MethodName)) ∈ WT := WT_5 (List.mem_of_getElem? (i := 92) rfl) rfl
theorem mw_1066 : (Jvm.Cond.code ({ cls := "RoofWarModel", name := "over", desc := "(I)I" } : Jvm.MethodName) prog_12_method_16_code (3 : Nat) (Option.some Jvm.ClassFile.FieldType.int)) ∈ WT := WT_5 (List.mem_of_getElem? (i := 93) rfl) rfl
theorem mw_1067 : (Jvm.Cond.methodLink "RoofWarModel" (78 : Nat) ({ cls := "RoofWarModel", name := "of", desc := "(II)I" } : Jvm.MethodName)) ∈ WT := WT_5 (List.mem_of_getElem? (i := 94) rfl) rfl
theorem mw_1068 : (Jvm.Cond.instanceMethod ({ cls := "RoofWarModel", name := "of", desc := "(II)I" } : Jvm.MethodName)) ∈ WT := WT_5 (List.mem_of_getElem? (i := 96) rfl) rfl
theorem mw_1069 : (Jvm.Cond.code ({ cls := "RoofWarModel", name := "of", desc := "(II)I" } : Jvm.MethodName) prog_12_method_8_code (3 : Nat) (Option.some Jvm.ClassFile.FieldType.int)) ∈ WT := WT_5 (List.mem_of_getElem? (i := 97) rfl) rfl
theorem mw_1070 : (Jvm.Cond.constant "RoofWarModel" (101 : Nat) (-1000000002 : Int32)) ∈ WT := WT_5 (List.mem_of_getElem? (i := 98) rfl) rfl
theorem mw_1071 : (Jvm.Cond.constant "RoofWarModel" (102 : Nat) (-1000000003 : Int32)) ∈ WT := WT_5 (List.mem_of_getElem? (i := 99) rfl) rfl
theorem mw_1072 : (Jvm.Cond.methodLink "RoofWarModel" (103 : Nat) ({ cls := "RoofWarModel", name := "comes", desc := "(IIII)V" } : Jvm.MethodName)) ∈ WT := WT_5 (List.mem_of_getElem? (i := 100) rfl) rfl
theorem mw_1073 : (Jvm.Cond.instanceMethod ({ cls := "RoofWarModel", name := "comes", desc := "(IIII)V" } : Jvm.MethodName)) ∈ WT := WT_5 (List.mem_of_getElem? (i := 102) rfl) rfl
theorem mw_1074 : (Jvm.Cond.code ({ cls := "RoofWarModel", name := "comes", desc := "(IIII)V" } : Jvm.MethodName) prog_12_method_22_code (6 : Nat) (Option.none : Option Jvm.ClassFile.FieldType)) ∈ WT := WT_5 (List.mem_of_getElem? (i := 103) rfl) rfl
theorem mw_1075 : (Jvm.Cond.methodLink "RoofWarModel" (82 : Nat) ({ cls := "RoofWarModel", name := "sets", desc := "(III)V" } : Jvm.MethodName)) ∈ WT := WT_5 (List.mem_of_getElem? (i := 104) rfl) rfl
theorem mw_1076 : (Jvm.Cond.instanceMethod ({ cls := "RoofWarModel", name := "sets", desc := "(III)V" } : Jvm.MethodName)) ∈ WT := WT_5 (List.mem_of_getElem? (i := 106) rfl) rfl
theorem mw_1077 : (Jvm.Cond.code ({ cls := "RoofWarModel", name := "sets", desc := "(III)V" } : Jvm.MethodName) prog_12_method_9_code (4 : Nat) (Option.none : Option Jvm.ClassFile.FieldType)) ∈ WT := WT_5 (List.mem_of_getElem? (i := 107) rfl) rfl
theorem mw_1078 : (Jvm.Cond.methodLink "RoofWarLaw" (22 : Nat) ({ cls := "RoofWarModel", name := "told", desc := "(II)I" } : Jvm.MethodName)) ∈ WT := WT_5 (List.mem_of_getElem? (i := 108) rfl) rfl
theorem mw_1079 : (Jvm.Cond.instanceMethod ({ cls := "RoofWarModel", name := "told", desc := "(II)I" } : Jvm.MethodName)) ∈ WT := WT_5 (List.mem_of_getElem? (i := 109) rfl) rfl
theorem mw_1080 : (Jvm.Cond.selects "RoofWarModel" ({ cls := "RoofWarModel", name := "told", desc := "(II)I" } : Jvm.MethodName) ({ cls := "RoofWarModel", name := "told", desc := "(II)I" } : Jvm.MethodName)) ∈ WT := WT_5 (List.mem_of_getElem? (i := 110) rfl) rfl
theorem mw_1081 : (Jvm.Cond.code ({ cls := "RoofWarModel", name := "told", desc := "(II)I" } : Jvm.MethodName) prog_12_method_24_code (3 : Nat) (Option.some Jvm.ClassFile.FieldType.int)) ∈ WT := WT_5 (List.mem_of_getElem? (i := 111) rfl) rfl
theorem mw_1082 : (Jvm.Cond.methodLink "RoofWarModel" (107 : Nat) ({ cls := "RoofWarModel", name := "isRoof", desc := "(I)Z" } : Jvm.MethodName)) ∈ WT := WT_5 (List.mem_of_getElem? (i := 112) rfl) rfl
theorem mw_1083 : (Jvm.Cond.instanceMethod ({ cls := "RoofWarModel", name := "isRoof", desc := "(I)Z" } : Jvm.MethodName)) ∈ WT := WT_5 (List.mem_of_getElem? (i := 114) rfl) rfl
theorem mw_1084 : (Jvm.Cond.code ({ cls := "RoofWarModel", name := "isRoof", desc := "(I)Z" } : Jvm.MethodName) prog_12_method_10_code (2 : Nat) (Option.some Jvm.ClassFile.FieldType.boolean)) ∈ WT := WT_5 (List.mem_of_getElem? (i := 115) rfl) rfl
theorem mw_1085 : (Jvm.Cond.constantLong "RoofWarModel" (110 : Nat) (7 : Int64)) ∈ WT := WT_5 (List.mem_of_getElem? (i := 116) rfl) rfl
theorem mw_1086 : (Jvm.Cond.methodLink "RoofWarModel" (112 : Nat) ({ cls := "RoofWarModel", name := "weighs", desc := "(I)I" } : Jvm.MethodName)) ∈ WT := WT_5 (List.mem_of_getElem? (i := 117) rfl) rfl
theorem mw_1087 : (Jvm.Cond.instanceMethod ({ cls := "RoofWarModel", name := "weighs", desc := "(I)I" } : Jvm.MethodName)) ∈ WT := WT_5 (List.mem_of_getElem? (i := 119) rfl) rfl
theorem mw_1088 : (Jvm.Cond.code ({ cls := "RoofWarModel", name := "weighs", desc := "(I)I" } : Jvm.MethodName) prog_12_method_18_code (3 : Nat) (Option.some Jvm.ClassFile.FieldType.int)) ∈ WT := WT_5 (List.mem_of_getElem? (i := 120) rfl) rfl
theorem mw_1089 : (Jvm.Cond.methodLink "RoofWarModel" (115 : Nat) ({ cls := "RoofWarModel", name := "covers", desc := "(I)I" } : Jvm.MethodName)) ∈ WT := WT_5 (List.mem_of_getElem? (i := 121) rfl) rfl
theorem mw_1090 : (Jvm.Cond.instanceMethod ({ cls := "RoofWarModel", name := "covers", desc := "(I)I" } : Jvm.MethodName)) ∈ WT := WT_5 (List.mem_of_getElem? (i := 123) rfl) rfl
theorem mw_1091 : (Jvm.Cond.code ({ cls := "RoofWarModel", name := "covers", desc := "(I)I" } : Jvm.MethodName) prog_12_method_19_code (3 : Nat) (Option.some Jvm.ClassFile.FieldType.int)) ∈ WT := WT_5 (List.mem_of_getElem? (i := 124) rfl) rfl
theorem mw_1092 : (Jvm.Cond.methodLink "RoofWarModel" (118 : Nat) ({ cls := "RoofWarModel", name := "drips", desc := "(I)I" } : Jvm.MethodName)) ∈ WT := WT_5 (List.mem_of_getElem? (i := 125) rfl) rfl
theorem mw_1093 : (Jvm.Cond.instanceMethod ({ cls := "RoofWarModel", name := "drips", desc := "(I)I" } : Jvm.MethodName)) ∈ WT := WT_5 (List.mem_of_getElem? (i := 127) rfl) rfl
theorem mw_1094 : (Jvm.Cond.code ({ cls := "RoofWarModel", name := "drips", desc := "(I)I" } : Jvm.MethodName) prog_12_method_20_code (3 : Nat) (Option.some Jvm.ClassFile.FieldType.int)) ∈ WT := WT_5 (List.mem_of_getElem? (i := 128) rfl) rfl
theorem mw_1095 : (Jvm.Cond.methodLink "RoofWarModel" (121 : Nat) ({ cls := "RoofWarModel", name := "worth", desc := "(I)I" } : Jvm.MethodName)) ∈ WT := WT_5 (List.mem_of_getElem? (i := 129) rfl) rfl
theorem mw_1096 : (Jvm.Cond.instanceMethod ({ cls := "RoofWarModel", name := "worth", desc := "(I)I" } : Jvm.MethodName)) ∈ WT := WT_5 (List.mem_of_getElem? (i := 131) rfl) rfl
theorem mw_1097 : (Jvm.Cond.code ({ cls := "RoofWarModel", name := "worth", desc := "(I)I" } : Jvm.MethodName) prog_12_method_21_code (3 : Nat) (Option.some Jvm.ClassFile.FieldType.int)) ∈ WT := WT_5 (List.mem_of_getElem? (i := 132) rfl) rfl
theorem mw_1098 : (Jvm.Cond.methodLink "RoofWarLaw" (26 : Nat) ({ cls := "RoofWarModel", name := "as", desc := "(II)I" } : Jvm.MethodName)) ∈ WT := WT_5 (List.mem_of_getElem? (i := 133) rfl) rfl
theorem mw_1099 : (Jvm.Cond.instanceMethod ({ cls := "RoofWarModel", name := "as", desc := "(II)I" } : Jvm.MethodName)) ∈ WT := WT_5 (List.mem_of_getElem? (i := 134) rfl) rfl
theorem mw_1100 : (Jvm.Cond.selects "RoofWarModel" ({ cls := "RoofWarModel", name := "as", desc := "(II)I" } : Jvm.MethodName) ({ cls := "RoofWarModel", name := "as", desc := "(II)I" } : Jvm.MethodName)) ∈ WT := WT_5 (List.mem_of_getElem? (i := 135) rfl) rfl
theorem mw_1101 : (Jvm.Cond.code ({ cls := "RoofWarModel", name := "as", desc := "(II)I" } : Jvm.MethodName) prog_12_method_25_code (3 : Nat) (Option.some Jvm.ClassFile.FieldType.int)) ∈ WT := WT_5 (List.mem_of_getElem? (i := 136) rfl) rfl
theorem mw_1102 : (Jvm.Cond.methodLink "RoofWarModel" (124 : Nat) ({ cls := "RoofWarModel", name := "isOf", desc := "(II)Z" } : Jvm.MethodName)) ∈ WT := WT_5 (List.mem_of_getElem? (i := 137) rfl) rfl
theorem mw_1103 : (Jvm.Cond.static ({ cls := "RoofWarModel", name := "isOf", desc := "(II)Z" } : Jvm.MethodName)) ∈ WT := WT_5 (List.mem_of_getElem? (i := 138) rfl) rfl
theorem mw_1104 : (Jvm.Cond.code ({ cls := "RoofWarModel", name := "isOf", desc := "(II)Z" } : Jvm.MethodName) prog_12_method_13_code (2 : Nat) (Option.some Jvm.ClassFile.FieldType.boolean)) ∈ WT := WT_5 (List.mem_of_getElem? (i := 139) rfl) rfl
theorem mw_1105 : (Jvm.Cond.constant "RoofWarModel" (128 : Nat) (-1000000012 : Int32)) ∈ WT := WT_5 (List.mem_of_getElem? (i := 140) rfl) rfl
theorem mw_1106 : (Jvm.Cond.methodLink "RoofWarLaw" (30 : Nat) ({ cls := "RoofWarModel", name := "turns", desc := "(II)I" } : Jvm.MethodName)) ∈ WT := WT_5 (List.mem_of_getElem? (i := 141) rfl) rfl
theorem mw_1107 : (Jvm.Cond.instanceMethod ({ cls := "RoofWarModel", name := "turns", desc := "(II)I" } : Jvm.MethodName)) ∈ WT := WT_5 (List.mem_of_getElem? (i := 142) rfl) rfl
theorem mw_1108 : (Jvm.Cond.selects "RoofWarModel" ({ cls := "RoofWarModel", name := "turns", desc := "(II)I" } : Jvm.MethodName) ({ cls := "RoofWarModel", name := "turns", desc := "(II)I" } : Jvm.MethodName)) ∈ WT := WT_5 (List.mem_of_getElem? (i := 143) rfl) rfl
theorem mw_1109 : (Jvm.Cond.code ({ cls := "RoofWarModel", name := "turns", desc := "(II)I" } : Jvm.MethodName) prog_12_method_26_code (3 : Nat) (Option.some Jvm.ClassFile.FieldType.int)) ∈ WT := WT_5 (List.mem_of_getElem? (i := 144) rfl) rfl
theorem mw_1110 : (Jvm.Cond.methodLink "RoofWarModel" (129 : Nat) ({ cls := "RoofWarModel", name := "changes", desc := "(II)I" } : Jvm.MethodName)) ∈ WT := WT_5 (List.mem_of_getElem? (i := 145) rfl) rfl
theorem mw_1111 : (Jvm.Cond.instanceMethod ({ cls := "RoofWarModel", name := "changes", desc := "(II)I" } : Jvm.MethodName)) ∈ WT := WT_5 (List.mem_of_getElem? (i := 147) rfl) rfl
theorem mw_1112 : (Jvm.Cond.code ({ cls := "RoofWarModel", name := "changes", desc := "(II)I" } : Jvm.MethodName) prog_12_method_6_code (4 : Nat) (Option.some Jvm.ClassFile.FieldType.int)) ∈ WT := WT_5 (List.mem_of_getElem? (i := 148) rfl) rfl
theorem mw_1113 : (Jvm.Cond.methodLink "RoofWarLaw" (35 : Nat) ({ cls := "RoofWarModel", name := "set", desc := "(III)I" } : Jvm.MethodName)) ∈ WT := WT_5 (List.mem_of_getElem? (i := 149) rfl) rfl
theorem mw_1114 : (Jvm.Cond.instanceMethod ({ cls := "RoofWarModel", name := "set", desc := "(III)I" } : Jvm.MethodName)) ∈ WT := WT_5 (List.mem_of_getElem? (i := 150) rfl) rfl
theorem mw_1115 : (Jvm.Cond.selects "RoofWarModel" ({ cls := "RoofWarModel", name := "set", desc := "(III)I" } : Jvm.MethodName) ({ cls := "RoofWarModel", name := "set", desc := "(III)I" } : Jvm.MethodName)) ∈ WT := WT_5 (List.mem_of_getElem? (i := 151) rfl) rfl
theorem mw_1116 : (Jvm.Cond.code ({ cls := "RoofWarModel", name := "set", desc := "(III)I" } : Jvm.MethodName) prog_12_method_27_code (4 : Nat) (Option.some Jvm.ClassFile.FieldType.int)) ∈ WT := WT_5 (List.mem_of_getElem? (i := 152) rfl) rfl
theorem mw_1117 : (Jvm.Cond.constantLong "RoofWarModel" (132 : Nat) (2 : Int64)) ∈ WT := WT_5 (List.mem_of_getElem? (i := 153) rfl) rfl
theorem mw_1118 : (Jvm.Cond.methodLink "RoofWarLaw" (39 : Nat) ({ cls := "RoofWarModel", name := "moves", desc := "(II)I" } : Jvm.MethodName)) ∈ WT := WT_5 (List.mem_of_getElem? (i := 154) rfl) rfl
theorem mw_1119 : (Jvm.Cond.instanceMethod ({ cls := "RoofWarModel", name := "moves", desc := "(II)I" } : Jvm.MethodName)) ∈ WT := WT_5 (List.mem_of_getElem? (i := 155) rfl) rfl
theorem mw_1120 : (Jvm.Cond.selects "RoofWarModel" ({ cls := "RoofWarModel", name := "moves", desc := "(II)I" } : Jvm.MethodName) ({ cls := "RoofWarModel", name := "moves", desc := "(II)I" } : Jvm.MethodName)) ∈ WT := WT_5 (List.mem_of_getElem? (i := 156) rfl) rfl
theorem mw_1121 : (Jvm.Cond.code ({ cls := "RoofWarModel", name := "moves", desc := "(II)I" } : Jvm.MethodName) prog_12_method_28_code (3 : Nat) (Option.some Jvm.ClassFile.FieldType.int)) ∈ WT := WT_5 (List.mem_of_getElem? (i := 157) rfl) rfl
theorem mw_1122 : (Jvm.Cond.methodLink "RoofWarLaw" (43 : Nat) ({ cls := "RoofWarModel", name := "house", desc := "(II)I" } : Jvm.MethodName)) ∈ WT := WT_5 (List.mem_of_getElem? (i := 158) rfl) rfl
theorem mw_1123 : (Jvm.Cond.instanceMethod ({ cls := "RoofWarModel", name := "house", desc := "(II)I" } : Jvm.MethodName)) ∈ WT := WT_5 (List.mem_of_getElem? (i := 159) rfl) rfl
theorem mw_1124 : (Jvm.Cond.selects "RoofWarModel" ({ cls := "RoofWarModel", name := "house", desc := "(II)I" } : Jvm.MethodName) ({ cls := "RoofWarModel", name := "house", desc := "(II)I" } : Jvm.MethodName)) ∈ WT := WT_5 (List.mem_of_getElem? (i := 160) rfl) rfl
theorem mw_1125 : (Jvm.Cond.code ({ cls := "RoofWarModel", name := "house", desc := "(II)I" } : Jvm.MethodName) prog_12_method_32_code (3 : Nat) (Option.some Jvm.ClassFile.FieldType.int)) ∈ WT := WT_5 (List.mem_of_getElem? (i := 161) rfl) rfl
theorem mw_1126 : (Jvm.Cond.constantLong "RoofWarModel" (140 : Nat) (3 : Int64)) ∈ WT := WT_5 (List.mem_of_getElem? (i := 162) rfl) rfl
theorem mw_1127 : (Jvm.Cond.methodLink "RoofWarModel" (142 : Nat) ({ cls := "RoofWarModel", name := "orNone", desc := "(I)I" } : Jvm.MethodName)) ∈ WT := WT_5 (List.mem_of_getElem? (i := 163) rfl) rfl
theorem mw_1128 : (Jvm.Cond.static ({ cls := "RoofWarModel", name := "orNone", desc := "(I)I" } : Jvm.MethodName)) ∈ WT := WT_5 (List.mem_of_getElem? (i := 164) rfl) rfl
theorem mw_1129 : (Jvm.Cond.code ({ cls := "RoofWarModel", name := "orNone", desc := "(I)I" } : Jvm.MethodName) prog_12_method_3_code (1 : Nat) (Option.some Jvm.ClassFile.FieldType.int)) ∈ WT := WT_5 (List.mem_of_getElem? (i := 165) rfl) rfl
theorem mw_1130 : (Jvm.Cond.constant "RoofWarModel" (70 : Nat) (-1000000005 : Int32)) ∈ WT := WT_5 (List.mem_of_getElem? (i := 166) rfl) rfl
theorem mw_1131 : (Jvm.Cond.methodLink "RoofWarModel" (137 : Nat) ({ cls := "RoofWarModel", name := "dryIn", desc := "(I)I" } : Jvm.MethodName)) ∈ WT := WT_5 (List.mem_of_getElem? (i := 167) rfl) rfl
theorem mw_1132 : (Jvm.Cond.instanceMethod ({ cls := "RoofWarModel", name := "dryIn", desc := "(I)I" } : Jvm.MethodName)) ∈ WT := WT_5 (List.mem_of_getElem? (i := 169) rfl) rfl
theorem mw_1133 : (Jvm.Cond.code ({ cls := "RoofWarModel", name := "dryIn", desc := "(I)I" } : Jvm.MethodName) prog_12_method_30_code (3 : Nat) (Option.some Jvm.ClassFile.FieldType.int)) ∈ WT := WT_5 (List.mem_of_getElem? (i := 170) rfl) rfl
theorem mw_1134 : (Jvm.Cond.methodLink "RoofWarModel" (134 : Nat) ({ cls := "RoofWarModel", name := "least", desc := "(II)I" } : Jvm.MethodName)) ∈ WT := WT_5 (List.mem_of_getElem? (i := 171) rfl) rfl
theorem mw_1135 : (Jvm.Cond.instanceMethod ({ cls := "RoofWarModel", name := "least", desc := "(II)I" } : Jvm.MethodName)) ∈ WT := WT_5 (List.mem_of_getElem? (i := 173) rfl) rfl
theorem mw_1136 : (Jvm.Cond.code ({ cls := "RoofWarModel", name := "least", desc := "(II)I" } : Jvm.MethodName) prog_12_method_29_code (3 : Nat) (Option.some Jvm.ClassFile.FieldType.int)) ∈ WT := WT_5 (List.mem_of_getElem? (i := 174) rfl) rfl
theorem mw_1137 : (Jvm.Cond.methodLink "RoofWarLaw" (47 : Nat) ({ cls := "RoofWarModel", name := "lodges", desc := "(III)I" } : Jvm.MethodName)) ∈ WT := WT_5 (List.mem_of_getElem? (i := 175) rfl) rfl
theorem mw_1138 : (Jvm.Cond.instanceMethod ({ cls := "RoofWarModel", name := "lodges", desc := "(III)I" } : Jvm.MethodName)) ∈ WT := WT_5 (List.mem_of_getElem? (i := 176) rfl) rfl
theorem mw_1139 : (Jvm.Cond.selects "RoofWarModel" ({ cls := "RoofWarModel", name := "lodges", desc := "(III)I" } : Jvm.MethodName) ({ cls := "RoofWarModel", name := "lodges", desc := "(III)I" } : Jvm.MethodName)) ∈ WT := WT_5 (List.mem_of_getElem? (i := 177) rfl) rfl
theorem mw_1140 : (Jvm.Cond.code ({ cls := "RoofWarModel", name := "lodges", desc := "(III)I" } : Jvm.MethodName) prog_12_method_33_code (4 : Nat) (Option.some Jvm.ClassFile.FieldType.int)) ∈ WT := WT_5 (List.mem_of_getElem? (i := 178) rfl) rfl
theorem mw_1141 : (Jvm.Cond.constantLong "RoofWarModel" (145 : Nat) (100 : Int64)) ∈ WT := WT_5 (List.mem_of_getElem? (i := 179) rfl) rfl
theorem mw_1142 : (Jvm.Cond.methodLink "RoofWarLaw" (51 : Nat) ({ cls := "RoofWarModel", name := "rule", desc := "(II)I" } : Jvm.MethodName)) ∈ WT := WT_5 (List.mem_of_getElem? (i := 180) rfl) rfl
theorem mw_1143 : (Jvm.Cond.instanceMethod ({ cls := "RoofWarModel", name := "rule", desc := "(II)I" } : Jvm.MethodName)) ∈ WT := WT_5 (List.mem_of_getElem? (i := 181) rfl) rfl
theorem mw_1144 : (Jvm.Cond.selects "RoofWarModel" ({ cls := "RoofWarModel", name := "rule", desc := "(II)I" } : Jvm.MethodName) ({ cls := "RoofWarModel", name := "rule", desc := "(II)I" } : Jvm.MethodName)) ∈ WT := WT_5 (List.mem_of_getElem? (i := 182) rfl) rfl
theorem mw_1145 : (Jvm.Cond.code ({ cls := "RoofWarModel", name := "rule", desc := "(II)I" } : Jvm.MethodName) prog_12_method_34_code (3 : Nat) (Option.some Jvm.ClassFile.FieldType.int)) ∈ WT := WT_5 (List.mem_of_getElem? (i := 183) rfl) rfl
theorem mw_1146 : (Jvm.Cond.methodLink "RoofWarLaw" (56 : Nat) ({ cls := "RoofWarModel", name := "deal", desc := "(I)I" } : Jvm.MethodName)) ∈ WT := WT_5 (List.mem_of_getElem? (i := 184) rfl) rfl
theorem mw_1147 : (Jvm.Cond.instanceMethod ({ cls := "RoofWarModel", name := "deal", desc := "(I)I" } : Jvm.MethodName)) ∈ WT := WT_5 (List.mem_of_getElem? (i := 185) rfl) rfl
theorem mw_1148 : (Jvm.Cond.selects "RoofWarModel" ({ cls := "RoofWarModel", name := "deal", desc := "(I)I" } : Jvm.MethodName) ({ cls := "RoofWarModel", name := "deal", desc := "(I)I" } : Jvm.MethodName)) ∈ WT := WT_5 (List.mem_of_getElem? (i := 186) rfl) rfl
theorem mw_1149 : (Jvm.Cond.code ({ cls := "RoofWarModel", name := "deal", desc := "(I)I" } : Jvm.MethodName) prog_12_method_35_code (7 : Nat) (Option.some Jvm.ClassFile.FieldType.int)) ∈ WT := WT_5 (List.mem_of_getElem? (i := 187) rfl) rfl
theorem mw_1150 : (Jvm.Cond.constantLong "RoofWarModel" (147 : Nat) (12 : Int64)) ∈ WT := WT_5 (List.mem_of_getElem? (i := 188) rfl) rfl
theorem mw_1151 : (Jvm.Cond.methodLink "RoofWarModel" (149 : Nat) ({ cls := "RoofWarModel", name := "drawn", desc := "()I" } : Jvm.MethodName)) ∈ WT := WT_5 (List.mem_of_getElem? (i := 189) rfl) rfl
theorem mw_1152 : (Jvm.Cond.instanceMethod ({ cls := "RoofWarModel", name := "drawn", desc := "()I" } : Jvm.MethodName)) ∈ WT := WT_5 (List.mem_of_getElem? (i := 191) rfl) rfl
theorem mw_1153 : (Jvm.Cond.code ({ cls := "RoofWarModel", name := "drawn", desc := "()I" } : Jvm.MethodName) prog_12_method_12_code (1 : Nat) (Option.some Jvm.ClassFile.FieldType.int)) ∈ WT := WT_5 (List.mem_of_getElem? (i := 192) rfl) rfl
theorem mw_1154 : (Jvm.Cond.constant "RoofWarModel" (75 : Nat) (1103515245 : Int32)) ∈ WT := WT_5 (List.mem_of_getElem? (i := 193) rfl) rfl
theorem mw_1155 : (Jvm.Cond.methodLink "RoofWarLaw" (60 : Nat) ({ cls := "RoofWarModel", name := "seed", desc := "(I)I" } : Jvm.MethodName)) ∈ WT := WT_5 (List.mem_of_getElem? (i := 194) rfl) rfl
theorem mw_1156 : (Jvm.Cond.instanceMethod ({ cls := "RoofWarModel", name := "seed", desc := "(I)I" } : Jvm.MethodName)) ∈ WT := WT_5 (List.mem_of_getElem? (i := 195) rfl) rfl
theorem mw_1157 : (Jvm.Cond.selects "RoofWarModel" ({ cls := "RoofWarModel", name := "seed", desc := "(I)I" } : Jvm.MethodName) ({ cls := "RoofWarModel", name := "seed", desc := "(I)I" } : Jvm.MethodName)) ∈ WT := WT_5 (List.mem_of_getElem? (i := 196) rfl) rfl
theorem mw_1158 : (Jvm.Cond.code ({ cls := "RoofWarModel", name := "seed", desc := "(I)I" } : Jvm.MethodName) prog_12_method_36_code (2 : Nat) (Option.some Jvm.ClassFile.FieldType.int)) ∈ WT := WT_5 (List.mem_of_getElem? (i := 197) rfl) rfl
theorem mw_1159 : (Jvm.Cond.methodLink "RoofWarLaw" (64 : Nat) ({ cls := "RoofWarModel", name := "nights", desc := "(I)I" } : Jvm.MethodName)) ∈ WT := WT_5 (List.mem_of_getElem? (i := 198) rfl) rfl
theorem mw_1160 : (Jvm.Cond.instanceMethod ({ cls := "RoofWarModel", name := "nights", desc := "(I)I" } : Jvm.MethodName)) ∈ WT := WT_5 (List.mem_of_getElem? (i := 199) rfl) rfl
theorem mw_1161 : (Jvm.Cond.selects "RoofWarModel" ({ cls := "RoofWarModel", name := "nights", desc := "(I)I" } : Jvm.MethodName) ({ cls := "RoofWarModel", name := "nights", desc := "(I)I" } : Jvm.MethodName)) ∈ WT := WT_5 (List.mem_of_getElem? (i := 200) rfl) rfl
theorem mw_1162 : (Jvm.Cond.code ({ cls := "RoofWarModel", name := "nights", desc := "(I)I" } : Jvm.MethodName) prog_12_method_47_code (4 : Nat) (Option.some Jvm.ClassFile.FieldType.int)) ∈ WT := WT_5 (List.mem_of_getElem? (i := 201) rfl) rfl
theorem mw_1163 : (Jvm.Cond.methodLink "RoofWarModel" (194 : Nat) ({ cls := "RoofWarModel", name := "goesOnMany", desc := "(I)V" } : Jvm.MethodName)) ∈ WT := WT_5 (List.mem_of_getElem? (i := 202) rfl) rfl
theorem mw_1164 : (Jvm.Cond.instanceMethod ({ cls := "RoofWarModel", name := "goesOnMany", desc := "(I)V" } : Jvm.MethodName)) ∈ WT := WT_5 (List.mem_of_getElem? (i := 204) rfl) rfl
theorem mw_1165 : (Jvm.Cond.code ({ cls := "RoofWarModel", name := "goesOnMany", desc := "(I)V" } : Jvm.MethodName) prog_12_method_46_code (3 : Nat) (Option.none : Option Jvm.ClassFile.FieldType)) ∈ WT := WT_5 (List.mem_of_getElem? (i := 205) rfl) rfl
theorem mw_1166 : (Jvm.Cond.methodLink "RoofWarModel" (191 : Nat) ({ cls := "RoofWarModel", name := "goesOn", desc := "()V" } : Jvm.MethodName)) ∈ WT := WT_5 (List.mem_of_getElem? (i := 206) rfl) rfl
theorem mw_1167 : (Jvm.Cond.instanceMethod ({ cls := "RoofWarModel", name := "goesOn", desc := "()V" } : Jvm.MethodName)) ∈ WT := WT_5 (List.mem_of_getElem? (i := 208) rfl) rfl
theorem mw_1168 : (Jvm.Cond.code ({ cls := "RoofWarModel", name := "goesOn", desc := "()V" } : Jvm.MethodName) prog_12_method_45_code (2 : Nat) (Option.none : Option Jvm.ClassFile.FieldType)) ∈ WT := WT_5 (List.mem_of_getElem? (i := 209) rfl) rfl
theorem mw_1169 : (Jvm.Cond.methodLink "RoofWarModel" (184 : Nat) ({ cls := "RoofWarModel", name := "goesOut", desc := "(I)V" } : Jvm.MethodName)) ∈ WT := WT_5 (List.mem_of_getElem? (i := 210) rfl) rfl
theorem mw_1170 : (Jvm.Cond.instanceMethod ({ cls := "RoofWarModel", name := "goesOut", desc := "(I)V" } : Jvm.MethodName)) ∈ WT := WT_5 (List.mem_of_getElem? (i := 212) rfl) rfl
theorem mw_1171 : (Jvm.Cond.code ({ cls := "RoofWarModel", name := "goesOut", desc := "(I)V" } : Jvm.MethodName) prog_12_method_43_code (6 : Nat) (Option.none : Option Jvm.ClassFile.FieldType)) ∈ WT := WT_5 (List.mem_of_getElem? (i := 213) rfl) rfl
theorem mw_1172 : (Jvm.Cond.methodLink "RoofWarModel" (171 : Nat) ({ cls := "RoofWarModel", name := "lootOf", desc := "(I)I" } : Jvm.MethodName)) ∈ WT := WT_5 (List.mem_of_getElem? (i := 214) rfl) rfl
theorem mw_1173 : (Jvm.Cond.instanceMethod ({ cls := "RoofWarModel", name := "lootOf", desc := "(I)I" } : Jvm.MethodName)) ∈ WT := WT_5 (List.mem_of_getElem? (i := 216) rfl) rfl
theorem mw_1174 : (Jvm.Cond.code ({ cls := "RoofWarModel", name := "lootOf", desc := "(I)I" } : Jvm.MethodName) prog_12_method_38_code (4 : Nat) (Option.some Jvm.ClassFile.FieldType.int)) ∈ WT := WT_5 (List.mem_of_getElem? (i := 217) rfl) rfl
theorem mw_1175 : (Jvm.Cond.methodLink "RoofWarModel" (156 : Nat) ({ cls := "RoofWarModel", name := "mayCarry", desc := "(II)Z" } : Jvm.MethodName)) ∈ WT := WT_5 (List.mem_of_getElem? (i := 218) rfl) rfl
theorem mw_1176 : (Jvm.Cond.instanceMethod ({ cls := "RoofWarModel", name := "mayCarry", desc := "(II)Z" } : Jvm.MethodName)) ∈ WT := WT_5 (List.mem_of_getElem? (i := 220) rfl) rfl
theorem mw_1177 : (Jvm.Cond.code ({ cls := "RoofWarModel", name := "mayCarry", desc := "(II)Z" } : Jvm.MethodName) prog_12_method_37_code (3 : Nat) (Option.some Jvm.ClassFile.FieldType.boolean)) ∈ WT := WT_5 (List.mem_of_getElem? (i := 221) rfl) rfl
theorem mw_1178 : (Jvm.Cond.methodLink "RoofWarModel" (153 : Nat) ({ cls := "RoofWarModel", name := "townOf", desc := "(I)I" } : Jvm.MethodName)) ∈ WT := WT_5 (List.mem_of_getElem? (i := 222) rfl) rfl
theorem mw_1179 : (Jvm.Cond.instanceMethod ({ cls := "RoofWarModel", name := "townOf", desc := "(I)I" } : Jvm.MethodName)) ∈ WT := WT_5 (List.mem_of_getElem? (i := 224) rfl) rfl
theorem mw_1180 : (Jvm.Cond.code ({ cls := "RoofWarModel", name := "townOf", desc := "(I)I" } : Jvm.MethodName) prog_12_method_17_code (2 : Nat) (Option.some Jvm.ClassFile.FieldType.int)) ∈ WT := WT_5 (List.mem_of_getElem? (i := 225) rfl) rfl
theorem mw_1181 : (Jvm.Cond.methodLink "RoofWarModel" (174 : Nat) ({ cls := "RoofWarModel", name := "homeOf", desc := "(I)I" } : Jvm.MethodName)) ∈ WT := WT_5 (List.mem_of_getElem? (i := 226) rfl) rfl
theorem mw_1182 : (Jvm.Cond.instanceMethod ({ cls := "RoofWarModel", name := "homeOf", desc := "(I)I" } : Jvm.MethodName)) ∈ WT := WT_5 (List.mem_of_getElem? (i := 228) rfl) rfl
theorem mw_1183 : (Jvm.Cond.code ({ cls := "RoofWarModel", name := "homeOf", desc := "(I)I" } : Jvm.MethodName) prog_12_method_39_code (3 : Nat) (Option.some Jvm.ClassFile.FieldType.int)) ∈ WT := WT_5 (List.mem_of_getElem? (i := 229) rfl) rfl
theorem mw_1184 : (Jvm.Cond.methodLink "RoofWarModel" (177 : Nat) ({ cls := "RoofWarModel", name := "many", desc := "(I)I" } : Jvm.MethodName)) ∈ WT := WT_5 (List.mem_of_getElem? (i := 230) rfl) rfl
theorem mw_1185 : (Jvm.Cond.static ({ cls := "RoofWarModel", name := "many", desc := "(I)I" } : Jvm.MethodName)) ∈ WT := WT_5 (List.mem_of_getElem? (i := 231) rfl) rfl
theorem mw_1186 : (Jvm.Cond.code ({ cls := "RoofWarModel", name := "many", desc := "(I)I" } : Jvm.MethodName) prog_12_method_42_code (3 : Nat) (Option.some Jvm.ClassFile.FieldType.int)) ∈ WT := WT_5 (List.mem_of_getElem? (i := 232) rfl) rfl
theorem mw_1187 : (Jvm.Cond.methodLink "RoofWarModel" (180 : Nat) ({ cls := "RoofWarModel", name := "isCarried", desc := "(II)V" } : Jvm.MethodName)) ∈ WT := WT_5 (List.mem_of_getElem? (i := 233) rfl) rfl
theorem mw_1188 : (Jvm.Cond.instanceMethod ({ cls := "RoofWarModel", name := "isCarried", desc := "(II)V" } : Jvm.MethodName)) ∈ WT := WT_5 (List.mem_of_getElem? (i := 235) rfl) rfl
theorem mw_1189 : (Jvm.Cond.code ({ cls := "RoofWarModel", name := "isCarried", desc := "(II)V" } : Jvm.MethodName) prog_12_method_41_code (4 : Nat) (Option.none : Option Jvm.ClassFile.FieldType)) ∈ WT := WT_5 (List.mem_of_getElem? (i := 236) rfl) rfl
theorem mw_1190 : (Jvm.Cond.methodLink "RoofWarModel" (168 : Nat) ({ cls := "RoofWarModel", name := "spiteOf", desc := "(I)I" } : Jvm.MethodName)) ∈ WT := WT_5 (List.mem_of_getElem? (i := 237) rfl) rfl
theorem mw_1191 : (Jvm.Cond.instanceMethod ({ cls := "RoofWarModel", name := "spiteOf", desc := "(I)I" } : Jvm.MethodName)) ∈ WT := WT_5 (List.mem_of_getElem? (i := 239) rfl) rfl
theorem mw_1192 : (Jvm.Cond.code ({ cls := "RoofWarModel", name := "spiteOf", desc := "(I)I" } : Jvm.MethodName) prog_12_method_40_code (3 : Nat) (Option.some Jvm.ClassFile.FieldType.int)) ∈ WT := WT_6 (List.mem_of_getElem? (i := 0) rfl) rfl
theorem mw_1193 : (Jvm.Cond.methodLink "RoofWarModel" (159 : Nat) ({ cls := "RoofWarModel", name := "counts", desc := "(I)I" } : Jvm.MethodName)) ∈ WT := WT_6 (List.mem_of_getElem? (i := 1) rfl) rfl
theorem mw_1194 : (Jvm.Cond.instanceMethod ({ cls := "RoofWarModel", name := "counts", desc := "(I)I" } : Jvm.MethodName)) ∈ WT := WT_6 (List.mem_of_getElem? (i := 3) rfl) rfl
theorem mw_1195 : (Jvm.Cond.code ({ cls := "RoofWarModel", name := "counts", desc := "(I)I" } : Jvm.MethodName) prog_12_method_86_code (4 : Nat) (Option.some Jvm.ClassFile.FieldType.int)) ∈ WT := WT_6 (List.mem_of_getElem? (i := 4) rfl) rfl
theorem mw_1196 : (Jvm.Cond.methodLink "RoofWarModel" (318 : Nat) ({ cls := "RoofWarModel", name := "textAt", desc := "(I)I" } : Jvm.MethodName)) ∈ WT := WT_6 (List.mem_of_getElem? (i := 5) rfl) rfl
theorem mw_1197 : (Jvm.Cond.instanceMethod ({ cls := "RoofWarModel", name := "textAt", desc := "(I)I" } : Jvm.MethodName)) ∈ WT := WT_6 (List.mem_of_getElem? (i := 7) rfl) rfl
theorem mw_1198 : (Jvm.Cond.code ({ cls := "RoofWarModel", name := "textAt", desc := "(I)I" } : Jvm.MethodName) prog_12_method_7_code (2 : Nat) (Option.some Jvm.ClassFile.FieldType.int)) ∈ WT := WT_6 (List.mem_of_getElem? (i := 8) rfl) rfl
theorem mw_1199 : (Jvm.Cond.methodLink "RoofWarModel" (162 : Nat) ({ cls := "RoofWarModel", name := "worked", desc := "(I)I" } : Jvm.MethodName)) ∈ WT := WT_6 (List.mem_of_getElem? (i := 9) rfl) rfl
theorem mw_1200 : (Jvm.Cond.instanceMethod ({ cls := "RoofWarModel", name := "worked", desc := "(I)I" } : Jvm.MethodName)) ∈ WT := WT_6 (List.mem_of_getElem? (i := 11) rfl) rfl
theorem mw_1201 : (Jvm.Cond.code ({ cls := "RoofWarModel", name := "worked", desc := "(I)I" } : Jvm.MethodName) prog_12_method_89_code (6 : Nat) (Option.some Jvm.ClassFile.FieldType.int)) ∈ WT := WT_6 (List.mem_of_getElem? (i := 12) rfl) rfl
theorem mw_1202 : (Jvm.Cond.methodLink "RoofWarModel" (330 : Nat) ({ cls := "RoofWarModel", name := "joined", desc := "(III)I" } : Jvm.MethodName)) ∈ WT := WT_6 (List.mem_of_getElem? (i := 13) rfl) rfl
theorem mw_1203 : (Jvm.Cond.static ({ cls := "RoofWarModel", name := "joined", desc := "(III)I" } : Jvm.MethodName)) ∈ WT := WT_6 (List.mem_of_getElem? (i := 14) rfl) rfl
theorem mw_1204 : (Jvm.Cond.code ({ cls := "RoofWarModel", name := "joined", desc := "(III)I" } : Jvm.MethodName) prog_12_method_88_code (3 : Nat) (Option.some Jvm.ClassFile.FieldType.int)) ∈ WT := WT_6 (List.mem_of_getElem? (i := 15) rfl) rfl
theorem mw_1205 : (Jvm.Cond.methodLink "RoofWarModel" (165 : Nat) ({ cls := "RoofWarModel", name := "within", desc := "(II)I" } : Jvm.MethodName)) ∈ WT := WT_6 (List.mem_of_getElem? (i := 16) rfl) rfl
theorem mw_1206 : (Jvm.Cond.static ({ cls := "RoofWarModel", name := "within", desc := "(II)I" } : Jvm.MethodName)) ∈ WT := WT_6 (List.mem_of_getElem? (i := 17) rfl) rfl
theorem mw_1207 : (Jvm.Cond.code ({ cls := "RoofWarModel", name := "within", desc := "(II)I" } : Jvm.MethodName) prog_12_method_4_code (2 : Nat) (Option.some Jvm.ClassFile.FieldType.int)) ∈ WT := WT_6 (List.mem_of_getElem? (i := 18) rfl) rfl
theorem mw_1208 : (Jvm.Cond.methodLink "RoofWarModel" (188 : Nat) ({ cls := "RoofWarModel", name := "rains", desc := "()I" } : Jvm.MethodName)) ∈ WT := WT_6 (List.mem_of_getElem? (i := 19) rfl) rfl
theorem mw_1209 : (Jvm.Cond.instanceMethod ({ cls := "RoofWarModel", name := "rains", desc := "()I" } : Jvm.MethodName)) ∈ WT := WT_6 (List.mem_of_getElem? (i := 21) rfl) rfl
theorem mw_1210 : (Jvm.Cond.code ({ cls := "RoofWarModel", name := "rains", desc := "()I" } : Jvm.MethodName) prog_12_method_44_code (3 : Nat) (Option.some Jvm.ClassFile.FieldType.int)) ∈ WT := WT_6 (List.mem_of_getElem? (i := 22) rfl) rfl
theorem mw_1211 : (Jvm.Cond.methodLink "RoofWarLaw" (68 : Nat) ({ cls := "RoofWarModel", name := "hill", desc := "(I)I" } : Jvm.MethodName)) ∈ WT := WT_6 (List.mem_of_getElem? (i := 23) rfl) rfl
theorem mw_1212 : (Jvm.Cond.instanceMethod ({ cls := "RoofWarModel", name := "hill", desc := "(I)I" } : Jvm.MethodName)) ∈ WT := WT_6 (List.mem_of_getElem? (i := 24) rfl) rfl
theorem mw_1213 : (Jvm.Cond.selects "RoofWarModel" ({ cls := "RoofWarModel", name := "hill", desc := "(I)I" } : Jvm.MethodName) ({ cls := "RoofWarModel", name := "hill", desc := "(I)I" } : Jvm.MethodName)) ∈ WT := WT_6 (List.mem_of_getElem? (i := 25) rfl) rfl
theorem mw_1214 : (Jvm.Cond.code ({ cls := "RoofWarModel", name := "hill", desc := "(I)I" } : Jvm.MethodName) prog_12_method_50_code (2 : Nat) (Option.some Jvm.ClassFile.FieldType.int)) ∈ WT := WT_6 (List.mem_of_getElem? (i := 26) rfl) rfl
theorem mw_1215 : (Jvm.Cond.methodLink "RoofWarModel" (203 : Nat) ({ cls := "RoofWarModel", name := "hillOf", desc := "(I)I" } : Jvm.MethodName)) ∈ WT := WT_6 (List.mem_of_getElem? (i := 27) rfl) rfl
theorem mw_1216 : (Jvm.Cond.instanceMethod ({ cls := "RoofWarModel", name := "hillOf", desc := "(I)I" } : Jvm.MethodName)) ∈ WT := WT_6 (List.mem_of_getElem? (i := 29) rfl) rfl
theorem mw_1217 : (Jvm.Cond.code ({ cls := "RoofWarModel", name := "hillOf", desc := "(I)I" } : Jvm.MethodName) prog_12_method_49_code (2 : Nat) (Option.some Jvm.ClassFile.FieldType.int)) ∈ WT := WT_6 (List.mem_of_getElem? (i := 30) rfl) rfl
theorem mw_1218 : (Jvm.Cond.methodLink "RoofWarModel" (197 : Nat) ({ cls := "RoofWarModel", name := "dryOf", desc := "(I)I" } : Jvm.MethodName)) ∈ WT := WT_6 (List.mem_of_getElem? (i := 31) rfl) rfl
theorem mw_1219 : (Jvm.Cond.instanceMethod ({ cls := "RoofWarModel", name := "dryOf", desc := "(I)I" } : Jvm.MethodName)) ∈ WT := WT_6 (List.mem_of_getElem? (i := 33) rfl) rfl
theorem mw_1220 : (Jvm.Cond.code ({ cls := "RoofWarModel", name := "dryOf", desc := "(I)I" } : Jvm.MethodName) prog_12_method_31_code (4 : Nat) (Option.some Jvm.ClassFile.FieldType.int)) ∈ WT := WT_6 (List.mem_of_getElem? (i := 34) rfl) rfl
theorem mw_1221 : (Jvm.Cond.methodLink "RoofWarModel" (200 : Nat) ({ cls := "RoofWarModel", name := "leaks", desc := "()I" } : Jvm.MethodName)) ∈ WT := WT_6 (List.mem_of_getElem? (i := 35) rfl) rfl
theorem mw_1222 : (Jvm.Cond.instanceMethod ({ cls := "RoofWarModel", name := "leaks", desc := "()I" } : Jvm.MethodName)) ∈ WT := WT_6 (List.mem_of_getElem? (i := 37) rfl) rfl
theorem mw_1223 : (Jvm.Cond.code ({ cls := "RoofWarModel", name := "leaks", desc := "()I" } : Jvm.MethodName) prog_12_method_48_code (3 : Nat) (Option.some Jvm.ClassFile.FieldType.int)) ∈ WT := WT_6 (List.mem_of_getElem? (i := 38) rfl) rfl
theorem mw_1224 : (Jvm.Cond.methodLink "RoofWarLaw" (72 : Nat) ({ cls := "RoofWarModel", name := "loot", desc := "(II)I" } : Jvm.MethodName)) ∈ WT := WT_6 (List.mem_of_getElem? (i := 39) rfl) rfl
theorem mw_1225 : (Jvm.Cond.instanceMethod ({ cls := "RoofWarModel", name := "loot", desc := "(II)I" } : Jvm.MethodName)) ∈ WT := WT_6 (List.mem_of_getElem? (i := 40) rfl) rfl
theorem mw_1226 : (Jvm.Cond.selects "RoofWarModel" ({ cls := "RoofWarModel", name := "loot", desc := "(II)I" } : Jvm.MethodName) ({ cls := "RoofWarModel", name := "loot", desc := "(II)I" } : Jvm.MethodName)) ∈ WT := WT_6 (List.mem_of_getElem? (i := 41) rfl) rfl
theorem mw_1227 : (Jvm.Cond.code ({ cls := "RoofWarModel", name := "loot", desc := "(II)I" } : Jvm.MethodName) prog_12_method_51_code (3 : Nat) (Option.some Jvm.ClassFile.FieldType.int)) ∈ WT := WT_6 (List.mem_of_getElem? (i := 42) rfl) rfl
theorem mw_1228 : (Jvm.Cond.methodLink "RoofWarModel" (206 : Nat) ({ cls := "RoofWarModel", name := "isTown", desc := "(I)Z" } : Jvm.MethodName)) ∈ WT := WT_6 (List.mem_of_getElem? (i := 43) rfl) rfl
theorem mw_1229 : (Jvm.Cond.static ({ cls := "RoofWarModel", name := "isTown", desc := "(I)Z" } : Jvm.MethodName)) ∈ WT := WT_6 (List.mem_of_getElem? (i := 44) rfl) rfl
theorem mw_1230 : (Jvm.Cond.code ({ cls := "RoofWarModel", name := "isTown", desc := "(I)Z" } : Jvm.MethodName) prog_12_method_15_code (1 : Nat) (Option.some Jvm.ClassFile.FieldType.boolean)) ∈ WT := WT_6 (List.mem_of_getElem? (i := 45) rfl) rfl
theorem mw_1231 : (Jvm.Cond.methodLink "RoofWarLaw" (76 : Nat) ({ cls := "RoofWarModel", name := "steals", desc := "(I)I" } : Jvm.MethodName)) ∈ WT := WT_6 (List.mem_of_getElem? (i := 46) rfl) rfl
theorem mw_1232 : (Jvm.Cond.instanceMethod ({ cls := "RoofWarModel", name := "steals", desc := "(I)I" } : Jvm.MethodName)) ∈ WT := WT_6 (List.mem_of_getElem? (i := 47) rfl) rfl
theorem mw_1233 : (Jvm.Cond.selects "RoofWarModel" ({ cls := "RoofWarModel", name := "steals", desc := "(I)I" } : Jvm.MethodName) ({ cls := "RoofWarModel", name := "steals", desc := "(I)I" } : Jvm.MethodName)) ∈ WT := WT_6 (List.mem_of_getElem? (i := 48) rfl) rfl
theorem mw_1234 : (Jvm.Cond.code ({ cls := "RoofWarModel", name := "steals", desc := "(I)I" } : Jvm.MethodName) prog_12_method_52_code (4 : Nat) (Option.some Jvm.ClassFile.FieldType.int)) ∈ WT := WT_6 (List.mem_of_getElem? (i := 49) rfl) rfl
theorem mw_1235 : (Jvm.Cond.methodLink "RoofWarLaw" (80 : Nat) ({ cls := "RoofWarModel", name := "fits", desc := "(II)I" } : Jvm.MethodName)) ∈ WT := WT_6 (List.mem_of_getElem? (i := 50) rfl) rfl
theorem mw_1236 : (Jvm.Cond.instanceMethod ({ cls := "RoofWarModel", name := "fits", desc := "(II)I" } : Jvm.MethodName)) ∈ WT := WT_6 (List.mem_of_getElem? (i := 51) rfl) rfl
theorem mw_1237 : (Jvm.Cond.selects "RoofWarModel" ({ cls := "RoofWarModel", name := "fits", desc := "(II)I" } : Jvm.MethodName) ({ cls := "RoofWarModel", name := "fits", desc := "(II)I" } : Jvm.MethodName)) ∈ WT := WT_6 (List.mem_of_getElem? (i := 52) rfl) rfl
theorem mw_1238 : (Jvm.Cond.code ({ cls := "RoofWarModel", name := "fits", desc := "(II)I" } : Jvm.MethodName) prog_12_method_54_code (5 : Nat) (Option.some Jvm.ClassFile.FieldType.int)) ∈ WT := WT_6 (List.mem_of_getElem? (i := 53) rfl) rfl
theorem mw_1239 : (Jvm.Cond.constantLong "RoofWarModel" (216 : Nat) (-1 : Int64)) ∈ WT := WT_6 (List.mem_of_getElem? (i := 54) rfl) rfl
theorem mw_1240 : (Jvm.Cond.methodLink "RoofWarModel" (213 : Nat) ({ cls := "RoofWarModel", name := "laysFrom", desc := "(IIII)V" } : Jvm.MethodName)) ∈ WT := WT_6 (List.mem_of_getElem? (i := 55) rfl) rfl
theorem mw_1241 : (Jvm.Cond.instanceMethod ({ cls := "RoofWarModel", name := "laysFrom", desc := "(IIII)V" } : Jvm.MethodName)) ∈ WT := WT_6 (List.mem_of_getElem? (i := 57) rfl) rfl
theorem mw_1242 : (Jvm.Cond.code ({ cls := "RoofWarModel", name := "laysFrom", desc := "(IIII)V" } : Jvm.MethodName) prog_12_method_53_code (7 : Nat) (Option.none : Option Jvm.ClassFile.FieldType)) ∈ WT := WT_6 (List.mem_of_getElem? (i := 58) rfl) rfl
theorem mw_1243 : (Jvm.Cond.methodLink "RoofWarLaw" (84 : Nat) ({ cls := "RoofWarModel", name := "prize", desc := "(II)I" } : Jvm.MethodName)) ∈ WT := WT_6 (List.mem_of_getElem? (i := 59) rfl) rfl
theorem mw_1244 : (Jvm.Cond.instanceMethod ({ cls := "RoofWarModel", name := "prize", desc := "(II)I" } : Jvm.MethodName)) ∈ WT := WT_6 (List.mem_of_getElem? (i := 60) rfl) rfl
theorem mw_1245 : (Jvm.Cond.selects "RoofWarModel" ({ cls := "RoofWarModel", name := "prize", desc := "(II)I" } : Jvm.MethodName) ({ cls := "RoofWarModel", name := "prize", desc := "(II)I" } : Jvm.MethodName)) ∈ WT := WT_6 (List.mem_of_getElem? (i := 61) rfl) rfl
theorem mw_1246 : (Jvm.Cond.code ({ cls := "RoofWarModel", name := "prize", desc := "(II)I" } : Jvm.MethodName) prog_12_method_55_code (9 : Nat) (Option.some Jvm.ClassFile.FieldType.int)) ∈ WT := WT_6 (List.mem_of_getElem? (i := 62) rfl) rfl
theorem mw_1247 : (Jvm.Cond.methodLink "RoofWarModel" (218 : Nat) ({ cls := "RoofWarModel", name := "prizeOf", desc := "(III)I" } : Jvm.MethodName)) ∈ WT := WT_6 (List.mem_of_getElem? (i := 63) rfl) rfl
theorem mw_1248 : (Jvm.Cond.instanceMethod ({ cls := "RoofWarModel", name := "prizeOf", desc := "(III)I" } : Jvm.MethodName)) ∈ WT := WT_6 (List.mem_of_getElem? (i := 65) rfl) rfl
theorem mw_1249 : (Jvm.Cond.code ({ cls := "RoofWarModel", name := "prizeOf", desc := "(III)I" } : Jvm.MethodName) prog_12_method_56_code (6 : Nat) (Option.some Jvm.ClassFile.FieldType.int)) ∈ WT := WT_6 (List.mem_of_getElem? (i := 66) rfl) rfl
theorem mw_1250 : (Jvm.Cond.methodLink "RoofWarLaw" (88 : Nat) ({ cls := "RoofWarModel", name := "behind", desc := "(II)I" } : Jvm.MethodName)) ∈ WT := WT_6 (List.mem_of_getElem? (i := 67) rfl) rfl
theorem mw_1251 : (Jvm.Cond.instanceMethod ({ cls := "RoofWarModel", name := "behind", desc := "(II)I" } : Jvm.MethodName)) ∈ WT := WT_6 (List.mem_of_getElem? (i := 68) rfl) rfl
theorem mw_1252 : (Jvm.Cond.selects "RoofWarModel" ({ cls := "RoofWarModel", name := "behind", desc := "(II)I" } : Jvm.MethodName) ({ cls := "RoofWarModel", name := "behind", desc := "(II)I" } : Jvm.MethodName)) ∈ WT := WT_6 (List.mem_of_getElem? (i := 69) rfl) rfl
theorem mw_1253 : (Jvm.Cond.code ({ cls := "RoofWarModel", name := "behind", desc := "(II)I" } : Jvm.MethodName) prog_12_method_59_code (4 : Nat) (Option.some Jvm.ClassFile.FieldType.int)) ∈ WT := WT_6 (List.mem_of_getElem? (i := 70) rfl) rfl
theorem mw_1254 : (Jvm.Cond.methodLink "RoofWarModel" (222 : Nat) ({ cls := "RoofWarModel", name := "laysBy", desc := "()V" } : Jvm.MethodName)) ∈ WT := WT_6 (List.mem_of_getElem? (i := 71) rfl) rfl
theorem mw_1255 : (Jvm.Cond.instanceMethod ({ cls := "RoofWarModel", name := "laysBy", desc := "()V" } : Jvm.MethodName)) ∈ WT := WT_6 (List.mem_of_getElem? (i := 73) rfl) rfl
theorem mw_1256 : (Jvm.Cond.code ({ cls := "RoofWarModel", name := "laysBy", desc := "()V" } : Jvm.MethodName) prog_12_method_57_code (2 : Nat) (Option.none : Option Jvm.ClassFile.FieldType)) ∈ WT := WT_6 (List.mem_of_getElem? (i := 74) rfl) rfl
theorem mw_1257 : (Jvm.Cond.methodLink "RoofWarModel" (225 : Nat) ({ cls := "RoofWarModel", name := "laysBack", desc := "()V" } : Jvm.MethodName)) ∈ WT := WT_6 (List.mem_of_getElem? (i := 75) rfl) rfl
theorem mw_1258 : (Jvm.Cond.instanceMethod ({ cls := "RoofWarModel", name := "laysBack", desc := "()V" } : Jvm.MethodName)) ∈ WT := WT_6 (List.mem_of_getElem? (i := 77) rfl) rfl
theorem mw_1259 : (Jvm.Cond.code ({ cls := "RoofWarModel", name := "laysBack", desc := "()V" } : Jvm.MethodName) prog_12_method_58_code (2 : Nat) (Option.none : Option Jvm.ClassFile.FieldType)) ∈ WT := WT_6 (List.mem_of_getElem? (i := 78) rfl) rfl
theorem mw_1260 : (Jvm.Cond.methodLink "RoofWarLaw" (92 : Nat) ({ cls := "RoofWarModel", name := "gone", desc := "(I)I" } : Jvm.MethodName)) ∈ WT := WT_6 (List.mem_of_getElem? (i := 79) rfl) rfl
theorem mw_1261 : (Jvm.Cond.instanceMethod ({ cls := "RoofWarModel", name := "gone", desc := "(I)I" } : Jvm.MethodName)) ∈ WT := WT_6 (List.mem_of_getElem? (i := 80) rfl) rfl
theorem mw_1262 : (Jvm.Cond.selects "RoofWarModel" ({ cls := "RoofWarModel", name := "gone", desc := "(I)I" } : Jvm.MethodName) ({ cls := "RoofWarModel", name := "gone", desc := "(I)I" } : Jvm.MethodName)) ∈ WT := WT_6 (List.mem_of_getElem? (i := 81) rfl) rfl
theorem mw_1263 : (Jvm.Cond.code ({ cls := "RoofWarModel", name := "gone", desc := "(I)I" } : Jvm.MethodName) prog_12_method_60_code (5 : Nat) (Option.some Jvm.ClassFile.FieldType.int)) ∈ WT := WT_6 (List.mem_of_getElem? (i := 82) rfl) rfl
theorem mw_1264 : (Jvm.Cond.methodLink "RoofWarLaw" (96 : Nat) ({ cls := "RoofWarModel", name := "guard", desc := "(III)I" } : Jvm.MethodName)) ∈ WT := WT_6 (List.mem_of_getElem? (i := 83) rfl) rfl
theorem mw_1265 : (Jvm.Cond.instanceMethod ({ cls := "RoofWarModel", name := "guard", desc := "(III)I" } : Jvm.MethodName)) ∈ WT := WT_6 (List.mem_of_getElem? (i := 84) rfl) rfl
theorem mw_1266 : (Jvm.Cond.selects "RoofWarModel" ({ cls := "RoofWarModel", name := "guard", desc := "(III)I" } : Jvm.MethodName) ({ cls := "RoofWarModel", name := "guard", desc := "(III)I" } : Jvm.MethodName)) ∈ WT := WT_6 (List.mem_of_getElem? (i := 85) rfl) rfl
theorem mw_1267 : (Jvm.Cond.code ({ cls := "RoofWarModel", name := "guard", desc := "(III)I" } : Jvm.MethodName) prog_12_method_62_code (8 : Nat) (Option.some Jvm.ClassFile.FieldType.int)) ∈ WT := WT_6 (List.mem_of_getElem? (i := 86) rfl) rfl
theorem mw_1268 : (Jvm.Cond.methodLink "RoofWarModel" (230 : Nat) ({ cls := "RoofWarModel", name := "isAsked", desc := "(II)Z" } : Jvm.MethodName)) ∈ WT := WT_6 (List.mem_of_getElem? (i := 87) rfl) rfl
theorem mw_1269 : (Jvm.Cond.static ({ cls := "RoofWarModel", name := "isAsked", desc := "(II)Z" } : Jvm.MethodName)) ∈ WT := WT_6 (List.mem_of_getElem? (i := 88) rfl) rfl
theorem mw_1270 : (Jvm.Cond.code ({ cls := "RoofWarModel", name := "isAsked", desc := "(II)Z" } : Jvm.MethodName) prog_12_method_61_code (2 : Nat) (Option.some Jvm.ClassFile.FieldType.boolean)) ∈ WT := WT_6 (List.mem_of_getElem? (i := 89) rfl) rfl
theorem mw_1271 : (Jvm.Cond.constantLong "RoofWarModel" (228 : Nat) (60 : Int64)) ∈ WT := WT_6 (List.mem_of_getElem? (i := 90) rfl) rfl
theorem mw_1272 : (Jvm.Cond.methodLink "RoofWarLaw" (100 : Nat) ({ cls := "RoofWarModel", name := "becomes", desc := "(III)I" } : Jvm.MethodName)) ∈ WT := WT_6 (List.mem_of_getElem? (i := 91) rfl) rfl
theorem mw_1273 : (Jvm.Cond.instanceMethod ({ cls := "RoofWarModel", name := "becomes", desc := "(III)I" } : Jvm.MethodName)) ∈ WT := WT_6 (List.mem_of_getElem? (i := 92) rfl) rfl
theorem mw_1274 : (Jvm.Cond.selects "RoofWarModel" ({ cls := "RoofWarModel", name := "becomes", desc := "(III)I" } : Jvm.MethodName) ({ cls := "RoofWarModel", name := "becomes", desc := "(III)I" } : Jvm.MethodName)) ∈ WT := WT_6 (List.mem_of_getElem? (i := 93) rfl) rfl
theorem mw_1275 : (Jvm.Cond.code ({ cls := "RoofWarModel", name := "becomes", desc := "(III)I" } : Jvm.MethodName) prog_12_method_63_code (9 : Nat) (Option.some Jvm.ClassFile.FieldType.int)) ∈ WT := WT_6 (List.mem_of_getElem? (i := 94) rfl) rfl
theorem mw_1276 : (Jvm.Cond.methodLink "RoofWarLaw" (109 : Nat) ({ cls := "RoofWarModel", name := "fee", desc := "()I" } : Jvm.MethodName)) ∈ WT := WT_6 (List.mem_of_getElem? (i := 95) rfl) rfl
theorem mw_1277 : (Jvm.Cond.instanceMethod ({ cls := "RoofWarModel", name := "fee", desc := "()I" } : Jvm.MethodName)) ∈ WT := WT_6 (List.mem_of_getElem? (i := 96) rfl) rfl
theorem mw_1278 : (Jvm.Cond.selects "RoofWarModel" ({ cls := "RoofWarModel", name := "fee", desc := "()I" } : Jvm.MethodName) ({ cls := "RoofWarModel", name := "fee", desc := "()I" } : Jvm.MethodName)) ∈ WT := WT_6 (List.mem_of_getElem? (i := 97) rfl) rfl
theorem mw_1279 : (Jvm.Cond.code ({ cls := "RoofWarModel", name := "fee", desc := "()I" } : Jvm.MethodName) prog_12_method_64_code (2 : Nat) (Option.some Jvm.ClassFile.FieldType.int)) ∈ WT := WT_6 (List.mem_of_getElem? (i := 98) rfl) rfl
theorem mw_1280 : (Jvm.Cond.methodLink "RoofWarLaw" (113 : Nat) ({ cls := "RoofWarModel", name := "fine", desc := "(I)I" } : Jvm.MethodName)) ∈ WT := WT_6 (List.mem_of_getElem? (i := 99) rfl) rfl
theorem mw_1281 : (Jvm.Cond.instanceMethod ({ cls := "RoofWarModel", name := "fine", desc := "(I)I" } : Jvm.MethodName)) ∈ WT := WT_6 (List.mem_of_getElem? (i := 100) rfl) rfl
theorem mw_1282 : (Jvm.Cond.selects "RoofWarModel" ({ cls := "RoofWarModel", name := "fine", desc := "(I)I" } : Jvm.MethodName) ({ cls := "RoofWarModel", name := "fine", desc := "(I)I" } : Jvm.MethodName)) ∈ WT := WT_6 (List.mem_of_getElem? (i := 101) rfl) rfl
theorem mw_1283 : (Jvm.Cond.code ({ cls := "RoofWarModel", name := "fine", desc := "(I)I" } : Jvm.MethodName) prog_12_method_65_code (3 : Nat) (Option.some Jvm.ClassFile.FieldType.int)) ∈ WT := WT_6 (List.mem_of_getElem? (i := 102) rfl) rfl
theorem mw_1284 : (Jvm.Cond.methodLink "RoofWarLaw" (117 : Nat) ({ cls := "RoofWarModel", name := "feed", desc := "(III)I" } : Jvm.MethodName)) ∈ WT := WT_6 (List.mem_of_getElem? (i := 103) rfl) rfl
theorem mw_1285 : (Jvm.Cond.instanceMethod ({ cls := "RoofWarModel", name := "feed", desc := "(III)I" } : Jvm.MethodName)) ∈ WT := WT_6 (List.mem_of_getElem? (i := 104) rfl) rfl
theorem mw_1286 : (Jvm.Cond.selects "RoofWarModel" ({ cls := "RoofWarModel", name := "feed", desc := "(III)I" } : Jvm.MethodName) ({ cls := "RoofWarModel", name := "feed", desc := "(III)I" } : Jvm.MethodName)) ∈ WT := WT_6 (List.mem_of_getElem? (i := 105) rfl) rfl
theorem mw_1287 : (Jvm.Cond.code ({ cls := "RoofWarModel", name := "feed", desc := "(III)I" } : Jvm.MethodName) prog_12_method_66_code (6 : Nat) (Option.some Jvm.ClassFile.FieldType.int)) ∈ WT := WT_6 (List.mem_of_getElem? (i := 106) rfl) rfl
theorem mw_1288 : (Jvm.Cond.methodLink "RoofWarLaw" (121 : Nat) ({ cls := "RoofWarModel", name := "trim", desc := "(I)I" } : Jvm.MethodName)) ∈ WT := WT_6 (List.mem_of_getElem? (i := 107) rfl) rfl
theorem mw_1289 : (Jvm.Cond.instanceMethod ({ cls := "RoofWarModel", name := "trim", desc := "(I)I" } : Jvm.MethodName)) ∈ WT := WT_6 (List.mem_of_getElem? (i := 108) rfl) rfl
theorem mw_1290 : (Jvm.Cond.selects "RoofWarModel" ({ cls := "RoofWarModel", name := "trim", desc := "(I)I" } : Jvm.MethodName) ({ cls := "RoofWarModel", name := "trim", desc := "(I)I" } : Jvm.MethodName)) ∈ WT := WT_6 (List.mem_of_getElem? (i := 109) rfl) rfl
theorem mw_1291 : (Jvm.Cond.code ({ cls := "RoofWarModel", name := "trim", desc := "(I)I" } : Jvm.MethodName) prog_12_method_67_code (2 : Nat) (Option.some Jvm.ClassFile.FieldType.int)) ∈ WT := WT_6 (List.mem_of_getElem? (i := 110) rfl) rfl
theorem mw_1292 : (Jvm.Cond.methodLink "RoofWarLaw" (125 : Nat) ({ cls := "RoofWarModel", name := "text", desc := "()I" } : Jvm.MethodName)) ∈ WT := WT_6 (List.mem_of_getElem? (i := 111) rfl) rfl
theorem mw_1293 : (Jvm.Cond.instanceMethod ({ cls := "RoofWarModel", name := "text", desc := "()I" } : Jvm.MethodName)) ∈ WT := WT_6 (List.mem_of_getElem? (i := 112) rfl) rfl
theorem mw_1294 : (Jvm.Cond.selects "RoofWarModel" ({ cls := "RoofWarModel", name := "text", desc := "()I" } : Jvm.MethodName) ({ cls := "RoofWarModel", name := "text", desc := "()I" } : Jvm.MethodName)) ∈ WT := WT_6 (List.mem_of_getElem? (i := 113) rfl) rfl
theorem mw_1295 : (Jvm.Cond.code ({ cls := "RoofWarModel", name := "text", desc := "()I" } : Jvm.MethodName) prog_12_method_84_code (3 : Nat) (Option.some Jvm.ClassFile.FieldType.int)) ∈ WT := WT_6 (List.mem_of_getElem? (i := 114) rfl) rfl
theorem mw_1296 : (Jvm.Cond.methodLink "RoofWarModel" (324 : Nat) ({ cls := "RoofWarModel", name := "parse", desc := "()I" } : Jvm.MethodName)) ∈ WT := WT_6 (List.mem_of_getElem? (i := 115) rfl) rfl
theorem mw_1297 : (Jvm.Cond.instanceMethod ({ cls := "RoofWarModel", name := "parse", desc := "()I" } : Jvm.MethodName)) ∈ WT := WT_6 (List.mem_of_getElem? (i := 117) rfl) rfl
theorem mw_1298 : (Jvm.Cond.code ({ cls := "RoofWarModel", name := "parse", desc := "()I" } : Jvm.MethodName) prog_12_method_83_code (3 : Nat) (Option.some Jvm.ClassFile.FieldType.int)) ∈ WT := WT_6 (List.mem_of_getElem? (i := 118) rfl) rfl
theorem mw_1299 : (Jvm.Cond.methodLink "RoofWarModel" (285 : Nat) ({ cls := "RoofWarModel", name := "nextToken", desc := "()V" } : Jvm.MethodName)) ∈ WT := WT_6 (List.mem_of_getElem? (i := 119) rfl) rfl
theorem mw_1300 : (Jvm.Cond.instanceMethod ({ cls := "RoofWarModel", name := "nextToken", desc := "()V" } : Jvm.MethodName)) ∈ WT := WT_6 (List.mem_of_getElem? (i := 121) rfl) rfl
theorem mw_1301 : (Jvm.Cond.code ({ cls := "RoofWarModel", name := "nextToken", desc := "()V" } : Jvm.MethodName) prog_12_method_70_code (3 : Nat) (Option.none : Option Jvm.ClassFile.FieldType)) ∈ WT := WT_6 (List.mem_of_getElem? (i := 122) rfl) rfl
theorem mw_1302 : (Jvm.Cond.methodLink "RoofWarModel" (253 : Nat) ({ cls := "RoofWarModel", name := "isLetter", desc := "(I)Z" } : Jvm.MethodName)) ∈ WT := WT_6 (List.mem_of_getElem? (i := 123) rfl) rfl
theorem mw_1303 : (Jvm.Cond.instanceMethod ({ cls := "RoofWarModel", name := "isLetter", desc := "(I)Z" } : Jvm.MethodName)) ∈ WT := WT_6 (List.mem_of_getElem? (i := 125) rfl) rfl
theorem mw_1304 : (Jvm.Cond.code ({ cls := "RoofWarModel", name := "isLetter", desc := "(I)Z" } : Jvm.MethodName) prog_12_method_68_code (2 : Nat) (Option.some Jvm.ClassFile.FieldType.boolean)) ∈ WT := WT_6 (List.mem_of_getElem? (i := 126) rfl) rfl
theorem mw_1305 : (Jvm.Cond.constantLong "RoofWarModel" (236 : Nat) (97 : Int64)) ∈ WT := WT_6 (List.mem_of_getElem? (i := 127) rfl) rfl
theorem mw_1306 : (Jvm.Cond.constantLong "RoofWarModel" (238 : Nat) (122 : Int64)) ∈ WT := WT_6 (List.mem_of_getElem? (i := 128) rfl) rfl
theorem mw_1307 : (Jvm.Cond.methodLink "RoofWarModel" (259 : Nat) ({ cls := "RoofWarModel", name := "isDigit", desc := "(I)Z" } : Jvm.MethodName)) ∈ WT := WT_6 (List.mem_of_getElem? (i := 129) rfl) rfl
theorem mw_1308 : (Jvm.Cond.instanceMethod ({ cls := "RoofWarModel", name := "isDigit", desc := "(I)Z" } : Jvm.MethodName)) ∈ WT := WT_6 (List.mem_of_getElem? (i := 131) rfl) rfl
theorem mw_1309 : (Jvm.Cond.code ({ cls := "RoofWarModel", name := "isDigit", desc := "(I)Z" } : Jvm.MethodName) prog_12_method_69_code (2 : Nat) (Option.some Jvm.ClassFile.FieldType.boolean)) ∈ WT := WT_6 (List.mem_of_getElem? (i := 132) rfl) rfl
theorem mw_1310 : (Jvm.Cond.constantLong "RoofWarModel" (240 : Nat) (48 : Int64)) ∈ WT := WT_6 (List.mem_of_getElem? (i := 133) rfl) rfl
theorem mw_1311 : (Jvm.Cond.constantLong "RoofWarModel" (242 : Nat) (57 : Int64)) ∈ WT := WT_6 (List.mem_of_getElem? (i := 134) rfl) rfl
theorem mw_1312 : (Jvm.Cond.methodLink "RoofWarModel" (321 : Nat) ({ cls := "RoofWarModel", name := "key", desc := "()I" } : Jvm.MethodName)) ∈ WT := WT_6 (List.mem_of_getElem? (i := 135) rfl) rfl
theorem mw_1313 : (Jvm.Cond.instanceMethod ({ cls := "RoofWarModel", name := "key", desc := "()I" } : Jvm.MethodName)) ∈ WT := WT_6 (List.mem_of_getElem? (i := 137) rfl) rfl
theorem mw_1314 : (Jvm.Cond.code ({ cls := "RoofWarModel", name := "key", desc := "()I" } : Jvm.MethodName) prog_12_method_74_code (1 : Nat) (Option.some Jvm.ClassFile.FieldType.int)) ∈ WT := WT_6 (List.mem_of_getElem? (i := 138) rfl) rfl
theorem mw_1315 : (Jvm.Cond.methodLink "RoofWarModel" (265 : Nat) ({ cls := "RoofWarModel", name := "isLong", desc := "(IIIIII)Z" } : Jvm.MethodName)) ∈ WT := WT_6 (List.mem_of_getElem? (i := 139) rfl) rfl
theorem mw_1316 : (Jvm.Cond.instanceMethod ({ cls := "RoofWarModel", name := "isLong", desc := "(IIIIII)Z" } : Jvm.MethodName)) ∈ WT := WT_6 (List.mem_of_getElem? (i := 141) rfl) rfl
theorem mw_1317 : (Jvm.Cond.code ({ cls := "RoofWarModel", name := "isLong", desc := "(IIIIII)Z" } : Jvm.MethodName) prog_12_method_73_code (8 : Nat) (Option.some Jvm.ClassFile.FieldType.boolean)) ∈ WT := WT_6 (List.mem_of_getElem? (i := 142) rfl) rfl
theorem mw_1318 : (Jvm.Cond.methodLink "RoofWarModel" (269 : Nat) ({ cls := "RoofWarModel", name := "isWordAt", desc := "(IIII)Z" } : Jvm.MethodName)) ∈ WT := WT_6 (List.mem_of_getElem? (i := 143) rfl) rfl
theorem mw_1319 : (Jvm.Cond.instanceMethod ({ cls := "RoofWarModel", name := "isWordAt", desc := "(IIII)Z" } : Jvm.MethodName)) ∈ WT := WT_6 (List.mem_of_getElem? (i := 145) rfl) rfl
theorem mw_1320 : (Jvm.Cond.code ({ cls := "RoofWarModel", name := "isWordAt", desc := "(IIII)Z" } : Jvm.MethodName) prog_12_method_72_code (6 : Nat) (Option.some Jvm.ClassFile.FieldType.boolean)) ∈ WT := WT_6 (List.mem_of_getElem? (i := 146) rfl) rfl
theorem mw_1321 : (Jvm.Cond.methodLink "RoofWarModel" (315 : Nat) ({ cls := "RoofWarModel", name := "either", desc := "(I)Z" } : Jvm.MethodName)) ∈ WT := WT_6 (List.mem_of_getElem? (i := 147) rfl) rfl
theorem mw_1322 : (Jvm.Cond.instanceMethod ({ cls := "RoofWarModel", name := "either", desc := "(I)Z" } : Jvm.MethodName)) ∈ WT := WT_6 (List.mem_of_getElem? (i := 149) rfl) rfl
theorem mw_1323 : (Jvm.Cond.code ({ cls := "RoofWarModel", name := "either", desc := "(I)Z" } : Jvm.MethodName) prog_12_method_77_code (2 : Nat) (Option.some Jvm.ClassFile.FieldType.boolean)) ∈ WT := WT_6 (List.mem_of_getElem? (i := 150) rfl) rfl
theorem mw_1324 : (Jvm.Cond.methodLink "RoofWarModel" (279 : Nat) ({ cls := "RoofWarModel", name := "both", desc := "(I)Z" } : Jvm.MethodName)) ∈ WT := WT_6 (List.mem_of_getElem? (i := 151) rfl) rfl
theorem mw_1325 : (Jvm.Cond.instanceMethod ({ cls := "RoofWarModel", name := "both", desc := "(I)Z" } : Jvm.MethodName)) ∈ WT := WT_6 (List.mem_of_getElem? (i := 153) rfl) rfl
theorem mw_1326 : (Jvm.Cond.code ({ cls := "RoofWarModel", name := "both", desc := "(I)Z" } : Jvm.MethodName) prog_12_method_78_code (2 : Nat) (Option.some Jvm.ClassFile.FieldType.boolean)) ∈ WT := WT_6 (List.mem_of_getElem? (i := 154) rfl) rfl
theorem mw_1327 : (Jvm.Cond.methodLink "RoofWarModel" (291 : Nat) ({ cls := "RoofWarModel", name := "test", desc := "(I)Z" } : Jvm.MethodName)) ∈ WT := WT_6 (List.mem_of_getElem? (i := 155) rfl) rfl
theorem mw_1328 : (Jvm.Cond.instanceMethod ({ cls := "RoofWarModel", name := "test", desc := "(I)Z" } : Jvm.MethodName)) ∈ WT := WT_6 (List.mem_of_getElem? (i := 157) rfl) rfl
theorem mw_1329 : (Jvm.Cond.code ({ cls := "RoofWarModel", name := "test", desc := "(I)Z" } : Jvm.MethodName) prog_12_method_79_code (3 : Nat) (Option.some Jvm.ClassFile.FieldType.boolean)) ∈ WT := WT_6 (List.mem_of_getElem? (i := 158) rfl) rfl
theorem mw_1330 : (Jvm.Cond.methodLink "RoofWarModel" (294 : Nat) ({ cls := "RoofWarModel", name := "sum", desc := "(I)Z" } : Jvm.MethodName)) ∈ WT := WT_6 (List.mem_of_getElem? (i := 159) rfl) rfl
theorem mw_1331 : (Jvm.Cond.instanceMethod ({ cls := "RoofWarModel", name := "sum", desc := "(I)Z" } : Jvm.MethodName)) ∈ WT := WT_6 (List.mem_of_getElem? (i := 161) rfl) rfl
theorem mw_1332 : (Jvm.Cond.code ({ cls := "RoofWarModel", name := "sum", desc := "(I)Z" } : Jvm.MethodName) prog_12_method_80_code (3 : Nat) (Option.some Jvm.ClassFile.FieldType.boolean)) ∈ WT := WT_6 (List.mem_of_getElem? (i := 162) rfl) rfl
theorem mw_1333 : (Jvm.Cond.methodLink "RoofWarModel" (297 : Nat) ({ cls := "RoofWarModel", name := "term", desc := "(I)Z" } : Jvm.MethodName)) ∈ WT := WT_6 (List.mem_of_getElem? (i := 163) rfl) rfl
theorem mw_1334 : (Jvm.Cond.instanceMethod ({ cls := "RoofWarModel", name := "term", desc := "(I)Z" } : Jvm.MethodName)) ∈ WT := WT_6 (List.mem_of_getElem? (i := 165) rfl) rfl
theorem mw_1335 : (Jvm.Cond.code ({ cls := "RoofWarModel", name := "term", desc := "(I)Z" } : Jvm.MethodName) prog_12_method_81_code (3 : Nat) (Option.some Jvm.ClassFile.FieldType.boolean)) ∈ WT := WT_6 (List.mem_of_getElem? (i := 166) rfl) rfl
theorem mw_1336 : (Jvm.Cond.methodLink "RoofWarModel" (300 : Nat) ({ cls := "RoofWarModel", name := "part0", desc := "(I)Z" } : Jvm.MethodName)) ∈ WT := WT_6 (List.mem_of_getElem? (i := 167) rfl) rfl
theorem mw_1337 : (Jvm.Cond.instanceMethod ({ cls := "RoofWarModel", name := "part0", desc := "(I)Z" } : Jvm.MethodName)) ∈ WT := WT_6 (List.mem_of_getElem? (i := 169) rfl) rfl
theorem mw_1338 : (Jvm.Cond.code ({ cls := "RoofWarModel", name := "part0", desc := "(I)Z" } : Jvm.MethodName) prog_12_method_82_code (2 : Nat) (Option.some Jvm.ClassFile.FieldType.boolean)) ∈ WT := WT_6 (List.mem_of_getElem? (i := 170) rfl) rfl
theorem mw_1339 : (Jvm.Cond.methodLink "RoofWarModel" (288 : Nat) ({ cls := "RoofWarModel", name := "step", desc := "(II)V" } : Jvm.MethodName)) ∈ WT := WT_6 (List.mem_of_getElem? (i := 171) rfl) rfl
theorem mw_1340 : (Jvm.Cond.instanceMethod ({ cls := "RoofWarModel", name := "step", desc := "(II)V" } : Jvm.MethodName)) ∈ WT := WT_6 (List.mem_of_getElem? (i := 173) rfl) rfl
theorem mw_1341 : (Jvm.Cond.code ({ cls := "RoofWarModel", name := "step", desc := "(II)V" } : Jvm.MethodName) prog_12_method_76_code (3 : Nat) (Option.none : Option Jvm.ClassFile.FieldType)) ∈ WT := WT_6 (List.mem_of_getElem? (i := 174) rfl) rfl
theorem mw_1342 : (Jvm.Cond.methodLink "RoofWarModel" (306 : Nat) ({ cls := "RoofWarModel", name := "isName", desc := "(II)Z" } : Jvm.MethodName)) ∈ WT := WT_6 (List.mem_of_getElem? (i := 175) rfl) rfl
theorem mw_1343 : (Jvm.Cond.static ({ cls := "RoofWarModel", name := "isName", desc := "(II)Z" } : Jvm.MethodName)) ∈ WT := WT_6 (List.mem_of_getElem? (i := 176) rfl) rfl
theorem mw_1344 : (Jvm.Cond.code ({ cls := "RoofWarModel", name := "isName", desc := "(II)Z" } : Jvm.MethodName) prog_12_method_75_code (2 : Nat) (Option.some Jvm.ClassFile.FieldType.boolean)) ∈ WT := WT_6 (List.mem_of_getElem? (i := 177) rfl) rfl
theorem mw_1345 : (Jvm.Cond.methodLink "RoofWarModel" (282 : Nat) ({ cls := "RoofWarModel", name := "isSign", desc := "(I)Z" } : Jvm.MethodName)) ∈ WT := WT_6 (List.mem_of_getElem? (i := 178) rfl) rfl
theorem mw_1346 : (Jvm.Cond.instanceMethod ({ cls := "RoofWarModel", name := "isSign", desc := "(I)Z" } : Jvm.MethodName)) ∈ WT := WT_6 (List.mem_of_getElem? (i := 180) rfl) rfl
theorem mw_1347 : (Jvm.Cond.code ({ cls := "RoofWarModel", name := "isSign", desc := "(I)Z" } : Jvm.MethodName) prog_12_method_71_code (2 : Nat) (Option.some Jvm.ClassFile.FieldType.boolean)) ∈ WT := WT_6 (List.mem_of_getElem? (i := 181) rfl) rfl
theorem mw_1348 : (Jvm.Cond.methodLink "RoofWarLaw" (129 : Nat) ({ cls := "RoofWarModel", name := "textTold", desc := "(II)I" } : Jvm.MethodName)) ∈ WT := WT_6 (List.mem_of_getElem? (i := 182) rfl) rfl
theorem mw_1349 : (Jvm.Cond.instanceMethod ({ cls := "RoofWarModel", name := "textTold", desc := "(II)I" } : Jvm.MethodName)) ∈ WT := WT_6 (List.mem_of_getElem? (i := 183) rfl) rfl
theorem mw_1350 : (Jvm.Cond.selects "RoofWarModel" ({ cls := "RoofWarModel", name := "textTold", desc := "(II)I" } : Jvm.MethodName) ({ cls := "RoofWarModel", name := "textTold", desc := "(II)I" } : Jvm.MethodName)) ∈ WT := WT_6 (List.mem_of_getElem? (i := 184) rfl) rfl
theorem mw_1351 : (Jvm.Cond.code ({ cls := "RoofWarModel", name := "textTold", desc := "(II)I" } : Jvm.MethodName) prog_12_method_85_code (3 : Nat) (Option.some Jvm.ClassFile.FieldType.int)) ∈ WT := WT_6 (List.mem_of_getElem? (i := 185) rfl) rfl
theorem mw_1352 : (Jvm.Cond.methodLink "RoofWarModel" (327 : Nat) ({ cls := "RoofWarModel", name := "isText", desc := "(I)Z" } : Jvm.MethodName)) ∈ WT := WT_6 (List.mem_of_getElem? (i := 186) rfl) rfl
theorem mw_1353 : (Jvm.Cond.instanceMethod ({ cls := "RoofWarModel", name := "isText", desc := "(I)Z" } : Jvm.MethodName)) ∈ WT := WT_6 (List.mem_of_getElem? (i := 188) rfl) rfl
theorem mw_1354 : (Jvm.Cond.code ({ cls := "RoofWarModel", name := "isText", desc := "(I)Z" } : Jvm.MethodName) prog_12_method_11_code (2 : Nat) (Option.some Jvm.ClassFile.FieldType.boolean)) ∈ WT := WT_6 (List.mem_of_getElem? (i := 189) rfl) rfl
theorem mw_1355 : (Jvm.Cond.methodLink "RoofWarLaw" (133 : Nat) ({ cls := "RoofWarModel", name := "why", desc := "(I)I" } : Jvm.MethodName)) ∈ WT := WT_6 (List.mem_of_getElem? (i := 190) rfl) rfl
theorem mw_1356 : (Jvm.Cond.instanceMethod ({ cls := "RoofWarModel", name := "why", desc := "(I)I" } : Jvm.MethodName)) ∈ WT := WT_6 (List.mem_of_getElem? (i := 191) rfl) rfl
theorem mw_1357 : (Jvm.Cond.selects "RoofWarModel" ({ cls := "RoofWarModel", name := "why", desc := "(I)I" } : Jvm.MethodName) ({ cls := "RoofWarModel", name := "why", desc := "(I)I" } : Jvm.MethodName)) ∈ WT := WT_6 (List.mem_of_getElem? (i := 192) rfl) rfl
theorem mw_1358 : (Jvm.Cond.code ({ cls := "RoofWarModel", name := "why", desc := "(I)I" } : Jvm.MethodName) prog_12_method_87_code (2 : Nat) (Option.some Jvm.ClassFile.FieldType.int)) ∈ WT := WT_6 (List.mem_of_getElem? (i := 193) rfl) rfl
theorem mw_1359 : (Jvm.Cond.methodLink "RoofWarLaw" (137 : Nat) ({ cls := "RoofWarModel", name := "sheet", desc := "(III)I" } : Jvm.MethodName)) ∈ WT := WT_6 (List.mem_of_getElem? (i := 194) rfl) rfl
theorem mw_1360 : (Jvm.Cond.instanceMethod ({ cls := "RoofWarModel", name := "sheet", desc := "(III)I" } : Jvm.MethodName)) ∈ WT := WT_6 (List.mem_of_getElem? (i := 195) rfl) rfl
theorem mw_1361 : (Jvm.Cond.selects "RoofWarModel" ({ cls := "RoofWarModel", name := "sheet", desc := "(III)I" } : Jvm.MethodName) ({ cls := "RoofWarModel", name := "sheet", desc := "(III)I" } : Jvm.MethodName)) ∈ WT := WT_6 (List.mem_of_getElem? (i := 196) rfl) rfl
theorem mw_1362 : (Jvm.Cond.code ({ cls := "RoofWarModel", name := "sheet", desc := "(III)I" } : Jvm.MethodName) prog_12_method_91_code (5 : Nat) (Option.some Jvm.ClassFile.FieldType.int)) ∈ WT := WT_6 (List.mem_of_getElem? (i := 197) rfl) rfl
theorem mw_1363 : (Jvm.Cond.methodLink "RoofWarModel" (333 : Nat) ({ cls := "RoofWarModel", name := "isSheet", desc := "(I)Z" } : Jvm.MethodName)) ∈ WT := WT_6 (List.mem_of_getElem? (i := 198) rfl) rfl
theorem mw_1364 : (Jvm.Cond.static ({ cls := "RoofWarModel", name := "isSheet", desc := "(I)Z" } : Jvm.MethodName)) ∈ WT := WT_6 (List.mem_of_getElem? (i := 199) rfl) rfl
theorem mw_1365 : (Jvm.Cond.code ({ cls := "RoofWarModel", name := "isSheet", desc := "(I)Z" } : Jvm.MethodName) prog_12_method_90_code (1 : Nat) (Option.some Jvm.ClassFile.FieldType.boolean)) ∈ WT := WT_6 (List.mem_of_getElem? (i := 200) rfl) rfl
theorem mw_1366 : (Jvm.Cond.constant "RoofWarModel" (336 : Nat) (-1000000014 : Int32)) ∈ WT := WT_6 (List.mem_of_getElem? (i := 201) rfl) rfl
theorem mw_1367 : (Jvm.Cond.methodLink "RoofWarLaw" (141 : Nat) ({ cls := "RoofWarModel", name := "mark", desc := "(III)I" } : Jvm.MethodName)) ∈ WT := WT_6 (List.mem_of_getElem? (i := 202) rfl) rfl
theorem mw_1368 : (Jvm.Cond.instanceMethod ({ cls := "RoofWarModel", name := "mark", desc := "(III)I" } : Jvm.MethodName)) ∈ WT := WT_6 (List.mem_of_getElem? (i := 203) rfl) rfl
theorem mw_1369 : (Jvm.Cond.selects "RoofWarModel" ({ cls := "RoofWarModel", name := "mark", desc := "(III)I" } : Jvm.MethodName) ({ cls := "RoofWarModel", name := "mark", desc := "(III)I" } : Jvm.MethodName)) ∈ WT := WT_6 (List.mem_of_getElem? (i := 204) rfl) rfl
theorem mw_1370 : (Jvm.Cond.code ({ cls := "RoofWarModel", name := "mark", desc := "(III)I" } : Jvm.MethodName) prog_12_method_92_code (4 : Nat) (Option.some Jvm.ClassFile.FieldType.int)) ∈ WT := WT_6 (List.mem_of_getElem? (i := 205) rfl) rfl
theorem mw_1371 : (Jvm.Cond.constant "RoofWarModel" (337 : Nat) (-1000000011 : Int32)) ∈ WT := WT_6 (List.mem_of_getElem? (i := 206) rfl) rfl
theorem mw_1372 : (Jvm.Cond.constant "RoofWarModel" (338 : Nat) (-1000000013 : Int32)) ∈ WT := WT_6 (List.mem_of_getElem? (i := 207) rfl) rfl
theorem mw_1373 : (Jvm.Cond.constantLong "RoofWarModel" (339 : Nat) (-99999 : Int64)) ∈ WT := WT_6 (List.mem_of_getElem? (i := 208) rfl) rfl
theorem mw_1374 : (Jvm.Cond.constantLong "RoofWarModel" (341 : Nat) (99999 : Int64)) ∈ WT := WT_6 (List.mem_of_getElem? (i := 209) rfl) rfl
theorem mw_1375 : (Jvm.Cond.methodLink "RoofWarLaw" (145 : Nat) ({ cls := "RoofWarModel", name := "pour", desc := "(I)I" } : Jvm.MethodName)) ∈ WT := WT_6 (List.mem_of_getElem? (i := 210) rfl) rfl
theorem mw_1376 : (Jvm.Cond.instanceMethod ({ cls := "RoofWarModel", name := "pour", desc := "(I)I" } : Jvm.MethodName)) ∈ WT := WT_6 (List.mem_of_getElem? (i := 211) rfl) rfl
theorem mw_1377 : (Jvm.Cond.selects "RoofWarModel" ({ cls := "RoofWarModel", name := "pour", desc := "(I)I" } : Jvm.MethodName) ({ cls := "RoofWarModel", name := "pour", desc := "(I)I" } : Jvm.MethodName)) ∈ WT := WT_6 (List.mem_of_getElem? (i := 212) rfl) rfl
theorem mw_1378 : (Jvm.Cond.code ({ cls := "RoofWarModel", name := "pour", desc := "(I)I" } : Jvm.MethodName) prog_12_method_93_code (6 : Nat) (Option.some Jvm.ClassFile.FieldType.int)) ∈ WT := WT_6 (List.mem_of_getElem? (i := 213) rfl) rfl
theorem mw_1379 : (Jvm.Cond.methodLink "RoofWarLaw" (149 : Nat) ({ cls := "RoofWarModel", name := "reads", desc := "(I)I" } : Jvm.MethodName)) ∈ WT := WT_6 (List.mem_of_getElem? (i := 214) rfl) rfl
theorem mw_1380 : (Jvm.Cond.instanceMethod ({ cls := "RoofWarModel", name := "reads", desc := "(I)I" } : Jvm.MethodName)) ∈ WT := WT_6 (List.mem_of_getElem? (i := 215) rfl) rfl
theorem mw_1381 : (Jvm.Cond.selects "RoofWarModel" ({ cls := "RoofWarModel", name := "reads", desc := "(I)I" } : Jvm.MethodName) ({ cls := "RoofWarModel", name := "reads", desc := "(I)I" } : Jvm.MethodName)) ∈ WT := WT_6 (List.mem_of_getElem? (i := 216) rfl) rfl
theorem mw_1382 : (Jvm.Cond.code ({ cls := "RoofWarModel", name := "reads", desc := "(I)I" } : Jvm.MethodName) prog_12_method_94_code (4 : Nat) (Option.some Jvm.ClassFile.FieldType.int)) ∈ WT := WT_6 (List.mem_of_getElem? (i := 217) rfl) rfl
theorem mw_1383 : (Jvm.Cond.methodLink "RoofWarLaw" (104 : Nat) ({ cls := "RoofWarModel", name := "like", desc := "(II)I" } : Jvm.MethodName)) ∈ WT := WT_6 (List.mem_of_getElem? (i := 218) rfl) rfl
theorem mw_1384 : (Jvm.Cond.instanceMethod ({ cls := "RoofWarModel", name := "like", desc := "(II)I" } : Jvm.MethodName)) ∈ WT := WT_6 (List.mem_of_getElem? (i := 219) rfl) rfl
theorem mw_1385 : (Jvm.Cond.selects "RoofWarModel" ({ cls := "RoofWarModel", name := "like", desc := "(II)I" } : Jvm.MethodName) ({ cls := "RoofWarModel", name := "like", desc := "(II)I" } : Jvm.MethodName)) ∈ WT := WT_6 (List.mem_of_getElem? (i := 220) rfl) rfl
theorem mw_1386 : (Jvm.Cond.code ({ cls := "RoofWarModel", name := "like", desc := "(II)I" } : Jvm.MethodName) prog_12_method_96_code (7 : Nat) (Option.some Jvm.ClassFile.FieldType.int)) ∈ WT := WT_6 (List.mem_of_getElem? (i := 221) rfl) rfl
theorem mw_1387 : (Jvm.Cond.methodLink "RoofWarModel" (343 : Nat) ({ cls := "RoofWarModel", name := "likeOnes", desc := "(II)I" } : Jvm.MethodName)) ∈ WT := WT_6 (List.mem_of_getElem? (i := 222) rfl) rfl
theorem mw_1388 : (Jvm.Cond.instanceMethod ({ cls := "RoofWarModel", name := "likeOnes", desc := "(II)I" } : Jvm.MethodName)) ∈ WT := WT_6 (List.mem_of_getElem? (i := 224) rfl) rfl
theorem mw_1389 : (Jvm.Cond.code ({ cls := "RoofWarModel", name := "likeOnes", desc := "(II)I" } : Jvm.MethodName) prog_12_method_95_code (6 : Nat) (Option.some Jvm.ClassFile.FieldType.int)) ∈ WT := WT_6 (List.mem_of_getElem? (i := 225) rfl) rfl
theorem mw_1390 : (Jvm.Cond.methodLink "RoofWarLaw" (154 : Nat) ({ cls := "RoofWarModel", name := "copy", desc := "(IIIII)I" } : Jvm.MethodName)) ∈ WT := WT_6 (List.mem_of_getElem? (i := 226) rfl) rfl
theorem mw_1391 : (Jvm.Cond.instanceMethod ({ cls := "RoofWarModel", name := "copy", desc := "(IIIII)I" } : Jvm.MethodName)) ∈ WT := WT_6 (List.mem_of_getElem? (i := 227) rfl) rfl
theorem mw_1392 : (Jvm.Cond.selects "RoofWarModel" ({ cls := "RoofWarModel", name := "copy", desc := "(IIIII)I" } : Jvm.MethodName) ({ cls := "RoofWarModel", name := "copy", desc := "(IIIII)I" } : Jvm.MethodName)) ∈ WT := WT_6 (List.mem_of_getElem? (i := 228) rfl) rfl
theorem mw_1393 : (Jvm.Cond.code ({ cls := "RoofWarModel", name := "copy", desc := "(IIIII)I" } : Jvm.MethodName) prog_12_method_97_code (7 : Nat) (Option.some Jvm.ClassFile.FieldType.int)) ∈ WT := WT_6 (List.mem_of_getElem? (i := 229) rfl) rfl
theorem mw_1394 : (Jvm.Cond.methodLink "RoofWarLaw" (158 : Nat) ({ cls := "RoofWarModel", name := "lay", desc := "(III)I" } : Jvm.MethodName)) ∈ WT := WT_6 (List.mem_of_getElem? (i := 230) rfl) rfl
theorem mw_1395 : (Jvm.Cond.instanceMethod ({ cls := "RoofWarModel", name := "lay", desc := "(III)I" } : Jvm.MethodName)) ∈ WT := WT_6 (List.mem_of_getElem? (i := 231) rfl) rfl
theorem mw_1396 : (Jvm.Cond.selects "RoofWarModel" ({ cls := "RoofWarModel", name := "lay", desc := "(III)I" } : Jvm.MethodName) ({ cls := "RoofWarModel", name := "lay", desc := "(III)I" } : Jvm.MethodName)) ∈ WT := WT_6 (List.mem_of_getElem? (i := 232) rfl) rfl
theorem mw_1397 : (Jvm.Cond.code ({ cls := "RoofWarModel", name := "lay", desc := "(III)I" } : Jvm.MethodName) prog_12_method_99_code (7 : Nat) (Option.some Jvm.ClassFile.FieldType.int)) ∈ WT := WT_6 (List.mem_of_getElem? (i := 233) rfl) rfl
theorem mw_1398 : (Jvm.Cond.methodLink "RoofWarModel" (348 : Nat) ({ cls := "RoofWarModel", name := "isSlot", desc := "(I)Z" } : Jvm.MethodName)) ∈ WT := WT_6 (List.mem_of_getElem? (i := 234) rfl) rfl
theorem mw_1399 : (Jvm.Cond.static ({ cls := "RoofWarModel", name := "isSlot", desc := "(I)Z" } : Jvm.MethodName)) ∈ WT := WT_6 (List.mem_of_getElem? (i := 235) rfl) rfl
theorem mw_1400 : (Jvm.Cond.code ({ cls := "RoofWarModel", name := "isSlot", desc := "(I)Z" } : Jvm.MethodName) prog_12_method_98_code (1 : Nat) (Option.some Jvm.ClassFile.FieldType.boolean)) ∈ WT := WT_6 (List.mem_of_getElem? (i := 236) rfl) rfl
theorem mw_1401 : (Jvm.Cond.constantLong "RoofWarModel" (346 : Nat) (4 : Int64)) ∈ WT := WT_6 (List.mem_of_getElem? (i := 237) rfl) rfl
theorem mw_1402 : (Jvm.Cond.methodLink "RoofWarLaw" (162 : Nat) ({ cls := "RoofWarModel", name := "ask", desc := "(II)I" } : Jvm.MethodName)) ∈ WT := WT_6 (List.mem_of_getElem? (i := 238) rfl) rfl
theorem mw_1403 : (Jvm.Cond.instanceMethod ({ cls := "RoofWarModel", name := "ask", desc := "(II)I" } : Jvm.MethodName)) ∈ WT := WT_6 (List.mem_of_getElem? (i := 239) rfl) rfl
theorem mw_1404 : (Jvm.Cond.selects "RoofWarModel" ({ cls := "RoofWarModel", name := "ask", desc := "(II)I" } : Jvm.MethodName) ({ cls := "RoofWarModel", name := "ask", desc := "(II)I" } : Jvm.MethodName)) ∈ WT := WT_7 (List.mem_of_getElem? (i := 0) rfl) rfl
theorem mw_1405 : (Jvm.Cond.code ({ cls := "RoofWarModel", name := "ask", desc := "(II)I" } : Jvm.MethodName) prog_12_method_100_code (3 : Nat) (Option.some Jvm.ClassFile.FieldType.int)) ∈ WT := WT_7 (List.mem_of_getElem? (i := 1) rfl) rfl
theorem mw_1406 : (Jvm.Cond.methodLink "RoofWarLaw" (166 : Nat) ({ cls := "RoofWarModel", name := "item", desc := "(II)I" } : Jvm.MethodName)) ∈ WT := WT_7 (List.mem_of_getElem? (i := 2) rfl) rfl
theorem mw_1407 : (Jvm.Cond.instanceMethod ({ cls := "RoofWarModel", name := "item", desc := "(II)I" } : Jvm.MethodName)) ∈ WT := WT_7 (List.mem_of_getElem? (i := 3) rfl) rfl
theorem mw_1408 : (Jvm.Cond.selects "RoofWarModel" ({ cls := "RoofWarModel", name := "item", desc := "(II)I" } : Jvm.MethodName) ({ cls := "RoofWarModel", name := "item", desc := "(II)I" } : Jvm.MethodName)) ∈ WT := WT_7 (List.mem_of_getElem? (i := 4) rfl) rfl
theorem mw_1409 : (Jvm.Cond.code ({ cls := "RoofWarModel", name := "item", desc := "(II)I" } : Jvm.MethodName) prog_12_method_101_code (4 : Nat) (Option.some Jvm.ClassFile.FieldType.int)) ∈ WT := WT_7 (List.mem_of_getElem? (i := 5) rfl) rfl
theorem mw_1410 : (Jvm.Cond.methodLink "RoofWarLaw" (170 : Nat) ({ cls := "RoofWarModel", name := "rest", desc := "(II)I" } : Jvm.MethodName)) ∈ WT := WT_7 (List.mem_of_getElem? (i := 6) rfl) rfl
theorem mw_1411 : (Jvm.Cond.instanceMethod ({ cls := "RoofWarModel", name := "rest", desc := "(II)I" } : Jvm.MethodName)) ∈ WT := WT_7 (List.mem_of_getElem? (i := 7) rfl) rfl
theorem mw_1412 : (Jvm.Cond.selects "RoofWarModel" ({ cls := "RoofWarModel", name := "rest", desc := "(II)I" } : Jvm.MethodName) ({ cls := "RoofWarModel", name := "rest", desc := "(II)I" } : Jvm.MethodName)) ∈ WT := WT_7 (List.mem_of_getElem? (i := 8) rfl) rfl
theorem mw_1413 : (Jvm.Cond.code ({ cls := "RoofWarModel", name := "rest", desc := "(II)I" } : Jvm.MethodName) prog_12_method_102_code (3 : Nat) (Option.some Jvm.ClassFile.FieldType.int)) ∈ WT := WT_7 (List.mem_of_getElem? (i := 9) rfl) rfl
theorem mw_1414 : (Jvm.Cond.methodLink "RoofWarLaw" (174 : Nat) ({ cls := "RoofWarModel", name := "tell", desc := "(I)I" } : Jvm.MethodName)) ∈ WT := WT_7 (List.mem_of_getElem? (i := 10) rfl) rfl
theorem mw_1415 : (Jvm.Cond.instanceMethod ({ cls := "RoofWarModel", name := "tell", desc := "(I)I" } : Jvm.MethodName)) ∈ WT := WT_7 (List.mem_of_getElem? (i := 11) rfl) rfl
theorem mw_1416 : (Jvm.Cond.selects "RoofWarModel" ({ cls := "RoofWarModel", name := "tell", desc := "(I)I" } : Jvm.MethodName) ({ cls := "RoofWarModel", name := "tell", desc := "(I)I" } : Jvm.MethodName)) ∈ WT := WT_7 (List.mem_of_getElem? (i := 12) rfl) rfl
theorem mw_1417 : (Jvm.Cond.code ({ cls := "RoofWarModel", name := "tell", desc := "(I)I" } : Jvm.MethodName) prog_12_method_103_code (2 : Nat) (Option.some Jvm.ClassFile.FieldType.int)) ∈ WT := WT_7 (List.mem_of_getElem? (i := 13) rfl) rfl
theorem mw_1418 : (Jvm.Cond.methodLink "RoofWarLaw" (178 : Nat) ({ cls := "RoofWarModel", name := "check", desc := "(I)I" } : Jvm.MethodName)) ∈ WT := WT_7 (List.mem_of_getElem? (i := 14) rfl) rfl
theorem mw_1419 : (Jvm.Cond.instanceMethod ({ cls := "RoofWarModel", name := "check", desc := "(I)I" } : Jvm.MethodName)) ∈ WT := WT_7 (List.mem_of_getElem? (i := 15) rfl) rfl
theorem mw_1420 : (Jvm.Cond.selects "RoofWarModel" ({ cls := "RoofWarModel", name := "check", desc := "(I)I" } : Jvm.MethodName) ({ cls := "RoofWarModel", name := "check", desc := "(I)I" } : Jvm.MethodName)) ∈ WT := WT_7 (List.mem_of_getElem? (i := 16) rfl) rfl
theorem mw_1421 : (Jvm.Cond.code ({ cls := "RoofWarModel", name := "check", desc := "(I)I" } : Jvm.MethodName) prog_12_method_105_code (5 : Nat) (Option.some Jvm.ClassFile.FieldType.int)) ∈ WT := WT_7 (List.mem_of_getElem? (i := 17) rfl) rfl
theorem mw_1422 : (Jvm.Cond.constantLong "RoofWarModel" (354 : Nat) (30 : Int64)) ∈ WT := WT_7 (List.mem_of_getElem? (i := 18) rfl) rfl
theorem mw_1423 : (Jvm.Cond.methodLink "RoofWarModel" (360 : Nat) ({ cls := "RoofWarModel", name := "setAside", desc := "([I[I)V" } : Jvm.MethodName)) ∈ WT := WT_7 (List.mem_of_getElem? (i := 19) rfl) rfl
theorem mw_1424 : (Jvm.Cond.instanceMethod ({ cls := "RoofWarModel", name := "setAside", desc := "([I[I)V" } : Jvm.MethodName)) ∈ WT := WT_7 (List.mem_of_getElem? (i := 21) rfl) rfl
theorem mw_1425 : (Jvm.Cond.code ({ cls := "RoofWarModel", name := "setAside", desc := "([I[I)V" } : Jvm.MethodName) prog_12_method_104_code (4 : Nat) (Option.none : Option Jvm.ClassFile.FieldType)) ∈ WT := WT_7 (List.mem_of_getElem? (i := 22) rfl) rfl
theorem mw_1426 : (Jvm.Cond.methodLink "RoofWarLaw" (182 : Nat) ({ cls := "RoofWarModel", name := "keep", desc := "()I" } : Jvm.MethodName)) ∈ WT := WT_7 (List.mem_of_getElem? (i := 23) rfl) rfl
theorem mw_1427 : (Jvm.Cond.instanceMethod ({ cls := "RoofWarModel", name := "keep", desc := "()I" } : Jvm.MethodName)) ∈ WT := WT_7 (List.mem_of_getElem? (i := 24) rfl) rfl
theorem mw_1428 : (Jvm.Cond.selects "RoofWarModel" ({ cls := "RoofWarModel", name := "keep", desc := "()I" } : Jvm.MethodName) ({ cls := "RoofWarModel", name := "keep", desc := "()I" } : Jvm.MethodName)) ∈ WT := WT_7 (List.mem_of_getElem? (i := 25) rfl) rfl
theorem mw_1429 : (Jvm.Cond.code ({ cls := "RoofWarModel", name := "keep", desc := "()I" } : Jvm.MethodName) prog_12_method_106_code (1 : Nat) (Option.some Jvm.ClassFile.FieldType.int)) ∈ WT := WT_7 (List.mem_of_getElem? (i := 26) rfl) rfl
theorem mw_1430 : (Jvm.Cond.methodLink "RoofWarLaw" (186 : Nat) ({ cls := "RoofWarModel", name := "back", desc := "()I" } : Jvm.MethodName)) ∈ WT := WT_7 (List.mem_of_getElem? (i := 27) rfl) rfl
theorem mw_1431 : (Jvm.Cond.instanceMethod ({ cls := "RoofWarModel", name := "back", desc := "()I" } : Jvm.MethodName)) ∈ WT := WT_7 (List.mem_of_getElem? (i := 28) rfl) rfl
theorem mw_1432 : (Jvm.Cond.selects "RoofWarModel" ({ cls := "RoofWarModel", name := "back", desc := "()I" } : Jvm.MethodName) ({ cls := "RoofWarModel", name := "back", desc := "()I" } : Jvm.MethodName)) ∈ WT := WT_7 (List.mem_of_getElem? (i := 29) rfl) rfl
theorem mw_1433 : (Jvm.Cond.code ({ cls := "RoofWarModel", name := "back", desc := "()I" } : Jvm.MethodName) prog_12_method_107_code (1 : Nat) (Option.some Jvm.ClassFile.FieldType.int)) ∈ WT := WT_7 (List.mem_of_getElem? (i := 30) rfl) rfl
theorem mw_1434 : (Jvm.Cond.methodLink "RoofWarLaw" (190 : Nat) ({ cls := "RoofWarModel", name := "count", desc := "(I)I" } : Jvm.MethodName)) ∈ WT := WT_7 (List.mem_of_getElem? (i := 31) rfl) rfl
theorem mw_1435 : (Jvm.Cond.instanceMethod ({ cls := "RoofWarModel", name := "count", desc := "(I)I" } : Jvm.MethodName)) ∈ WT := WT_7 (List.mem_of_getElem? (i := 32) rfl) rfl
theorem mw_1436 : (Jvm.Cond.selects "RoofWarModel" ({ cls := "RoofWarModel", name := "count", desc := "(I)I" } : Jvm.MethodName) ({ cls := "RoofWarModel", name := "count", desc := "(I)I" } : Jvm.MethodName)) ∈ WT := WT_7 (List.mem_of_getElem? (i := 33) rfl) rfl
theorem mw_1437 : (Jvm.Cond.code ({ cls := "RoofWarModel", name := "count", desc := "(I)I" } : Jvm.MethodName) prog_12_method_108_code (2 : Nat) (Option.some Jvm.ClassFile.FieldType.int)) ∈ WT := WT_7 (List.mem_of_getElem? (i := 34) rfl) rfl
theorem mw_1438 : (Jvm.Cond.fieldLink "java/lang/String" (9 : Nat) "java/lang/String" "value" "[B") ∈ WT := WT_7 (List.mem_of_getElem? (i := 35) rfl) rfl
theorem mw_1439 : (Jvm.Cond.fieldLink "java/lang/String" (15 : Nat) "java/lang/String" "coder" "B") ∈ WT := WT_7 (List.mem_of_getElem? (i := 36) rfl) rfl
