theorem kw_0 : Cond.code ({ cls := "SeedBench$Atlas", name := "gatherLetters", desc := "()V" } : MethodName) prog_2_method_7_code (2 : Nat) (Option.none : Option FieldType) ∈ gT := gm_3 (List.mem_of_getElem? (i := 119) rfl) rfl
theorem kw_1 : Cond.initialized "SeedBench$Atlas" ∈ gT := gm_1 (List.mem_of_getElem? (i := 6) rfl) rfl
theorem kw_2 : Cond.methodLink "SeedBench$Atlas" (117 : Nat) ({ cls := "SeedBench$Atlas", name := "gatherLetters", desc := "()V" } : MethodName) ∈ gT := gm_3 (List.mem_of_getElem? (i := 116) rfl) rfl
theorem kw_3 : Cond.instanceMethod ({ cls := "SeedBench$Atlas", name := "gatherLetters", desc := "()V" } : MethodName) ∈ gT := gm_3 (List.mem_of_getElem? (i := 118) rfl) rfl
theorem kw_4 : Cond.selects "SeedBench$Atlas" ⟨"SeedBench$Atlas", "gatherLetters", "()V"⟩ ⟨"SeedBench$Atlas", "gatherLetters", "()V"⟩ ∈ gT := gs_1 (List.mem_map.mpr ⟨(⟨"SeedBench$Atlas", "gatherLetters", "()V"⟩, 18), List.mem_of_getElem? (i := 14) rfl, rfl⟩) rfl
theorem kw_5 : Cond.code ({ cls := "SeedBench$Atlas", name := "rowOf", desc := "()I" } : MethodName) prog_2_method_8_code (2 : Nat) (Option.some FieldType.int) ∈ gT := gm_3 (List.mem_of_getElem? (i := 137) rfl) rfl
theorem kw_6 : Cond.methodLink "SeedBench$Atlas" (132 : Nat) ({ cls := "SeedBench$Atlas", name := "rowOf", desc := "()I" } : MethodName) ∈ gT := gm_3 (List.mem_of_getElem? (i := 134) rfl) rfl
theorem kw_7 : Cond.instanceMethod ({ cls := "SeedBench$Atlas", name := "rowOf", desc := "()I" } : MethodName) ∈ gT := gm_3 (List.mem_of_getElem? (i := 136) rfl) rfl
theorem kw_8 : Cond.selects "SeedBench$Atlas" ⟨"SeedBench$Atlas", "rowOf", "()I"⟩ ⟨"SeedBench$Atlas", "rowOf", "()I"⟩ ∈ gT := gs_2 (List.mem_map.mpr ⟨(⟨"SeedBench$Atlas", "rowOf", "()I"⟩, 18), List.mem_of_getElem? (i := 2) rfl, rfl⟩) rfl
theorem kw_9 : Cond.code ({ cls := "SeedBench$Atlas", name := "enter", desc := "()Z" } : MethodName) prog_2_method_10_code (2 : Nat) (Option.some FieldType.boolean) ∈ gT := gm_3 (List.mem_of_getElem? (i := 123) rfl) rfl
theorem kw_10 : Cond.methodLink "SeedBench$Atlas" (120 : Nat) ({ cls := "SeedBench$Atlas", name := "enter", desc := "()Z" } : MethodName) ∈ gT := gm_3 (List.mem_of_getElem? (i := 120) rfl) rfl
theorem kw_11 : Cond.instanceMethod ({ cls := "SeedBench$Atlas", name := "enter", desc := "()Z" } : MethodName) ∈ gT := gm_3 (List.mem_of_getElem? (i := 122) rfl) rfl
theorem kw_12 : Cond.selects "SeedBench$Atlas" ⟨"SeedBench$Atlas", "enter", "()Z"⟩ ⟨"SeedBench$Atlas", "enter", "()Z"⟩ ∈ gT := gs_1 (List.mem_map.mpr ⟨(⟨"SeedBench$Atlas", "enter", "()Z"⟩, 18), List.mem_of_getElem? (i := 15) rfl, rfl⟩) rfl
theorem kw_13 : Cond.methodLink "SeedBench$Atlas" (110 : Nat) ({ cls := "java/lang/System", name := "arraycopy", desc := "(Ljava/lang/Object;ILjava/lang/Object;II)V" } : MethodName) ∈ gT := gm_3 (List.mem_of_getElem? (i := 109) rfl) rfl
theorem kw_14 : Cond.native ({ cls := "java/lang/System", name := "arraycopy", desc := "(Ljava/lang/Object;ILjava/lang/Object;II)V" } : MethodName) ∈ gT := gm_2 (List.mem_of_getElem? (i := 83) rfl) rfl
theorem kw_15 : Cond.static ({ cls := "java/lang/System", name := "arraycopy", desc := "(Ljava/lang/Object;ILjava/lang/Object;II)V" } : MethodName) ∈ gT := gm_2 (List.mem_of_getElem? (i := 82) rfl) rfl
theorem kw_16 : Cond.initialized "java/lang/System" ∈ gT := gm_1 (List.mem_of_getElem? (i := 11) rfl) rfl
theorem kw_17 : Cond.code ({ cls := "SeedBench$Atlas", name := "numberOf", desc := "(LSeedBench$Share;)I" } : MethodName) prog_2_method_5_code (3 : Nat) (Option.some FieldType.int) ∈ gT := gm_3 (List.mem_of_getElem? (i := 113) rfl) rfl
theorem kw_18 : Cond.methodLink "SeedBench$Atlas" (96 : Nat) ({ cls := "SeedBench$Atlas", name := "numberOf", desc := "(LSeedBench$Share;)I" } : MethodName) ∈ gT := gm_3 (List.mem_of_getElem? (i := 110) rfl) rfl
theorem kw_19 : Cond.instanceMethod ({ cls := "SeedBench$Atlas", name := "numberOf", desc := "(LSeedBench$Share;)I" } : MethodName) ∈ gT := gm_3 (List.mem_of_getElem? (i := 112) rfl) rfl
theorem kw_20 : Cond.selects "SeedBench$Atlas" ⟨"SeedBench$Atlas", "numberOf", "(LSeedBench$Share;)I"⟩ ⟨"SeedBench$Atlas", "numberOf", "(LSeedBench$Share;)I"⟩ ∈ gT := gs_1 (List.mem_map.mpr ⟨(⟨"SeedBench$Atlas", "numberOf", "(LSeedBench$Share;)I"⟩, 18), List.mem_of_getElem? (i := 13) rfl, rfl⟩) rfl
theorem kw_21 : Cond.code ({ cls := "SeedBench$Atlas", name := "enterFirst", desc := "(LSeedBench$Seed;)Z" } : MethodName) prog_2_method_3_code (3 : Nat) (Option.some FieldType.boolean) ∈ gT := gm_3 (List.mem_of_getElem? (i := 108) rfl) rfl
theorem kw_22 : Cond.methodLink "SeedBench$Atlas" (62 : Nat) ({ cls := "SeedBench$Atlas", name := "enterFirst", desc := "(LSeedBench$Seed;)Z" } : MethodName) ∈ gT := gm_3 (List.mem_of_getElem? (i := 105) rfl) rfl
theorem kw_23 : Cond.instanceMethod ({ cls := "SeedBench$Atlas", name := "enterFirst", desc := "(LSeedBench$Seed;)Z" } : MethodName) ∈ gT := gm_3 (List.mem_of_getElem? (i := 107) rfl) rfl
theorem kw_24 : Cond.selects "SeedBench$Atlas" ⟨"SeedBench$Atlas", "enterFirst", "(LSeedBench$Seed;)Z"⟩ ⟨"SeedBench$Atlas", "enterFirst", "(LSeedBench$Seed;)Z"⟩ ∈ gT := gs_1 (List.mem_map.mpr ⟨(⟨"SeedBench$Atlas", "enterFirst", "(LSeedBench$Seed;)Z"⟩, 18), List.mem_of_getElem? (i := 12) rfl, rfl⟩) rfl
theorem kw_25 : Cond.code ({ cls := "SeedBench$Atlas", name := "load", desc := "(I)V" } : MethodName) prog_2_method_4_code (3 : Nat) (Option.none : Option FieldType) ∈ gT := gm_3 (List.mem_of_getElem? (i := 127) rfl) rfl
theorem kw_26 : Cond.methodLink "SeedBench$Atlas" (72 : Nat) ({ cls := "SeedBench$Atlas", name := "load", desc := "(I)V" } : MethodName) ∈ gT := gm_3 (List.mem_of_getElem? (i := 124) rfl) rfl
theorem kw_27 : Cond.instanceMethod ({ cls := "SeedBench$Atlas", name := "load", desc := "(I)V" } : MethodName) ∈ gT := gm_3 (List.mem_of_getElem? (i := 126) rfl) rfl
theorem kw_28 : Cond.selects "SeedBench$Atlas" ⟨"SeedBench$Atlas", "load", "(I)V"⟩ ⟨"SeedBench$Atlas", "load", "(I)V"⟩ ∈ gT := gs_2 (List.mem_map.mpr ⟨(⟨"SeedBench$Atlas", "load", "(I)V"⟩, 18), List.mem_of_getElem? (i := 0) rfl, rfl⟩) rfl
theorem kw_29 : Cond.code ({ cls := "SeedBench$Mill", name := "exchange", desc := "(LSeedBench$Seed;I)Z" } : MethodName) prog_7_method_2_code (5 : Nat) (Option.some FieldType.boolean) ∈ gT := gm_2 (List.mem_of_getElem? (i := 208) rfl) rfl
theorem kw_30 : Cond.initialized "SeedBench$Mill" ∈ gT := gm_1 (List.mem_of_getElem? (i := 5) rfl) rfl
theorem kw_31 : Cond.methodLink "SeedBench$Atlas" (76 : Nat) ({ cls := "SeedBench$Mill", name := "exchange", desc := "(LSeedBench$Seed;I)Z" } : MethodName) ∈ gT := gm_3 (List.mem_of_getElem? (i := 128) rfl) rfl
theorem kw_32 : Cond.instanceMethod ({ cls := "SeedBench$Mill", name := "exchange", desc := "(LSeedBench$Seed;I)Z" } : MethodName) ∈ gT := gm_2 (List.mem_of_getElem? (i := 206) rfl) rfl
theorem kw_33 : Cond.selects "SeedBench$Mill" ({ cls := "SeedBench$Mill", name := "exchange", desc := "(LSeedBench$Seed;I)Z" } : MethodName) ({ cls := "SeedBench$Mill", name := "exchange", desc := "(LSeedBench$Seed;I)Z" } : MethodName) ∈ gT := gm_2 (List.mem_of_getElem? (i := 207) rfl) rfl
theorem kw_34 : Cond.code ({ cls := "SeedBench", name := "turnTable", desc := "([IIII)V" } : MethodName) prog_1_method_38_code (6 : Nat) (Option.none : Option FieldType) ∈ gT := gm_3 (List.mem_of_getElem? (i := 25) rfl) rfl
theorem kw_35 : Cond.initialized "SeedBench" ∈ gT := gm_1 (List.mem_of_getElem? (i := 1) rfl) rfl
theorem kw_36 : Cond.static ({ cls := "SeedBench", name := "turnTable", desc := "([IIII)V" } : MethodName) ∈ gT := gm_3 (List.mem_of_getElem? (i := 24) rfl) rfl
theorem kw_37 : Cond.code ({ cls := "SeedBench$Atlas", name := "arrive", desc := "(I)Z" } : MethodName) prog_2_method_6_code (3 : Nat) (Option.some FieldType.boolean) ∈ gT := gm_3 (List.mem_of_getElem? (i := 133) rfl) rfl
theorem kw_38 : Cond.methodLink "SeedBench$Atlas" (100 : Nat) ({ cls := "SeedBench$Atlas", name := "arrive", desc := "(I)Z" } : MethodName) ∈ gT := gm_3 (List.mem_of_getElem? (i := 130) rfl) rfl
theorem kw_39 : Cond.instanceMethod ({ cls := "SeedBench$Atlas", name := "arrive", desc := "(I)Z" } : MethodName) ∈ gT := gm_3 (List.mem_of_getElem? (i := 132) rfl) rfl
theorem kw_40 : Cond.selects "SeedBench$Atlas" ⟨"SeedBench$Atlas", "arrive", "(I)Z"⟩ ⟨"SeedBench$Atlas", "arrive", "(I)Z"⟩ ∈ gT := gs_2 (List.mem_map.mpr ⟨(⟨"SeedBench$Atlas", "arrive", "(I)Z"⟩, 18), List.mem_of_getElem? (i := 1) rfl, rfl⟩) rfl
theorem kw_41 : Cond.code ({ cls := "SeedBench$Atlas", name := "remember", desc := "()V" } : MethodName) prog_2_method_11_code (3 : Nat) (Option.none : Option FieldType) ∈ gT := gm_3 (List.mem_of_getElem? (i := 146) rfl) rfl
theorem kw_42 : Cond.methodLink "SeedBench$Atlas" (104 : Nat) ({ cls := "SeedBench$Atlas", name := "remember", desc := "()V" } : MethodName) ∈ gT := gm_3 (List.mem_of_getElem? (i := 143) rfl) rfl
theorem kw_43 : Cond.instanceMethod ({ cls := "SeedBench$Atlas", name := "remember", desc := "()V" } : MethodName) ∈ gT := gm_3 (List.mem_of_getElem? (i := 145) rfl) rfl
theorem kw_44 : Cond.selects "SeedBench$Atlas" ⟨"SeedBench$Atlas", "remember", "()V"⟩ ⟨"SeedBench$Atlas", "remember", "()V"⟩ ∈ gT := gs_2 (List.mem_map.mpr ⟨(⟨"SeedBench$Atlas", "remember", "()V"⟩, 18), List.mem_of_getElem? (i := 4) rfl, rfl⟩) rfl
theorem kw_45 : Cond.methodLink "SeedBench$Atlas" (3 : Nat) ({ cls := "java/lang/Object", name := "<init>", desc := "()V" } : MethodName) ∈ gT := gm_1 (List.mem_of_getElem? (i := 158) rfl) rfl
theorem kw_46 : Cond.instanceMethod ({ cls := "java/lang/Object", name := "<init>", desc := "()V" } : MethodName) ∈ gT := gm_1 (List.mem_of_getElem? (i := 23) rfl) rfl
theorem kw_47 : Cond.classLink "SeedBench$Atlas" (9 : Nat) "SeedBench$Share" ∈ gT := gm_1 (List.mem_of_getElem? (i := 159) rfl) rfl
theorem kw_48 : Cond.fieldLink "SeedBench$Atlas" (11 : Nat) "SeedBench$Atlas" "letters" "[LSeedBench$Share;" ∈ gT := gm_1 (List.mem_of_getElem? (i := 163) rfl) rfl
theorem kw_49 : Cond.arrayClass FieldType.int ∈ gT := gm_1 (List.mem_of_getElem? (i := 61) rfl) rfl
theorem kw_50 : Cond.fieldLink "SeedBench$Atlas" (17 : Nat) "SeedBench$Atlas" "seats" "[I" ∈ gT := gm_1 (List.mem_of_getElem? (i := 165) rfl) rfl
theorem kw_51 : Cond.arrayClass FieldType.boolean ∈ gT := gm_1 (List.mem_of_getElem? (i := 218) rfl) rfl
theorem kw_52 : Cond.fieldLink "SeedBench$Atlas" (21 : Nat) "SeedBench$Atlas" "explored" "[Z" ∈ gT := gm_1 (List.mem_of_getElem? (i := 166) rfl) rfl
theorem kw_53 : Cond.fieldLink "SeedBench$Atlas" (25 : Nat) "SeedBench$Atlas" "tablesOf" "[I" ∈ gT := gm_1 (List.mem_of_getElem? (i := 167) rfl) rfl
theorem kw_54 : Cond.arrayClass FieldType.long ∈ gT := gm_1 (List.mem_of_getElem? (i := 62) rfl) rfl
theorem kw_55 : Cond.fieldLink "SeedBench$Atlas" (28 : Nat) "SeedBench$Atlas" "lowLetters" "[J" ∈ gT := gm_1 (List.mem_of_getElem? (i := 168) rfl) rfl
theorem kw_56 : Cond.fieldLink "SeedBench$Atlas" (32 : Nat) "SeedBench$Atlas" "highLetters" "[J" ∈ gT := gm_1 (List.mem_of_getElem? (i := 169) rfl) rfl
theorem kw_57 : Cond.classLink "SeedBench$Atlas" (35 : Nat) "SeedBench$Seed" ∈ gT := gm_1 (List.mem_of_getElem? (i := 160) rfl) rfl
theorem kw_58 : Cond.instantiable "SeedBench$Seed" (6 : Nat) ∈ gT := gm_1 (List.mem_of_getElem? (i := 26) rfl) rfl
theorem kw_59 : Cond.initialized "SeedBench$Seed" ∈ gT := gm_1 (List.mem_of_getElem? (i := 2) rfl) rfl
theorem kw_60 : Cond.code ({ cls := "SeedBench$Seed", name := "<init>", desc := "()V" } : MethodName) prog_9_method_1_code (2 : Nat) (Option.none : Option FieldType) ∈ gT := gm_1 (List.mem_of_getElem? (i := 29) rfl) rfl
theorem kw_61 : Cond.methodLink "SeedBench$Atlas" (37 : Nat) ({ cls := "SeedBench$Seed", name := "<init>", desc := "()V" } : MethodName) ∈ gT := gm_1 (List.mem_of_getElem? (i := 161) rfl) rfl
theorem kw_62 : Cond.instanceMethod ({ cls := "SeedBench$Seed", name := "<init>", desc := "()V" } : MethodName) ∈ gT := gm_1 (List.mem_of_getElem? (i := 28) rfl) rfl
theorem kw_63 : Cond.fieldLink "SeedBench$Atlas" (38 : Nat) "SeedBench$Atlas" "at" "LSeedBench$Seed;" ∈ gT := gm_1 (List.mem_of_getElem? (i := 171) rfl) rfl
theorem kw_64 : Cond.fieldLink "SeedBench$Atlas" (42 : Nat) "SeedBench$Atlas" "seatsAt" "[I" ∈ gT := gm_1 (List.mem_of_getElem? (i := 172) rfl) rfl
theorem kw_65 : Cond.fieldLink "SeedBench$Atlas" (45 : Nat) "SeedBench$Atlas" "to" "[I" ∈ gT := gm_1 (List.mem_of_getElem? (i := 175) rfl) rfl
theorem kw_66 : Cond.fieldLink "SeedBench$Atlas" (48 : Nat) "SeedBench$Atlas" "toldLetters" "I" ∈ gT := gm_1 (List.mem_of_getElem? (i := 176) rfl) rfl
theorem kw_67 : Cond.fieldLink "SeedBench$Atlas" (52 : Nat) "SeedBench$Atlas" "toldTerms" "[I" ∈ gT := gm_1 (List.mem_of_getElem? (i := 178) rfl) rfl
theorem kw_68 : Cond.fieldLink "SeedBench$Atlas" (55 : Nat) "SeedBench$Atlas" "toldSums" "[J" ∈ gT := gm_1 (List.mem_of_getElem? (i := 179) rfl) rfl
theorem kw_69 : Cond.fieldLink "SeedBench$Atlas" (58 : Nat) "SeedBench$Atlas" "toldLeast" "[I" ∈ gT := gm_1 (List.mem_of_getElem? (i := 180) rfl) rfl
theorem kw_70 : Cond.instantiable "SeedBench$Share" (4 : Nat) ∈ gT := gm_1 (List.mem_of_getElem? (i := 33) rfl) rfl
theorem kw_71 : Cond.initialized "SeedBench$Share" ∈ gT := gm_1 (List.mem_of_getElem? (i := 3) rfl) rfl
theorem kw_72 : Cond.code ({ cls := "SeedBench$Share", name := "<init>", desc := "()V" } : MethodName) prog_10_method_1_code (1 : Nat) (Option.none : Option FieldType) ∈ gT := gm_1 (List.mem_of_getElem? (i := 36) rfl) rfl
theorem kw_73 : Cond.instanceMethod ({ cls := "SeedBench$Share", name := "<init>", desc := "()V" } : MethodName) ∈ gT := gm_1 (List.mem_of_getElem? (i := 35) rfl) rfl
theorem kw_74 : Cond.code ({ cls := "SeedBench$Share", name := "isLike", desc := "(LSeedBench$Share;)Z" } : MethodName) prog_10_method_8_code (3 : Nat) (Option.some FieldType.boolean) ∈ gT := gm_3 (List.mem_of_getElem? (i := 92) rfl) rfl
theorem kw_75 : Cond.methodLink "SeedBench$Atlas" (124 : Nat) ({ cls := "SeedBench$Share", name := "isLike", desc := "(LSeedBench$Share;)Z" } : MethodName) ∈ gT := gm_3 (List.mem_of_getElem? (i := 114) rfl) rfl
theorem kw_76 : Cond.instanceMethod ({ cls := "SeedBench$Share", name := "isLike", desc := "(LSeedBench$Share;)Z" } : MethodName) ∈ gT := gm_3 (List.mem_of_getElem? (i := 90) rfl) rfl
theorem kw_77 : Cond.selects "SeedBench$Share" ({ cls := "SeedBench$Share", name := "isLike", desc := "(LSeedBench$Share;)Z" } : MethodName) ({ cls := "SeedBench$Share", name := "isLike", desc := "(LSeedBench$Share;)Z" } : MethodName) ∈ gT := gm_3 (List.mem_of_getElem? (i := 91) rfl) rfl
theorem kw_78 : Cond.code ({ cls := "SeedBench$Share", name := "copyFrom", desc := "(LSeedBench$Share;)V" } : MethodName) prog_10_method_4_code (2 : Nat) (Option.none : Option FieldType) ∈ gT := gm_3 (List.mem_of_getElem? (i := 76) rfl) rfl
theorem kw_79 : Cond.methodLink "SeedBench$Atlas" (128 : Nat) ({ cls := "SeedBench$Share", name := "copyFrom", desc := "(LSeedBench$Share;)V" } : MethodName) ∈ gT := gm_3 (List.mem_of_getElem? (i := 115) rfl) rfl
theorem kw_80 : Cond.instanceMethod ({ cls := "SeedBench$Share", name := "copyFrom", desc := "(LSeedBench$Share;)V" } : MethodName) ∈ gT := gm_3 (List.mem_of_getElem? (i := 74) rfl) rfl
theorem kw_81 : Cond.selects "SeedBench$Share" ({ cls := "SeedBench$Share", name := "copyFrom", desc := "(LSeedBench$Share;)V" } : MethodName) ({ cls := "SeedBench$Share", name := "copyFrom", desc := "(LSeedBench$Share;)V" } : MethodName) ∈ gT := gm_3 (List.mem_of_getElem? (i := 75) rfl) rfl
theorem kw_82 : Cond.code ({ cls := "SeedBench$Share", name := "sum", desc := "()J" } : MethodName) prog_10_method_10_code (4 : Nat) (Option.some FieldType.long) ∈ gT := gm_3 (List.mem_of_getElem? (i := 64) rfl) rfl
theorem kw_83 : Cond.methodLink "SeedBench$Atlas" (156 : Nat) ({ cls := "SeedBench$Share", name := "sum", desc := "()J" } : MethodName) ∈ gT := gm_3 (List.mem_of_getElem? (i := 147) rfl) rfl
theorem kw_84 : Cond.instanceMethod ({ cls := "SeedBench$Share", name := "sum", desc := "()J" } : MethodName) ∈ gT := gm_3 (List.mem_of_getElem? (i := 62) rfl) rfl
theorem kw_85 : Cond.selects "SeedBench$Share" ({ cls := "SeedBench$Share", name := "sum", desc := "()J" } : MethodName) ({ cls := "SeedBench$Share", name := "sum", desc := "()J" } : MethodName) ∈ gT := gm_3 (List.mem_of_getElem? (i := 63) rfl) rfl
theorem kw_86 : Cond.code ({ cls := "SeedBench$Share", name := "leastPower", desc := "(I)I" } : MethodName) prog_10_method_9_code (4 : Nat) (Option.some FieldType.int) ∈ gT := gm_3 (List.mem_of_getElem? (i := 53) rfl) rfl
theorem kw_87 : Cond.methodLink "SeedBench$Atlas" (160 : Nat) ({ cls := "SeedBench$Share", name := "leastPower", desc := "(I)I" } : MethodName) ∈ gT := gm_3 (List.mem_of_getElem? (i := 148) rfl) rfl
theorem kw_88 : Cond.instanceMethod ({ cls := "SeedBench$Share", name := "leastPower", desc := "(I)I" } : MethodName) ∈ gT := gm_3 (List.mem_of_getElem? (i := 51) rfl) rfl
theorem kw_89 : Cond.selects "SeedBench$Share" ({ cls := "SeedBench$Share", name := "leastPower", desc := "(I)I" } : MethodName) ({ cls := "SeedBench$Share", name := "leastPower", desc := "(I)I" } : MethodName) ∈ gT := gm_3 (List.mem_of_getElem? (i := 52) rfl) rfl
theorem kw_90 : Cond.code ({ cls := "SeedBench$Atlas", name := "seatsMap", desc := "(I)V" } : MethodName) prog_2_method_9_code (4 : Nat) (Option.none : Option FieldType) ∈ gT := gm_3 (List.mem_of_getElem? (i := 141) rfl) rfl
theorem kw_91 : Cond.methodLink "SeedBench$Atlas" (143 : Nat) ({ cls := "SeedBench$Atlas", name := "seatsMap", desc := "(I)V" } : MethodName) ∈ gT := gm_3 (List.mem_of_getElem? (i := 138) rfl) rfl
theorem kw_92 : Cond.instanceMethod ({ cls := "SeedBench$Atlas", name := "seatsMap", desc := "(I)V" } : MethodName) ∈ gT := gm_3 (List.mem_of_getElem? (i := 140) rfl) rfl
theorem kw_93 : Cond.selects "SeedBench$Atlas" ⟨"SeedBench$Atlas", "seatsMap", "(I)V"⟩ ⟨"SeedBench$Atlas", "seatsMap", "(I)V"⟩ ∈ gT := gs_2 (List.mem_map.mpr ⟨(⟨"SeedBench$Atlas", "seatsMap", "(I)V"⟩, 18), List.mem_of_getElem? (i := 3) rfl, rfl⟩) rfl
theorem kw_94 : Cond.code ({ cls := "SeedBench$Seed", name := "hasTable", desc := "([II[I)Z" } : MethodName) prog_9_method_7_code (7 : Nat) (Option.some FieldType.boolean) ∈ gT := gm_3 (List.mem_of_getElem? (i := 96) rfl) rfl
theorem kw_95 : Cond.methodLink "SeedBench$Atlas" (146 : Nat) ({ cls := "SeedBench$Seed", name := "hasTable", desc := "([II[I)Z" } : MethodName) ∈ gT := gm_3 (List.mem_of_getElem? (i := 142) rfl) rfl
theorem kw_96 : Cond.instanceMethod ({ cls := "SeedBench$Seed", name := "hasTable", desc := "([II[I)Z" } : MethodName) ∈ gT := gm_3 (List.mem_of_getElem? (i := 94) rfl) rfl
theorem kw_97 : Cond.selects "SeedBench$Seed" ({ cls := "SeedBench$Seed", name := "hasTable", desc := "([II[I)Z" } : MethodName) ({ cls := "SeedBench$Seed", name := "hasTable", desc := "([II[I)Z" } : MethodName) ∈ gT := gm_3 (List.mem_of_getElem? (i := 95) rfl) rfl
theorem kw_98 : Cond.code ({ cls := "java/util/Arrays", name := "fill", desc := "([II)V" } : MethodName) prog_17_method_103_code (4 : Nat) (Option.none : Option FieldType) ∈ gT := gm_2 (List.mem_of_getElem? (i := 149) rfl) rfl
theorem kw_99 : Cond.initialized "java/util/Arrays" ∈ gT := gm_1 (List.mem_of_getElem? (i := 13) rfl) rfl
theorem kw_100 : Cond.methodLink "SeedBench$Book" (32 : Nat) ({ cls := "java/util/Arrays", name := "fill", desc := "([II)V" } : MethodName) ∈ gT := gm_3 (List.mem_of_getElem? (i := 178) rfl) rfl
theorem kw_101 : Cond.static ({ cls := "java/util/Arrays", name := "fill", desc := "([II)V" } : MethodName) ∈ gT := gm_2 (List.mem_of_getElem? (i := 148) rfl) rfl
theorem kw_102 : Cond.code ({ cls := "SeedBench$Book", name := "slotOf", desc := "(JJ)I" } : MethodName) prog_3_method_5_code (10 : Nat) (Option.some FieldType.int) ∈ gT := gm_3 (List.mem_of_getElem? (i := 190) rfl) rfl
theorem kw_103 : Cond.initialized "SeedBench$Book" ∈ gT := gm_1 (List.mem_of_getElem? (i := 7) rfl) rfl
theorem kw_104 : Cond.methodLink "SeedBench$Book" (38 : Nat) ({ cls := "SeedBench$Book", name := "slotOf", desc := "(JJ)I" } : MethodName) ∈ gT := gm_3 (List.mem_of_getElem? (i := 187) rfl) rfl
theorem kw_105 : Cond.instanceMethod ({ cls := "SeedBench$Book", name := "slotOf", desc := "(JJ)I" } : MethodName) ∈ gT := gm_3 (List.mem_of_getElem? (i := 189) rfl) rfl
theorem kw_106 : Cond.selects "SeedBench$Book" ⟨"SeedBench$Book", "slotOf", "(JJ)I"⟩ ⟨"SeedBench$Book", "slotOf", "(JJ)I"⟩ ∈ gT := gs_2 (List.mem_map.mpr ⟨(⟨"SeedBench$Book", "slotOf", "(JJ)I"⟩, 6), List.mem_of_getElem? (i := 7) rfl, rfl⟩) rfl
theorem kw_107 : Cond.methodLink "SeedBench$Book" (3 : Nat) ({ cls := "java/lang/Object", name := "<init>", desc := "()V" } : MethodName) ∈ gT := gm_1 (List.mem_of_getElem? (i := 224) rfl) rfl
theorem kw_108 : Cond.fieldLink "SeedBench$Book" (9 : Nat) "SeedBench$Book" "firsts" "[J" ∈ gT := gm_1 (List.mem_of_getElem? (i := 225) rfl) rfl
theorem kw_109 : Cond.fieldLink "SeedBench$Book" (15 : Nat) "SeedBench$Book" "seconds" "[J" ∈ gT := gm_1 (List.mem_of_getElem? (i := 228) rfl) rfl
theorem kw_110 : Cond.fieldLink "SeedBench$Book" (18 : Nat) "SeedBench$Book" "from" "[I" ∈ gT := gm_1 (List.mem_of_getElem? (i := 230) rfl) rfl
theorem kw_111 : Cond.fieldLink "SeedBench$Book" (22 : Nat) "SeedBench$Book" "note" "[I" ∈ gT := gm_1 (List.mem_of_getElem? (i := 232) rfl) rfl
theorem kw_112 : Cond.fieldLink "SeedBench$Book" (25 : Nat) "SeedBench$Book" "slots" "[I" ∈ gT := gm_1 (List.mem_of_getElem? (i := 235) rfl) rfl
theorem kw_113 : Cond.code ({ cls := "java/lang/Integer", name := "signum", desc := "(I)I" } : MethodName) prog_13_method_56_code (1 : Nat) (Option.some FieldType.int) ∈ gT := gm_2 (List.mem_of_getElem? (i := 167) rfl) rfl
theorem kw_114 : Cond.initialized "java/lang/Integer" ∈ gT := gm_1 (List.mem_of_getElem? (i := 14) rfl) rfl
theorem kw_115 : Cond.methodLink "SeedBench$Draft" (35 : Nat) ({ cls := "java/lang/Integer", name := "signum", desc := "(I)I" } : MethodName) ∈ gT := gm_2 (List.mem_of_getElem? (i := 165) rfl) rfl
theorem kw_116 : Cond.static ({ cls := "java/lang/Integer", name := "signum", desc := "(I)I" } : MethodName) ∈ gT := gm_2 (List.mem_of_getElem? (i := 166) rfl) rfl
theorem kw_117 : Cond.code ({ cls := "SeedBench$Draft", name := "findSizes", desc := "()Z" } : MethodName) prog_4_method_4_code (7 : Nat) (Option.some FieldType.boolean) ∈ gT := gm_2 (List.mem_of_getElem? (i := 171) rfl) rfl
theorem kw_118 : Cond.initialized "SeedBench$Draft" ∈ gT := gm_1 (List.mem_of_getElem? (i := 4) rfl) rfl
theorem kw_119 : Cond.methodLink "SeedBench$Draft" (41 : Nat) ({ cls := "SeedBench$Draft", name := "findSizes", desc := "()Z" } : MethodName) ∈ gT := gm_2 (List.mem_of_getElem? (i := 168) rfl) rfl
theorem kw_120 : Cond.instanceMethod ({ cls := "SeedBench$Draft", name := "findSizes", desc := "()Z" } : MethodName) ∈ gT := gm_2 (List.mem_of_getElem? (i := 170) rfl) rfl
theorem kw_121 : Cond.selects "SeedBench$Draft" ⟨"SeedBench$Draft", "findSizes", "()Z"⟩ ⟨"SeedBench$Draft", "findSizes", "()Z"⟩ ∈ gT := gs_1 (List.mem_map.mpr ⟨(⟨"SeedBench$Draft", "findSizes", "()Z"⟩, 5), List.mem_of_getElem? (i := 0) rfl, rfl⟩) rfl
theorem kw_122 : Cond.code ({ cls := "java/util/Arrays", name := "fill", desc := "([JJ)V" } : MethodName) prog_17_method_101_code (5 : Nat) (Option.none : Option FieldType) ∈ gT := gm_2 (List.mem_of_getElem? (i := 174) rfl) rfl
theorem kw_123 : Cond.methodLink "SeedBench$Draft" (45 : Nat) ({ cls := "java/util/Arrays", name := "fill", desc := "([JJ)V" } : MethodName) ∈ gT := gm_2 (List.mem_of_getElem? (i := 172) rfl) rfl
theorem kw_124 : Cond.static ({ cls := "java/util/Arrays", name := "fill", desc := "([JJ)V" } : MethodName) ∈ gT := gm_2 (List.mem_of_getElem? (i := 173) rfl) rfl
theorem kw_125 : Cond.code ({ cls := "SeedBench$Draft", name := "sizeGroup", desc := "(I)V" } : MethodName) prog_4_method_5_code (6 : Nat) (Option.none : Option FieldType) ∈ gT := gm_2 (List.mem_of_getElem? (i := 178) rfl) rfl
theorem kw_126 : Cond.methodLink "SeedBench$Draft" (48 : Nat) ({ cls := "SeedBench$Draft", name := "sizeGroup", desc := "(I)V" } : MethodName) ∈ gT := gm_2 (List.mem_of_getElem? (i := 175) rfl) rfl
theorem kw_127 : Cond.instanceMethod ({ cls := "SeedBench$Draft", name := "sizeGroup", desc := "(I)V" } : MethodName) ∈ gT := gm_2 (List.mem_of_getElem? (i := 177) rfl) rfl
theorem kw_128 : Cond.selects "SeedBench$Draft" ⟨"SeedBench$Draft", "sizeGroup", "(I)V"⟩ ⟨"SeedBench$Draft", "sizeGroup", "(I)V"⟩ ∈ gT := gs_1 (List.mem_map.mpr ⟨(⟨"SeedBench$Draft", "sizeGroup", "(I)V"⟩, 5), List.mem_of_getElem? (i := 1) rfl, rfl⟩) rfl
theorem kw_129 : Cond.methodLink "SeedBench$Draft" (3 : Nat) ({ cls := "java/lang/Object", name := "<init>", desc := "()V" } : MethodName) ∈ gT := gm_1 (List.mem_of_getElem? (i := 100) rfl) rfl
theorem kw_130 : Cond.fieldLink "SeedBench$Draft" (9 : Nat) "SeedBench$Draft" "table" "[I" ∈ gT := gm_1 (List.mem_of_getElem? (i := 105) rfl) rfl
theorem kw_131 : Cond.fieldLink "SeedBench$Draft" (15 : Nat) "SeedBench$Draft" "sizes" "[J" ∈ gT := gm_1 (List.mem_of_getElem? (i := 107) rfl) rfl
theorem kw_132 : Cond.fieldLink "SeedBench$Draft" (19 : Nat) "SeedBench$Draft" "group" "[I" ∈ gT := gm_1 (List.mem_of_getElem? (i := 109) rfl) rfl
theorem kw_133 : Cond.methodLink "SeedBench$Draft" (29 : Nat) ({ cls := "java/util/Arrays", name := "fill", desc := "([II)V" } : MethodName) ∈ gT := gm_2 (List.mem_of_getElem? (i := 147) rfl) rfl
theorem kw_134 : Cond.methodLink "SeedBench$Draft" (56 : Nat) ({ cls := "java/lang/Math", name := "abs", desc := "(I)I" } : MethodName) ∈ gT := gm_2 (List.mem_of_getElem? (i := 183) rfl) rfl
theorem kw_135 : Cond.static ({ cls := "java/lang/Math", name := "abs", desc := "(I)I" } : MethodName) ∈ gT := gm_2 (List.mem_of_getElem? (i := 184) rfl) rfl
theorem kw_136 : Cond.initialized "java/lang/Math" ∈ gT := gm_1 (List.mem_of_getElem? (i := 15) rfl) rfl
theorem kw_137 : Cond.code ({ cls := "java/lang/Math", name := "abs", desc := "(I)I" } : MethodName) prog_15_method_59_code (1 : Nat) (Option.some FieldType.int) ∈ gT := gm_2 (List.mem_of_getElem? (i := 185) rfl) rfl
theorem kw_138 : Cond.code ({ cls := "SeedBench$Draft", name := "greatestDivisor", desc := "(JJ)J" } : MethodName) prog_4_method_7_code (11 : Nat) (Option.some FieldType.long) ∈ gT := gm_2 (List.mem_of_getElem? (i := 188) rfl) rfl
theorem kw_139 : Cond.methodLink "SeedBench$Draft" (61 : Nat) ({ cls := "SeedBench$Draft", name := "greatestDivisor", desc := "(JJ)J" } : MethodName) ∈ gT := gm_2 (List.mem_of_getElem? (i := 186) rfl) rfl
theorem kw_140 : Cond.static ({ cls := "SeedBench$Draft", name := "greatestDivisor", desc := "(JJ)J" } : MethodName) ∈ gT := gm_2 (List.mem_of_getElem? (i := 187) rfl) rfl
theorem kw_141 : Cond.code ({ cls := "SeedBench$Draft", name := "sizeAlong", desc := "(III)J" } : MethodName) prog_4_method_6_code (11 : Nat) (Option.some FieldType.long) ∈ gT := gm_2 (List.mem_of_getElem? (i := 182) rfl) rfl
theorem kw_142 : Cond.methodLink "SeedBench$Draft" (52 : Nat) ({ cls := "SeedBench$Draft", name := "sizeAlong", desc := "(III)J" } : MethodName) ∈ gT := gm_2 (List.mem_of_getElem? (i := 179) rfl) rfl
theorem kw_143 : Cond.instanceMethod ({ cls := "SeedBench$Draft", name := "sizeAlong", desc := "(III)J" } : MethodName) ∈ gT := gm_2 (List.mem_of_getElem? (i := 181) rfl) rfl
theorem kw_144 : Cond.selects "SeedBench$Draft" ⟨"SeedBench$Draft", "sizeAlong", "(III)J"⟩ ⟨"SeedBench$Draft", "sizeAlong", "(III)J"⟩ ∈ gT := gs_1 (List.mem_map.mpr ⟨(⟨"SeedBench$Draft", "sizeAlong", "(III)J"⟩, 5), List.mem_of_getElem? (i := 2) rfl, rfl⟩) rfl
theorem kw_145 : Cond.code ({ cls := "SeedBench$Ring", name := "otherFence", desc := "(II)I" } : MethodName) prog_8_method_13_code (6 : Nat) (Option.some FieldType.int) ∈ gT := gm_4 (List.mem_of_getElem? (i := 44) rfl) rfl
theorem kw_146 : Cond.initialized "SeedBench$Ring" ∈ gT := gm_1 (List.mem_of_getElem? (i := 10) rfl) rfl
theorem kw_147 : Cond.methodLink "SeedBench$Guide" (74 : Nat) ({ cls := "SeedBench$Ring", name := "otherFence", desc := "(II)I" } : MethodName) ∈ gT := gm_4 (List.mem_of_getElem? (i := 93) rfl) rfl
theorem kw_148 : Cond.instanceMethod ({ cls := "SeedBench$Ring", name := "otherFence", desc := "(II)I" } : MethodName) ∈ gT := gm_4 (List.mem_of_getElem? (i := 42) rfl) rfl
theorem kw_149 : Cond.selects "SeedBench$Ring" ({ cls := "SeedBench$Ring", name := "otherFence", desc := "(II)I" } : MethodName) ({ cls := "SeedBench$Ring", name := "otherFence", desc := "(II)I" } : MethodName) ∈ gT := gm_4 (List.mem_of_getElem? (i := 43) rfl) rfl
theorem kw_150 : Cond.code ({ cls := "SeedBench$Ring", name := "bit", desc := "(II)J" } : MethodName) prog_8_method_2_code (4 : Nat) (Option.some FieldType.long) ∈ gT := gm_4 (List.mem_of_getElem? (i := 14) rfl) rfl
theorem kw_151 : Cond.methodLink "SeedBench$Guide" (77 : Nat) ({ cls := "SeedBench$Ring", name := "bit", desc := "(II)J" } : MethodName) ∈ gT := gm_4 (List.mem_of_getElem? (i := 94) rfl) rfl
theorem kw_152 : Cond.static ({ cls := "SeedBench$Ring", name := "bit", desc := "(II)J" } : MethodName) ∈ gT := gm_4 (List.mem_of_getElem? (i := 13) rfl) rfl
theorem kw_153 : Cond.code ({ cls := "SeedBench$Ring", name := "fenceAt", desc := "(I)I" } : MethodName) prog_8_method_12_code (5 : Nat) (Option.some FieldType.int) ∈ gT := gm_4 (List.mem_of_getElem? (i := 68) rfl) rfl
theorem kw_154 : Cond.methodLink "SeedBench$Guide" (50 : Nat) ({ cls := "SeedBench$Ring", name := "fenceAt", desc := "(I)I" } : MethodName) ∈ gT := gm_4 (List.mem_of_getElem? (i := 88) rfl) rfl
theorem kw_155 : Cond.instanceMethod ({ cls := "SeedBench$Ring", name := "fenceAt", desc := "(I)I" } : MethodName) ∈ gT := gm_4 (List.mem_of_getElem? (i := 66) rfl) rfl
theorem kw_156 : Cond.selects "SeedBench$Ring" ({ cls := "SeedBench$Ring", name := "fenceAt", desc := "(I)I" } : MethodName) ({ cls := "SeedBench$Ring", name := "fenceAt", desc := "(I)I" } : MethodName) ∈ gT := gm_4 (List.mem_of_getElem? (i := 67) rfl) rfl
theorem kw_157 : Cond.code ({ cls := "SeedBench$Guide", name := "flipped", desc := "(I)J" } : MethodName) prog_5_method_4_code (3 : Nat) (Option.some FieldType.long) ∈ gT := gm_4 (List.mem_of_getElem? (i := 92) rfl) rfl
theorem kw_158 : Cond.initialized "SeedBench$Guide" ∈ gT := gm_1 (List.mem_of_getElem? (i := 9) rfl) rfl
theorem kw_159 : Cond.methodLink "SeedBench$Guide" (54 : Nat) ({ cls := "SeedBench$Guide", name := "flipped", desc := "(I)J" } : MethodName) ∈ gT := gm_4 (List.mem_of_getElem? (i := 89) rfl) rfl
theorem kw_160 : Cond.instanceMethod ({ cls := "SeedBench$Guide", name := "flipped", desc := "(I)J" } : MethodName) ∈ gT := gm_4 (List.mem_of_getElem? (i := 91) rfl) rfl
theorem kw_161 : Cond.selects "SeedBench$Guide" ⟨"SeedBench$Guide", "flipped", "(I)J"⟩ ⟨"SeedBench$Guide", "flipped", "(I)J"⟩ ∈ gT := gs_2 (List.mem_map.mpr ⟨(⟨"SeedBench$Guide", "flipped", "(I)J"⟩, 3), List.mem_of_getElem? (i := 13) rfl, rfl⟩) rfl
theorem kw_162 : Cond.code ({ cls := "SeedBench$Book", name := "find", desc := "(JJ)I" } : MethodName) prog_3_method_3_code (5 : Nat) (Option.some FieldType.int) ∈ gT := gm_3 (List.mem_of_getElem? (i := 206) rfl) rfl
theorem kw_163 : Cond.methodLink "SeedBench$Guide" (42 : Nat) ({ cls := "SeedBench$Book", name := "find", desc := "(JJ)I" } : MethodName) ∈ gT := gm_4 (List.mem_of_getElem? (i := 87) rfl) rfl
theorem kw_164 : Cond.instanceMethod ({ cls := "SeedBench$Book", name := "find", desc := "(JJ)I" } : MethodName) ∈ gT := gm_3 (List.mem_of_getElem? (i := 204) rfl) rfl
theorem kw_165 : Cond.selects "SeedBench$Book" ({ cls := "SeedBench$Book", name := "find", desc := "(JJ)I" } : MethodName) ({ cls := "SeedBench$Book", name := "find", desc := "(JJ)I" } : MethodName) ∈ gT := gm_3 (List.mem_of_getElem? (i := 205) rfl) rfl
theorem kw_166 : Cond.methodLink "SeedBench$Guide" (3 : Nat) ({ cls := "java/lang/Object", name := "<init>", desc := "()V" } : MethodName) ∈ gT := gm_2 (List.mem_of_getElem? (i := 47) rfl) rfl
theorem kw_167 : Cond.fieldLink "SeedBench$Guide" (9 : Nat) "SeedBench$Guide" "gone" "[I" ∈ gT := gm_2 (List.mem_of_getElem? (i := 67) rfl) rfl
theorem kw_168 : Cond.classLink "SeedBench$Guide" (15 : Nat) "SeedBench$Ring" ∈ gT := gm_2 (List.mem_of_getElem? (i := 48) rfl) rfl
theorem kw_169 : Cond.instantiable "SeedBench$Ring" (2 : Nat) ∈ gT := gm_2 (List.mem_of_getElem? (i := 49) rfl) rfl
theorem kw_170 : Cond.code ({ cls := "SeedBench$Ring", name := "<init>", desc := "()V" } : MethodName) prog_8_method_1_code (1 : Nat) (Option.none : Option FieldType) ∈ gT := gm_2 (List.mem_of_getElem? (i := 52) rfl) rfl
theorem kw_171 : Cond.instanceMethod ({ cls := "SeedBench$Ring", name := "<init>", desc := "()V" } : MethodName) ∈ gT := gm_2 (List.mem_of_getElem? (i := 51) rfl) rfl
theorem kw_172 : Cond.fieldLink "SeedBench$Guide" (18 : Nat) "SeedBench$Guide" "ring" "LSeedBench$Ring;" ∈ gT := gm_2 (List.mem_of_getElem? (i := 69) rfl) rfl
theorem kw_173 : Cond.methodLink "SeedBench$Guide" (61 : Nat) ({ cls := "java/lang/Math", name := "min", desc := "(II)I" } : MethodName) ∈ gT := gm_4 (List.mem_of_getElem? (i := 99) rfl) rfl
theorem kw_174 : Cond.static ({ cls := "java/lang/Math", name := "min", desc := "(II)I" } : MethodName) ∈ gT := gm_3 (List.mem_of_getElem? (i := 55) rfl) rfl
theorem kw_175 : Cond.code ({ cls := "java/lang/Math", name := "min", desc := "(II)I" } : MethodName) prog_15_method_69_code (2 : Nat) (Option.some FieldType.int) ∈ gT := gm_3 (List.mem_of_getElem? (i := 56) rfl) rfl
theorem kw_176 : Cond.code ({ cls := "SeedBench$Guide", name := "goNearer", desc := "(ILSeedBench$Book;)I" } : MethodName) prog_5_method_5_code (8 : Nat) (Option.some FieldType.int) ∈ gT := gm_4 (List.mem_of_getElem? (i := 103) rfl) rfl
theorem kw_177 : Cond.methodLink "SeedBench$Guide" (67 : Nat) ({ cls := "SeedBench$Guide", name := "goNearer", desc := "(ILSeedBench$Book;)I" } : MethodName) ∈ gT := gm_4 (List.mem_of_getElem? (i := 100) rfl) rfl
theorem kw_178 : Cond.instanceMethod ({ cls := "SeedBench$Guide", name := "goNearer", desc := "(ILSeedBench$Book;)I" } : MethodName) ∈ gT := gm_4 (List.mem_of_getElem? (i := 102) rfl) rfl
theorem kw_179 : Cond.selects "SeedBench$Guide" ⟨"SeedBench$Guide", "goNearer", "(ILSeedBench$Book;)I"⟩ ⟨"SeedBench$Guide", "goNearer", "(ILSeedBench$Book;)I"⟩ ∈ gT := gs_2 (List.mem_map.mpr ⟨(⟨"SeedBench$Guide", "goNearer", "(ILSeedBench$Book;)I"⟩, 3), List.mem_of_getElem? (i := 14) rfl, rfl⟩) rfl
theorem kw_180 : Cond.code ({ cls := "SeedBench$Book", name := "clear", desc := "()V" } : MethodName) prog_3_method_2_code (1 : Nat) (Option.none : Option FieldType) ∈ gT := gm_3 (List.mem_of_getElem? (i := 177) rfl) rfl
theorem kw_181 : Cond.methodLink "SeedBench$Guide" (26 : Nat) ({ cls := "SeedBench$Book", name := "clear", desc := "()V" } : MethodName) ∈ gT := gm_4 (List.mem_of_getElem? (i := 85) rfl) rfl
theorem kw_182 : Cond.instanceMethod ({ cls := "SeedBench$Book", name := "clear", desc := "()V" } : MethodName) ∈ gT := gm_3 (List.mem_of_getElem? (i := 175) rfl) rfl
theorem kw_183 : Cond.selects "SeedBench$Book" ({ cls := "SeedBench$Book", name := "clear", desc := "()V" } : MethodName) ({ cls := "SeedBench$Book", name := "clear", desc := "()V" } : MethodName) ∈ gT := gm_3 (List.mem_of_getElem? (i := 176) rfl) rfl
theorem kw_184 : Cond.code ({ cls := "SeedBench$Book", name := "enter", desc := "(JJII)Z" } : MethodName) prog_3_method_4_code (7 : Nat) (Option.some FieldType.boolean) ∈ gT := gm_3 (List.mem_of_getElem? (i := 186) rfl) rfl
theorem kw_185 : Cond.methodLink "SeedBench$Guide" (35 : Nat) ({ cls := "SeedBench$Book", name := "enter", desc := "(JJII)Z" } : MethodName) ∈ gT := gm_4 (List.mem_of_getElem? (i := 86) rfl) rfl
theorem kw_186 : Cond.instanceMethod ({ cls := "SeedBench$Book", name := "enter", desc := "(JJII)Z" } : MethodName) ∈ gT := gm_3 (List.mem_of_getElem? (i := 184) rfl) rfl
theorem kw_187 : Cond.selects "SeedBench$Book" ({ cls := "SeedBench$Book", name := "enter", desc := "(JJII)Z" } : MethodName) ({ cls := "SeedBench$Book", name := "enter", desc := "(JJII)Z" } : MethodName) ∈ gT := gm_3 (List.mem_of_getElem? (i := 185) rfl) rfl
theorem kw_188 : Cond.methodLink "SeedBench$Kinds" (3 : Nat) ({ cls := "java/lang/Object", name := "<init>", desc := "()V" } : MethodName) ∈ gT := gm_2 (List.mem_of_getElem? (i := 17) rfl) rfl
theorem kw_189 : Cond.fieldLink "SeedBench$Kinds" (9 : Nat) "SeedBench$Kinds" "path" "[I" ∈ gT := gm_2 (List.mem_of_getElem? (i := 22) rfl) rfl
theorem kw_190 : Cond.fieldLink "SeedBench$Kinds" (15 : Nat) "SeedBench$Kinds" "now" "[I" ∈ gT := gm_2 (List.mem_of_getElem? (i := 24) rfl) rfl
theorem kw_191 : Cond.methodLink "SeedBench$Kinds" (18 : Nat) ({ cls := "java/lang/System", name := "arraycopy", desc := "(Ljava/lang/Object;ILjava/lang/Object;II)V" } : MethodName) ∈ gT := gm_3 (List.mem_of_getElem? (i := 169) rfl) rfl
theorem kw_192 : Cond.code ({ cls := "SeedBench$Kinds", name := "isWild", desc := "(I)Z" } : MethodName) prog_6_method_3_code (4 : Nat) (Option.some FieldType.boolean) ∈ gT := gm_3 (List.mem_of_getElem? (i := 173) rfl) rfl
theorem kw_193 : Cond.initialized "SeedBench$Kinds" ∈ gT := gm_1 (List.mem_of_getElem? (i := 8) rfl) rfl
theorem kw_194 : Cond.methodLink "SeedBench$Kinds" (31 : Nat) ({ cls := "SeedBench$Kinds", name := "isWild", desc := "(I)Z" } : MethodName) ∈ gT := gm_3 (List.mem_of_getElem? (i := 170) rfl) rfl
theorem kw_195 : Cond.instanceMethod ({ cls := "SeedBench$Kinds", name := "isWild", desc := "(I)Z" } : MethodName) ∈ gT := gm_3 (List.mem_of_getElem? (i := 172) rfl) rfl
theorem kw_196 : Cond.selects "SeedBench$Kinds" ⟨"SeedBench$Kinds", "isWild", "(I)Z"⟩ ⟨"SeedBench$Kinds", "isWild", "(I)Z"⟩ ∈ gT := gs_2 (List.mem_map.mpr ⟨(⟨"SeedBench$Kinds", "isWild", "(I)Z"⟩, 6), List.mem_of_getElem? (i := 5) rfl, rfl⟩) rfl
theorem kw_197 : Cond.methodLink "SeedBench$Kinds" (35 : Nat) ({ cls := "SeedBench$Book", name := "clear", desc := "()V" } : MethodName) ∈ gT := gm_3 (List.mem_of_getElem? (i := 174) rfl) rfl
theorem kw_198 : Cond.code ({ cls := "SeedBench$Kinds", name := "pack", desc := "(I)V" } : MethodName) prog_6_method_4_code (5 : Nat) (Option.none : Option FieldType) ∈ gT := gm_3 (List.mem_of_getElem? (i := 182) rfl) rfl
theorem kw_199 : Cond.methodLink "SeedBench$Kinds" (40 : Nat) ({ cls := "SeedBench$Kinds", name := "pack", desc := "(I)V" } : MethodName) ∈ gT := gm_3 (List.mem_of_getElem? (i := 179) rfl) rfl
theorem kw_200 : Cond.instanceMethod ({ cls := "SeedBench$Kinds", name := "pack", desc := "(I)V" } : MethodName) ∈ gT := gm_3 (List.mem_of_getElem? (i := 181) rfl) rfl
theorem kw_201 : Cond.selects "SeedBench$Kinds" ⟨"SeedBench$Kinds", "pack", "(I)V"⟩ ⟨"SeedBench$Kinds", "pack", "(I)V"⟩ ∈ gT := gs_2 (List.mem_map.mpr ⟨(⟨"SeedBench$Kinds", "pack", "(I)V"⟩, 6), List.mem_of_getElem? (i := 6) rfl, rfl⟩) rfl
theorem kw_202 : Cond.methodLink "SeedBench$Kinds" (51 : Nat) ({ cls := "SeedBench$Book", name := "enter", desc := "(JJII)Z" } : MethodName) ∈ gT := gm_3 (List.mem_of_getElem? (i := 183) rfl) rfl
theorem kw_203 : Cond.code ({ cls := "SeedBench$Kinds", name := "unpack", desc := "(LSeedBench$Book;II)V" } : MethodName) prog_6_method_5_code (10 : Nat) (Option.none : Option FieldType) ∈ gT := gm_3 (List.mem_of_getElem? (i := 196) rfl) rfl
theorem kw_204 : Cond.methodLink "SeedBench$Kinds" (58 : Nat) ({ cls := "SeedBench$Kinds", name := "unpack", desc := "(LSeedBench$Book;II)V" } : MethodName) ∈ gT := gm_3 (List.mem_of_getElem? (i := 193) rfl) rfl
theorem kw_205 : Cond.instanceMethod ({ cls := "SeedBench$Kinds", name := "unpack", desc := "(LSeedBench$Book;II)V" } : MethodName) ∈ gT := gm_3 (List.mem_of_getElem? (i := 195) rfl) rfl
theorem kw_206 : Cond.selects "SeedBench$Kinds" ⟨"SeedBench$Kinds", "unpack", "(LSeedBench$Book;II)V"⟩ ⟨"SeedBench$Kinds", "unpack", "(LSeedBench$Book;II)V"⟩ ∈ gT := gs_2 (List.mem_map.mpr ⟨(⟨"SeedBench$Kinds", "unpack", "(LSeedBench$Book;II)V"⟩, 6), List.mem_of_getElem? (i := 8) rfl, rfl⟩) rfl
theorem kw_207 : Cond.code ({ cls := "SeedBench$Kinds", name := "tracePath", desc := "(LSeedBench$Book;II)V" } : MethodName) prog_6_method_6_code (6 : Nat) (Option.none : Option FieldType) ∈ gT := gm_3 (List.mem_of_getElem? (i := 202) rfl) rfl
theorem kw_208 : Cond.methodLink "SeedBench$Kinds" (66 : Nat) ({ cls := "SeedBench$Kinds", name := "tracePath", desc := "(LSeedBench$Book;II)V" } : MethodName) ∈ gT := gm_3 (List.mem_of_getElem? (i := 199) rfl) rfl
theorem kw_209 : Cond.instanceMethod ({ cls := "SeedBench$Kinds", name := "tracePath", desc := "(LSeedBench$Book;II)V" } : MethodName) ∈ gT := gm_3 (List.mem_of_getElem? (i := 201) rfl) rfl
theorem kw_210 : Cond.selects "SeedBench$Kinds" ⟨"SeedBench$Kinds", "tracePath", "(LSeedBench$Book;II)V"⟩ ⟨"SeedBench$Kinds", "tracePath", "(LSeedBench$Book;II)V"⟩ ∈ gT := gs_2 (List.mem_map.mpr ⟨(⟨"SeedBench$Kinds", "tracePath", "(LSeedBench$Book;II)V"⟩, 6), List.mem_of_getElem? (i := 9) rfl, rfl⟩) rfl
theorem kw_211 : Cond.methodLink "SeedBench$Kinds" (69 : Nat) ({ cls := "SeedBench$Book", name := "find", desc := "(JJ)I" } : MethodName) ∈ gT := gm_3 (List.mem_of_getElem? (i := 203) rfl) rfl
theorem kw_212 : Cond.methodLink "SeedBench$Mill" (115 : Nat) ({ cls := "java/lang/System", name := "arraycopy", desc := "(Ljava/lang/Object;ILjava/lang/Object;II)V" } : MethodName) ∈ gT := gm_3 (List.mem_of_getElem? (i := 9) rfl) rfl
theorem kw_213 : Cond.code ({ cls := "SeedBench$Share", name := "add", desc := "([IJI)I" } : MethodName) prog_10_method_7_code (7 : Nat) (Option.some FieldType.int) ∈ gT := gm_2 (List.mem_of_getElem? (i := 234) rfl) rfl
theorem kw_214 : Cond.methodLink "SeedBench$Mill" (104 : Nat) ({ cls := "SeedBench$Share", name := "add", desc := "([IJI)I" } : MethodName) ∈ gT := gm_2 (List.mem_of_getElem? (i := 231) rfl) rfl
theorem kw_215 : Cond.instanceMethod ({ cls := "SeedBench$Share", name := "add", desc := "([IJI)I" } : MethodName) ∈ gT := gm_2 (List.mem_of_getElem? (i := 232) rfl) rfl
theorem kw_216 : Cond.selects "SeedBench$Share" ({ cls := "SeedBench$Share", name := "add", desc := "([IJI)I" } : MethodName) ({ cls := "SeedBench$Share", name := "add", desc := "([IJI)I" } : MethodName) ∈ gT := gm_2 (List.mem_of_getElem? (i := 233) rfl) rfl
theorem kw_217 : Cond.methodLink "SeedBench$Mill" (83 : Nat) ({ cls := "java/util/Arrays", name := "fill", desc := "([II)V" } : MethodName) ∈ gT := gm_2 (List.mem_of_getElem? (i := 224) rfl) rfl
theorem kw_218 : Cond.code ({ cls := "SeedBench$Mill", name := "multiplied", desc := "(JJ)J" } : MethodName) prog_7_method_7_code (4 : Nat) (Option.some FieldType.long) ∈ gT := gm_2 (List.mem_of_getElem? (i := 227) rfl) rfl
theorem kw_219 : Cond.methodLink "SeedBench$Mill" (96 : Nat) ({ cls := "SeedBench$Mill", name := "multiplied", desc := "(JJ)J" } : MethodName) ∈ gT := gm_2 (List.mem_of_getElem? (i := 225) rfl) rfl
theorem kw_220 : Cond.static ({ cls := "SeedBench$Mill", name := "multiplied", desc := "(JJ)J" } : MethodName) ∈ gT := gm_2 (List.mem_of_getElem? (i := 226) rfl) rfl
theorem kw_221 : Cond.code ({ cls := "SeedBench$Share", name := "clear", desc := "(I)V" } : MethodName) prog_10_method_2_code (2 : Nat) (Option.none : Option FieldType) ∈ gT := gm_2 (List.mem_of_getElem? (i := 91) rfl) rfl
theorem kw_222 : Cond.methodLink "SeedBench$Mill" (100 : Nat) ({ cls := "SeedBench$Share", name := "clear", desc := "(I)V" } : MethodName) ∈ gT := gm_2 (List.mem_of_getElem? (i := 230) rfl) rfl
theorem kw_223 : Cond.instanceMethod ({ cls := "SeedBench$Share", name := "clear", desc := "(I)V" } : MethodName) ∈ gT := gm_2 (List.mem_of_getElem? (i := 89) rfl) rfl
theorem kw_224 : Cond.selects "SeedBench$Share" ({ cls := "SeedBench$Share", name := "clear", desc := "(I)V" } : MethodName) ({ cls := "SeedBench$Share", name := "clear", desc := "(I)V" } : MethodName) ∈ gT := gm_2 (List.mem_of_getElem? (i := 90) rfl) rfl
theorem kw_225 : Cond.code ({ cls := "SeedBench$Mill", name := "takeAway", desc := "(LSeedBench$Share;ILSeedBench$Share;J)Z" } : MethodName) prog_7_method_10_code (10 : Nat) (Option.some FieldType.boolean) ∈ gT := gm_3 (List.mem_of_getElem? (i := 17) rfl) rfl
theorem kw_226 : Cond.methodLink "SeedBench$Mill" (121 : Nat) ({ cls := "SeedBench$Mill", name := "takeAway", desc := "(LSeedBench$Share;ILSeedBench$Share;J)Z" } : MethodName) ∈ gT := gm_3 (List.mem_of_getElem? (i := 14) rfl) rfl
theorem kw_227 : Cond.instanceMethod ({ cls := "SeedBench$Mill", name := "takeAway", desc := "(LSeedBench$Share;ILSeedBench$Share;J)Z" } : MethodName) ∈ gT := gm_3 (List.mem_of_getElem? (i := 16) rfl) rfl
theorem kw_228 : Cond.selects "SeedBench$Mill" ⟨"SeedBench$Mill", "takeAway", "(LSeedBench$Share;ILSeedBench$Share;J)Z"⟩ ⟨"SeedBench$Mill", "takeAway", "(LSeedBench$Share;ILSeedBench$Share;J)Z"⟩ ∈ gT := gs_1 (List.mem_map.mpr ⟨(⟨"SeedBench$Mill", "takeAway", "(LSeedBench$Share;ILSeedBench$Share;J)Z"⟩, 7), List.mem_of_getElem? (i := 10) rfl, rfl⟩) rfl
theorem kw_229 : Cond.code ({ cls := "SeedBench", name := "isTableTurnable", desc := "([IIII)Z" } : MethodName) prog_1_method_37_code (6 : Nat) (Option.some FieldType.boolean) ∈ gT := gm_2 (List.mem_of_getElem? (i := 211) rfl) rfl
theorem kw_230 : Cond.static ({ cls := "SeedBench", name := "isTableTurnable", desc := "([IIII)Z" } : MethodName) ∈ gT := gm_2 (List.mem_of_getElem? (i := 210) rfl) rfl
theorem kw_231 : Cond.code ({ cls := "SeedBench$Mill", name := "product", desc := "(LSeedBench$Seed;IILSeedBench$Share;LSeedBench$Share;)LSeedBench$Share;" } : MethodName) prog_7_method_4_code (12 : Nat) (Option.some (FieldType.object "SeedBench$Share")) ∈ gT := gm_2 (List.mem_of_getElem? (i := 219) rfl) rfl
theorem kw_232 : Cond.methodLink "SeedBench$Mill" (53 : Nat) ({ cls := "SeedBench$Mill", name := "product", desc := "(LSeedBench$Seed;IILSeedBench$Share;LSeedBench$Share;)LSeedBench$Share;" } : MethodName) ∈ gT := gm_2 (List.mem_of_getElem? (i := 216) rfl) rfl
theorem kw_233 : Cond.instanceMethod ({ cls := "SeedBench$Mill", name := "product", desc := "(LSeedBench$Seed;IILSeedBench$Share;LSeedBench$Share;)LSeedBench$Share;" } : MethodName) ∈ gT := gm_2 (List.mem_of_getElem? (i := 218) rfl) rfl
theorem kw_234 : Cond.selects "SeedBench$Mill" ⟨"SeedBench$Mill", "product", "(LSeedBench$Seed;IILSeedBench$Share;LSeedBench$Share;)LSeedBench$Share;"⟩ ⟨"SeedBench$Mill", "product", "(LSeedBench$Seed;IILSeedBench$Share;LSeedBench$Share;)LSeedBench$Share;"⟩ ∈ gT := gs_1 (List.mem_map.mpr ⟨(⟨"SeedBench$Mill", "product", "(LSeedBench$Seed;IILSeedBench$Share;LSeedBench$Share;)LSeedBench$Share;"⟩, 7), List.mem_of_getElem? (i := 5) rfl, rfl⟩) rfl
theorem kw_235 : Cond.code ({ cls := "SeedBench$Mill", name := "addAll", desc := "(LSeedBench$Share;LSeedBench$Share;)Z" } : MethodName) prog_7_method_8_code (5 : Nat) (Option.some FieldType.boolean) ∈ gT := gm_3 (List.mem_of_getElem? (i := 8) rfl) rfl
theorem kw_236 : Cond.methodLink "SeedBench$Mill" (57 : Nat) ({ cls := "SeedBench$Mill", name := "addAll", desc := "(LSeedBench$Share;LSeedBench$Share;)Z" } : MethodName) ∈ gT := gm_3 (List.mem_of_getElem? (i := 5) rfl) rfl
theorem kw_237 : Cond.instanceMethod ({ cls := "SeedBench$Mill", name := "addAll", desc := "(LSeedBench$Share;LSeedBench$Share;)Z" } : MethodName) ∈ gT := gm_3 (List.mem_of_getElem? (i := 7) rfl) rfl
theorem kw_238 : Cond.selects "SeedBench$Mill" ⟨"SeedBench$Mill", "addAll", "(LSeedBench$Share;LSeedBench$Share;)Z"⟩ ⟨"SeedBench$Mill", "addAll", "(LSeedBench$Share;LSeedBench$Share;)Z"⟩ ∈ gT := gs_1 (List.mem_map.mpr ⟨(⟨"SeedBench$Mill", "addAll", "(LSeedBench$Share;LSeedBench$Share;)Z"⟩, 7), List.mem_of_getElem? (i := 8) rfl, rfl⟩) rfl
theorem kw_239 : Cond.code ({ cls := "SeedBench$Mill", name := "divide", desc := "(LSeedBench$Share;LSeedBench$Share;)Z" } : MethodName) prog_7_method_9_code (7 : Nat) (Option.some FieldType.boolean) ∈ gT := gm_3 (List.mem_of_getElem? (i := 13) rfl) rfl
theorem kw_240 : Cond.methodLink "SeedBench$Mill" (65 : Nat) ({ cls := "SeedBench$Mill", name := "divide", desc := "(LSeedBench$Share;LSeedBench$Share;)Z" } : MethodName) ∈ gT := gm_3 (List.mem_of_getElem? (i := 10) rfl) rfl
theorem kw_241 : Cond.instanceMethod ({ cls := "SeedBench$Mill", name := "divide", desc := "(LSeedBench$Share;LSeedBench$Share;)Z" } : MethodName) ∈ gT := gm_3 (List.mem_of_getElem? (i := 12) rfl) rfl
theorem kw_242 : Cond.selects "SeedBench$Mill" ⟨"SeedBench$Mill", "divide", "(LSeedBench$Share;LSeedBench$Share;)Z"⟩ ⟨"SeedBench$Mill", "divide", "(LSeedBench$Share;LSeedBench$Share;)Z"⟩ ∈ gT := gs_1 (List.mem_map.mpr ⟨(⟨"SeedBench$Mill", "divide", "(LSeedBench$Share;LSeedBench$Share;)Z"⟩, 7), List.mem_of_getElem? (i := 9) rfl, rfl⟩) rfl
theorem kw_243 : Cond.methodLink "SeedBench$Mill" (3 : Nat) ({ cls := "java/lang/Object", name := "<init>", desc := "()V" } : MethodName) ∈ gT := gm_1 (List.mem_of_getElem? (i := 126) rfl) rfl
theorem kw_244 : Cond.classLink "SeedBench$Mill" (9 : Nat) "SeedBench$Share" ∈ gT := gm_1 (List.mem_of_getElem? (i := 127) rfl) rfl
theorem kw_245 : Cond.fieldLink "SeedBench$Mill" (12 : Nat) "SeedBench$Mill" "fresh" "LSeedBench$Share;" ∈ gT := gm_1 (List.mem_of_getElem? (i := 129) rfl) rfl
theorem kw_246 : Cond.fieldLink "SeedBench$Mill" (18 : Nat) "SeedBench$Mill" "one" "LSeedBench$Share;" ∈ gT := gm_1 (List.mem_of_getElem? (i := 131) rfl) rfl
theorem kw_247 : Cond.fieldLink "SeedBench$Mill" (21 : Nat) "SeedBench$Mill" "oneMore" "LSeedBench$Share;" ∈ gT := gm_1 (List.mem_of_getElem? (i := 132) rfl) rfl
theorem kw_248 : Cond.fieldLink "SeedBench$Mill" (24 : Nat) "SeedBench$Mill" "two" "LSeedBench$Share;" ∈ gT := gm_1 (List.mem_of_getElem? (i := 133) rfl) rfl
theorem kw_249 : Cond.fieldLink "SeedBench$Mill" (27 : Nat) "SeedBench$Mill" "twoMore" "LSeedBench$Share;" ∈ gT := gm_1 (List.mem_of_getElem? (i := 134) rfl) rfl
theorem kw_250 : Cond.fieldLink "SeedBench$Mill" (30 : Nat) "SeedBench$Mill" "key" "[I" ∈ gT := gm_1 (List.mem_of_getElem? (i := 135) rfl) rfl
theorem kw_251 : Cond.fieldLink "SeedBench$Mill" (34 : Nat) "SeedBench$Mill" "gap" "[I" ∈ gT := gm_1 (List.mem_of_getElem? (i := 136) rfl) rfl
theorem kw_252 : Cond.code ({ cls := "SeedBench$Mill", name := "beginProduct", desc := "(LSeedBench$Seed;IILSeedBench$Share;)Z" } : MethodName) prog_7_method_5_code (12 : Nat) (Option.some FieldType.boolean) ∈ gT := gm_2 (List.mem_of_getElem? (i := 223) rfl) rfl
theorem kw_253 : Cond.methodLink "SeedBench$Mill" (72 : Nat) ({ cls := "SeedBench$Mill", name := "beginProduct", desc := "(LSeedBench$Seed;IILSeedBench$Share;)Z" } : MethodName) ∈ gT := gm_2 (List.mem_of_getElem? (i := 220) rfl) rfl
theorem kw_254 : Cond.instanceMethod ({ cls := "SeedBench$Mill", name := "beginProduct", desc := "(LSeedBench$Seed;IILSeedBench$Share;)Z" } : MethodName) ∈ gT := gm_2 (List.mem_of_getElem? (i := 222) rfl) rfl
theorem kw_255 : Cond.selects "SeedBench$Mill" ⟨"SeedBench$Mill", "beginProduct", "(LSeedBench$Seed;IILSeedBench$Share;)Z"⟩ ⟨"SeedBench$Mill", "beginProduct", "(LSeedBench$Seed;IILSeedBench$Share;)Z"⟩ ∈ gT := gs_1 (List.mem_map.mpr ⟨(⟨"SeedBench$Mill", "beginProduct", "(LSeedBench$Seed;IILSeedBench$Share;)Z"⟩, 7), List.mem_of_getElem? (i := 6) rfl, rfl⟩) rfl
theorem kw_256 : Cond.code ({ cls := "SeedBench$Mill", name := "multiply", desc := "(LSeedBench$Share;LSeedBench$Share;LSeedBench$Share;)Z" } : MethodName) prog_7_method_6_code (11 : Nat) (Option.some FieldType.boolean) ∈ gT := gm_3 (List.mem_of_getElem? (i := 4) rfl) rfl
theorem kw_257 : Cond.methodLink "SeedBench$Mill" (79 : Nat) ({ cls := "SeedBench$Mill", name := "multiply", desc := "(LSeedBench$Share;LSeedBench$Share;LSeedBench$Share;)Z" } : MethodName) ∈ gT := gm_3 (List.mem_of_getElem? (i := 1) rfl) rfl
theorem kw_258 : Cond.instanceMethod ({ cls := "SeedBench$Mill", name := "multiply", desc := "(LSeedBench$Share;LSeedBench$Share;LSeedBench$Share;)Z" } : MethodName) ∈ gT := gm_3 (List.mem_of_getElem? (i := 3) rfl) rfl
theorem kw_259 : Cond.selects "SeedBench$Mill" ⟨"SeedBench$Mill", "multiply", "(LSeedBench$Share;LSeedBench$Share;LSeedBench$Share;)Z"⟩ ⟨"SeedBench$Mill", "multiply", "(LSeedBench$Share;LSeedBench$Share;LSeedBench$Share;)Z"⟩ ∈ gT := gs_1 (List.mem_map.mpr ⟨(⟨"SeedBench$Mill", "multiply", "(LSeedBench$Share;LSeedBench$Share;LSeedBench$Share;)Z"⟩, 7), List.mem_of_getElem? (i := 7) rfl, rfl⟩) rfl
theorem kw_260 : Cond.code ({ cls := "SeedBench$Share", name := "find", desc := "([II)I" } : MethodName) prog_10_method_6_code (9 : Nat) (Option.some FieldType.int) ∈ gT := gm_2 (List.mem_of_getElem? (i := 238) rfl) rfl
theorem kw_261 : Cond.methodLink "SeedBench$Mill" (125 : Nat) ({ cls := "SeedBench$Share", name := "find", desc := "([II)I" } : MethodName) ∈ gT := gm_3 (List.mem_of_getElem? (i := 18) rfl) rfl
theorem kw_262 : Cond.instanceMethod ({ cls := "SeedBench$Share", name := "find", desc := "([II)I" } : MethodName) ∈ gT := gm_2 (List.mem_of_getElem? (i := 236) rfl) rfl
theorem kw_263 : Cond.selects "SeedBench$Share" ({ cls := "SeedBench$Share", name := "find", desc := "([II)I" } : MethodName) ({ cls := "SeedBench$Share", name := "find", desc := "([II)I" } : MethodName) ∈ gT := gm_2 (List.mem_of_getElem? (i := 237) rfl) rfl
theorem kw_264 : Cond.code ({ cls := "SeedBench$Ring", name := "areNeighbours", desc := "(II)Z" } : MethodName) prog_8_method_4_code (4 : Nat) (Option.some FieldType.boolean) ∈ gT := gm_4 (List.mem_of_getElem? (i := 6) rfl) rfl
theorem kw_265 : Cond.methodLink "SeedBench$Ring" (29 : Nat) ({ cls := "SeedBench$Ring", name := "areNeighbours", desc := "(II)Z" } : MethodName) ∈ gT := gm_4 (List.mem_of_getElem? (i := 49) rfl) rfl
theorem kw_266 : Cond.instanceMethod ({ cls := "SeedBench$Ring", name := "areNeighbours", desc := "(II)Z" } : MethodName) ∈ gT := gm_4 (List.mem_of_getElem? (i := 4) rfl) rfl
theorem kw_267 : Cond.selects "SeedBench$Ring" ({ cls := "SeedBench$Ring", name := "areNeighbours", desc := "(II)Z" } : MethodName) ({ cls := "SeedBench$Ring", name := "areNeighbours", desc := "(II)Z" } : MethodName) ∈ gT := gm_4 (List.mem_of_getElem? (i := 5) rfl) rfl
theorem kw_268 : Cond.code ({ cls := "SeedBench$Ring", name := "has", desc := "(II)Z" } : MethodName) prog_8_method_5_code (3 : Nat) (Option.some FieldType.boolean) ∈ gT := gm_4 (List.mem_of_getElem? (i := 11) rfl) rfl
theorem kw_269 : Cond.methodLink "SeedBench$Ring" (33 : Nat) ({ cls := "SeedBench$Ring", name := "has", desc := "(II)Z" } : MethodName) ∈ gT := gm_4 (List.mem_of_getElem? (i := 20) rfl) rfl
theorem kw_270 : Cond.instanceMethod ({ cls := "SeedBench$Ring", name := "has", desc := "(II)Z" } : MethodName) ∈ gT := gm_4 (List.mem_of_getElem? (i := 9) rfl) rfl
theorem kw_271 : Cond.selects "SeedBench$Ring" ({ cls := "SeedBench$Ring", name := "has", desc := "(II)Z" } : MethodName) ({ cls := "SeedBench$Ring", name := "has", desc := "(II)Z" } : MethodName) ∈ gT := gm_4 (List.mem_of_getElem? (i := 10) rfl) rfl
theorem kw_272 : Cond.methodLink "SeedBench$Ring" (15 : Nat) ({ cls := "java/lang/Math", name := "abs", desc := "(I)I" } : MethodName) ∈ gT := gm_4 (List.mem_of_getElem? (i := 7) rfl) rfl
theorem kw_273 : Cond.code ({ cls := "java/lang/Long", name := "bitCount", desc := "(J)I" } : MethodName) prog_14_method_50_code (2 : Nat) (Option.some FieldType.int) ∈ gT := gm_4 (List.mem_of_getElem? (i := 28) rfl) rfl
theorem kw_274 : Cond.initialized "java/lang/Long" ∈ gT := gm_1 (List.mem_of_getElem? (i := 16) rfl) rfl
theorem kw_275 : Cond.methodLink "SeedBench$Ring" (36 : Nat) ({ cls := "java/lang/Long", name := "bitCount", desc := "(J)I" } : MethodName) ∈ gT := gm_4 (List.mem_of_getElem? (i := 26) rfl) rfl
theorem kw_276 : Cond.static ({ cls := "java/lang/Long", name := "bitCount", desc := "(J)I" } : MethodName) ∈ gT := gm_4 (List.mem_of_getElem? (i := 27) rfl) rfl
theorem kw_277 : Cond.code ({ cls := "SeedBench$Ring", name := "thirds", desc := "(I)I" } : MethodName) prog_8_method_10_code (4 : Nat) (Option.some FieldType.int) ∈ gT := gm_4 (List.mem_of_getElem? (i := 64) rfl) rfl
theorem kw_278 : Cond.methodLink "SeedBench$Ring" (50 : Nat) ({ cls := "SeedBench$Ring", name := "thirds", desc := "(I)I" } : MethodName) ∈ gT := gm_4 (List.mem_of_getElem? (i := 61) rfl) rfl
theorem kw_279 : Cond.instanceMethod ({ cls := "SeedBench$Ring", name := "thirds", desc := "(I)I" } : MethodName) ∈ gT := gm_4 (List.mem_of_getElem? (i := 63) rfl) rfl
theorem kw_280 : Cond.selects "SeedBench$Ring" ⟨"SeedBench$Ring", "thirds", "(I)I"⟩ ⟨"SeedBench$Ring", "thirds", "(I)I"⟩ ∈ gT := gs_2 (List.mem_map.mpr ⟨(⟨"SeedBench$Ring", "thirds", "(I)I"⟩, 2), List.mem_of_getElem? (i := 12) rfl, rfl⟩) rfl
theorem kw_281 : Cond.methodLink "SeedBench$Ring" (25 : Nat) ({ cls := "SeedBench$Ring", name := "bit", desc := "(II)J" } : MethodName) ∈ gT := gm_4 (List.mem_of_getElem? (i := 12) rfl) rfl
theorem kw_282 : Cond.methodLink "SeedBench$Ring" (3 : Nat) ({ cls := "java/lang/Object", name := "<init>", desc := "()V" } : MethodName) ∈ gT := gm_2 (List.mem_of_getElem? (i := 53) rfl) rfl
theorem kw_283 : Cond.fieldLink "SeedBench$Ring" (9 : Nat) "SeedBench$Ring" "corners" "I" ∈ gT := gm_2 (List.mem_of_getElem? (i := 54) rfl) rfl
theorem kw_284 : Cond.code ({ cls := "SeedBench$Ring", name := "fenceCount", desc := "()I" } : MethodName) prog_8_method_8_code (1 : Nat) (Option.some FieldType.int) ∈ gT := gm_4 (List.mem_of_getElem? (i := 25) rfl) rfl
theorem kw_285 : Cond.methodLink "SeedBench$Ring" (42 : Nat) ({ cls := "SeedBench$Ring", name := "fenceCount", desc := "()I" } : MethodName) ∈ gT := gm_4 (List.mem_of_getElem? (i := 40) rfl) rfl
theorem kw_286 : Cond.instanceMethod ({ cls := "SeedBench$Ring", name := "fenceCount", desc := "()I" } : MethodName) ∈ gT := gm_4 (List.mem_of_getElem? (i := 23) rfl) rfl
theorem kw_287 : Cond.selects "SeedBench$Ring" ({ cls := "SeedBench$Ring", name := "fenceCount", desc := "()I" } : MethodName) ({ cls := "SeedBench$Ring", name := "fenceCount", desc := "()I" } : MethodName) ∈ gT := gm_4 (List.mem_of_getElem? (i := 24) rfl) rfl
theorem kw_288 : Cond.code ({ cls := "SeedBench$Ring", name := "areLinked", desc := "(II)Z" } : MethodName) prog_8_method_6_code (3 : Nat) (Option.some FieldType.boolean) ∈ gT := gm_4 (List.mem_of_getElem? (i := 48) rfl) rfl
theorem kw_289 : Cond.methodLink "SeedBench$Ring" (56 : Nat) ({ cls := "SeedBench$Ring", name := "areLinked", desc := "(II)Z" } : MethodName) ∈ gT := gm_4 (List.mem_of_getElem? (i := 45) rfl) rfl
theorem kw_290 : Cond.instanceMethod ({ cls := "SeedBench$Ring", name := "areLinked", desc := "(II)Z" } : MethodName) ∈ gT := gm_4 (List.mem_of_getElem? (i := 47) rfl) rfl
theorem kw_291 : Cond.selects "SeedBench$Ring" ⟨"SeedBench$Ring", "areLinked", "(II)Z"⟩ ⟨"SeedBench$Ring", "areLinked", "(II)Z"⟩ ∈ gT := gs_2 (List.mem_map.mpr ⟨(⟨"SeedBench$Ring", "areLinked", "(II)Z"⟩, 2), List.mem_of_getElem? (i := 11) rfl, rfl⟩) rfl
theorem kw_292 : Cond.methodLink "SeedBench$Ring" (59 : Nat) ({ cls := "java/lang/Math", name := "min", desc := "(II)I" } : MethodName) ∈ gT := gm_4 (List.mem_of_getElem? (i := 50) rfl) rfl
theorem kw_293 : Cond.methodLink "SeedBench$Ring" (63 : Nat) ({ cls := "java/lang/Math", name := "max", desc := "(II)I" } : MethodName) ∈ gT := gm_4 (List.mem_of_getElem? (i := 51) rfl) rfl
theorem kw_294 : Cond.static ({ cls := "java/lang/Math", name := "max", desc := "(II)I" } : MethodName) ∈ gT := gm_3 (List.mem_of_getElem? (i := 150) rfl) rfl
theorem kw_295 : Cond.code ({ cls := "java/lang/Math", name := "max", desc := "(II)I" } : MethodName) prog_15_method_65_code (2 : Nat) (Option.some FieldType.int) ∈ gT := gm_3 (List.mem_of_getElem? (i := 151) rfl) rfl
theorem kw_296 : Cond.code ({ cls := "SeedBench$Ring", name := "isCut", desc := "()Z" } : MethodName) prog_8_method_9_code (1 : Nat) (Option.some FieldType.boolean) ∈ gT := gm_4 (List.mem_of_getElem? (i := 39) rfl) rfl
theorem kw_297 : Cond.methodLink "SeedBench$Ring" (46 : Nat) ({ cls := "SeedBench$Ring", name := "isCut", desc := "()Z" } : MethodName) ∈ gT := gm_4 (List.mem_of_getElem? (i := 60) rfl) rfl
theorem kw_298 : Cond.instanceMethod ({ cls := "SeedBench$Ring", name := "isCut", desc := "()Z" } : MethodName) ∈ gT := gm_4 (List.mem_of_getElem? (i := 37) rfl) rfl
theorem kw_299 : Cond.selects "SeedBench$Ring" ({ cls := "SeedBench$Ring", name := "isCut", desc := "()Z" } : MethodName) ({ cls := "SeedBench$Ring", name := "isCut", desc := "()Z" } : MethodName) ∈ gT := gm_4 (List.mem_of_getElem? (i := 38) rfl) rfl
theorem kw_300 : Cond.methodLink "SeedBench$Ring" (53 : Nat) ({ cls := "SeedBench$Ring", name := "fenceAt", desc := "(I)I" } : MethodName) ∈ gT := gm_4 (List.mem_of_getElem? (i := 65) rfl) rfl
theorem kw_301 : Cond.code ({ cls := "SeedBench$Ring", name := "placeOf", desc := "(II)I" } : MethodName) prog_8_method_16_code (3 : Nat) (Option.some FieldType.int) ∈ gT := gm_4 (List.mem_of_getElem? (i := 119) rfl) rfl
theorem kw_302 : Cond.methodLink "SeedBench$Ring" (66 : Nat) ({ cls := "SeedBench$Ring", name := "placeOf", desc := "(II)I" } : MethodName) ∈ gT := gm_4 (List.mem_of_getElem? (i := 116) rfl) rfl
theorem kw_303 : Cond.instanceMethod ({ cls := "SeedBench$Ring", name := "placeOf", desc := "(II)I" } : MethodName) ∈ gT := gm_4 (List.mem_of_getElem? (i := 118) rfl) rfl
theorem kw_304 : Cond.selects "SeedBench$Ring" ⟨"SeedBench$Ring", "placeOf", "(II)I"⟩ ⟨"SeedBench$Ring", "placeOf", "(II)I"⟩ ∈ gT := gs_2 (List.mem_map.mpr ⟨(⟨"SeedBench$Ring", "placeOf", "(II)I"⟩, 2), List.mem_of_getElem? (i := 15) rfl, rfl⟩) rfl
theorem kw_305 : Cond.code ({ cls := "SeedBench$Ring", name := "tellArrow", desc := "([III)V" } : MethodName) prog_8_method_17_code (3 : Nat) (Option.none : Option FieldType) ∈ gT := gm_4 (List.mem_of_getElem? (i := 122) rfl) rfl
theorem kw_306 : Cond.methodLink "SeedBench$Ring" (69 : Nat) ({ cls := "SeedBench$Ring", name := "tellArrow", desc := "([III)V" } : MethodName) ∈ gT := gm_4 (List.mem_of_getElem? (i := 120) rfl) rfl
theorem kw_307 : Cond.static ({ cls := "SeedBench$Ring", name := "tellArrow", desc := "([III)V" } : MethodName) ∈ gT := gm_4 (List.mem_of_getElem? (i := 121) rfl) rfl
theorem kw_308 : Cond.methodLink "SeedBench$Seed" (36 : Nat) ({ cls := "java/lang/System", name := "arraycopy", desc := "(Ljava/lang/Object;ILjava/lang/Object;II)V" } : MethodName) ∈ gT := gm_2 (List.mem_of_getElem? (i := 81) rfl) rfl
theorem kw_309 : Cond.methodLink "SeedBench$Seed" (46 : Nat) ({ cls := "SeedBench$Share", name := "copyFrom", desc := "(LSeedBench$Share;)V" } : MethodName) ∈ gT := gm_3 (List.mem_of_getElem? (i := 73) rfl) rfl
theorem kw_310 : Cond.methodLink "SeedBench$Seed" (3 : Nat) ({ cls := "java/lang/Object", name := "<init>", desc := "()V" } : MethodName) ∈ gT := gm_1 (List.mem_of_getElem? (i := 30) rfl) rfl
theorem kw_311 : Cond.fieldLink "SeedBench$Seed" (9 : Nat) "SeedBench$Seed" "table" "[I" ∈ gT := gm_1 (List.mem_of_getElem? (i := 71) rfl) rfl
theorem kw_312 : Cond.fieldLink "SeedBench$Seed" (15 : Nat) "SeedBench$Seed" "sizes" "[J" ∈ gT := gm_1 (List.mem_of_getElem? (i := 75) rfl) rfl
theorem kw_313 : Cond.classLink "SeedBench$Seed" (19 : Nat) "SeedBench$Share" ∈ gT := gm_1 (List.mem_of_getElem? (i := 31) rfl) rfl
theorem kw_314 : Cond.fieldLink "SeedBench$Seed" (21 : Nat) "SeedBench$Seed" "letters" "[LSeedBench$Share;" ∈ gT := gm_1 (List.mem_of_getElem? (i := 77) rfl) rfl
theorem kw_315 : Cond.fieldLink "SeedBench$Seed" (25 : Nat) "SeedBench$Seed" "to" "[I" ∈ gT := gm_1 (List.mem_of_getElem? (i := 81) rfl) rfl
theorem kw_316 : Cond.code ({ cls := "SeedBench$Seed", name := "placeOf", desc := "(LSeedBench$Share;)I" } : MethodName) prog_9_method_6_code (3 : Nat) (Option.some FieldType.int) ∈ gT := gm_3 (List.mem_of_getElem? (i := 88) rfl) rfl
theorem kw_317 : Cond.methodLink "SeedBench$Seed" (53 : Nat) ({ cls := "SeedBench$Seed", name := "placeOf", desc := "(LSeedBench$Share;)I" } : MethodName) ∈ gT := gm_3 (List.mem_of_getElem? (i := 85) rfl) rfl
theorem kw_318 : Cond.instanceMethod ({ cls := "SeedBench$Seed", name := "placeOf", desc := "(LSeedBench$Share;)I" } : MethodName) ∈ gT := gm_3 (List.mem_of_getElem? (i := 87) rfl) rfl
theorem kw_319 : Cond.selects "SeedBench$Seed" ⟨"SeedBench$Seed", "placeOf", "(LSeedBench$Share;)I"⟩ ⟨"SeedBench$Seed", "placeOf", "(LSeedBench$Share;)I"⟩ ∈ gT := gs_1 (List.mem_map.mpr ⟨(⟨"SeedBench$Seed", "placeOf", "(LSeedBench$Share;)I"⟩, 6), List.mem_of_getElem? (i := 11) rfl, rfl⟩) rfl
theorem kw_320 : Cond.methodLink "SeedBench$Seed" (57 : Nat) ({ cls := "SeedBench$Seed", name := "hasTable", desc := "([II[I)Z" } : MethodName) ∈ gT := gm_3 (List.mem_of_getElem? (i := 93) rfl) rfl
theorem kw_321 : Cond.methodLink "SeedBench$Seed" (61 : Nat) ({ cls := "SeedBench$Share", name := "isLike", desc := "(LSeedBench$Share;)Z" } : MethodName) ∈ gT := gm_3 (List.mem_of_getElem? (i := 89) rfl) rfl
theorem kw_322 : Cond.code ({ cls := "SeedBench$Share", name := "becomeVariable", desc := "(II)V" } : MethodName) prog_10_method_3_code (4 : Nat) (Option.none : Option FieldType) ∈ gT := gm_2 (List.mem_of_getElem? (i := 87) rfl) rfl
theorem kw_323 : Cond.methodLink "SeedBench$Seed" (42 : Nat) ({ cls := "SeedBench$Share", name := "becomeVariable", desc := "(II)V" } : MethodName) ∈ gT := gm_2 (List.mem_of_getElem? (i := 84) rfl) rfl
theorem kw_324 : Cond.instanceMethod ({ cls := "SeedBench$Share", name := "becomeVariable", desc := "(II)V" } : MethodName) ∈ gT := gm_2 (List.mem_of_getElem? (i := 85) rfl) rfl
theorem kw_325 : Cond.selects "SeedBench$Share" ({ cls := "SeedBench$Share", name := "becomeVariable", desc := "(II)V" } : MethodName) ({ cls := "SeedBench$Share", name := "becomeVariable", desc := "(II)V" } : MethodName) ∈ gT := gm_2 (List.mem_of_getElem? (i := 86) rfl) rfl
theorem kw_326 : Cond.methodLink "SeedBench$Share" (36 : Nat) ({ cls := "SeedBench$Share", name := "find", desc := "([II)I" } : MethodName) ∈ gT := gm_2 (List.mem_of_getElem? (i := 235) rfl) rfl
theorem kw_327 : Cond.methodLink "SeedBench$Share" (30 : Nat) ({ cls := "java/lang/System", name := "arraycopy", desc := "(Ljava/lang/Object;ILjava/lang/Object;II)V" } : MethodName) ∈ gT := gm_3 (List.mem_of_getElem? (i := 0) rfl) rfl
theorem kw_328 : Cond.methodLink "SeedBench$Share" (26 : Nat) ({ cls := "SeedBench$Share", name := "clear", desc := "(I)V" } : MethodName) ∈ gT := gm_2 (List.mem_of_getElem? (i := 88) rfl) rfl
theorem kw_329 : Cond.methodLink "SeedBench$Share" (3 : Nat) ({ cls := "java/lang/Object", name := "<init>", desc := "()V" } : MethodName) ∈ gT := gm_1 (List.mem_of_getElem? (i := 37) rfl) rfl
theorem kw_330 : Cond.fieldLink "SeedBench$Share" (9 : Nat) "SeedBench$Share" "numbers" "[J" ∈ gT := gm_1 (List.mem_of_getElem? (i := 46) rfl) rfl
theorem kw_331 : Cond.fieldLink "SeedBench$Share" (15 : Nat) "SeedBench$Share" "powers" "[I" ∈ gT := gm_1 (List.mem_of_getElem? (i := 49) rfl) rfl
theorem kw_332 : Cond.methodLink "SeedBench$Share" (42 : Nat) ({ cls := "java/lang/Math", name := "min", desc := "(II)I" } : MethodName) ∈ gT := gm_3 (List.mem_of_getElem? (i := 54) rfl) rfl
theorem kw_333 : Cond.code ({ cls := "SeedBench$Atlas", name := "explore", desc := "(LSeedBench$Seed;LSeedBench$Mill;)I" } : MethodName) prog_2_method_2_code (5 : Nat) (Option.some FieldType.int) ∈ gT := gm_3 (List.mem_of_getElem? (i := 104) rfl) rfl
theorem kw_334 : Cond.methodLink "SeedBench" (168 : Nat) ({ cls := "SeedBench$Atlas", name := "explore", desc := "(LSeedBench$Seed;LSeedBench$Mill;)I" } : MethodName) ∈ gT := gm_3 (List.mem_of_getElem? (i := 101) rfl) rfl
theorem kw_335 : Cond.instanceMethod ({ cls := "SeedBench$Atlas", name := "explore", desc := "(LSeedBench$Seed;LSeedBench$Mill;)I" } : MethodName) ∈ gT := gm_3 (List.mem_of_getElem? (i := 102) rfl) rfl
theorem kw_336 : Cond.selects "SeedBench$Atlas" ({ cls := "SeedBench$Atlas", name := "explore", desc := "(LSeedBench$Seed;LSeedBench$Mill;)I" } : MethodName) ({ cls := "SeedBench$Atlas", name := "explore", desc := "(LSeedBench$Seed;LSeedBench$Mill;)I" } : MethodName) ∈ gT := gm_3 (List.mem_of_getElem? (i := 103) rfl) rfl
theorem kw_337 : Cond.methodLink "SeedBench" (172 : Nat) ({ cls := "java/lang/Math", name := "max", desc := "(II)I" } : MethodName) ∈ gT := gm_3 (List.mem_of_getElem? (i := 149) rfl) rfl
theorem kw_338 : Cond.code ({ cls := "SeedBench", name := "isCell", desc := "(IIII)Z" } : MethodName) prog_1_method_32_code (4 : Nat) (Option.some FieldType.boolean) ∈ gT := gm_2 (List.mem_of_getElem? (i := 156) rfl) rfl
theorem kw_339 : Cond.methodLink "SeedBench" (102 : Nat) ({ cls := "SeedBench", name := "isCell", desc := "(IIII)Z" } : MethodName) ∈ gT := gm_2 (List.mem_of_getElem? (i := 154) rfl) rfl
theorem kw_340 : Cond.static ({ cls := "SeedBench", name := "isCell", desc := "(IIII)Z" } : MethodName) ∈ gT := gm_2 (List.mem_of_getElem? (i := 155) rfl) rfl
theorem kw_341 : Cond.code ({ cls := "SeedBench", name := "isPlace", desc := "(I)Z" } : MethodName) prog_1_method_31_code (2 : Nat) (Option.some FieldType.boolean) ∈ gT := gm_2 (List.mem_of_getElem? (i := 200) rfl) rfl
theorem kw_342 : Cond.methodLink "SeedBench" (113 : Nat) ({ cls := "SeedBench", name := "isPlace", desc := "(I)Z" } : MethodName) ∈ gT := gm_2 (List.mem_of_getElem? (i := 197) rfl) rfl
theorem kw_343 : Cond.instanceMethod ({ cls := "SeedBench", name := "isPlace", desc := "(I)Z" } : MethodName) ∈ gT := gm_2 (List.mem_of_getElem? (i := 199) rfl) rfl
theorem kw_344 : Cond.selects "SeedBench" ⟨"SeedBench", "isPlace", "(I)Z"⟩ ⟨"SeedBench", "isPlace", "(I)Z"⟩ ∈ gT := gs_1 (List.mem_map.mpr ⟨(⟨"SeedBench", "isPlace", "(I)Z"⟩, 15), List.mem_of_getElem? (i := 4) rfl, rfl⟩) rfl
theorem kw_345 : Cond.methodLink "SeedBench" (117 : Nat) ({ cls := "SeedBench$Mill", name := "exchange", desc := "(LSeedBench$Seed;I)Z" } : MethodName) ∈ gT := gm_2 (List.mem_of_getElem? (i := 205) rfl) rfl
theorem kw_346 : Cond.code ({ cls := "SeedBench$Mill", name := "settle", desc := "(LSeedBench$Seed;I)V" } : MethodName) prog_7_method_3_code (4 : Nat) (Option.none : Option FieldType) ∈ gT := gm_3 (List.mem_of_getElem? (i := 22) rfl) rfl
theorem kw_347 : Cond.methodLink "SeedBench" (124 : Nat) ({ cls := "SeedBench$Mill", name := "settle", desc := "(LSeedBench$Seed;I)V" } : MethodName) ∈ gT := gm_3 (List.mem_of_getElem? (i := 19) rfl) rfl
theorem kw_348 : Cond.instanceMethod ({ cls := "SeedBench$Mill", name := "settle", desc := "(LSeedBench$Seed;I)V" } : MethodName) ∈ gT := gm_3 (List.mem_of_getElem? (i := 20) rfl) rfl
theorem kw_349 : Cond.selects "SeedBench$Mill" ({ cls := "SeedBench$Mill", name := "settle", desc := "(LSeedBench$Seed;I)V" } : MethodName) ({ cls := "SeedBench$Mill", name := "settle", desc := "(LSeedBench$Seed;I)V" } : MethodName) ∈ gT := gm_3 (List.mem_of_getElem? (i := 21) rfl) rfl
theorem kw_350 : Cond.code ({ cls := "SeedBench$Draft", name := "fault", desc := "()I" } : MethodName) prog_4_method_3_code (5 : Nat) (Option.some FieldType.int) ∈ gT := gm_2 (List.mem_of_getElem? (i := 164) rfl) rfl
theorem kw_351 : Cond.methodLink "SeedBench" (106 : Nat) ({ cls := "SeedBench$Draft", name := "fault", desc := "()I" } : MethodName) ∈ gT := gm_2 (List.mem_of_getElem? (i := 161) rfl) rfl
theorem kw_352 : Cond.instanceMethod ({ cls := "SeedBench$Draft", name := "fault", desc := "()I" } : MethodName) ∈ gT := gm_2 (List.mem_of_getElem? (i := 162) rfl) rfl
theorem kw_353 : Cond.selects "SeedBench$Draft" ({ cls := "SeedBench$Draft", name := "fault", desc := "()I" } : MethodName) ({ cls := "SeedBench$Draft", name := "fault", desc := "()I" } : MethodName) ∈ gT := gm_2 (List.mem_of_getElem? (i := 163) rfl) rfl
theorem kw_354 : Cond.code ({ cls := "SeedBench", name := "startSeed", desc := "()V" } : MethodName) prog_1_method_34_code (1 : Nat) (Option.none : Option FieldType) ∈ gT := gm_2 (List.mem_of_getElem? (i := 192) rfl) rfl
theorem kw_355 : Cond.methodLink "SeedBench" (110 : Nat) ({ cls := "SeedBench", name := "startSeed", desc := "()V" } : MethodName) ∈ gT := gm_2 (List.mem_of_getElem? (i := 189) rfl) rfl
theorem kw_356 : Cond.instanceMethod ({ cls := "SeedBench", name := "startSeed", desc := "()V" } : MethodName) ∈ gT := gm_2 (List.mem_of_getElem? (i := 191) rfl) rfl
theorem kw_357 : Cond.selects "SeedBench" ⟨"SeedBench", "startSeed", "()V"⟩ ⟨"SeedBench", "startSeed", "()V"⟩ ∈ gT := gs_1 (List.mem_map.mpr ⟨(⟨"SeedBench", "startSeed", "()V"⟩, 15), List.mem_of_getElem? (i := 3) rfl, rfl⟩) rfl
theorem kw_358 : Cond.code ({ cls := "SeedBench$Seed", name := "allTerms", desc := "()I" } : MethodName) prog_9_method_4_code (3 : Nat) (Option.some FieldType.int) ∈ gT := gm_4 (List.mem_of_getElem? (i := 130) rfl) rfl
theorem kw_359 : Cond.methodLink "SeedBench" (272 : Nat) ({ cls := "SeedBench$Seed", name := "allTerms", desc := "()I" } : MethodName) ∈ gT := gm_4 (List.mem_of_getElem? (i := 127) rfl) rfl
theorem kw_360 : Cond.instanceMethod ({ cls := "SeedBench$Seed", name := "allTerms", desc := "()I" } : MethodName) ∈ gT := gm_4 (List.mem_of_getElem? (i := 128) rfl) rfl
theorem kw_361 : Cond.selects "SeedBench$Seed" ({ cls := "SeedBench$Seed", name := "allTerms", desc := "()I" } : MethodName) ({ cls := "SeedBench$Seed", name := "allTerms", desc := "()I" } : MethodName) ∈ gT := gm_4 (List.mem_of_getElem? (i := 129) rfl) rfl
theorem kw_362 : Cond.code ({ cls := "SeedBench", name := "isSlot", desc := "(I)Z" } : MethodName) prog_1_method_33_code (1 : Nat) (Option.some FieldType.boolean) ∈ gT := gm_3 (List.mem_of_getElem? (i := 234) rfl) rfl
theorem kw_363 : Cond.methodLink "SeedBench" (211 : Nat) ({ cls := "SeedBench", name := "isSlot", desc := "(I)Z" } : MethodName) ∈ gT := gm_3 (List.mem_of_getElem? (i := 232) rfl) rfl
theorem kw_364 : Cond.static ({ cls := "SeedBench", name := "isSlot", desc := "(I)Z" } : MethodName) ∈ gT := gm_3 (List.mem_of_getElem? (i := 233) rfl) rfl
theorem kw_365 : Cond.code ({ cls := "SeedBench$Ring", name := "isCorner", desc := "(I)Z" } : MethodName) prog_8_method_3_code (2 : Nat) (Option.some FieldType.boolean) ∈ gT := gm_4 (List.mem_of_getElem? (i := 2) rfl) rfl
theorem kw_366 : Cond.methodLink "SeedBench" (221 : Nat) ({ cls := "SeedBench$Ring", name := "isCorner", desc := "(I)Z" } : MethodName) ∈ gT := gm_3 (List.mem_of_getElem? (i := 239) rfl) rfl
theorem kw_367 : Cond.instanceMethod ({ cls := "SeedBench$Ring", name := "isCorner", desc := "(I)Z" } : MethodName) ∈ gT := gm_4 (List.mem_of_getElem? (i := 0) rfl) rfl
theorem kw_368 : Cond.selects "SeedBench$Ring" ({ cls := "SeedBench$Ring", name := "isCorner", desc := "(I)Z" } : MethodName) ({ cls := "SeedBench$Ring", name := "isCorner", desc := "(I)Z" } : MethodName) ∈ gT := gm_4 (List.mem_of_getElem? (i := 1) rfl) rfl
theorem kw_369 : Cond.methodLink "SeedBench" (224 : Nat) ({ cls := "SeedBench$Ring", name := "areNeighbours", desc := "(II)Z" } : MethodName) ∈ gT := gm_4 (List.mem_of_getElem? (i := 3) rfl) rfl
theorem kw_370 : Cond.methodLink "SeedBench" (228 : Nat) ({ cls := "SeedBench$Ring", name := "has", desc := "(II)Z" } : MethodName) ∈ gT := gm_4 (List.mem_of_getElem? (i := 8) rfl) rfl
theorem kw_371 : Cond.methodLink "SeedBench" (231 : Nat) ({ cls := "java/lang/Math", name := "min", desc := "(II)I" } : MethodName) ∈ gT := gm_4 (List.mem_of_getElem? (i := 15) rfl) rfl
theorem kw_372 : Cond.code ({ cls := "SeedBench$Ring", name := "isCrossed", desc := "(II)Z" } : MethodName) prog_8_method_7_code (5 : Nat) (Option.some FieldType.boolean) ∈ gT := gm_4 (List.mem_of_getElem? (i := 19) rfl) rfl
theorem kw_373 : Cond.methodLink "SeedBench" (234 : Nat) ({ cls := "SeedBench$Ring", name := "isCrossed", desc := "(II)Z" } : MethodName) ∈ gT := gm_4 (List.mem_of_getElem? (i := 16) rfl) rfl
theorem kw_374 : Cond.instanceMethod ({ cls := "SeedBench$Ring", name := "isCrossed", desc := "(II)Z" } : MethodName) ∈ gT := gm_4 (List.mem_of_getElem? (i := 17) rfl) rfl
theorem kw_375 : Cond.selects "SeedBench$Ring" ({ cls := "SeedBench$Ring", name := "isCrossed", desc := "(II)Z" } : MethodName) ({ cls := "SeedBench$Ring", name := "isCrossed", desc := "(II)Z" } : MethodName) ∈ gT := gm_4 (List.mem_of_getElem? (i := 18) rfl) rfl
theorem kw_376 : Cond.methodLink "SeedBench" (237 : Nat) ({ cls := "SeedBench$Ring", name := "bit", desc := "(II)J" } : MethodName) ∈ gT := gm_4 (List.mem_of_getElem? (i := 21) rfl) rfl
theorem kw_377 : Cond.methodLink "SeedBench" (240 : Nat) ({ cls := "SeedBench$Ring", name := "fenceCount", desc := "()I" } : MethodName) ∈ gT := gm_4 (List.mem_of_getElem? (i := 22) rfl) rfl
theorem kw_378 : Cond.code ({ cls := "SeedBench$Kinds", name := "judge", desc := "([IILSeedBench$Book;)I" } : MethodName) prog_6_method_2_code (6 : Nat) (Option.some FieldType.int) ∈ gT := gm_3 (List.mem_of_getElem? (i := 168) rfl) rfl
theorem kw_379 : Cond.methodLink "SeedBench" (185 : Nat) ({ cls := "SeedBench$Kinds", name := "judge", desc := "([IILSeedBench$Book;)I" } : MethodName) ∈ gT := gm_3 (List.mem_of_getElem? (i := 165) rfl) rfl
theorem kw_380 : Cond.instanceMethod ({ cls := "SeedBench$Kinds", name := "judge", desc := "([IILSeedBench$Book;)I" } : MethodName) ∈ gT := gm_3 (List.mem_of_getElem? (i := 166) rfl) rfl
theorem kw_381 : Cond.selects "SeedBench$Kinds" ({ cls := "SeedBench$Kinds", name := "judge", desc := "([IILSeedBench$Book;)I" } : MethodName) ({ cls := "SeedBench$Kinds", name := "judge", desc := "([IILSeedBench$Book;)I" } : MethodName) ∈ gT := gm_3 (List.mem_of_getElem? (i := 167) rfl) rfl
theorem kw_382 : Cond.methodLink "SeedBench" (243 : Nat) ({ cls := "SeedBench$Ring", name := "isCut", desc := "()Z" } : MethodName) ∈ gT := gm_4 (List.mem_of_getElem? (i := 36) rfl) rfl
theorem kw_383 : Cond.methodLink "SeedBench" (246 : Nat) ({ cls := "SeedBench$Ring", name := "otherFence", desc := "(II)I" } : MethodName) ∈ gT := gm_4 (List.mem_of_getElem? (i := 41) rfl) rfl
theorem kw_384 : Cond.code ({ cls := "SeedBench$Ring", name := "friezeNumber", desc := "(II)J" } : MethodName) prog_8_method_14_code (10 : Nat) (Option.some FieldType.long) ∈ gT := gm_4 (List.mem_of_getElem? (i := 76) rfl) rfl
theorem kw_385 : Cond.methodLink "SeedBench" (251 : Nat) ({ cls := "SeedBench$Ring", name := "friezeNumber", desc := "(II)J" } : MethodName) ∈ gT := gm_4 (List.mem_of_getElem? (i := 73) rfl) rfl
theorem kw_386 : Cond.instanceMethod ({ cls := "SeedBench$Ring", name := "friezeNumber", desc := "(II)J" } : MethodName) ∈ gT := gm_4 (List.mem_of_getElem? (i := 74) rfl) rfl
theorem kw_387 : Cond.selects "SeedBench$Ring" ({ cls := "SeedBench$Ring", name := "friezeNumber", desc := "(II)J" } : MethodName) ({ cls := "SeedBench$Ring", name := "friezeNumber", desc := "(II)J" } : MethodName) ∈ gT := gm_4 (List.mem_of_getElem? (i := 75) rfl) rfl
theorem kw_388 : Cond.methodLink "SeedBench" (3 : Nat) ({ cls := "java/lang/Object", name := "<init>", desc := "()V" } : MethodName) ∈ gT := gm_1 (List.mem_of_getElem? (i := 22) rfl) rfl
theorem kw_389 : Cond.classLink "SeedBench" (9 : Nat) "SeedBench$Seed" ∈ gT := gm_1 (List.mem_of_getElem? (i := 25) rfl) rfl
theorem kw_390 : Cond.methodLink "SeedBench" (11 : Nat) ({ cls := "SeedBench$Seed", name := "<init>", desc := "()V" } : MethodName) ∈ gT := gm_1 (List.mem_of_getElem? (i := 27) rfl) rfl
theorem kw_391 : Cond.fieldLink "SeedBench" (12 : Nat) "SeedBench" "seed" "LSeedBench$Seed;" ∈ gT := gm_2 (List.mem_of_getElem? (i := 93) rfl) rfl
theorem kw_392 : Cond.classLink "SeedBench" (16 : Nat) "SeedBench$Draft" ∈ gT := gm_1 (List.mem_of_getElem? (i := 95) rfl) rfl
theorem kw_393 : Cond.instantiable "SeedBench$Draft" (5 : Nat) ∈ gT := gm_1 (List.mem_of_getElem? (i := 96) rfl) rfl
theorem kw_394 : Cond.code ({ cls := "SeedBench$Draft", name := "<init>", desc := "()V" } : MethodName) prog_4_method_1_code (1 : Nat) (Option.none : Option FieldType) ∈ gT := gm_1 (List.mem_of_getElem? (i := 99) rfl) rfl
theorem kw_395 : Cond.instanceMethod ({ cls := "SeedBench$Draft", name := "<init>", desc := "()V" } : MethodName) ∈ gT := gm_1 (List.mem_of_getElem? (i := 98) rfl) rfl
theorem kw_396 : Cond.fieldLink "SeedBench" (19 : Nat) "SeedBench" "draft" "LSeedBench$Draft;" ∈ gT := gm_2 (List.mem_of_getElem? (i := 94) rfl) rfl
theorem kw_397 : Cond.classLink "SeedBench" (23 : Nat) "SeedBench$Mill" ∈ gT := gm_1 (List.mem_of_getElem? (i := 121) rfl) rfl
theorem kw_398 : Cond.instantiable "SeedBench$Mill" (7 : Nat) ∈ gT := gm_1 (List.mem_of_getElem? (i := 122) rfl) rfl
theorem kw_399 : Cond.code ({ cls := "SeedBench$Mill", name := "<init>", desc := "()V" } : MethodName) prog_7_method_1_code (1 : Nat) (Option.none : Option FieldType) ∈ gT := gm_1 (List.mem_of_getElem? (i := 125) rfl) rfl
theorem kw_400 : Cond.instanceMethod ({ cls := "SeedBench$Mill", name := "<init>", desc := "()V" } : MethodName) ∈ gT := gm_1 (List.mem_of_getElem? (i := 124) rfl) rfl
theorem kw_401 : Cond.fieldLink "SeedBench" (26 : Nat) "SeedBench" "mill" "LSeedBench$Mill;" ∈ gT := gm_2 (List.mem_of_getElem? (i := 95) rfl) rfl
theorem kw_402 : Cond.fieldLink "SeedBench" (30 : Nat) "SeedBench" "turned" "[I" ∈ gT := gm_2 (List.mem_of_getElem? (i := 96) rfl) rfl
theorem kw_403 : Cond.fieldLink "SeedBench" (34 : Nat) "SeedBench" "kept" "[LSeedBench$Seed;" ∈ gT := gm_2 (List.mem_of_getElem? (i := 98) rfl) rfl
theorem kw_404 : Cond.fieldLink "SeedBench" (38 : Nat) "SeedBench" "rowPlaces" "[I" ∈ gT := gm_2 (List.mem_of_getElem? (i := 99) rfl) rfl
theorem kw_405 : Cond.fieldLink "SeedBench" (41 : Nat) "SeedBench" "walker" "LSeedBench$Seed;" ∈ gT := gm_2 (List.mem_of_getElem? (i := 101) rfl) rfl
theorem kw_406 : Cond.classLink "SeedBench" (44 : Nat) "SeedBench$Atlas" ∈ gT := gm_1 (List.mem_of_getElem? (i := 153) rfl) rfl
theorem kw_407 : Cond.instantiable "SeedBench$Atlas" (18 : Nat) ∈ gT := gm_1 (List.mem_of_getElem? (i := 154) rfl) rfl
theorem kw_408 : Cond.code ({ cls := "SeedBench$Atlas", name := "<init>", desc := "()V" } : MethodName) prog_2_method_1_code (2 : Nat) (Option.none : Option FieldType) ∈ gT := gm_1 (List.mem_of_getElem? (i := 157) rfl) rfl
theorem kw_409 : Cond.methodLink "SeedBench" (46 : Nat) ({ cls := "SeedBench$Atlas", name := "<init>", desc := "()V" } : MethodName) ∈ gT := gm_1 (List.mem_of_getElem? (i := 155) rfl) rfl
theorem kw_410 : Cond.instanceMethod ({ cls := "SeedBench$Atlas", name := "<init>", desc := "()V" } : MethodName) ∈ gT := gm_1 (List.mem_of_getElem? (i := 156) rfl) rfl
theorem kw_411 : Cond.fieldLink "SeedBench" (47 : Nat) "SeedBench" "atlas" "LSeedBench$Atlas;" ∈ gT := gm_2 (List.mem_of_getElem? (i := 102) rfl) rfl
theorem kw_412 : Cond.classLink "SeedBench" (51 : Nat) "SeedBench$Book" ∈ gT := gm_1 (List.mem_of_getElem? (i := 219) rfl) rfl
theorem kw_413 : Cond.instantiable "SeedBench$Book" (6 : Nat) ∈ gT := gm_1 (List.mem_of_getElem? (i := 220) rfl) rfl
theorem kw_414 : Cond.code ({ cls := "SeedBench$Book", name := "<init>", desc := "()V" } : MethodName) prog_3_method_1_code (1 : Nat) (Option.none : Option FieldType) ∈ gT := gm_1 (List.mem_of_getElem? (i := 223) rfl) rfl
theorem kw_415 : Cond.instanceMethod ({ cls := "SeedBench$Book", name := "<init>", desc := "()V" } : MethodName) ∈ gT := gm_1 (List.mem_of_getElem? (i := 222) rfl) rfl
theorem kw_416 : Cond.fieldLink "SeedBench" (54 : Nat) "SeedBench" "book" "LSeedBench$Book;" ∈ gT := gm_2 (List.mem_of_getElem? (i := 104) rfl) rfl
theorem kw_417 : Cond.classLink "SeedBench" (58 : Nat) "SeedBench$Kinds" ∈ gT := gm_2 (List.mem_of_getElem? (i := 12) rfl) rfl
theorem kw_418 : Cond.instantiable "SeedBench$Kinds" (6 : Nat) ∈ gT := gm_2 (List.mem_of_getElem? (i := 13) rfl) rfl
theorem kw_419 : Cond.code ({ cls := "SeedBench$Kinds", name := "<init>", desc := "()V" } : MethodName) prog_6_method_1_code (1 : Nat) (Option.none : Option FieldType) ∈ gT := gm_2 (List.mem_of_getElem? (i := 16) rfl) rfl
theorem kw_420 : Cond.instanceMethod ({ cls := "SeedBench$Kinds", name := "<init>", desc := "()V" } : MethodName) ∈ gT := gm_2 (List.mem_of_getElem? (i := 15) rfl) rfl
theorem kw_421 : Cond.fieldLink "SeedBench" (61 : Nat) "SeedBench" "kinds" "LSeedBench$Kinds;" ∈ gT := gm_2 (List.mem_of_getElem? (i := 105) rfl) rfl
theorem kw_422 : Cond.classLink "SeedBench" (65 : Nat) "SeedBench$Ring" ∈ gT := gm_2 (List.mem_of_getElem? (i := 40) rfl) rfl
theorem kw_423 : Cond.fieldLink "SeedBench" (67 : Nat) "SeedBench" "rings" "[LSeedBench$Ring;" ∈ gT := gm_2 (List.mem_of_getElem? (i := 106) rfl) rfl
theorem kw_424 : Cond.classLink "SeedBench" (71 : Nat) "SeedBench$Guide" ∈ gT := gm_2 (List.mem_of_getElem? (i := 42) rfl) rfl
theorem kw_425 : Cond.instantiable "SeedBench$Guide" (3 : Nat) ∈ gT := gm_2 (List.mem_of_getElem? (i := 43) rfl) rfl
theorem kw_426 : Cond.code ({ cls := "SeedBench$Guide", name := "<init>", desc := "()V" } : MethodName) prog_5_method_1_code (1 : Nat) (Option.none : Option FieldType) ∈ gT := gm_2 (List.mem_of_getElem? (i := 46) rfl) rfl
theorem kw_427 : Cond.instanceMethod ({ cls := "SeedBench$Guide", name := "<init>", desc := "()V" } : MethodName) ∈ gT := gm_2 (List.mem_of_getElem? (i := 45) rfl) rfl
theorem kw_428 : Cond.fieldLink "SeedBench" (74 : Nat) "SeedBench" "guide" "LSeedBench$Guide;" ∈ gT := gm_2 (List.mem_of_getElem? (i := 107) rfl) rfl
theorem kw_429 : Cond.fieldLink "SeedBench" (78 : Nat) "SeedBench$Draft" "table" "[I" ∈ gT := gm_1 (List.mem_of_getElem? (i := 106) rfl) rfl
theorem kw_430 : Cond.fieldLink "SeedBench" (81 : Nat) "SeedBench$Draft" "sizes" "[J" ∈ gT := gm_1 (List.mem_of_getElem? (i := 108) rfl) rfl
theorem kw_431 : Cond.code ({ cls := "SeedBench$Seed", name := "start", desc := "(II[I[J)V" } : MethodName) prog_9_method_2_code (6 : Nat) (Option.none : Option FieldType) ∈ gT := gm_2 (List.mem_of_getElem? (i := 80) rfl) rfl
theorem kw_432 : Cond.methodLink "SeedBench" (85 : Nat) ({ cls := "SeedBench$Seed", name := "start", desc := "(II[I[J)V" } : MethodName) ∈ gT := gm_2 (List.mem_of_getElem? (i := 77) rfl) rfl
theorem kw_433 : Cond.instanceMethod ({ cls := "SeedBench$Seed", name := "start", desc := "(II[I[J)V" } : MethodName) ∈ gT := gm_2 (List.mem_of_getElem? (i := 78) rfl) rfl
theorem kw_434 : Cond.selects "SeedBench$Seed" ({ cls := "SeedBench$Seed", name := "start", desc := "(II[I[J)V" } : MethodName) ({ cls := "SeedBench$Seed", name := "start", desc := "(II[I[J)V" } : MethodName) ∈ gT := gm_2 (List.mem_of_getElem? (i := 79) rfl) rfl
theorem kw_435 : Cond.fieldLink "SeedBench" (89 : Nat) "SeedBench$Seed" "sizes" "[J" ∈ gT := gm_1 (List.mem_of_getElem? (i := 76) rfl) rfl
theorem kw_436 : Cond.code ({ cls := "SeedBench", name := "turnedEntry", desc := "([IIII)I" } : MethodName) prog_1_method_36_code (7 : Nat) (Option.some FieldType.int) ∈ gT := gm_2 (List.mem_of_getElem? (i := 214) rfl) rfl
theorem kw_437 : Cond.methodLink "SeedBench" (278 : Nat) ({ cls := "SeedBench", name := "turnedEntry", desc := "([IIII)I" } : MethodName) ∈ gT := gm_2 (List.mem_of_getElem? (i := 212) rfl) rfl
theorem kw_438 : Cond.static ({ cls := "SeedBench", name := "turnedEntry", desc := "([IIII)I" } : MethodName) ∈ gT := gm_2 (List.mem_of_getElem? (i := 213) rfl) rfl
theorem kw_439 : Cond.methodLink "SeedBench" (275 : Nat) ({ cls := "java/lang/Math", name := "abs", desc := "(I)I" } : MethodName) ∈ gT := gm_2 (List.mem_of_getElem? (i := 215) rfl) rfl
theorem kw_440 : Cond.code ({ cls := "SeedBench$Seed", name := "copyFrom", desc := "(LSeedBench$Seed;)V" } : MethodName) prog_9_method_3_code (3 : Nat) (Option.none : Option FieldType) ∈ gT := gm_3 (List.mem_of_getElem? (i := 72) rfl) rfl
theorem kw_441 : Cond.methodLink "SeedBench" (160 : Nat) ({ cls := "SeedBench$Seed", name := "copyFrom", desc := "(LSeedBench$Seed;)V" } : MethodName) ∈ gT := gm_3 (List.mem_of_getElem? (i := 69) rfl) rfl
theorem kw_442 : Cond.instanceMethod ({ cls := "SeedBench$Seed", name := "copyFrom", desc := "(LSeedBench$Seed;)V" } : MethodName) ∈ gT := gm_3 (List.mem_of_getElem? (i := 70) rfl) rfl
theorem kw_443 : Cond.selects "SeedBench$Seed" ({ cls := "SeedBench$Seed", name := "copyFrom", desc := "(LSeedBench$Seed;)V" } : MethodName) ({ cls := "SeedBench$Seed", name := "copyFrom", desc := "(LSeedBench$Seed;)V" } : MethodName) ∈ gT := gm_3 (List.mem_of_getElem? (i := 71) rfl) rfl
theorem kw_444 : Cond.code ({ cls := "SeedBench$Share", name := "hasVariable", desc := "(I)Z" } : MethodName) prog_10_method_5_code (2 : Nat) (Option.some FieldType.boolean) ∈ gT := gm_3 (List.mem_of_getElem? (i := 45) rfl) rfl
theorem kw_445 : Cond.methodLink "SeedBench" (143 : Nat) ({ cls := "SeedBench$Share", name := "hasVariable", desc := "(I)Z" } : MethodName) ∈ gT := gm_3 (List.mem_of_getElem? (i := 42) rfl) rfl
theorem kw_446 : Cond.instanceMethod ({ cls := "SeedBench$Share", name := "hasVariable", desc := "(I)Z" } : MethodName) ∈ gT := gm_3 (List.mem_of_getElem? (i := 43) rfl) rfl
theorem kw_447 : Cond.selects "SeedBench$Share" ({ cls := "SeedBench$Share", name := "hasVariable", desc := "(I)Z" } : MethodName) ({ cls := "SeedBench$Share", name := "hasVariable", desc := "(I)Z" } : MethodName) ∈ gT := gm_3 (List.mem_of_getElem? (i := 44) rfl) rfl
theorem kw_448 : Cond.methodLink "SeedBench" (152 : Nat) ({ cls := "SeedBench$Share", name := "leastPower", desc := "(I)I" } : MethodName) ∈ gT := gm_3 (List.mem_of_getElem? (i := 50) rfl) rfl
theorem kw_449 : Cond.methodLink "SeedBench" (156 : Nat) ({ cls := "SeedBench$Share", name := "sum", desc := "()J" } : MethodName) ∈ gT := gm_3 (List.mem_of_getElem? (i := 61) rfl) rfl
theorem kw_450 : Cond.code ({ cls := "SeedBench", name := "walkRow", desc := "()Z" } : MethodName) prog_1_method_35_code (2 : Nat) (Option.some FieldType.boolean) ∈ gT := gm_3 (List.mem_of_getElem? (i := 227) rfl) rfl
theorem kw_451 : Cond.methodLink "SeedBench" (207 : Nat) ({ cls := "SeedBench", name := "walkRow", desc := "()Z" } : MethodName) ∈ gT := gm_3 (List.mem_of_getElem? (i := 224) rfl) rfl
theorem kw_452 : Cond.instanceMethod ({ cls := "SeedBench", name := "walkRow", desc := "()Z" } : MethodName) ∈ gT := gm_3 (List.mem_of_getElem? (i := 226) rfl) rfl
theorem kw_453 : Cond.selects "SeedBench" ⟨"SeedBench", "walkRow", "()Z"⟩ ⟨"SeedBench", "walkRow", "()Z"⟩ ∈ gT := gs_2 (List.mem_map.mpr ⟨(⟨"SeedBench", "walkRow", "()Z"⟩, 15), List.mem_of_getElem? (i := 10) rfl, rfl⟩) rfl
theorem kw_454 : Cond.code ({ cls := "SeedBench$Seed", name := "isSameAs", desc := "(LSeedBench$Seed;)Z" } : MethodName) prog_9_method_5_code (3 : Nat) (Option.some FieldType.boolean) ∈ gT := gm_3 (List.mem_of_getElem? (i := 84) rfl) rfl
theorem kw_455 : Cond.methodLink "SeedBench" (164 : Nat) ({ cls := "SeedBench$Seed", name := "isSameAs", desc := "(LSeedBench$Seed;)Z" } : MethodName) ∈ gT := gm_3 (List.mem_of_getElem? (i := 81) rfl) rfl
theorem kw_456 : Cond.instanceMethod ({ cls := "SeedBench$Seed", name := "isSameAs", desc := "(LSeedBench$Seed;)Z" } : MethodName) ∈ gT := gm_3 (List.mem_of_getElem? (i := 82) rfl) rfl
theorem kw_457 : Cond.selects "SeedBench$Seed" ({ cls := "SeedBench$Seed", name := "isSameAs", desc := "(LSeedBench$Seed;)Z" } : MethodName) ({ cls := "SeedBench$Seed", name := "isSameAs", desc := "(LSeedBench$Seed;)Z" } : MethodName) ∈ gT := gm_3 (List.mem_of_getElem? (i := 83) rfl) rfl
theorem kw_458 : Cond.code ({ cls := "SeedBench$Ring", name := "tell", desc := "(I)I" } : MethodName) prog_8_method_11_code (2 : Nat) (Option.some FieldType.int) ∈ gT := gm_4 (List.mem_of_getElem? (i := 59) rfl) rfl
theorem kw_459 : Cond.methodLink "SeedBench" (249 : Nat) ({ cls := "SeedBench$Ring", name := "tell", desc := "(I)I" } : MethodName) ∈ gT := gm_4 (List.mem_of_getElem? (i := 56) rfl) rfl
theorem kw_460 : Cond.instanceMethod ({ cls := "SeedBench$Ring", name := "tell", desc := "(I)I" } : MethodName) ∈ gT := gm_4 (List.mem_of_getElem? (i := 57) rfl) rfl
theorem kw_461 : Cond.selects "SeedBench$Ring" ({ cls := "SeedBench$Ring", name := "tell", desc := "(I)I" } : MethodName) ({ cls := "SeedBench$Ring", name := "tell", desc := "(I)I" } : MethodName) ∈ gT := gm_4 (List.mem_of_getElem? (i := 58) rfl) rfl
theorem kw_462 : Cond.methodLink "SeedBench" (201 : Nat) ({ cls := "java/util/Arrays", name := "fill", desc := "([II)V" } : MethodName) ∈ gT := gm_3 (List.mem_of_getElem? (i := 219) rfl) rfl
theorem kw_463 : Cond.code ({ cls := "SeedBench$Draft", name := "restart", desc := "(II)V" } : MethodName) prog_4_method_2_code (3 : Nat) (Option.none : Option FieldType) ∈ gT := gm_2 (List.mem_of_getElem? (i := 146) rfl) rfl
theorem kw_464 : Cond.methodLink "SeedBench" (91 : Nat) ({ cls := "SeedBench$Draft", name := "restart", desc := "(II)V" } : MethodName) ∈ gT := gm_2 (List.mem_of_getElem? (i := 143) rfl) rfl
theorem kw_465 : Cond.instanceMethod ({ cls := "SeedBench$Draft", name := "restart", desc := "(II)V" } : MethodName) ∈ gT := gm_2 (List.mem_of_getElem? (i := 144) rfl) rfl
theorem kw_466 : Cond.selects "SeedBench$Draft" ({ cls := "SeedBench$Draft", name := "restart", desc := "(II)V" } : MethodName) ({ cls := "SeedBench$Draft", name := "restart", desc := "(II)V" } : MethodName) ∈ gT := gm_2 (List.mem_of_getElem? (i := 145) rfl) rfl
theorem kw_467 : Cond.code ({ cls := "SeedBench$Ring", name := "tellArrows", desc := "([I)V" } : MethodName) prog_8_method_15_code (5 : Nat) (Option.none : Option FieldType) ∈ gT := gm_4 (List.mem_of_getElem? (i := 115) rfl) rfl
theorem kw_468 : Cond.methodLink "SeedBench" (268 : Nat) ({ cls := "SeedBench$Ring", name := "tellArrows", desc := "([I)V" } : MethodName) ∈ gT := gm_4 (List.mem_of_getElem? (i := 112) rfl) rfl
theorem kw_469 : Cond.instanceMethod ({ cls := "SeedBench$Ring", name := "tellArrows", desc := "([I)V" } : MethodName) ∈ gT := gm_4 (List.mem_of_getElem? (i := 113) rfl) rfl
theorem kw_470 : Cond.selects "SeedBench$Ring" ({ cls := "SeedBench$Ring", name := "tellArrows", desc := "([I)V" } : MethodName) ({ cls := "SeedBench$Ring", name := "tellArrows", desc := "([I)V" } : MethodName) ∈ gT := gm_4 (List.mem_of_getElem? (i := 114) rfl) rfl
theorem kw_471 : Cond.code ({ cls := "SeedBench$Guide", name := "measure", desc := "(LSeedBench$Ring;LSeedBench$Ring;LSeedBench$Book;)V" } : MethodName) prog_5_method_2_code (8 : Nat) (Option.none : Option FieldType) ∈ gT := gm_4 (List.mem_of_getElem? (i := 84) rfl) rfl
theorem kw_472 : Cond.methodLink "SeedBench" (254 : Nat) ({ cls := "SeedBench$Guide", name := "measure", desc := "(LSeedBench$Ring;LSeedBench$Ring;LSeedBench$Book;)V" } : MethodName) ∈ gT := gm_4 (List.mem_of_getElem? (i := 81) rfl) rfl
theorem kw_473 : Cond.instanceMethod ({ cls := "SeedBench$Guide", name := "measure", desc := "(LSeedBench$Ring;LSeedBench$Ring;LSeedBench$Book;)V" } : MethodName) ∈ gT := gm_4 (List.mem_of_getElem? (i := 82) rfl) rfl
theorem kw_474 : Cond.selects "SeedBench$Guide" ({ cls := "SeedBench$Guide", name := "measure", desc := "(LSeedBench$Ring;LSeedBench$Ring;LSeedBench$Book;)V" } : MethodName) ({ cls := "SeedBench$Guide", name := "measure", desc := "(LSeedBench$Ring;LSeedBench$Ring;LSeedBench$Book;)V" } : MethodName) ∈ gT := gm_4 (List.mem_of_getElem? (i := 83) rfl) rfl
theorem kw_475 : Cond.code ({ cls := "SeedBench$Guide", name := "lead", desc := "(LSeedBench$Ring;LSeedBench$Book;)I" } : MethodName) prog_5_method_3_code (6 : Nat) (Option.some FieldType.int) ∈ gT := gm_4 (List.mem_of_getElem? (i := 98) rfl) rfl
theorem kw_476 : Cond.methodLink "SeedBench" (258 : Nat) ({ cls := "SeedBench$Guide", name := "lead", desc := "(LSeedBench$Ring;LSeedBench$Book;)I" } : MethodName) ∈ gT := gm_4 (List.mem_of_getElem? (i := 95) rfl) rfl
theorem kw_477 : Cond.instanceMethod ({ cls := "SeedBench$Guide", name := "lead", desc := "(LSeedBench$Ring;LSeedBench$Book;)I" } : MethodName) ∈ gT := gm_4 (List.mem_of_getElem? (i := 96) rfl) rfl
theorem kw_478 : Cond.selects "SeedBench$Guide" ({ cls := "SeedBench$Guide", name := "lead", desc := "(LSeedBench$Ring;LSeedBench$Book;)I" } : MethodName) ({ cls := "SeedBench$Guide", name := "lead", desc := "(LSeedBench$Ring;LSeedBench$Book;)I" } : MethodName) ∈ gT := gm_4 (List.mem_of_getElem? (i := 97) rfl) rfl
theorem kw_479 : Cond.code ({ cls := "SeedBench$Atlas", name := "tell", desc := "(II)J" } : MethodName) prog_2_method_12_code (3 : Nat) (Option.some FieldType.long) ∈ gT := gm_3 (List.mem_of_getElem? (i := 159) rfl) rfl
theorem kw_480 : Cond.methodLink "SeedBench" (181 : Nat) ({ cls := "SeedBench$Atlas", name := "tell", desc := "(II)J" } : MethodName) ∈ gT := gm_3 (List.mem_of_getElem? (i := 156) rfl) rfl
theorem kw_481 : Cond.instanceMethod ({ cls := "SeedBench$Atlas", name := "tell", desc := "(II)J" } : MethodName) ∈ gT := gm_3 (List.mem_of_getElem? (i := 157) rfl) rfl
theorem kw_482 : Cond.selects "SeedBench$Atlas" ({ cls := "SeedBench$Atlas", name := "tell", desc := "(II)J" } : MethodName) ({ cls := "SeedBench$Atlas", name := "tell", desc := "(II)J" } : MethodName) ∈ gT := gm_3 (List.mem_of_getElem? (i := 158) rfl) rfl
theorem kw_483 : Cond.code ({ cls := "SeedBenchModel", name := "placeIn", desc := "(I)I" } : MethodName) prog_12_method_6_code (5 : Nat) (Option.some FieldType.int) ∈ gT := gm_5 (List.mem_of_getElem? (i := 148) rfl) rfl
theorem kw_484 : Cond.initialized "SeedBenchModel" ∈ gT := gm_1 (List.mem_of_getElem? (i := 12) rfl) rfl
theorem kw_485 : Cond.methodLink "SeedBenchModel" (142 : Nat) ({ cls := "SeedBenchModel", name := "placeIn", desc := "(I)I" } : MethodName) ∈ gT := gm_5 (List.mem_of_getElem? (i := 145) rfl) rfl
theorem kw_486 : Cond.instanceMethod ({ cls := "SeedBenchModel", name := "placeIn", desc := "(I)I" } : MethodName) ∈ gT := gm_5 (List.mem_of_getElem? (i := 147) rfl) rfl
theorem kw_487 : Cond.selects "SeedBenchModel" ⟨"SeedBenchModel", "placeIn", "(I)I"⟩ ⟨"SeedBenchModel", "placeIn", "(I)I"⟩ ∈ gT := gs_3 (List.mem_map.mpr ⟨(⟨"SeedBenchModel", "placeIn", "(I)I"⟩, 58), List.mem_of_getElem? (i := 11) rfl, rfl⟩) rfl
theorem kw_488 : Cond.code ({ cls := "SeedBenchModel", name := "against", desc := "(II)I" } : MethodName) prog_12_method_5_code (5 : Nat) (Option.some FieldType.int) ∈ gT := gm_5 (List.mem_of_getElem? (i := 152) rfl) rfl
theorem kw_489 : Cond.methodLink "SeedBenchModel" (138 : Nat) ({ cls := "SeedBenchModel", name := "against", desc := "(II)I" } : MethodName) ∈ gT := gm_5 (List.mem_of_getElem? (i := 149) rfl) rfl
theorem kw_490 : Cond.instanceMethod ({ cls := "SeedBenchModel", name := "against", desc := "(II)I" } : MethodName) ∈ gT := gm_5 (List.mem_of_getElem? (i := 151) rfl) rfl
theorem kw_491 : Cond.selects "SeedBenchModel" ⟨"SeedBenchModel", "against", "(II)I"⟩ ⟨"SeedBenchModel", "against", "(II)I"⟩ ∈ gT := gs_3 (List.mem_map.mpr ⟨(⟨"SeedBenchModel", "against", "(II)I"⟩, 58), List.mem_of_getElem? (i := 12) rfl, rfl⟩) rfl
theorem kw_492 : Cond.code ({ cls := "SeedBenchModel", name := "saves", desc := "(I)V" } : MethodName) prog_12_method_41_code (3 : Nat) (Option.none : Option FieldType) ∈ gT := gm_5 (List.mem_of_getElem? (i := 227) rfl) rfl
theorem kw_493 : Cond.methodLink "SeedBenchModel" (260 : Nat) ({ cls := "SeedBenchModel", name := "saves", desc := "(I)V" } : MethodName) ∈ gT := gm_5 (List.mem_of_getElem? (i := 224) rfl) rfl
theorem kw_494 : Cond.instanceMethod ({ cls := "SeedBenchModel", name := "saves", desc := "(I)V" } : MethodName) ∈ gT := gm_5 (List.mem_of_getElem? (i := 226) rfl) rfl
theorem kw_495 : Cond.selects "SeedBenchModel" ⟨"SeedBenchModel", "saves", "(I)V"⟩ ⟨"SeedBenchModel", "saves", "(I)V"⟩ ∈ gT := gs_4 (List.mem_map.mpr ⟨(⟨"SeedBenchModel", "saves", "(I)V"⟩, 58), List.mem_of_getElem? (i := 5) rfl, rfl⟩) rfl
theorem kw_496 : Cond.code ({ cls := "SeedBenchModel", name := "goesThrough", desc := "()Z" } : MethodName) prog_12_method_47_code (5 : Nat) (Option.some FieldType.boolean) ∈ gT := gm_5 (List.mem_of_getElem? (i := 231) rfl) rfl
theorem kw_497 : Cond.methodLink "SeedBenchModel" (263 : Nat) ({ cls := "SeedBenchModel", name := "goesThrough", desc := "()Z" } : MethodName) ∈ gT := gm_5 (List.mem_of_getElem? (i := 228) rfl) rfl
theorem kw_498 : Cond.instanceMethod ({ cls := "SeedBenchModel", name := "goesThrough", desc := "()Z" } : MethodName) ∈ gT := gm_5 (List.mem_of_getElem? (i := 230) rfl) rfl
theorem kw_499 : Cond.selects "SeedBenchModel" ⟨"SeedBenchModel", "goesThrough", "()Z"⟩ ⟨"SeedBenchModel", "goesThrough", "()Z"⟩ ∈ gT := gs_4 (List.mem_map.mpr ⟨(⟨"SeedBenchModel", "goesThrough", "()Z"⟩, 58), List.mem_of_getElem? (i := 6) rfl, rfl⟩) rfl
theorem kw_500 : Cond.code ({ cls := "SeedBenchModel", name := "restores", desc := "(I)V" } : MethodName) prog_12_method_42_code (3 : Nat) (Option.none : Option FieldType) ∈ gT := gm_6 (List.mem_of_getElem? (i := 11) rfl) rfl
theorem kw_501 : Cond.methodLink "SeedBenchModel" (266 : Nat) ({ cls := "SeedBenchModel", name := "restores", desc := "(I)V" } : MethodName) ∈ gT := gm_6 (List.mem_of_getElem? (i := 8) rfl) rfl
theorem kw_502 : Cond.instanceMethod ({ cls := "SeedBenchModel", name := "restores", desc := "(I)V" } : MethodName) ∈ gT := gm_6 (List.mem_of_getElem? (i := 10) rfl) rfl
theorem kw_503 : Cond.selects "SeedBenchModel" ⟨"SeedBenchModel", "restores", "(I)V"⟩ ⟨"SeedBenchModel", "restores", "(I)V"⟩ ∈ gT := gs_4 (List.mem_map.mpr ⟨(⟨"SeedBenchModel", "restores", "(I)V"⟩, 58), List.mem_of_getElem? (i := 11) rfl, rfl⟩) rfl
theorem kw_504 : Cond.code ({ cls := "SeedBenchModel", name := "sumOf", desc := "(I)J" } : MethodName) prog_12_method_36_code (5 : Nat) (Option.some FieldType.long) ∈ gT := gm_5 (List.mem_of_getElem? (i := 207) rfl) rfl
theorem kw_505 : Cond.methodLink "SeedBenchModel" (234 : Nat) ({ cls := "SeedBenchModel", name := "sumOf", desc := "(I)J" } : MethodName) ∈ gT := gm_5 (List.mem_of_getElem? (i := 204) rfl) rfl
theorem kw_506 : Cond.instanceMethod ({ cls := "SeedBenchModel", name := "sumOf", desc := "(I)J" } : MethodName) ∈ gT := gm_5 (List.mem_of_getElem? (i := 206) rfl) rfl
theorem kw_507 : Cond.selects "SeedBenchModel" ⟨"SeedBenchModel", "sumOf", "(I)J"⟩ ⟨"SeedBenchModel", "sumOf", "(I)J"⟩ ∈ gT := gs_4 (List.mem_map.mpr ⟨(⟨"SeedBenchModel", "sumOf", "(I)J"⟩, 58), List.mem_of_getElem? (i := 3) rfl, rfl⟩) rfl
theorem kw_508 : Cond.code ({ cls := "SeedBenchModel", name := "leastOf", desc := "(II)I" } : MethodName) prog_12_method_35_code (5 : Nat) (Option.some FieldType.int) ∈ gT := gm_5 (List.mem_of_getElem? (i := 196) rfl) rfl
theorem kw_509 : Cond.methodLink "SeedBenchModel" (231 : Nat) ({ cls := "SeedBenchModel", name := "leastOf", desc := "(II)I" } : MethodName) ∈ gT := gm_5 (List.mem_of_getElem? (i := 193) rfl) rfl
theorem kw_510 : Cond.instanceMethod ({ cls := "SeedBenchModel", name := "leastOf", desc := "(II)I" } : MethodName) ∈ gT := gm_5 (List.mem_of_getElem? (i := 195) rfl) rfl
theorem kw_511 : Cond.selects "SeedBenchModel" ⟨"SeedBenchModel", "leastOf", "(II)I"⟩ ⟨"SeedBenchModel", "leastOf", "(II)I"⟩ ∈ gT := gs_4 (List.mem_map.mpr ⟨(⟨"SeedBenchModel", "leastOf", "(II)I"⟩, 58), List.mem_of_getElem? (i := 2) rfl, rfl⟩) rfl
theorem kw_512 : Cond.code ({ cls := "SeedBenchModel", name := "turns", desc := "(I)Z" } : MethodName) prog_12_method_29_code (4 : Nat) (Option.some FieldType.boolean) ∈ gT := gm_5 (List.mem_of_getElem? (i := 122) rfl) rfl
theorem kw_513 : Cond.methodLink "SeedBenchModel" (225 : Nat) ({ cls := "SeedBenchModel", name := "turns", desc := "(I)Z" } : MethodName) ∈ gT := gm_5 (List.mem_of_getElem? (i := 119) rfl) rfl
theorem kw_514 : Cond.instanceMethod ({ cls := "SeedBenchModel", name := "turns", desc := "(I)Z" } : MethodName) ∈ gT := gm_5 (List.mem_of_getElem? (i := 121) rfl) rfl
theorem kw_515 : Cond.selects "SeedBenchModel" ⟨"SeedBenchModel", "turns", "(I)Z"⟩ ⟨"SeedBenchModel", "turns", "(I)Z"⟩ ∈ gT := gs_3 (List.mem_map.mpr ⟨(⟨"SeedBenchModel", "turns", "(I)Z"⟩, 58), List.mem_of_getElem? (i := 5) rfl, rfl⟩) rfl
theorem kw_516 : Cond.code ({ cls := "SeedBenchModel", name := "hasSizes", desc := "()Z" } : MethodName) prog_12_method_21_code (3 : Nat) (Option.some FieldType.boolean) ∈ gT := gm_5 (List.mem_of_getElem? (i := 96) rfl) rfl
theorem kw_517 : Cond.methodLink "SeedBenchModel" (197 : Nat) ({ cls := "SeedBenchModel", name := "hasSizes", desc := "()Z" } : MethodName) ∈ gT := gm_5 (List.mem_of_getElem? (i := 93) rfl) rfl
theorem kw_518 : Cond.instanceMethod ({ cls := "SeedBenchModel", name := "hasSizes", desc := "()Z" } : MethodName) ∈ gT := gm_5 (List.mem_of_getElem? (i := 95) rfl) rfl
theorem kw_519 : Cond.selects "SeedBenchModel" ⟨"SeedBenchModel", "hasSizes", "()Z"⟩ ⟨"SeedBenchModel", "hasSizes", "()Z"⟩ ∈ gT := gs_3 (List.mem_map.mpr ⟨(⟨"SeedBenchModel", "hasSizes", "()Z"⟩, 58), List.mem_of_getElem? (i := 2) rfl, rfl⟩) rfl
theorem kw_520 : Cond.code ({ cls := "SeedBenchModel", name := "begins", desc := "()V" } : MethodName) prog_12_method_24_code (2 : Nat) (Option.none : Option FieldType) ∈ gT := gm_5 (List.mem_of_getElem? (i := 110) rfl) rfl
theorem kw_521 : Cond.methodLink "SeedBenchModel" (201 : Nat) ({ cls := "SeedBenchModel", name := "begins", desc := "()V" } : MethodName) ∈ gT := gm_5 (List.mem_of_getElem? (i := 107) rfl) rfl
theorem kw_522 : Cond.instanceMethod ({ cls := "SeedBenchModel", name := "begins", desc := "()V" } : MethodName) ∈ gT := gm_5 (List.mem_of_getElem? (i := 109) rfl) rfl
theorem kw_523 : Cond.selects "SeedBenchModel" ⟨"SeedBenchModel", "begins", "()V"⟩ ⟨"SeedBenchModel", "begins", "()V"⟩ ∈ gT := gs_3 (List.mem_map.mpr ⟨(⟨"SeedBenchModel", "begins", "()V"⟩, 58), List.mem_of_getElem? (i := 4) rfl, rfl⟩) rfl
theorem kw_524 : Cond.code ({ cls := "SeedBenchModel", name := "firsts", desc := "()V" } : MethodName) prog_12_method_14_code (2 : Nat) (Option.none : Option FieldType) ∈ gT := gm_4 (List.mem_of_getElem? (i := 142) rfl) rfl
theorem kw_525 : Cond.methodLink "SeedBenchModel" (135 : Nat) ({ cls := "SeedBenchModel", name := "firsts", desc := "()V" } : MethodName) ∈ gT := gm_4 (List.mem_of_getElem? (i := 139) rfl) rfl
theorem kw_526 : Cond.instanceMethod ({ cls := "SeedBenchModel", name := "firsts", desc := "()V" } : MethodName) ∈ gT := gm_4 (List.mem_of_getElem? (i := 141) rfl) rfl
theorem kw_527 : Cond.selects "SeedBenchModel" ⟨"SeedBenchModel", "firsts", "()V"⟩ ⟨"SeedBenchModel", "firsts", "()V"⟩ ∈ gT := gs_3 (List.mem_map.mpr ⟨(⟨"SeedBenchModel", "firsts", "()V"⟩, 58), List.mem_of_getElem? (i := 0) rfl, rfl⟩) rfl
theorem kw_528 : Cond.code ({ cls := "SeedBenchModel", name := "isSlot", desc := "(I)Z" } : MethodName) prog_12_method_61_code (2 : Nat) (Option.some FieldType.boolean) ∈ gT := gm_6 (List.mem_of_getElem? (i := 68) rfl) rfl
theorem kw_529 : Cond.methodLink "SeedBenchModel" (314 : Nat) ({ cls := "SeedBenchModel", name := "isSlot", desc := "(I)Z" } : MethodName) ∈ gT := gm_6 (List.mem_of_getElem? (i := 65) rfl) rfl
theorem kw_530 : Cond.instanceMethod ({ cls := "SeedBenchModel", name := "isSlot", desc := "(I)Z" } : MethodName) ∈ gT := gm_6 (List.mem_of_getElem? (i := 67) rfl) rfl
theorem kw_531 : Cond.selects "SeedBenchModel" ⟨"SeedBenchModel", "isSlot", "(I)Z"⟩ ⟨"SeedBenchModel", "isSlot", "(I)Z"⟩ ∈ gT := gs_5 (List.mem_map.mpr ⟨(⟨"SeedBenchModel", "isSlot", "(I)Z"⟩, 58), List.mem_of_getElem? (i := 2) rfl, rfl⟩) rfl
theorem kw_532 : Cond.code ({ cls := "SeedBenchModel", name := "areNeighbours", desc := "(III)Z" } : MethodName) prog_12_method_63_code (3 : Nat) (Option.some FieldType.boolean) ∈ gT := gm_6 (List.mem_of_getElem? (i := 75) rfl) rfl
theorem kw_533 : Cond.methodLink "SeedBenchModel" (317 : Nat) ({ cls := "SeedBenchModel", name := "areNeighbours", desc := "(III)Z" } : MethodName) ∈ gT := gm_6 (List.mem_of_getElem? (i := 73) rfl) rfl
theorem kw_534 : Cond.static ({ cls := "SeedBenchModel", name := "areNeighbours", desc := "(III)Z" } : MethodName) ∈ gT := gm_6 (List.mem_of_getElem? (i := 74) rfl) rfl
theorem kw_535 : Cond.code ({ cls := "SeedBenchModel", name := "lesser", desc := "(II)I" } : MethodName) prog_12_method_18_code (2 : Nat) (Option.some FieldType.int) ∈ gT := gm_5 (List.mem_of_getElem? (i := 199) rfl) rfl
theorem kw_536 : Cond.methodLink "SeedBenchModel" (228 : Nat) ({ cls := "SeedBenchModel", name := "lesser", desc := "(II)I" } : MethodName) ∈ gT := gm_5 (List.mem_of_getElem? (i := 197) rfl) rfl
theorem kw_537 : Cond.static ({ cls := "SeedBenchModel", name := "lesser", desc := "(II)I" } : MethodName) ∈ gT := gm_5 (List.mem_of_getElem? (i := 198) rfl) rfl
theorem kw_538 : Cond.code ({ cls := "SeedBenchModel", name := "greater", desc := "(II)I" } : MethodName) prog_12_method_19_code (2 : Nat) (Option.some FieldType.int) ∈ gT := gm_6 (List.mem_of_getElem? (i := 78) rfl) rfl
theorem kw_539 : Cond.methodLink "SeedBenchModel" (321 : Nat) ({ cls := "SeedBenchModel", name := "greater", desc := "(II)I" } : MethodName) ∈ gT := gm_6 (List.mem_of_getElem? (i := 76) rfl) rfl
theorem kw_540 : Cond.static ({ cls := "SeedBenchModel", name := "greater", desc := "(II)I" } : MethodName) ∈ gT := gm_6 (List.mem_of_getElem? (i := 77) rfl) rfl
theorem kw_541 : Cond.code ({ cls := "SeedBenchModel", name := "cross", desc := "(IIII)Z" } : MethodName) prog_12_method_64_code (4 : Nat) (Option.some FieldType.boolean) ∈ gT := gm_6 (List.mem_of_getElem? (i := 81) rfl) rfl
theorem kw_542 : Cond.methodLink "SeedBenchModel" (324 : Nat) ({ cls := "SeedBenchModel", name := "cross", desc := "(IIII)Z" } : MethodName) ∈ gT := gm_6 (List.mem_of_getElem? (i := 79) rfl) rfl
theorem kw_543 : Cond.static ({ cls := "SeedBenchModel", name := "cross", desc := "(IIII)Z" } : MethodName) ∈ gT := gm_6 (List.mem_of_getElem? (i := 80) rfl) rfl
theorem kw_544 : Cond.code ({ cls := "SeedBenchModel", name := "fences", desc := "(I)I" } : MethodName) prog_12_method_65_code (4 : Nat) (Option.some FieldType.int) ∈ gT := gm_6 (List.mem_of_getElem? (i := 85) rfl) rfl
theorem kw_545 : Cond.methodLink "SeedBenchModel" (328 : Nat) ({ cls := "SeedBenchModel", name := "fences", desc := "(I)I" } : MethodName) ∈ gT := gm_6 (List.mem_of_getElem? (i := 82) rfl) rfl
theorem kw_546 : Cond.instanceMethod ({ cls := "SeedBenchModel", name := "fences", desc := "(I)I" } : MethodName) ∈ gT := gm_6 (List.mem_of_getElem? (i := 84) rfl) rfl
theorem kw_547 : Cond.selects "SeedBenchModel" ⟨"SeedBenchModel", "fences", "(I)I"⟩ ⟨"SeedBenchModel", "fences", "(I)I"⟩ ∈ gT := gs_5 (List.mem_map.mpr ⟨(⟨"SeedBenchModel", "fences", "(I)I"⟩, 58), List.mem_of_getElem? (i := 3) rfl, rfl⟩) rfl
theorem kw_548 : Cond.code ({ cls := "SeedBenchModel", name := "searches", desc := "()I" } : MethodName) prog_12_method_55_code (8 : Nat) (Option.some FieldType.int) ∈ gT := gm_6 (List.mem_of_getElem? (i := 24) rfl) rfl
theorem kw_549 : Cond.methodLink "SeedBenchModel" (296 : Nat) ({ cls := "SeedBenchModel", name := "searches", desc := "()I" } : MethodName) ∈ gT := gm_6 (List.mem_of_getElem? (i := 21) rfl) rfl
theorem kw_550 : Cond.instanceMethod ({ cls := "SeedBenchModel", name := "searches", desc := "()I" } : MethodName) ∈ gT := gm_6 (List.mem_of_getElem? (i := 23) rfl) rfl
theorem kw_551 : Cond.selects "SeedBenchModel" ⟨"SeedBenchModel", "searches", "()I"⟩ ⟨"SeedBenchModel", "searches", "()I"⟩ ∈ gT := gs_4 (List.mem_map.mpr ⟨(⟨"SeedBenchModel", "searches", "()I"⟩, 58), List.mem_of_getElem? (i := 12) rfl, rfl⟩) rfl
theorem kw_552 : Cond.code ({ cls := "SeedBenchModel", name := "one", desc := "(I)V" } : MethodName) prog_12_method_8_code (3 : Nat) (Option.none : Option FieldType) ∈ gT := gm_4 (List.mem_of_getElem? (i := 146) rfl) rfl
theorem kw_553 : Cond.methodLink "SeedBenchModel" (175 : Nat) ({ cls := "SeedBenchModel", name := "one", desc := "(I)V" } : MethodName) ∈ gT := gm_4 (List.mem_of_getElem? (i := 143) rfl) rfl
theorem kw_554 : Cond.instanceMethod ({ cls := "SeedBenchModel", name := "one", desc := "(I)V" } : MethodName) ∈ gT := gm_4 (List.mem_of_getElem? (i := 145) rfl) rfl
theorem kw_555 : Cond.selects "SeedBenchModel" ⟨"SeedBenchModel", "one", "(I)V"⟩ ⟨"SeedBenchModel", "one", "(I)V"⟩ ∈ gT := gs_3 (List.mem_map.mpr ⟨(⟨"SeedBenchModel", "one", "(I)V"⟩, 58), List.mem_of_getElem? (i := 1) rfl, rfl⟩) rfl
theorem kw_556 : Cond.code ({ cls := "SeedBenchModel", name := "isCutting", desc := "(I)Z" } : MethodName) prog_12_method_67_code (2 : Nat) (Option.some FieldType.boolean) ∈ gT := gm_6 (List.mem_of_getElem? (i := 93) rfl) rfl
theorem kw_557 : Cond.methodLink "SeedBenchModel" (338 : Nat) ({ cls := "SeedBenchModel", name := "isCutting", desc := "(I)Z" } : MethodName) ∈ gT := gm_6 (List.mem_of_getElem? (i := 90) rfl) rfl
theorem kw_558 : Cond.instanceMethod ({ cls := "SeedBenchModel", name := "isCutting", desc := "(I)Z" } : MethodName) ∈ gT := gm_6 (List.mem_of_getElem? (i := 92) rfl) rfl
theorem kw_559 : Cond.selects "SeedBenchModel" ⟨"SeedBenchModel", "isCutting", "(I)Z"⟩ ⟨"SeedBenchModel", "isCutting", "(I)Z"⟩ ∈ gT := gs_5 (List.mem_map.mpr ⟨(⟨"SeedBenchModel", "isCutting", "(I)Z"⟩, 58), List.mem_of_getElem? (i := 4) rfl, rfl⟩) rfl
theorem kw_560 : Cond.code ({ cls := "SeedBenchModel", name := "flips", desc := "(II)I" } : MethodName) prog_12_method_70_code (4 : Nat) (Option.some FieldType.int) ∈ gT := gm_6 (List.mem_of_getElem? (i := 97) rfl) rfl
theorem kw_561 : Cond.methodLink "SeedBenchModel" (341 : Nat) ({ cls := "SeedBenchModel", name := "flips", desc := "(II)I" } : MethodName) ∈ gT := gm_6 (List.mem_of_getElem? (i := 94) rfl) rfl
theorem kw_562 : Cond.instanceMethod ({ cls := "SeedBenchModel", name := "flips", desc := "(II)I" } : MethodName) ∈ gT := gm_6 (List.mem_of_getElem? (i := 96) rfl) rfl
theorem kw_563 : Cond.selects "SeedBenchModel" ⟨"SeedBenchModel", "flips", "(II)I"⟩ ⟨"SeedBenchModel", "flips", "(II)I"⟩ ∈ gT := gs_5 (List.mem_map.mpr ⟨(⟨"SeedBenchModel", "flips", "(II)I"⟩, 58), List.mem_of_getElem? (i := 5) rfl, rfl⟩) rfl
theorem kw_564 : Cond.code ({ cls := "SeedBenchModel", name := "named", desc := "(I)I" } : MethodName) prog_12_method_71_code (1 : Nat) (Option.some FieldType.int) ∈ gT := gm_6 (List.mem_of_getElem? (i := 108) rfl) rfl
theorem kw_565 : Cond.methodLink "SeedBenchModel" (344 : Nat) ({ cls := "SeedBenchModel", name := "named", desc := "(I)I" } : MethodName) ∈ gT := gm_6 (List.mem_of_getElem? (i := 106) rfl) rfl
theorem kw_566 : Cond.static ({ cls := "SeedBenchModel", name := "named", desc := "(I)I" } : MethodName) ∈ gT := gm_6 (List.mem_of_getElem? (i := 107) rfl) rfl
theorem kw_567 : Cond.code ({ cls := "SeedBenchModel", name := "other", desc := "(III)I" } : MethodName) prog_12_method_69_code (7 : Nat) (Option.some FieldType.int) ∈ gT := gm_6 (List.mem_of_getElem? (i := 101) rfl) rfl
theorem kw_568 : Cond.methodLink "SeedBenchModel" (334 : Nat) ({ cls := "SeedBenchModel", name := "other", desc := "(III)I" } : MethodName) ∈ gT := gm_6 (List.mem_of_getElem? (i := 98) rfl) rfl
theorem kw_569 : Cond.instanceMethod ({ cls := "SeedBenchModel", name := "other", desc := "(III)I" } : MethodName) ∈ gT := gm_6 (List.mem_of_getElem? (i := 100) rfl) rfl
theorem kw_570 : Cond.selects "SeedBenchModel" ⟨"SeedBenchModel", "other", "(III)I"⟩ ⟨"SeedBenchModel", "other", "(III)I"⟩ ∈ gT := gs_5 (List.mem_map.mpr ⟨(⟨"SeedBenchModel", "other", "(III)I"⟩, 58), List.mem_of_getElem? (i := 6) rfl, rfl⟩) rfl
theorem kw_571 : Cond.code ({ cls := "SeedBenchModel", name := "thirds", desc := "(II)I" } : MethodName) prog_12_method_73_code (5 : Nat) (Option.some FieldType.int) ∈ gT := gm_6 (List.mem_of_getElem? (i := 116) rfl) rfl
theorem kw_572 : Cond.methodLink "SeedBenchModel" (347 : Nat) ({ cls := "SeedBenchModel", name := "thirds", desc := "(II)I" } : MethodName) ∈ gT := gm_6 (List.mem_of_getElem? (i := 113) rfl) rfl
theorem kw_573 : Cond.instanceMethod ({ cls := "SeedBenchModel", name := "thirds", desc := "(II)I" } : MethodName) ∈ gT := gm_6 (List.mem_of_getElem? (i := 115) rfl) rfl
theorem kw_574 : Cond.selects "SeedBenchModel" ⟨"SeedBenchModel", "thirds", "(II)I"⟩ ⟨"SeedBenchModel", "thirds", "(II)I"⟩ ∈ gT := gs_5 (List.mem_map.mpr ⟨(⟨"SeedBenchModel", "thirds", "(II)I"⟩, 58), List.mem_of_getElem? (i := 8) rfl, rfl⟩) rfl
theorem kw_575 : Cond.code ({ cls := "SeedBenchModel", name := "letterOf", desc := "(I)I" } : MethodName) prog_12_method_43_code (3 : Nat) (Option.some FieldType.int) ∈ gT := gm_5 (List.mem_of_getElem? (i := 235) rfl) rfl
theorem kw_576 : Cond.methodLink "SeedBenchModel" (248 : Nat) ({ cls := "SeedBenchModel", name := "letterOf", desc := "(I)I" } : MethodName) ∈ gT := gm_5 (List.mem_of_getElem? (i := 232) rfl) rfl
theorem kw_577 : Cond.instanceMethod ({ cls := "SeedBenchModel", name := "letterOf", desc := "(I)I" } : MethodName) ∈ gT := gm_5 (List.mem_of_getElem? (i := 234) rfl) rfl
theorem kw_578 : Cond.selects "SeedBenchModel" ⟨"SeedBenchModel", "letterOf", "(I)I"⟩ ⟨"SeedBenchModel", "letterOf", "(I)I"⟩ ∈ gT := gs_4 (List.mem_map.mpr ⟨(⟨"SeedBenchModel", "letterOf", "(I)I"⟩, 58), List.mem_of_getElem? (i := 7) rfl, rfl⟩) rfl
theorem kw_579 : Cond.code ({ cls := "SeedBenchModel", name := "comes", desc := "()Z" } : MethodName) prog_12_method_45_code (2 : Nat) (Option.some FieldType.boolean) ∈ gT := gm_5 (List.mem_of_getElem? (i := 239) rfl) rfl
theorem kw_580 : Cond.methodLink "SeedBenchModel" (251 : Nat) ({ cls := "SeedBenchModel", name := "comes", desc := "()Z" } : MethodName) ∈ gT := gm_5 (List.mem_of_getElem? (i := 236) rfl) rfl
theorem kw_581 : Cond.instanceMethod ({ cls := "SeedBenchModel", name := "comes", desc := "()Z" } : MethodName) ∈ gT := gm_5 (List.mem_of_getElem? (i := 238) rfl) rfl
theorem kw_582 : Cond.selects "SeedBenchModel" ⟨"SeedBenchModel", "comes", "()Z"⟩ ⟨"SeedBenchModel", "comes", "()Z"⟩ ∈ gT := gs_4 (List.mem_map.mpr ⟨(⟨"SeedBenchModel", "comes", "()Z"⟩, 58), List.mem_of_getElem? (i := 8) rfl, rfl⟩) rfl
theorem kw_583 : Cond.code ({ cls := "SeedBenchModel", name := "takes", desc := "(I)V" } : MethodName) prog_12_method_46_code (3 : Nat) (Option.none : Option FieldType) ∈ gT := gm_6 (List.mem_of_getElem? (i := 3) rfl) rfl
theorem kw_584 : Cond.methodLink "SeedBenchModel" (254 : Nat) ({ cls := "SeedBenchModel", name := "takes", desc := "(I)V" } : MethodName) ∈ gT := gm_6 (List.mem_of_getElem? (i := 0) rfl) rfl
theorem kw_585 : Cond.instanceMethod ({ cls := "SeedBenchModel", name := "takes", desc := "(I)V" } : MethodName) ∈ gT := gm_6 (List.mem_of_getElem? (i := 2) rfl) rfl
theorem kw_586 : Cond.selects "SeedBenchModel" ⟨"SeedBenchModel", "takes", "(I)V"⟩ ⟨"SeedBenchModel", "takes", "(I)V"⟩ ∈ gT := gs_4 (List.mem_map.mpr ⟨(⟨"SeedBenchModel", "takes", "(I)V"⟩, 58), List.mem_of_getElem? (i := 9) rfl, rfl⟩) rfl
theorem kw_587 : Cond.code ({ cls := "SeedBenchModel", name := "isThere", desc := "()Z" } : MethodName) prog_12_method_44_code (6 : Nat) (Option.some FieldType.boolean) ∈ gT := gm_6 (List.mem_of_getElem? (i := 7) rfl) rfl
theorem kw_588 : Cond.methodLink "SeedBenchModel" (257 : Nat) ({ cls := "SeedBenchModel", name := "isThere", desc := "()Z" } : MethodName) ∈ gT := gm_6 (List.mem_of_getElem? (i := 4) rfl) rfl
theorem kw_589 : Cond.instanceMethod ({ cls := "SeedBenchModel", name := "isThere", desc := "()Z" } : MethodName) ∈ gT := gm_6 (List.mem_of_getElem? (i := 6) rfl) rfl
theorem kw_590 : Cond.selects "SeedBenchModel" ⟨"SeedBenchModel", "isThere", "()Z"⟩ ⟨"SeedBenchModel", "isThere", "()Z"⟩ ∈ gT := gs_4 (List.mem_map.mpr ⟨(⟨"SeedBenchModel", "isThere", "()Z"⟩, 58), List.mem_of_getElem? (i := 10) rfl, rfl⟩) rfl
theorem kw_591 : Cond.code ({ cls := "SeedBenchModel", name := "without", desc := "(I)I" } : MethodName) prog_12_method_17_code (1 : Nat) (Option.some FieldType.int) ∈ gT := gm_5 (List.mem_of_getElem? (i := 103) rfl) rfl
theorem kw_592 : Cond.methodLink "SeedBenchModel" (190 : Nat) ({ cls := "SeedBenchModel", name := "without", desc := "(I)I" } : MethodName) ∈ gT := gm_5 (List.mem_of_getElem? (i := 101) rfl) rfl
theorem kw_593 : Cond.static ({ cls := "SeedBenchModel", name := "without", desc := "(I)I" } : MethodName) ∈ gT := gm_5 (List.mem_of_getElem? (i := 102) rfl) rfl
theorem kw_594 : Cond.code ({ cls := "SeedBenchModel", name := "common", desc := "(JJ)J" } : MethodName) prog_12_method_20_code (10 : Nat) (Option.some FieldType.long) ∈ gT := gm_5 (List.mem_of_getElem? (i := 106) rfl) rfl
theorem kw_595 : Cond.methodLink "SeedBenchModel" (193 : Nat) ({ cls := "SeedBenchModel", name := "common", desc := "(JJ)J" } : MethodName) ∈ gT := gm_5 (List.mem_of_getElem? (i := 104) rfl) rfl
theorem kw_596 : Cond.static ({ cls := "SeedBenchModel", name := "common", desc := "(JJ)J" } : MethodName) ∈ gT := gm_5 (List.mem_of_getElem? (i := 105) rfl) rfl
theorem kw_597 : Cond.code ({ cls := "SeedBenchModel", name := "group", desc := "(I)V" } : MethodName) prog_12_method_22_code (11 : Nat) (Option.none : Option FieldType) ∈ gT := gm_5 (List.mem_of_getElem? (i := 100) rfl) rfl
theorem kw_598 : Cond.methodLink "SeedBenchModel" (187 : Nat) ({ cls := "SeedBenchModel", name := "group", desc := "(I)V" } : MethodName) ∈ gT := gm_5 (List.mem_of_getElem? (i := 97) rfl) rfl
theorem kw_599 : Cond.instanceMethod ({ cls := "SeedBenchModel", name := "group", desc := "(I)V" } : MethodName) ∈ gT := gm_5 (List.mem_of_getElem? (i := 99) rfl) rfl
theorem kw_600 : Cond.selects "SeedBenchModel" ⟨"SeedBenchModel", "group", "(I)V"⟩ ⟨"SeedBenchModel", "group", "(I)V"⟩ ∈ gT := gs_3 (List.mem_map.mpr ⟨(⟨"SeedBenchModel", "group", "(I)V"⟩, 58), List.mem_of_getElem? (i := 3) rfl, rfl⟩) rfl
theorem kw_601 : Cond.methodLink "SeedBenchModel" (7 : Nat) ({ cls := "java/lang/Object", name := "<init>", desc := "()V" } : MethodName) ∈ gT := gm_4 (List.mem_of_getElem? (i := 136) rfl) rfl
theorem kw_602 : Cond.fieldLink "SeedBenchModel" (13 : Nat) "SeedBenchModel" "many" "[I" ∈ gT := gm_4 (List.mem_of_getElem? (i := 147) rfl) rfl
theorem kw_603 : Cond.fieldLink "SeedBenchModel" (17 : Nat) "SeedBenchModel" "num" "[J" ∈ gT := gm_4 (List.mem_of_getElem? (i := 148) rfl) rfl
theorem kw_604 : Cond.constant "SeedBenchModel" (21 : Nat) (364800 : Int32) ∈ gT := gm_4 (List.mem_of_getElem? (i := 137) rfl) rfl
theorem kw_605 : Cond.fieldLink "SeedBenchModel" (22 : Nat) "SeedBenchModel" "power" "[I" ∈ gT := gm_4 (List.mem_of_getElem? (i := 149) rfl) rfl
theorem kw_606 : Cond.fieldLink "SeedBenchModel" (25 : Nat) "SeedBenchModel" "powers" "[I" ∈ gT := gm_4 (List.mem_of_getElem? (i := 152) rfl) rfl
theorem kw_607 : Cond.fieldLink "SeedBenchModel" (28 : Nat) "SeedBenchModel" "arrow" "[I" ∈ gT := gm_4 (List.mem_of_getElem? (i := 155) rfl) rfl
theorem kw_608 : Cond.fieldLink "SeedBenchModel" (31 : Nat) "SeedBenchModel" "turnedAt" "[I" ∈ gT := gm_4 (List.mem_of_getElem? (i := 157) rfl) rfl
theorem kw_609 : Cond.fieldLink "SeedBenchModel" (34 : Nat) "SeedBenchModel" "told" "[I" ∈ gT := gm_4 (List.mem_of_getElem? (i := 160) rfl) rfl
theorem kw_610 : Cond.fieldLink "SeedBenchModel" (37 : Nat) "SeedBenchModel" "sizeUp" "[J" ∈ gT := gm_4 (List.mem_of_getElem? (i := 161) rfl) rfl
theorem kw_611 : Cond.fieldLink "SeedBenchModel" (40 : Nat) "SeedBenchModel" "sizeLow" "[J" ∈ gT := gm_4 (List.mem_of_getElem? (i := 162) rfl) rfl
theorem kw_612 : Cond.fieldLink "SeedBenchModel" (43 : Nat) "SeedBenchModel" "sizes" "[I" ∈ gT := gm_4 (List.mem_of_getElem? (i := 163) rfl) rfl
theorem kw_613 : Cond.fieldLink "SeedBenchModel" (46 : Nat) "SeedBenchModel" "inGroup" "[Z" ∈ gT := gm_4 (List.mem_of_getElem? (i := 164) rfl) rfl
theorem kw_614 : Cond.fieldLink "SeedBenchModel" (50 : Nat) "SeedBenchModel" "next" "[I" ∈ gT := gm_4 (List.mem_of_getElem? (i := 165) rfl) rfl
theorem kw_615 : Cond.fieldLink "SeedBenchModel" (53 : Nat) "SeedBenchModel" "keptPlaces" "[I" ∈ gT := gm_4 (List.mem_of_getElem? (i := 166) rfl) rfl
theorem kw_616 : Cond.fieldLink "SeedBenchModel" (56 : Nat) "SeedBenchModel" "keptHeld" "[I" ∈ gT := gm_4 (List.mem_of_getElem? (i := 167) rfl) rfl
theorem kw_617 : Cond.fieldLink "SeedBenchModel" (59 : Nat) "SeedBenchModel" "keptArrow" "[I" ∈ gT := gm_4 (List.mem_of_getElem? (i := 168) rfl) rfl
theorem kw_618 : Cond.fieldLink "SeedBenchModel" (62 : Nat) "SeedBenchModel" "order" "[I" ∈ gT := gm_4 (List.mem_of_getElem? (i := 169) rfl) rfl
theorem kw_619 : Cond.fieldLink "SeedBenchModel" (65 : Nat) "SeedBenchModel" "seedLetter" "[I" ∈ gT := gm_4 (List.mem_of_getElem? (i := 173) rfl) rfl
theorem kw_620 : Cond.fieldLink "SeedBenchModel" (68 : Nat) "SeedBenchModel" "seedArrow" "[I" ∈ gT := gm_4 (List.mem_of_getElem? (i := 174) rfl) rfl
theorem kw_621 : Cond.fieldLink "SeedBenchModel" (71 : Nat) "SeedBenchModel" "allTerms" "[I" ∈ gT := gm_4 (List.mem_of_getElem? (i := 177) rfl) rfl
theorem kw_622 : Cond.fieldLink "SeedBenchModel" (74 : Nat) "SeedBenchModel" "allSum" "[J" ∈ gT := gm_4 (List.mem_of_getElem? (i := 178) rfl) rfl
theorem kw_623 : Cond.fieldLink "SeedBenchModel" (77 : Nat) "SeedBenchModel" "allLeast" "[I" ∈ gT := gm_4 (List.mem_of_getElem? (i := 179) rfl) rfl
theorem kw_624 : Cond.fieldLink "SeedBenchModel" (80 : Nat) "SeedBenchModel" "savedArrow" "[I" ∈ gT := gm_4 (List.mem_of_getElem? (i := 180) rfl) rfl
theorem kw_625 : Cond.fieldLink "SeedBenchModel" (83 : Nat) "SeedBenchModel" "these" "[I" ∈ gT := gm_4 (List.mem_of_getElem? (i := 181) rfl) rfl
theorem kw_626 : Cond.constant "SeedBenchModel" (86 : Nat) (108000 : Int32) ∈ gT := gm_4 (List.mem_of_getElem? (i := 138) rfl) rfl
theorem kw_627 : Cond.fieldLink "SeedBenchModel" (87 : Nat) "SeedBenchModel" "tableRow" "[I" ∈ gT := gm_4 (List.mem_of_getElem? (i := 183) rfl) rfl
theorem kw_628 : Cond.fieldLink "SeedBenchModel" (90 : Nat) "SeedBenchModel" "tableFrom" "[I" ∈ gT := gm_4 (List.mem_of_getElem? (i := 184) rfl) rfl
theorem kw_629 : Cond.fieldLink "SeedBenchModel" (93 : Nat) "SeedBenchModel" "tableBy" "[I" ∈ gT := gm_4 (List.mem_of_getElem? (i := 185) rfl) rfl
theorem kw_630 : Cond.fieldLink "SeedBenchModel" (96 : Nat) "SeedBenchModel" "steps" "[I" ∈ gT := gm_4 (List.mem_of_getElem? (i := 189) rfl) rfl
theorem kw_631 : Cond.fieldLink "SeedBenchModel" (99 : Nat) "SeedBenchModel" "tableHead" "[I" ∈ gT := gm_4 (List.mem_of_getElem? (i := 190) rfl) rfl
theorem kw_632 : Cond.fieldLink "SeedBenchModel" (102 : Nat) "SeedBenchModel" "tableLink" "[I" ∈ gT := gm_4 (List.mem_of_getElem? (i := 191) rfl) rfl
theorem kw_633 : Cond.fieldLink "SeedBenchModel" (105 : Nat) "SeedBenchModel" "rowPlace" "[I" ∈ gT := gm_4 (List.mem_of_getElem? (i := 193) rfl) rfl
theorem kw_634 : Cond.fieldLink "SeedBenchModel" (108 : Nat) "SeedBenchModel" "corners" "[I" ∈ gT := gm_4 (List.mem_of_getElem? (i := 194) rfl) rfl
theorem kw_635 : Cond.fieldLink "SeedBenchModel" (111 : Nat) "SeedBenchModel" "fence" "[Z" ∈ gT := gm_4 (List.mem_of_getElem? (i := 195) rfl) rfl
theorem kw_636 : Cond.fieldLink "SeedBenchModel" (114 : Nat) "SeedBenchModel" "fenceBit" "[I" ∈ gT := gm_4 (List.mem_of_getElem? (i := 196) rfl) rfl
theorem kw_637 : Cond.fieldLink "SeedBenchModel" (117 : Nat) "SeedBenchModel" "bitFence" "[I" ∈ gT := gm_4 (List.mem_of_getElem? (i := 197) rfl) rfl
theorem kw_638 : Cond.fieldLink "SeedBenchModel" (120 : Nat) "SeedBenchModel" "cuttings" "[J" ∈ gT := gm_4 (List.mem_of_getElem? (i := 198) rfl) rfl
theorem kw_639 : Cond.fieldLink "SeedBenchModel" (123 : Nat) "SeedBenchModel" "far" "[I" ∈ gT := gm_4 (List.mem_of_getElem? (i := 199) rfl) rfl
theorem kw_640 : Cond.fieldLink "SeedBenchModel" (126 : Nat) "SeedBenchModel" "wayFence" "[I" ∈ gT := gm_4 (List.mem_of_getElem? (i := 202) rfl) rfl
theorem kw_641 : Cond.fieldLink "SeedBenchModel" (129 : Nat) "SeedBenchModel" "savedFence" "[Z" ∈ gT := gm_4 (List.mem_of_getElem? (i := 203) rfl) rfl
theorem kw_642 : Cond.fieldLink "SeedBenchModel" (132 : Nat) "SeedBenchModel" "places" "I" ∈ gT := gm_4 (List.mem_of_getElem? (i := 153) rfl) rfl
theorem kw_643 : Cond.code ({ cls := "SeedBenchModel", name := "areAlike", desc := "(II)Z" } : MethodName) prog_12_method_4_code (5 : Nat) (Option.some FieldType.boolean) ∈ gT := gm_5 (List.mem_of_getElem? (i := 219) rfl) rfl
theorem kw_644 : Cond.methodLink "SeedBenchModel" (238 : Nat) ({ cls := "SeedBenchModel", name := "areAlike", desc := "(II)Z" } : MethodName) ∈ gT := gm_5 (List.mem_of_getElem? (i := 216) rfl) rfl
theorem kw_645 : Cond.instanceMethod ({ cls := "SeedBenchModel", name := "areAlike", desc := "(II)Z" } : MethodName) ∈ gT := gm_5 (List.mem_of_getElem? (i := 218) rfl) rfl
theorem kw_646 : Cond.selects "SeedBenchModel" ⟨"SeedBenchModel", "areAlike", "(II)Z"⟩ ⟨"SeedBenchModel", "areAlike", "(II)Z"⟩ ∈ gT := gs_4 (List.mem_map.mpr ⟨(⟨"SeedBenchModel", "areAlike", "(II)Z"⟩, 58), List.mem_of_getElem? (i := 4) rfl, rfl⟩) rfl
theorem kw_647 : Cond.code ({ cls := "SeedBenchModel", name := "copy", desc := "(II)V" } : MethodName) prog_12_method_3_code (5 : Nat) (Option.none : Option FieldType) ∈ gT := gm_5 (List.mem_of_getElem? (i := 156) rfl) rfl
theorem kw_648 : Cond.methodLink "SeedBenchModel" (164 : Nat) ({ cls := "SeedBenchModel", name := "copy", desc := "(II)V" } : MethodName) ∈ gT := gm_5 (List.mem_of_getElem? (i := 153) rfl) rfl
theorem kw_649 : Cond.instanceMethod ({ cls := "SeedBenchModel", name := "copy", desc := "(II)V" } : MethodName) ∈ gT := gm_5 (List.mem_of_getElem? (i := 155) rfl) rfl
theorem kw_650 : Cond.selects "SeedBenchModel" ⟨"SeedBenchModel", "copy", "(II)V"⟩ ⟨"SeedBenchModel", "copy", "(II)V"⟩ ∈ gT := gs_3 (List.mem_map.mpr ⟨(⟨"SeedBenchModel", "copy", "(II)V"⟩, 58), List.mem_of_getElem? (i := 13) rfl, rfl⟩) rfl
theorem kw_651 : Cond.code ({ cls := "SeedBenchModel", name := "isBegun", desc := "()Z" } : MethodName) prog_12_method_60_code (4 : Nat) (Option.some FieldType.boolean) ∈ gT := gm_6 (List.mem_of_getElem? (i := 60) rfl) rfl
theorem kw_652 : Cond.methodLink "SeedBenchModel" (311 : Nat) ({ cls := "SeedBenchModel", name := "isBegun", desc := "()Z" } : MethodName) ∈ gT := gm_6 (List.mem_of_getElem? (i := 57) rfl) rfl
theorem kw_653 : Cond.instanceMethod ({ cls := "SeedBenchModel", name := "isBegun", desc := "()Z" } : MethodName) ∈ gT := gm_6 (List.mem_of_getElem? (i := 59) rfl) rfl
theorem kw_654 : Cond.selects "SeedBenchModel" ⟨"SeedBenchModel", "isBegun", "()Z"⟩ ⟨"SeedBenchModel", "isBegun", "()Z"⟩ ∈ gT := gs_5 (List.mem_map.mpr ⟨(⟨"SeedBenchModel", "isBegun", "()Z"⟩, 58), List.mem_of_getElem? (i := 1) rfl, rfl⟩) rfl
theorem kw_655 : Cond.code ({ cls := "SeedBenchModel", name := "isSide", desc := "(III)Z" } : MethodName) prog_12_method_68_code (4 : Nat) (Option.some FieldType.boolean) ∈ gT := gm_6 (List.mem_of_getElem? (i := 105) rfl) rfl
theorem kw_656 : Cond.methodLink "SeedBenchModel" (331 : Nat) ({ cls := "SeedBenchModel", name := "isSide", desc := "(III)Z" } : MethodName) ∈ gT := gm_6 (List.mem_of_getElem? (i := 102) rfl) rfl
theorem kw_657 : Cond.instanceMethod ({ cls := "SeedBenchModel", name := "isSide", desc := "(III)Z" } : MethodName) ∈ gT := gm_6 (List.mem_of_getElem? (i := 104) rfl) rfl
theorem kw_658 : Cond.selects "SeedBenchModel" ⟨"SeedBenchModel", "isSide", "(III)Z"⟩ ⟨"SeedBenchModel", "isSide", "(III)Z"⟩ ∈ gT := gs_5 (List.mem_map.mpr ⟨(⟨"SeedBenchModel", "isSide", "(III)Z"⟩, 58), List.mem_of_getElem? (i := 7) rfl, rfl⟩) rfl
theorem kw_659 : Cond.code ({ cls := "SeedBenchModel", name := "less", desc := "(IIJ)V" } : MethodName) prog_12_method_12_code (7 : Nat) (Option.none : Option FieldType) ∈ gT := gm_5 (List.mem_of_getElem? (i := 168) rfl) rfl
theorem kw_660 : Cond.methodLink "SeedBenchModel" (168 : Nat) ({ cls := "SeedBenchModel", name := "less", desc := "(IIJ)V" } : MethodName) ∈ gT := gm_5 (List.mem_of_getElem? (i := 165) rfl) rfl
theorem kw_661 : Cond.instanceMethod ({ cls := "SeedBenchModel", name := "less", desc := "(IIJ)V" } : MethodName) ∈ gT := gm_5 (List.mem_of_getElem? (i := 167) rfl) rfl
theorem kw_662 : Cond.selects "SeedBenchModel" ⟨"SeedBenchModel", "less", "(IIJ)V"⟩ ⟨"SeedBenchModel", "less", "(IIJ)V"⟩ ∈ gT := gs_4 (List.mem_map.mpr ⟨(⟨"SeedBenchModel", "less", "(IIJ)V"⟩, 58), List.mem_of_getElem? (i := 0) rfl, rfl⟩) rfl
theorem kw_663 : Cond.code ({ cls := "SeedBenchModel", name := "turnRound", desc := "(I)V" } : MethodName) prog_12_method_13_code (8 : Nat) (Option.none : Option FieldType) ∈ gT := gm_5 (List.mem_of_getElem? (i := 172) rfl) rfl
theorem kw_664 : Cond.methodLink "SeedBenchModel" (172 : Nat) ({ cls := "SeedBenchModel", name := "turnRound", desc := "(I)V" } : MethodName) ∈ gT := gm_5 (List.mem_of_getElem? (i := 169) rfl) rfl
theorem kw_665 : Cond.instanceMethod ({ cls := "SeedBenchModel", name := "turnRound", desc := "(I)V" } : MethodName) ∈ gT := gm_5 (List.mem_of_getElem? (i := 171) rfl) rfl
theorem kw_666 : Cond.selects "SeedBenchModel" ⟨"SeedBenchModel", "turnRound", "(I)V"⟩ ⟨"SeedBenchModel", "turnRound", "(I)V"⟩ ∈ gT := gs_4 (List.mem_map.mpr ⟨(⟨"SeedBenchModel", "turnRound", "(I)V"⟩, 58), List.mem_of_getElem? (i := 1) rfl, rfl⟩) rfl
theorem kw_667 : Cond.code ({ cls := "SeedBenchModel", name := "heldSlot", desc := "(I)I" } : MethodName) prog_12_method_27_code (2 : Nat) (Option.some FieldType.int) ∈ gT := gm_5 (List.mem_of_getElem? (i := 130) rfl) rfl
theorem kw_668 : Cond.methodLink "SeedBenchModel" (208 : Nat) ({ cls := "SeedBenchModel", name := "heldSlot", desc := "(I)I" } : MethodName) ∈ gT := gm_5 (List.mem_of_getElem? (i := 127) rfl) rfl
theorem kw_669 : Cond.instanceMethod ({ cls := "SeedBenchModel", name := "heldSlot", desc := "(I)I" } : MethodName) ∈ gT := gm_5 (List.mem_of_getElem? (i := 129) rfl) rfl
theorem kw_670 : Cond.selects "SeedBenchModel" ⟨"SeedBenchModel", "heldSlot", "(I)I"⟩ ⟨"SeedBenchModel", "heldSlot", "(I)I"⟩ ∈ gT := gs_3 (List.mem_map.mpr ⟨(⟨"SeedBenchModel", "heldSlot", "(I)I"⟩, 58), List.mem_of_getElem? (i := 7) rfl, rfl⟩) rfl
theorem kw_671 : Cond.code ({ cls := "SeedBenchModel", name := "timesOften", desc := "(IIII)V" } : MethodName) prog_12_method_10_code (7 : Nat) (Option.none : Option FieldType) ∈ gT := gm_5 (List.mem_of_getElem? (i := 135) rfl) rfl
theorem kw_672 : Cond.methodLink "SeedBenchModel" (211 : Nat) ({ cls := "SeedBenchModel", name := "timesOften", desc := "(IIII)V" } : MethodName) ∈ gT := gm_5 (List.mem_of_getElem? (i := 132) rfl) rfl
theorem kw_673 : Cond.instanceMethod ({ cls := "SeedBenchModel", name := "timesOften", desc := "(IIII)V" } : MethodName) ∈ gT := gm_5 (List.mem_of_getElem? (i := 134) rfl) rfl
theorem kw_674 : Cond.selects "SeedBenchModel" ⟨"SeedBenchModel", "timesOften", "(IIII)V"⟩ ⟨"SeedBenchModel", "timesOften", "(IIII)V"⟩ ∈ gT := gs_3 (List.mem_map.mpr ⟨(⟨"SeedBenchModel", "timesOften", "(IIII)V"⟩, 58), List.mem_of_getElem? (i := 8) rfl, rfl⟩) rfl
theorem kw_675 : Cond.code ({ cls := "SeedBenchModel", name := "fenceAt", desc := "(II)I" } : MethodName) prog_12_method_74_code (5 : Nat) (Option.some FieldType.int) ∈ gT := gm_6 (List.mem_of_getElem? (i := 120) rfl) rfl
theorem kw_676 : Cond.methodLink "SeedBenchModel" (350 : Nat) ({ cls := "SeedBenchModel", name := "fenceAt", desc := "(II)I" } : MethodName) ∈ gT := gm_6 (List.mem_of_getElem? (i := 117) rfl) rfl
theorem kw_677 : Cond.instanceMethod ({ cls := "SeedBenchModel", name := "fenceAt", desc := "(II)I" } : MethodName) ∈ gT := gm_6 (List.mem_of_getElem? (i := 119) rfl) rfl
theorem kw_678 : Cond.selects "SeedBenchModel" ⟨"SeedBenchModel", "fenceAt", "(II)I"⟩ ⟨"SeedBenchModel", "fenceAt", "(II)I"⟩ ∈ gT := gs_5 (List.mem_map.mpr ⟨(⟨"SeedBenchModel", "fenceAt", "(II)I"⟩, 58), List.mem_of_getElem? (i := 9) rfl, rfl⟩) rfl
theorem kw_679 : Cond.code ({ cls := "SeedBenchModel", name := "tells", desc := "(II)I" } : MethodName) prog_12_method_52_code (5 : Nat) (Option.some FieldType.int) ∈ gT := gm_6 (List.mem_of_getElem? (i := 28) rfl) rfl
theorem kw_680 : Cond.methodLink "SeedBenchModel" (302 : Nat) ({ cls := "SeedBenchModel", name := "tells", desc := "(II)I" } : MethodName) ∈ gT := gm_6 (List.mem_of_getElem? (i := 25) rfl) rfl
theorem kw_681 : Cond.instanceMethod ({ cls := "SeedBenchModel", name := "tells", desc := "(II)I" } : MethodName) ∈ gT := gm_6 (List.mem_of_getElem? (i := 27) rfl) rfl
theorem kw_682 : Cond.selects "SeedBenchModel" ⟨"SeedBenchModel", "tells", "(II)I"⟩ ⟨"SeedBenchModel", "tells", "(II)I"⟩ ∈ gT := gs_4 (List.mem_map.mpr ⟨(⟨"SeedBenchModel", "tells", "(II)I"⟩, 58), List.mem_of_getElem? (i := 13) rfl, rfl⟩) rfl
theorem kw_683 : Cond.code ({ cls := "SeedBenchModel", name := "turnsArrows", desc := "(I)Z" } : MethodName) prog_12_method_26_code (8 : Nat) (Option.some FieldType.boolean) ∈ gT := gm_5 (List.mem_of_getElem? (i := 160) rfl) rfl
theorem kw_684 : Cond.methodLink "SeedBenchModel" (218 : Nat) ({ cls := "SeedBenchModel", name := "turnsArrows", desc := "(I)Z" } : MethodName) ∈ gT := gm_5 (List.mem_of_getElem? (i := 157) rfl) rfl
theorem kw_685 : Cond.instanceMethod ({ cls := "SeedBenchModel", name := "turnsArrows", desc := "(I)Z" } : MethodName) ∈ gT := gm_5 (List.mem_of_getElem? (i := 159) rfl) rfl
theorem kw_686 : Cond.selects "SeedBenchModel" ⟨"SeedBenchModel", "turnsArrows", "(I)Z"⟩ ⟨"SeedBenchModel", "turnsArrows", "(I)Z"⟩ ∈ gT := gs_3 (List.mem_map.mpr ⟨(⟨"SeedBenchModel", "turnsArrows", "(I)Z"⟩, 58), List.mem_of_getElem? (i := 14) rfl, rfl⟩) rfl
theorem kw_687 : Cond.code ({ cls := "SeedBenchModel", name := "table", desc := "(II)Z" } : MethodName) prog_12_method_15_code (4 : Nat) (Option.some FieldType.boolean) ∈ gT := gm_5 (List.mem_of_getElem? (i := 84) rfl) rfl
theorem kw_688 : Cond.methodLink "SeedBenchModel" (370 : Nat) ({ cls := "SeedBenchModel", name := "table", desc := "(II)Z" } : MethodName) ∈ gT := gm_6 (List.mem_of_getElem? (i := 149) rfl) rfl
theorem kw_689 : Cond.instanceMethod ({ cls := "SeedBenchModel", name := "table", desc := "(II)Z" } : MethodName) ∈ gT := gm_5 (List.mem_of_getElem? (i := 82) rfl) rfl
theorem kw_690 : Cond.selects "SeedBenchModel" ({ cls := "SeedBenchModel", name := "table", desc := "(II)Z" } : MethodName) ({ cls := "SeedBenchModel", name := "table", desc := "(II)Z" } : MethodName) ∈ gT := gm_5 (List.mem_of_getElem? (i := 83) rfl) rfl
theorem kw_691 : Cond.code ({ cls := "SeedBenchModel", name := "placeOf", desc := "(III)I" } : MethodName) prog_12_method_82_code (7 : Nat) (Option.some FieldType.int) ∈ gT := gm_6 (List.mem_of_getElem? (i := 153) rfl) rfl
theorem kw_692 : Cond.methodLink "SeedBenchModel" (373 : Nat) ({ cls := "SeedBenchModel", name := "placeOf", desc := "(III)I" } : MethodName) ∈ gT := gm_6 (List.mem_of_getElem? (i := 150) rfl) rfl
theorem kw_693 : Cond.instanceMethod ({ cls := "SeedBenchModel", name := "placeOf", desc := "(III)I" } : MethodName) ∈ gT := gm_6 (List.mem_of_getElem? (i := 152) rfl) rfl
theorem kw_694 : Cond.selects "SeedBenchModel" ⟨"SeedBenchModel", "placeOf", "(III)I"⟩ ⟨"SeedBenchModel", "placeOf", "(III)I"⟩ ∈ gT := gs_5 (List.mem_map.mpr ⟨(⟨"SeedBenchModel", "placeOf", "(III)I"⟩, 58), List.mem_of_getElem? (i := 13) rfl, rfl⟩) rfl
theorem kw_695 : Cond.code ({ cls := "SeedBenchModel", name := "leads", desc := "(II)V" } : MethodName) prog_12_method_83_code (3 : Nat) (Option.none : Option FieldType) ∈ gT := gm_6 (List.mem_of_getElem? (i := 157) rfl) rfl
theorem kw_696 : Cond.methodLink "SeedBenchModel" (376 : Nat) ({ cls := "SeedBenchModel", name := "leads", desc := "(II)V" } : MethodName) ∈ gT := gm_6 (List.mem_of_getElem? (i := 154) rfl) rfl
theorem kw_697 : Cond.instanceMethod ({ cls := "SeedBenchModel", name := "leads", desc := "(II)V" } : MethodName) ∈ gT := gm_6 (List.mem_of_getElem? (i := 156) rfl) rfl
theorem kw_698 : Cond.selects "SeedBenchModel" ⟨"SeedBenchModel", "leads", "(II)V"⟩ ⟨"SeedBenchModel", "leads", "(II)V"⟩ ∈ gT := gs_5 (List.mem_map.mpr ⟨(⟨"SeedBenchModel", "leads", "(II)V"⟩, 58), List.mem_of_getElem? (i := 14) rfl, rfl⟩) rfl
theorem kw_699 : Cond.code ({ cls := "SeedBenchModel", name := "begin", desc := "()I" } : MethodName) prog_12_method_23_code (5 : Nat) (Option.some FieldType.int) ∈ gT := gm_5 (List.mem_of_getElem? (i := 92) rfl) rfl
theorem kw_700 : Cond.methodLink "SeedBenchModel" (379 : Nat) ({ cls := "SeedBenchModel", name := "begin", desc := "()I" } : MethodName) ∈ gT := gm_6 (List.mem_of_getElem? (i := 158) rfl) rfl
theorem kw_701 : Cond.instanceMethod ({ cls := "SeedBenchModel", name := "begin", desc := "()I" } : MethodName) ∈ gT := gm_5 (List.mem_of_getElem? (i := 90) rfl) rfl
theorem kw_702 : Cond.selects "SeedBenchModel" ({ cls := "SeedBenchModel", name := "begin", desc := "()I" } : MethodName) ({ cls := "SeedBenchModel", name := "begin", desc := "()I" } : MethodName) ∈ gT := gm_5 (List.mem_of_getElem? (i := 91) rfl) rfl
theorem kw_703 : Cond.code ({ cls := "SeedBenchModel", name := "tableHash", desc := "()I" } : MethodName) prog_12_method_53_code (3 : Nat) (Option.some FieldType.int) ∈ gT := gm_6 (List.mem_of_getElem? (i := 32) rfl) rfl
theorem kw_704 : Cond.methodLink "SeedBenchModel" (283 : Nat) ({ cls := "SeedBenchModel", name := "tableHash", desc := "()I" } : MethodName) ∈ gT := gm_6 (List.mem_of_getElem? (i := 29) rfl) rfl
theorem kw_705 : Cond.instanceMethod ({ cls := "SeedBenchModel", name := "tableHash", desc := "()I" } : MethodName) ∈ gT := gm_6 (List.mem_of_getElem? (i := 31) rfl) rfl
theorem kw_706 : Cond.selects "SeedBenchModel" ⟨"SeedBenchModel", "tableHash", "()I"⟩ ⟨"SeedBenchModel", "tableHash", "()I"⟩ ∈ gT := gs_4 (List.mem_map.mpr ⟨(⟨"SeedBenchModel", "tableHash", "()I"⟩, 58), List.mem_of_getElem? (i := 14) rfl, rfl⟩) rfl
theorem kw_707 : Cond.code ({ cls := "SeedBenchModel", name := "isTable", desc := "(I)Z" } : MethodName) prog_12_method_50_code (3 : Nat) (Option.some FieldType.boolean) ∈ gT := gm_6 (List.mem_of_getElem? (i := 36) rfl) rfl
theorem kw_708 : Cond.methodLink "SeedBenchModel" (287 : Nat) ({ cls := "SeedBenchModel", name := "isTable", desc := "(I)Z" } : MethodName) ∈ gT := gm_6 (List.mem_of_getElem? (i := 33) rfl) rfl
theorem kw_709 : Cond.instanceMethod ({ cls := "SeedBenchModel", name := "isTable", desc := "(I)Z" } : MethodName) ∈ gT := gm_6 (List.mem_of_getElem? (i := 35) rfl) rfl
theorem kw_710 : Cond.selects "SeedBenchModel" ⟨"SeedBenchModel", "isTable", "(I)Z"⟩ ⟨"SeedBenchModel", "isTable", "(I)Z"⟩ ∈ gT := gs_4 (List.mem_map.mpr ⟨(⟨"SeedBenchModel", "isTable", "(I)Z"⟩, 58), List.mem_of_getElem? (i := 15) rfl, rfl⟩) rfl
theorem kw_711 : Cond.code ({ cls := "SeedBenchModel", name := "isWild", desc := "()Z" } : MethodName) prog_12_method_51_code (3 : Nat) (Option.some FieldType.boolean) ∈ gT := gm_6 (List.mem_of_getElem? (i := 40) rfl) rfl
theorem kw_712 : Cond.methodLink "SeedBenchModel" (290 : Nat) ({ cls := "SeedBenchModel", name := "isWild", desc := "()Z" } : MethodName) ∈ gT := gm_6 (List.mem_of_getElem? (i := 37) rfl) rfl
theorem kw_713 : Cond.instanceMethod ({ cls := "SeedBenchModel", name := "isWild", desc := "()Z" } : MethodName) ∈ gT := gm_6 (List.mem_of_getElem? (i := 39) rfl) rfl
theorem kw_714 : Cond.selects "SeedBenchModel" ⟨"SeedBenchModel", "isWild", "()Z"⟩ ⟨"SeedBenchModel", "isWild", "()Z"⟩ ∈ gT := gs_5 (List.mem_map.mpr ⟨(⟨"SeedBenchModel", "isWild", "()Z"⟩, 58), List.mem_of_getElem? (i := 0) rfl, rfl⟩) rfl
theorem kw_715 : Cond.code ({ cls := "SeedBenchModel", name := "add", desc := "(I)V" } : MethodName) prog_12_method_7_code (5 : Nat) (Option.none : Option FieldType) ∈ gT := gm_5 (List.mem_of_getElem? (i := 144) rfl) rfl
theorem kw_716 : Cond.methodLink "SeedBenchModel" (156 : Nat) ({ cls := "SeedBenchModel", name := "add", desc := "(I)V" } : MethodName) ∈ gT := gm_5 (List.mem_of_getElem? (i := 141) rfl) rfl
theorem kw_717 : Cond.instanceMethod ({ cls := "SeedBenchModel", name := "add", desc := "(I)V" } : MethodName) ∈ gT := gm_5 (List.mem_of_getElem? (i := 143) rfl) rfl
theorem kw_718 : Cond.selects "SeedBenchModel" ⟨"SeedBenchModel", "add", "(I)V"⟩ ⟨"SeedBenchModel", "add", "(I)V"⟩ ∈ gT := gs_3 (List.mem_map.mpr ⟨(⟨"SeedBenchModel", "add", "(I)V"⟩, 58), List.mem_of_getElem? (i := 10) rfl, rfl⟩) rfl
theorem kw_719 : Cond.code ({ cls := "SeedBenchModel", name := "times", desc := "(III)V" } : MethodName) prog_12_method_9_code (11 : Nat) (Option.none : Option FieldType) ∈ gT := gm_5 (List.mem_of_getElem? (i := 139) rfl) rfl
theorem kw_720 : Cond.methodLink "SeedBenchModel" (160 : Nat) ({ cls := "SeedBenchModel", name := "times", desc := "(III)V" } : MethodName) ∈ gT := gm_5 (List.mem_of_getElem? (i := 136) rfl) rfl
theorem kw_721 : Cond.instanceMethod ({ cls := "SeedBenchModel", name := "times", desc := "(III)V" } : MethodName) ∈ gT := gm_5 (List.mem_of_getElem? (i := 138) rfl) rfl
theorem kw_722 : Cond.selects "SeedBenchModel" ⟨"SeedBenchModel", "times", "(III)V"⟩ ⟨"SeedBenchModel", "times", "(III)V"⟩ ∈ gT := gs_3 (List.mem_map.mpr ⟨(⟨"SeedBenchModel", "times", "(III)V"⟩, 58), List.mem_of_getElem? (i := 9) rfl, rfl⟩) rfl
theorem kw_723 : Cond.code ({ cls := "SeedBenchModel", name := "product", desc := "(III)V" } : MethodName) prog_12_method_28_code (6 : Nat) (Option.none : Option FieldType) ∈ gT := gm_5 (List.mem_of_getElem? (i := 126) rfl) rfl
theorem kw_724 : Cond.methodLink "SeedBenchModel" (215 : Nat) ({ cls := "SeedBenchModel", name := "product", desc := "(III)V" } : MethodName) ∈ gT := gm_5 (List.mem_of_getElem? (i := 123) rfl) rfl
theorem kw_725 : Cond.instanceMethod ({ cls := "SeedBenchModel", name := "product", desc := "(III)V" } : MethodName) ∈ gT := gm_5 (List.mem_of_getElem? (i := 125) rfl) rfl
theorem kw_726 : Cond.selects "SeedBenchModel" ⟨"SeedBenchModel", "product", "(III)V"⟩ ⟨"SeedBenchModel", "product", "(III)V"⟩ ∈ gT := gs_3 (List.mem_map.mpr ⟨(⟨"SeedBenchModel", "product", "(III)V"⟩, 58), List.mem_of_getElem? (i := 6) rfl, rfl⟩) rfl
theorem kw_727 : Cond.code ({ cls := "SeedBenchModel", name := "parts", desc := "(III)V" } : MethodName) prog_12_method_11_code (11 : Nat) (Option.none : Option FieldType) ∈ gT := gm_5 (List.mem_of_getElem? (i := 164) rfl) rfl
theorem kw_728 : Cond.methodLink "SeedBenchModel" (222 : Nat) ({ cls := "SeedBenchModel", name := "parts", desc := "(III)V" } : MethodName) ∈ gT := gm_5 (List.mem_of_getElem? (i := 161) rfl) rfl
theorem kw_729 : Cond.instanceMethod ({ cls := "SeedBenchModel", name := "parts", desc := "(III)V" } : MethodName) ∈ gT := gm_5 (List.mem_of_getElem? (i := 163) rfl) rfl
theorem kw_730 : Cond.selects "SeedBenchModel" ⟨"SeedBenchModel", "parts", "(III)V"⟩ ⟨"SeedBenchModel", "parts", "(III)V"⟩ ∈ gT := gs_3 (List.mem_map.mpr ⟨(⟨"SeedBenchModel", "parts", "(III)V"⟩, 58), List.mem_of_getElem? (i := 15) rfl, rfl⟩) rfl
theorem kw_731 : Cond.code ({ cls := "SeedBenchModel", name := "bits", desc := "(I)J" } : MethodName) prog_12_method_77_code (5 : Nat) (Option.some FieldType.long) ∈ gT := gm_6 (List.mem_of_getElem? (i := 132) rfl) rfl
theorem kw_732 : Cond.methodLink "SeedBenchModel" (356 : Nat) ({ cls := "SeedBenchModel", name := "bits", desc := "(I)J" } : MethodName) ∈ gT := gm_6 (List.mem_of_getElem? (i := 129) rfl) rfl
theorem kw_733 : Cond.instanceMethod ({ cls := "SeedBenchModel", name := "bits", desc := "(I)J" } : MethodName) ∈ gT := gm_6 (List.mem_of_getElem? (i := 131) rfl) rfl
theorem kw_734 : Cond.selects "SeedBenchModel" ⟨"SeedBenchModel", "bits", "(I)J"⟩ ⟨"SeedBenchModel", "bits", "(I)J"⟩ ∈ gT := gs_5 (List.mem_map.mpr ⟨(⟨"SeedBenchModel", "bits", "(I)J"⟩, 58), List.mem_of_getElem? (i := 10) rfl, rfl⟩) rfl
theorem kw_735 : Cond.code ({ cls := "SeedBenchModel", name := "takesBits", desc := "(IJ)V" } : MethodName) prog_12_method_78_code (5 : Nat) (Option.none : Option FieldType) ∈ gT := gm_6 (List.mem_of_getElem? (i := 136) rfl) rfl
theorem kw_736 : Cond.methodLink "SeedBenchModel" (359 : Nat) ({ cls := "SeedBenchModel", name := "takesBits", desc := "(IJ)V" } : MethodName) ∈ gT := gm_6 (List.mem_of_getElem? (i := 133) rfl) rfl
theorem kw_737 : Cond.instanceMethod ({ cls := "SeedBenchModel", name := "takesBits", desc := "(IJ)V" } : MethodName) ∈ gT := gm_6 (List.mem_of_getElem? (i := 135) rfl) rfl
theorem kw_738 : Cond.selects "SeedBenchModel" ⟨"SeedBenchModel", "takesBits", "(IJ)V"⟩ ⟨"SeedBenchModel", "takesBits", "(IJ)V"⟩ ∈ gT := gs_5 (List.mem_map.mpr ⟨(⟨"SeedBenchModel", "takesBits", "(IJ)V"⟩, 58), List.mem_of_getElem? (i := 11) rfl, rfl⟩) rfl
theorem kw_739 : Cond.code ({ cls := "SeedBenchModel", name := "cuttingOf", desc := "(J)I" } : MethodName) prog_12_method_79_code (4 : Nat) (Option.some FieldType.int) ∈ gT := gm_6 (List.mem_of_getElem? (i := 140) rfl) rfl
theorem kw_740 : Cond.methodLink "SeedBenchModel" (363 : Nat) ({ cls := "SeedBenchModel", name := "cuttingOf", desc := "(J)I" } : MethodName) ∈ gT := gm_6 (List.mem_of_getElem? (i := 137) rfl) rfl
theorem kw_741 : Cond.instanceMethod ({ cls := "SeedBenchModel", name := "cuttingOf", desc := "(J)I" } : MethodName) ∈ gT := gm_6 (List.mem_of_getElem? (i := 139) rfl) rfl
theorem kw_742 : Cond.selects "SeedBenchModel" ⟨"SeedBenchModel", "cuttingOf", "(J)I"⟩ ⟨"SeedBenchModel", "cuttingOf", "(J)I"⟩ ∈ gT := gs_5 (List.mem_map.mpr ⟨(⟨"SeedBenchModel", "cuttingOf", "(J)I"⟩, 58), List.mem_of_getElem? (i := 12) rfl, rfl⟩) rfl
