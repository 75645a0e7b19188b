section
theorem kw_743 : Cond.code ({ cls := "SeedBench", name := "table", desc := "(II)Z" } : MethodName) prog_1_method_2_code (3 : Nat) (Option.some FieldType.boolean) ∈ gT := gm_2 (List.mem_of_getElem? (i := 142) rfl) rfl
theorem kw_744 : Cond.methodLink "SeedBenchLaw" (13 : Nat) ({ cls := "SeedBench", name := "table", desc := "(II)Z" } : MethodName) ∈ gT := gm_2 (List.mem_of_getElem? (i := 139) rfl) rfl
theorem kw_745 : Cond.instanceMethod ({ cls := "SeedBench", name := "table", desc := "(II)Z" } : MethodName) ∈ gT := gm_2 (List.mem_of_getElem? (i := 140) rfl) rfl
theorem kw_746 : Cond.selects "SeedBench" ({ cls := "SeedBench", name := "table", desc := "(II)Z" } : MethodName) ({ cls := "SeedBench", name := "table", desc := "(II)Z" } : MethodName) ∈ gT := gm_2 (List.mem_of_getElem? (i := 141) rfl) rfl
theorem kw_747 : Cond.methodLink "SeedBenchLaw" (17 : Nat) ({ cls := "SeedBenchModel", name := "table", desc := "(II)Z" } : MethodName) ∈ gT := gm_5 (List.mem_of_getElem? (i := 81) rfl) rfl
theorem kw_748 : Cond.code ({ cls := "SeedBench", name := "arrows", desc := "(III)Z" } : MethodName) prog_1_method_3_code (4 : Nat) (Option.some FieldType.boolean) ∈ gT := gm_2 (List.mem_of_getElem? (i := 153) rfl) rfl
theorem kw_749 : Cond.methodLink "SeedBenchLaw" (18 : Nat) ({ cls := "SeedBench", name := "arrows", desc := "(III)Z" } : MethodName) ∈ gT := gm_2 (List.mem_of_getElem? (i := 150) rfl) rfl
theorem kw_750 : Cond.instanceMethod ({ cls := "SeedBench", name := "arrows", desc := "(III)Z" } : MethodName) ∈ gT := gm_2 (List.mem_of_getElem? (i := 151) rfl) rfl
theorem kw_751 : Cond.selects "SeedBench" ({ cls := "SeedBench", name := "arrows", desc := "(III)Z" } : MethodName) ({ cls := "SeedBench", name := "arrows", desc := "(III)Z" } : MethodName) ∈ gT := gm_2 (List.mem_of_getElem? (i := 152) rfl) rfl
theorem kw_752 : Cond.code ({ cls := "SeedBenchModel", name := "arrows", desc := "(III)Z" } : MethodName) prog_12_method_16_code (4 : Nat) (Option.some FieldType.boolean) ∈ gT := gm_5 (List.mem_of_getElem? (i := 88) rfl) rfl
theorem kw_753 : Cond.methodLink "SeedBenchLaw" (22 : Nat) ({ cls := "SeedBenchModel", name := "arrows", desc := "(III)Z" } : MethodName) ∈ gT := gm_5 (List.mem_of_getElem? (i := 85) rfl) rfl
theorem kw_754 : Cond.instanceMethod ({ cls := "SeedBenchModel", name := "arrows", desc := "(III)Z" } : MethodName) ∈ gT := gm_5 (List.mem_of_getElem? (i := 86) rfl) rfl
theorem kw_755 : Cond.selects "SeedBenchModel" ({ cls := "SeedBenchModel", name := "arrows", desc := "(III)Z" } : MethodName) ({ cls := "SeedBenchModel", name := "arrows", desc := "(III)Z" } : MethodName) ∈ gT := gm_5 (List.mem_of_getElem? (i := 87) rfl) rfl
theorem kw_756 : Cond.code ({ cls := "SeedBench", name := "begin", desc := "()I" } : MethodName) prog_1_method_4_code (2 : Nat) (Option.some FieldType.int) ∈ gT := gm_2 (List.mem_of_getElem? (i := 160) rfl) rfl
theorem kw_757 : Cond.methodLink "SeedBenchLaw" (23 : Nat) ({ cls := "SeedBench", name := "begin", desc := "()I" } : MethodName) ∈ gT := gm_2 (List.mem_of_getElem? (i := 157) rfl) rfl
theorem kw_758 : Cond.instanceMethod ({ cls := "SeedBench", name := "begin", desc := "()I" } : MethodName) ∈ gT := gm_2 (List.mem_of_getElem? (i := 158) rfl) rfl
theorem kw_759 : Cond.selects "SeedBench" ({ cls := "SeedBench", name := "begin", desc := "()I" } : MethodName) ({ cls := "SeedBench", name := "begin", desc := "()I" } : MethodName) ∈ gT := gm_2 (List.mem_of_getElem? (i := 159) rfl) rfl
theorem kw_760 : Cond.methodLink "SeedBenchLaw" (27 : Nat) ({ cls := "SeedBenchModel", name := "begin", desc := "()I" } : MethodName) ∈ gT := gm_5 (List.mem_of_getElem? (i := 89) rfl) rfl
theorem kw_761 : Cond.code ({ cls := "SeedBench", name := "size", desc := "(I)I" } : MethodName) prog_1_method_5_code (2 : Nat) (Option.some FieldType.int) ∈ gT := gm_2 (List.mem_of_getElem? (i := 196) rfl) rfl
theorem kw_762 : Cond.methodLink "SeedBenchLaw" (28 : Nat) ({ cls := "SeedBench", name := "size", desc := "(I)I" } : MethodName) ∈ gT := gm_2 (List.mem_of_getElem? (i := 193) rfl) rfl
theorem kw_763 : Cond.instanceMethod ({ cls := "SeedBench", name := "size", desc := "(I)I" } : MethodName) ∈ gT := gm_2 (List.mem_of_getElem? (i := 194) rfl) rfl
theorem kw_764 : Cond.selects "SeedBench" ({ cls := "SeedBench", name := "size", desc := "(I)I" } : MethodName) ({ cls := "SeedBench", name := "size", desc := "(I)I" } : MethodName) ∈ gT := gm_2 (List.mem_of_getElem? (i := 195) rfl) rfl
theorem kw_765 : Cond.code ({ cls := "SeedBenchModel", name := "size", desc := "(I)I" } : MethodName) prog_12_method_25_code (2 : Nat) (Option.some FieldType.int) ∈ gT := gm_5 (List.mem_of_getElem? (i := 114) rfl) rfl
theorem kw_766 : Cond.methodLink "SeedBenchLaw" (32 : Nat) ({ cls := "SeedBenchModel", name := "size", desc := "(I)I" } : MethodName) ∈ gT := gm_5 (List.mem_of_getElem? (i := 111) rfl) rfl
theorem kw_767 : Cond.instanceMethod ({ cls := "SeedBenchModel", name := "size", desc := "(I)I" } : MethodName) ∈ gT := gm_5 (List.mem_of_getElem? (i := 112) rfl) rfl
theorem kw_768 : Cond.selects "SeedBenchModel" ({ cls := "SeedBenchModel", name := "size", desc := "(I)I" } : MethodName) ({ cls := "SeedBenchModel", name := "size", desc := "(I)I" } : MethodName) ∈ gT := gm_5 (List.mem_of_getElem? (i := 113) rfl) rfl
theorem kw_769 : Cond.code ({ cls := "SeedBench", name := "turn", desc := "(I)I" } : MethodName) prog_1_method_6_code (2 : Nat) (Option.some FieldType.int) ∈ gT := gm_2 (List.mem_of_getElem? (i := 204) rfl) rfl
theorem kw_770 : Cond.methodLink "SeedBenchLaw" (33 : Nat) ({ cls := "SeedBench", name := "turn", desc := "(I)I" } : MethodName) ∈ gT := gm_2 (List.mem_of_getElem? (i := 201) rfl) rfl
theorem kw_771 : Cond.instanceMethod ({ cls := "SeedBench", name := "turn", desc := "(I)I" } : MethodName) ∈ gT := gm_2 (List.mem_of_getElem? (i := 202) rfl) rfl
theorem kw_772 : Cond.selects "SeedBench" ({ cls := "SeedBench", name := "turn", desc := "(I)I" } : MethodName) ({ cls := "SeedBench", name := "turn", desc := "(I)I" } : MethodName) ∈ gT := gm_2 (List.mem_of_getElem? (i := 203) rfl) rfl
theorem kw_773 : Cond.code ({ cls := "SeedBenchModel", name := "turn", desc := "(I)I" } : MethodName) prog_12_method_30_code (2 : Nat) (Option.some FieldType.int) ∈ gT := gm_5 (List.mem_of_getElem? (i := 118) rfl) rfl
theorem kw_774 : Cond.methodLink "SeedBenchLaw" (36 : Nat) ({ cls := "SeedBenchModel", name := "turn", desc := "(I)I" } : MethodName) ∈ gT := gm_5 (List.mem_of_getElem? (i := 115) rfl) rfl
theorem kw_775 : Cond.instanceMethod ({ cls := "SeedBenchModel", name := "turn", desc := "(I)I" } : MethodName) ∈ gT := gm_5 (List.mem_of_getElem? (i := 116) rfl) rfl
theorem kw_776 : Cond.selects "SeedBenchModel" ({ cls := "SeedBenchModel", name := "turn", desc := "(I)I" } : MethodName) ({ cls := "SeedBenchModel", name := "turn", desc := "(I)I" } : MethodName) ∈ gT := gm_5 (List.mem_of_getElem? (i := 117) rfl) rfl
theorem kw_777 : Cond.code ({ cls := "SeedBench", name := "back", desc := "()Z" } : MethodName) prog_1_method_7_code (2 : Nat) (Option.some FieldType.boolean) ∈ gT := gm_3 (List.mem_of_getElem? (i := 29) rfl) rfl
theorem kw_778 : Cond.methodLink "SeedBenchLaw" (37 : Nat) ({ cls := "SeedBench", name := "back", desc := "()Z" } : MethodName) ∈ gT := gm_3 (List.mem_of_getElem? (i := 26) rfl) rfl
theorem kw_779 : Cond.instanceMethod ({ cls := "SeedBench", name := "back", desc := "()Z" } : MethodName) ∈ gT := gm_3 (List.mem_of_getElem? (i := 27) rfl) rfl
theorem kw_780 : Cond.selects "SeedBench" ({ cls := "SeedBench", name := "back", desc := "()Z" } : MethodName) ({ cls := "SeedBench", name := "back", desc := "()Z" } : MethodName) ∈ gT := gm_3 (List.mem_of_getElem? (i := 28) rfl) rfl
theorem kw_781 : Cond.code ({ cls := "SeedBenchModel", name := "back", desc := "()Z" } : MethodName) prog_12_method_31_code (1 : Nat) (Option.some FieldType.boolean) ∈ gT := gm_5 (List.mem_of_getElem? (i := 176) rfl) rfl
theorem kw_782 : Cond.methodLink "SeedBenchLaw" (41 : Nat) ({ cls := "SeedBenchModel", name := "back", desc := "()Z" } : MethodName) ∈ gT := gm_5 (List.mem_of_getElem? (i := 173) rfl) rfl
theorem kw_783 : Cond.instanceMethod ({ cls := "SeedBenchModel", name := "back", desc := "()Z" } : MethodName) ∈ gT := gm_5 (List.mem_of_getElem? (i := 174) rfl) rfl
theorem kw_784 : Cond.selects "SeedBenchModel" ({ cls := "SeedBenchModel", name := "back", desc := "()Z" } : MethodName) ({ cls := "SeedBenchModel", name := "back", desc := "()Z" } : MethodName) ∈ gT := gm_5 (List.mem_of_getElem? (i := 175) rfl) rfl
theorem kw_785 : Cond.code ({ cls := "SeedBench", name := "b", desc := "(II)I" } : MethodName) prog_1_method_8_code (3 : Nat) (Option.some FieldType.int) ∈ gT := gm_3 (List.mem_of_getElem? (i := 33) rfl) rfl
theorem kw_786 : Cond.methodLink "SeedBenchLaw" (42 : Nat) ({ cls := "SeedBench", name := "b", desc := "(II)I" } : MethodName) ∈ gT := gm_3 (List.mem_of_getElem? (i := 30) rfl) rfl
theorem kw_787 : Cond.instanceMethod ({ cls := "SeedBench", name := "b", desc := "(II)I" } : MethodName) ∈ gT := gm_3 (List.mem_of_getElem? (i := 31) rfl) rfl
theorem kw_788 : Cond.selects "SeedBench" ({ cls := "SeedBench", name := "b", desc := "(II)I" } : MethodName) ({ cls := "SeedBench", name := "b", desc := "(II)I" } : MethodName) ∈ gT := gm_3 (List.mem_of_getElem? (i := 32) rfl) rfl
theorem kw_789 : Cond.code ({ cls := "SeedBenchModel", name := "b", desc := "(II)I" } : MethodName) prog_12_method_32_code (3 : Nat) (Option.some FieldType.int) ∈ gT := gm_5 (List.mem_of_getElem? (i := 180) rfl) rfl
theorem kw_790 : Cond.methodLink "SeedBenchLaw" (46 : Nat) ({ cls := "SeedBenchModel", name := "b", desc := "(II)I" } : MethodName) ∈ gT := gm_5 (List.mem_of_getElem? (i := 177) rfl) rfl
theorem kw_791 : Cond.instanceMethod ({ cls := "SeedBenchModel", name := "b", desc := "(II)I" } : MethodName) ∈ gT := gm_5 (List.mem_of_getElem? (i := 178) rfl) rfl
theorem kw_792 : Cond.selects "SeedBenchModel" ({ cls := "SeedBenchModel", name := "b", desc := "(II)I" } : MethodName) ({ cls := "SeedBenchModel", name := "b", desc := "(II)I" } : MethodName) ∈ gT := gm_5 (List.mem_of_getElem? (i := 179) rfl) rfl
theorem kw_793 : Cond.code ({ cls := "SeedBench", name := "terms", desc := "(I)I" } : MethodName) prog_1_method_9_code (2 : Nat) (Option.some FieldType.int) ∈ gT := gm_3 (List.mem_of_getElem? (i := 37) rfl) rfl
theorem kw_794 : Cond.methodLink "SeedBenchLaw" (47 : Nat) ({ cls := "SeedBench", name := "terms", desc := "(I)I" } : MethodName) ∈ gT := gm_3 (List.mem_of_getElem? (i := 34) rfl) rfl
theorem kw_795 : Cond.instanceMethod ({ cls := "SeedBench", name := "terms", desc := "(I)I" } : MethodName) ∈ gT := gm_3 (List.mem_of_getElem? (i := 35) rfl) rfl
theorem kw_796 : Cond.selects "SeedBench" ({ cls := "SeedBench", name := "terms", desc := "(I)I" } : MethodName) ({ cls := "SeedBench", name := "terms", desc := "(I)I" } : MethodName) ∈ gT := gm_3 (List.mem_of_getElem? (i := 36) rfl) rfl
theorem kw_797 : Cond.code ({ cls := "SeedBenchModel", name := "terms", desc := "(I)I" } : MethodName) prog_12_method_33_code (2 : Nat) (Option.some FieldType.int) ∈ gT := gm_5 (List.mem_of_getElem? (i := 184) rfl) rfl
theorem kw_798 : Cond.methodLink "SeedBenchLaw" (50 : Nat) ({ cls := "SeedBenchModel", name := "terms", desc := "(I)I" } : MethodName) ∈ gT := gm_5 (List.mem_of_getElem? (i := 181) rfl) rfl
theorem kw_799 : Cond.instanceMethod ({ cls := "SeedBenchModel", name := "terms", desc := "(I)I" } : MethodName) ∈ gT := gm_5 (List.mem_of_getElem? (i := 182) rfl) rfl
theorem kw_800 : Cond.selects "SeedBenchModel" ({ cls := "SeedBenchModel", name := "terms", desc := "(I)I" } : MethodName) ({ cls := "SeedBenchModel", name := "terms", desc := "(I)I" } : MethodName) ∈ gT := gm_5 (List.mem_of_getElem? (i := 183) rfl) rfl
theorem kw_801 : Cond.code ({ cls := "SeedBench", name := "term", desc := "(III)J" } : MethodName) prog_1_method_10_code (5 : Nat) (Option.some FieldType.long) ∈ gT := gm_3 (List.mem_of_getElem? (i := 41) rfl) rfl
theorem kw_802 : Cond.methodLink "SeedBenchLaw" (51 : Nat) ({ cls := "SeedBench", name := "term", desc := "(III)J" } : MethodName) ∈ gT := gm_3 (List.mem_of_getElem? (i := 38) rfl) rfl
theorem kw_803 : Cond.instanceMethod ({ cls := "SeedBench", name := "term", desc := "(III)J" } : MethodName) ∈ gT := gm_3 (List.mem_of_getElem? (i := 39) rfl) rfl
theorem kw_804 : Cond.selects "SeedBench" ({ cls := "SeedBench", name := "term", desc := "(III)J" } : MethodName) ({ cls := "SeedBench", name := "term", desc := "(III)J" } : MethodName) ∈ gT := gm_3 (List.mem_of_getElem? (i := 40) rfl) rfl
theorem kw_805 : Cond.code ({ cls := "SeedBenchModel", name := "term", desc := "(III)J" } : MethodName) prog_12_method_34_code (4 : Nat) (Option.some FieldType.long) ∈ gT := gm_5 (List.mem_of_getElem? (i := 188) rfl) rfl
theorem kw_806 : Cond.methodLink "SeedBenchLaw" (55 : Nat) ({ cls := "SeedBenchModel", name := "term", desc := "(III)J" } : MethodName) ∈ gT := gm_5 (List.mem_of_getElem? (i := 185) rfl) rfl
theorem kw_807 : Cond.instanceMethod ({ cls := "SeedBenchModel", name := "term", desc := "(III)J" } : MethodName) ∈ gT := gm_5 (List.mem_of_getElem? (i := 186) rfl) rfl
theorem kw_808 : Cond.selects "SeedBenchModel" ({ cls := "SeedBenchModel", name := "term", desc := "(III)J" } : MethodName) ({ cls := "SeedBenchModel", name := "term", desc := "(III)J" } : MethodName) ∈ gT := gm_5 (List.mem_of_getElem? (i := 187) rfl) rfl
theorem kw_809 : Cond.code ({ cls := "SeedBench", name := "least", desc := "(II)I" } : MethodName) prog_1_method_11_code (3 : Nat) (Option.some FieldType.int) ∈ gT := gm_3 (List.mem_of_getElem? (i := 49) rfl) rfl
theorem kw_810 : Cond.methodLink "SeedBenchLaw" (56 : Nat) ({ cls := "SeedBench", name := "least", desc := "(II)I" } : MethodName) ∈ gT := gm_3 (List.mem_of_getElem? (i := 46) rfl) rfl
theorem kw_811 : Cond.instanceMethod ({ cls := "SeedBench", name := "least", desc := "(II)I" } : MethodName) ∈ gT := gm_3 (List.mem_of_getElem? (i := 47) rfl) rfl
theorem kw_812 : Cond.selects "SeedBench" ({ cls := "SeedBench", name := "least", desc := "(II)I" } : MethodName) ({ cls := "SeedBench", name := "least", desc := "(II)I" } : MethodName) ∈ gT := gm_3 (List.mem_of_getElem? (i := 48) rfl) rfl
theorem kw_813 : Cond.code ({ cls := "SeedBenchModel", name := "least", desc := "(II)I" } : MethodName) prog_12_method_37_code (3 : Nat) (Option.some FieldType.int) ∈ gT := gm_5 (List.mem_of_getElem? (i := 192) rfl) rfl
theorem kw_814 : Cond.methodLink "SeedBenchLaw" (59 : Nat) ({ cls := "SeedBenchModel", name := "least", desc := "(II)I" } : MethodName) ∈ gT := gm_5 (List.mem_of_getElem? (i := 189) rfl) rfl
theorem kw_815 : Cond.instanceMethod ({ cls := "SeedBenchModel", name := "least", desc := "(II)I" } : MethodName) ∈ gT := gm_5 (List.mem_of_getElem? (i := 190) rfl) rfl
theorem kw_816 : Cond.selects "SeedBenchModel" ({ cls := "SeedBenchModel", name := "least", desc := "(II)I" } : MethodName) ({ cls := "SeedBenchModel", name := "least", desc := "(II)I" } : MethodName) ∈ gT := gm_5 (List.mem_of_getElem? (i := 191) rfl) rfl
theorem kw_817 : Cond.code ({ cls := "SeedBench", name := "ones", desc := "(I)J" } : MethodName) prog_1_method_12_code (2 : Nat) (Option.some FieldType.long) ∈ gT := gm_3 (List.mem_of_getElem? (i := 60) rfl) rfl
theorem kw_818 : Cond.methodLink "SeedBenchLaw" (60 : Nat) ({ cls := "SeedBench", name := "ones", desc := "(I)J" } : MethodName) ∈ gT := gm_3 (List.mem_of_getElem? (i := 57) rfl) rfl
theorem kw_819 : Cond.instanceMethod ({ cls := "SeedBench", name := "ones", desc := "(I)J" } : MethodName) ∈ gT := gm_3 (List.mem_of_getElem? (i := 58) rfl) rfl
theorem kw_820 : Cond.selects "SeedBench" ({ cls := "SeedBench", name := "ones", desc := "(I)J" } : MethodName) ({ cls := "SeedBench", name := "ones", desc := "(I)J" } : MethodName) ∈ gT := gm_3 (List.mem_of_getElem? (i := 59) rfl) rfl
theorem kw_821 : Cond.code ({ cls := "SeedBenchModel", name := "ones", desc := "(I)J" } : MethodName) prog_12_method_38_code (2 : Nat) (Option.some FieldType.long) ∈ gT := gm_5 (List.mem_of_getElem? (i := 203) rfl) rfl
theorem kw_822 : Cond.methodLink "SeedBenchLaw" (64 : Nat) ({ cls := "SeedBenchModel", name := "ones", desc := "(I)J" } : MethodName) ∈ gT := gm_5 (List.mem_of_getElem? (i := 200) rfl) rfl
theorem kw_823 : Cond.instanceMethod ({ cls := "SeedBenchModel", name := "ones", desc := "(I)J" } : MethodName) ∈ gT := gm_5 (List.mem_of_getElem? (i := 201) rfl) rfl
theorem kw_824 : Cond.selects "SeedBenchModel" ({ cls := "SeedBenchModel", name := "ones", desc := "(I)J" } : MethodName) ({ cls := "SeedBenchModel", name := "ones", desc := "(I)J" } : MethodName) ∈ gT := gm_5 (List.mem_of_getElem? (i := 202) rfl) rfl
theorem kw_825 : Cond.code ({ cls := "SeedBench", name := "keep", desc := "(I)Z" } : MethodName) prog_1_method_13_code (2 : Nat) (Option.some FieldType.boolean) ∈ gT := gm_3 (List.mem_of_getElem? (i := 68) rfl) rfl
theorem kw_826 : Cond.methodLink "SeedBenchLaw" (65 : Nat) ({ cls := "SeedBench", name := "keep", desc := "(I)Z" } : MethodName) ∈ gT := gm_3 (List.mem_of_getElem? (i := 65) rfl) rfl
theorem kw_827 : Cond.instanceMethod ({ cls := "SeedBench", name := "keep", desc := "(I)Z" } : MethodName) ∈ gT := gm_3 (List.mem_of_getElem? (i := 66) rfl) rfl
theorem kw_828 : Cond.selects "SeedBench" ({ cls := "SeedBench", name := "keep", desc := "(I)Z" } : MethodName) ({ cls := "SeedBench", name := "keep", desc := "(I)Z" } : MethodName) ∈ gT := gm_3 (List.mem_of_getElem? (i := 67) rfl) rfl
theorem kw_829 : Cond.code ({ cls := "SeedBenchModel", name := "keep", desc := "(I)Z" } : MethodName) prog_12_method_39_code (3 : Nat) (Option.some FieldType.boolean) ∈ gT := gm_5 (List.mem_of_getElem? (i := 211) rfl) rfl
theorem kw_830 : Cond.methodLink "SeedBenchLaw" (69 : Nat) ({ cls := "SeedBenchModel", name := "keep", desc := "(I)Z" } : MethodName) ∈ gT := gm_5 (List.mem_of_getElem? (i := 208) rfl) rfl
theorem kw_831 : Cond.instanceMethod ({ cls := "SeedBenchModel", name := "keep", desc := "(I)Z" } : MethodName) ∈ gT := gm_5 (List.mem_of_getElem? (i := 209) rfl) rfl
theorem kw_832 : Cond.selects "SeedBenchModel" ({ cls := "SeedBenchModel", name := "keep", desc := "(I)Z" } : MethodName) ({ cls := "SeedBenchModel", name := "keep", desc := "(I)Z" } : MethodName) ∈ gT := gm_5 (List.mem_of_getElem? (i := 210) rfl) rfl
theorem kw_833 : Cond.code ({ cls := "SeedBench", name := "same", desc := "(I)I" } : MethodName) prog_1_method_14_code (2 : Nat) (Option.some FieldType.int) ∈ gT := gm_3 (List.mem_of_getElem? (i := 80) rfl) rfl
theorem kw_834 : Cond.methodLink "SeedBenchLaw" (70 : Nat) ({ cls := "SeedBench", name := "same", desc := "(I)I" } : MethodName) ∈ gT := gm_3 (List.mem_of_getElem? (i := 77) rfl) rfl
theorem kw_835 : Cond.instanceMethod ({ cls := "SeedBench", name := "same", desc := "(I)I" } : MethodName) ∈ gT := gm_3 (List.mem_of_getElem? (i := 78) rfl) rfl
theorem kw_836 : Cond.selects "SeedBench" ({ cls := "SeedBench", name := "same", desc := "(I)I" } : MethodName) ({ cls := "SeedBench", name := "same", desc := "(I)I" } : MethodName) ∈ gT := gm_3 (List.mem_of_getElem? (i := 79) rfl) rfl
theorem kw_837 : Cond.code ({ cls := "SeedBenchModel", name := "same", desc := "(I)I" } : MethodName) prog_12_method_40_code (5 : Nat) (Option.some FieldType.int) ∈ gT := gm_5 (List.mem_of_getElem? (i := 215) rfl) rfl
theorem kw_838 : Cond.methodLink "SeedBenchLaw" (73 : Nat) ({ cls := "SeedBenchModel", name := "same", desc := "(I)I" } : MethodName) ∈ gT := gm_5 (List.mem_of_getElem? (i := 212) rfl) rfl
theorem kw_839 : Cond.instanceMethod ({ cls := "SeedBenchModel", name := "same", desc := "(I)I" } : MethodName) ∈ gT := gm_5 (List.mem_of_getElem? (i := 213) rfl) rfl
theorem kw_840 : Cond.selects "SeedBenchModel" ({ cls := "SeedBenchModel", name := "same", desc := "(I)I" } : MethodName) ({ cls := "SeedBenchModel", name := "same", desc := "(I)I" } : MethodName) ∈ gT := gm_5 (List.mem_of_getElem? (i := 214) rfl) rfl
theorem kw_841 : Cond.code ({ cls := "SeedBench", name := "all", desc := "()I" } : MethodName) prog_1_method_15_code (2 : Nat) (Option.some FieldType.int) ∈ gT := gm_3 (List.mem_of_getElem? (i := 100) rfl) rfl
theorem kw_842 : Cond.methodLink "SeedBenchLaw" (74 : Nat) ({ cls := "SeedBench", name := "all", desc := "()I" } : MethodName) ∈ gT := gm_3 (List.mem_of_getElem? (i := 97) rfl) rfl
theorem kw_843 : Cond.instanceMethod ({ cls := "SeedBench", name := "all", desc := "()I" } : MethodName) ∈ gT := gm_3 (List.mem_of_getElem? (i := 98) rfl) rfl
theorem kw_844 : Cond.selects "SeedBench" ({ cls := "SeedBench", name := "all", desc := "()I" } : MethodName) ({ cls := "SeedBench", name := "all", desc := "()I" } : MethodName) ∈ gT := gm_3 (List.mem_of_getElem? (i := 99) rfl) rfl
theorem kw_845 : Cond.code ({ cls := "SeedBenchModel", name := "all", desc := "()I" } : MethodName) prog_12_method_48_code (4 : Nat) (Option.some FieldType.int) ∈ gT := gm_5 (List.mem_of_getElem? (i := 223) rfl) rfl
theorem kw_846 : Cond.methodLink "SeedBenchLaw" (77 : Nat) ({ cls := "SeedBenchModel", name := "all", desc := "()I" } : MethodName) ∈ gT := gm_5 (List.mem_of_getElem? (i := 220) rfl) rfl
theorem kw_847 : Cond.instanceMethod ({ cls := "SeedBenchModel", name := "all", desc := "()I" } : MethodName) ∈ gT := gm_5 (List.mem_of_getElem? (i := 221) rfl) rfl
theorem kw_848 : Cond.selects "SeedBenchModel" ({ cls := "SeedBenchModel", name := "all", desc := "()I" } : MethodName) ({ cls := "SeedBenchModel", name := "all", desc := "()I" } : MethodName) ∈ gT := gm_5 (List.mem_of_getElem? (i := 222) rfl) rfl
theorem kw_849 : Cond.code ({ cls := "SeedBench", name := "what", desc := "(II)J" } : MethodName) prog_1_method_16_code (3 : Nat) (Option.some FieldType.long) ∈ gT := gm_3 (List.mem_of_getElem? (i := 155) rfl) rfl
theorem kw_850 : Cond.methodLink "SeedBenchLaw" (78 : Nat) ({ cls := "SeedBench", name := "what", desc := "(II)J" } : MethodName) ∈ gT := gm_3 (List.mem_of_getElem? (i := 152) rfl) rfl
theorem kw_851 : Cond.instanceMethod ({ cls := "SeedBench", name := "what", desc := "(II)J" } : MethodName) ∈ gT := gm_3 (List.mem_of_getElem? (i := 153) rfl) rfl
theorem kw_852 : Cond.selects "SeedBench" ({ cls := "SeedBench", name := "what", desc := "(II)J" } : MethodName) ({ cls := "SeedBench", name := "what", desc := "(II)J" } : MethodName) ∈ gT := gm_3 (List.mem_of_getElem? (i := 154) rfl) rfl
theorem kw_853 : Cond.code ({ cls := "SeedBenchModel", name := "what", desc := "(II)J" } : MethodName) prog_12_method_49_code (3 : Nat) (Option.some FieldType.long) ∈ gT := gm_6 (List.mem_of_getElem? (i := 15) rfl) rfl
theorem kw_854 : Cond.methodLink "SeedBenchLaw" (82 : Nat) ({ cls := "SeedBenchModel", name := "what", desc := "(II)J" } : MethodName) ∈ gT := gm_6 (List.mem_of_getElem? (i := 12) rfl) rfl
theorem kw_855 : Cond.instanceMethod ({ cls := "SeedBenchModel", name := "what", desc := "(II)J" } : MethodName) ∈ gT := gm_6 (List.mem_of_getElem? (i := 13) rfl) rfl
theorem kw_856 : Cond.selects "SeedBenchModel" ({ cls := "SeedBenchModel", name := "what", desc := "(II)J" } : MethodName) ({ cls := "SeedBenchModel", name := "what", desc := "(II)J" } : MethodName) ∈ gT := gm_6 (List.mem_of_getElem? (i := 14) rfl) rfl
theorem kw_857 : Cond.code ({ cls := "SeedBench", name := "finite", desc := "()I" } : MethodName) prog_1_method_17_code (1 : Nat) (Option.some FieldType.int) ∈ gT := gm_3 (List.mem_of_getElem? (i := 164) rfl) rfl
theorem kw_858 : Cond.methodLink "SeedBenchLaw" (83 : Nat) ({ cls := "SeedBench", name := "finite", desc := "()I" } : MethodName) ∈ gT := gm_3 (List.mem_of_getElem? (i := 161) rfl) rfl
theorem kw_859 : Cond.instanceMethod ({ cls := "SeedBench", name := "finite", desc := "()I" } : MethodName) ∈ gT := gm_3 (List.mem_of_getElem? (i := 162) rfl) rfl
theorem kw_860 : Cond.selects "SeedBench" ({ cls := "SeedBench", name := "finite", desc := "()I" } : MethodName) ({ cls := "SeedBench", name := "finite", desc := "()I" } : MethodName) ∈ gT := gm_3 (List.mem_of_getElem? (i := 163) rfl) rfl
theorem kw_861 : Cond.code ({ cls := "SeedBenchModel", name := "finite", desc := "()I" } : MethodName) prog_12_method_54_code (2 : Nat) (Option.some FieldType.int) ∈ gT := gm_6 (List.mem_of_getElem? (i := 20) rfl) rfl
theorem kw_862 : Cond.methodLink "SeedBenchLaw" (86 : Nat) ({ cls := "SeedBenchModel", name := "finite", desc := "()I" } : MethodName) ∈ gT := gm_6 (List.mem_of_getElem? (i := 17) rfl) rfl
theorem kw_863 : Cond.instanceMethod ({ cls := "SeedBenchModel", name := "finite", desc := "()I" } : MethodName) ∈ gT := gm_6 (List.mem_of_getElem? (i := 18) rfl) rfl
theorem kw_864 : Cond.selects "SeedBenchModel" ({ cls := "SeedBenchModel", name := "finite", desc := "()I" } : MethodName) ({ cls := "SeedBenchModel", name := "finite", desc := "()I" } : MethodName) ∈ gT := gm_6 (List.mem_of_getElem? (i := 19) rfl) rfl
theorem kw_865 : Cond.code ({ cls := "SeedBench", name := "step", desc := "(I)I" } : MethodName) prog_1_method_18_code (2 : Nat) (Option.some FieldType.int) ∈ gT := gm_3 (List.mem_of_getElem? (i := 210) rfl) rfl
theorem kw_866 : Cond.methodLink "SeedBenchLaw" (87 : Nat) ({ cls := "SeedBench", name := "step", desc := "(I)I" } : MethodName) ∈ gT := gm_3 (List.mem_of_getElem? (i := 207) rfl) rfl
theorem kw_867 : Cond.instanceMethod ({ cls := "SeedBench", name := "step", desc := "(I)I" } : MethodName) ∈ gT := gm_3 (List.mem_of_getElem? (i := 208) rfl) rfl
theorem kw_868 : Cond.selects "SeedBench" ({ cls := "SeedBench", name := "step", desc := "(I)I" } : MethodName) ({ cls := "SeedBench", name := "step", desc := "(I)I" } : MethodName) ∈ gT := gm_3 (List.mem_of_getElem? (i := 209) rfl) rfl
theorem kw_869 : Cond.code ({ cls := "SeedBenchModel", name := "step", desc := "(I)I" } : MethodName) prog_12_method_56_code (2 : Nat) (Option.some FieldType.int) ∈ gT := gm_6 (List.mem_of_getElem? (i := 44) rfl) rfl
theorem kw_870 : Cond.methodLink "SeedBenchLaw" (90 : Nat) ({ cls := "SeedBenchModel", name := "step", desc := "(I)I" } : MethodName) ∈ gT := gm_6 (List.mem_of_getElem? (i := 41) rfl) rfl
theorem kw_871 : Cond.instanceMethod ({ cls := "SeedBenchModel", name := "step", desc := "(I)I" } : MethodName) ∈ gT := gm_6 (List.mem_of_getElem? (i := 42) rfl) rfl
theorem kw_872 : Cond.selects "SeedBenchModel" ({ cls := "SeedBenchModel", name := "step", desc := "(I)I" } : MethodName) ({ cls := "SeedBenchModel", name := "step", desc := "(I)I" } : MethodName) ∈ gT := gm_6 (List.mem_of_getElem? (i := 43) rfl) rfl
theorem kw_873 : Cond.code ({ cls := "SeedBench", name := "tables", desc := "()I" } : MethodName) prog_1_method_19_code (1 : Nat) (Option.some FieldType.int) ∈ gT := gm_3 (List.mem_of_getElem? (i := 214) rfl) rfl
theorem kw_874 : Cond.methodLink "SeedBenchLaw" (91 : Nat) ({ cls := "SeedBench", name := "tables", desc := "()I" } : MethodName) ∈ gT := gm_3 (List.mem_of_getElem? (i := 211) rfl) rfl
theorem kw_875 : Cond.instanceMethod ({ cls := "SeedBench", name := "tables", desc := "()I" } : MethodName) ∈ gT := gm_3 (List.mem_of_getElem? (i := 212) rfl) rfl
theorem kw_876 : Cond.selects "SeedBench" ({ cls := "SeedBench", name := "tables", desc := "()I" } : MethodName) ({ cls := "SeedBench", name := "tables", desc := "()I" } : MethodName) ∈ gT := gm_3 (List.mem_of_getElem? (i := 213) rfl) rfl
theorem kw_877 : Cond.code ({ cls := "SeedBenchModel", name := "tables", desc := "()I" } : MethodName) prog_12_method_57_code (1 : Nat) (Option.some FieldType.int) ∈ gT := gm_6 (List.mem_of_getElem? (i := 48) rfl) rfl
theorem kw_878 : Cond.methodLink "SeedBenchLaw" (94 : Nat) ({ cls := "SeedBenchModel", name := "tables", desc := "()I" } : MethodName) ∈ gT := gm_6 (List.mem_of_getElem? (i := 45) rfl) rfl
theorem kw_879 : Cond.instanceMethod ({ cls := "SeedBenchModel", name := "tables", desc := "()I" } : MethodName) ∈ gT := gm_6 (List.mem_of_getElem? (i := 46) rfl) rfl
theorem kw_880 : Cond.selects "SeedBenchModel" ({ cls := "SeedBenchModel", name := "tables", desc := "()I" } : MethodName) ({ cls := "SeedBenchModel", name := "tables", desc := "()I" } : MethodName) ∈ gT := gm_6 (List.mem_of_getElem? (i := 47) rfl) rfl
theorem kw_881 : Cond.code ({ cls := "SeedBench", name := "row", desc := "(III)Z" } : MethodName) prog_1_method_20_code (4 : Nat) (Option.some FieldType.boolean) ∈ gT := gm_3 (List.mem_of_getElem? (i := 218) rfl) rfl
theorem kw_882 : Cond.methodLink "SeedBenchLaw" (95 : Nat) ({ cls := "SeedBench", name := "row", desc := "(III)Z" } : MethodName) ∈ gT := gm_3 (List.mem_of_getElem? (i := 215) rfl) rfl
theorem kw_883 : Cond.instanceMethod ({ cls := "SeedBench", name := "row", desc := "(III)Z" } : MethodName) ∈ gT := gm_3 (List.mem_of_getElem? (i := 216) rfl) rfl
theorem kw_884 : Cond.selects "SeedBench" ({ cls := "SeedBench", name := "row", desc := "(III)Z" } : MethodName) ({ cls := "SeedBench", name := "row", desc := "(III)Z" } : MethodName) ∈ gT := gm_3 (List.mem_of_getElem? (i := 217) rfl) rfl
theorem kw_885 : Cond.code ({ cls := "SeedBenchModel", name := "row", desc := "(III)Z" } : MethodName) prog_12_method_58_code (5 : Nat) (Option.some FieldType.boolean) ∈ gT := gm_6 (List.mem_of_getElem? (i := 52) rfl) rfl
theorem kw_886 : Cond.methodLink "SeedBenchLaw" (98 : Nat) ({ cls := "SeedBenchModel", name := "row", desc := "(III)Z" } : MethodName) ∈ gT := gm_6 (List.mem_of_getElem? (i := 49) rfl) rfl
theorem kw_887 : Cond.instanceMethod ({ cls := "SeedBenchModel", name := "row", desc := "(III)Z" } : MethodName) ∈ gT := gm_6 (List.mem_of_getElem? (i := 50) rfl) rfl
theorem kw_888 : Cond.selects "SeedBenchModel" ({ cls := "SeedBenchModel", name := "row", desc := "(III)Z" } : MethodName) ({ cls := "SeedBenchModel", name := "row", desc := "(III)Z" } : MethodName) ∈ gT := gm_6 (List.mem_of_getElem? (i := 51) rfl) rfl
theorem kw_889 : Cond.code ({ cls := "SeedBench", name := "order", desc := "()I" } : MethodName) prog_1_method_21_code (2 : Nat) (Option.some FieldType.int) ∈ gT := gm_3 (List.mem_of_getElem? (i := 223) rfl) rfl
theorem kw_890 : Cond.methodLink "SeedBenchLaw" (99 : Nat) ({ cls := "SeedBench", name := "order", desc := "()I" } : MethodName) ∈ gT := gm_3 (List.mem_of_getElem? (i := 220) rfl) rfl
theorem kw_891 : Cond.instanceMethod ({ cls := "SeedBench", name := "order", desc := "()I" } : MethodName) ∈ gT := gm_3 (List.mem_of_getElem? (i := 221) rfl) rfl
theorem kw_892 : Cond.selects "SeedBench" ({ cls := "SeedBench", name := "order", desc := "()I" } : MethodName) ({ cls := "SeedBench", name := "order", desc := "()I" } : MethodName) ∈ gT := gm_3 (List.mem_of_getElem? (i := 222) rfl) rfl
theorem kw_893 : Cond.code ({ cls := "SeedBenchModel", name := "order", desc := "()I" } : MethodName) prog_12_method_59_code (5 : Nat) (Option.some FieldType.int) ∈ gT := gm_6 (List.mem_of_getElem? (i := 56) rfl) rfl
theorem kw_894 : Cond.methodLink "SeedBenchLaw" (102 : Nat) ({ cls := "SeedBenchModel", name := "order", desc := "()I" } : MethodName) ∈ gT := gm_6 (List.mem_of_getElem? (i := 53) rfl) rfl
theorem kw_895 : Cond.instanceMethod ({ cls := "SeedBenchModel", name := "order", desc := "()I" } : MethodName) ∈ gT := gm_6 (List.mem_of_getElem? (i := 54) rfl) rfl
theorem kw_896 : Cond.selects "SeedBenchModel" ({ cls := "SeedBenchModel", name := "order", desc := "()I" } : MethodName) ({ cls := "SeedBenchModel", name := "order", desc := "()I" } : MethodName) ∈ gT := gm_6 (List.mem_of_getElem? (i := 55) rfl) rfl
theorem kw_897 : Cond.code ({ cls := "SeedBench", name := "ring", desc := "(II)Z" } : MethodName) prog_1_method_22_code (3 : Nat) (Option.some FieldType.boolean) ∈ gT := gm_3 (List.mem_of_getElem? (i := 231) rfl) rfl
theorem kw_898 : Cond.methodLink "SeedBenchLaw" (103 : Nat) ({ cls := "SeedBench", name := "ring", desc := "(II)Z" } : MethodName) ∈ gT := gm_3 (List.mem_of_getElem? (i := 228) rfl) rfl
theorem kw_899 : Cond.instanceMethod ({ cls := "SeedBench", name := "ring", desc := "(II)Z" } : MethodName) ∈ gT := gm_3 (List.mem_of_getElem? (i := 229) rfl) rfl
theorem kw_900 : Cond.selects "SeedBench" ({ cls := "SeedBench", name := "ring", desc := "(II)Z" } : MethodName) ({ cls := "SeedBench", name := "ring", desc := "(II)Z" } : MethodName) ∈ gT := gm_3 (List.mem_of_getElem? (i := 230) rfl) rfl
theorem kw_901 : Cond.code ({ cls := "SeedBenchModel", name := "ring", desc := "(II)Z" } : MethodName) prog_12_method_62_code (4 : Nat) (Option.some FieldType.boolean) ∈ gT := gm_6 (List.mem_of_getElem? (i := 64) rfl) rfl
theorem kw_902 : Cond.methodLink "SeedBenchLaw" (106 : Nat) ({ cls := "SeedBenchModel", name := "ring", desc := "(II)Z" } : MethodName) ∈ gT := gm_6 (List.mem_of_getElem? (i := 61) rfl) rfl
theorem kw_903 : Cond.instanceMethod ({ cls := "SeedBenchModel", name := "ring", desc := "(II)Z" } : MethodName) ∈ gT := gm_6 (List.mem_of_getElem? (i := 62) rfl) rfl
theorem kw_904 : Cond.selects "SeedBenchModel" ({ cls := "SeedBenchModel", name := "ring", desc := "(II)Z" } : MethodName) ({ cls := "SeedBenchModel", name := "ring", desc := "(II)Z" } : MethodName) ∈ gT := gm_6 (List.mem_of_getElem? (i := 63) rfl) rfl
theorem kw_905 : Cond.code ({ cls := "SeedBench", name := "fence", desc := "(III)I" } : MethodName) prog_1_method_23_code (5 : Nat) (Option.some FieldType.int) ∈ gT := gm_3 (List.mem_of_getElem? (i := 238) rfl) rfl
theorem kw_906 : Cond.methodLink "SeedBenchLaw" (107 : Nat) ({ cls := "SeedBench", name := "fence", desc := "(III)I" } : MethodName) ∈ gT := gm_3 (List.mem_of_getElem? (i := 235) rfl) rfl
theorem kw_907 : Cond.instanceMethod ({ cls := "SeedBench", name := "fence", desc := "(III)I" } : MethodName) ∈ gT := gm_3 (List.mem_of_getElem? (i := 236) rfl) rfl
theorem kw_908 : Cond.selects "SeedBench" ({ cls := "SeedBench", name := "fence", desc := "(III)I" } : MethodName) ({ cls := "SeedBench", name := "fence", desc := "(III)I" } : MethodName) ∈ gT := gm_3 (List.mem_of_getElem? (i := 237) rfl) rfl
theorem kw_909 : Cond.code ({ cls := "SeedBenchModel", name := "fence", desc := "(III)I" } : MethodName) prog_12_method_66_code (7 : Nat) (Option.some FieldType.int) ∈ gT := gm_6 (List.mem_of_getElem? (i := 72) rfl) rfl
theorem kw_910 : Cond.methodLink "SeedBenchLaw" (111 : Nat) ({ cls := "SeedBenchModel", name := "fence", desc := "(III)I" } : MethodName) ∈ gT := gm_6 (List.mem_of_getElem? (i := 69) rfl) rfl
theorem kw_911 : Cond.instanceMethod ({ cls := "SeedBenchModel", name := "fence", desc := "(III)I" } : MethodName) ∈ gT := gm_6 (List.mem_of_getElem? (i := 70) rfl) rfl
theorem kw_912 : Cond.selects "SeedBenchModel" ({ cls := "SeedBenchModel", name := "fence", desc := "(III)I" } : MethodName) ({ cls := "SeedBenchModel", name := "fence", desc := "(III)I" } : MethodName) ∈ gT := gm_6 (List.mem_of_getElem? (i := 71) rfl) rfl
theorem kw_913 : Cond.code ({ cls := "SeedBench", name := "flip", desc := "(III)I" } : MethodName) prog_1_method_24_code (6 : Nat) (Option.some FieldType.int) ∈ gT := gm_4 (List.mem_of_getElem? (i := 35) rfl) rfl
theorem kw_914 : Cond.methodLink "SeedBenchLaw" (112 : Nat) ({ cls := "SeedBench", name := "flip", desc := "(III)I" } : MethodName) ∈ gT := gm_4 (List.mem_of_getElem? (i := 32) rfl) rfl
theorem kw_915 : Cond.instanceMethod ({ cls := "SeedBench", name := "flip", desc := "(III)I" } : MethodName) ∈ gT := gm_4 (List.mem_of_getElem? (i := 33) rfl) rfl
theorem kw_916 : Cond.selects "SeedBench" ({ cls := "SeedBench", name := "flip", desc := "(III)I" } : MethodName) ({ cls := "SeedBench", name := "flip", desc := "(III)I" } : MethodName) ∈ gT := gm_4 (List.mem_of_getElem? (i := 34) rfl) rfl
theorem kw_917 : Cond.code ({ cls := "SeedBenchModel", name := "flip", desc := "(III)I" } : MethodName) prog_12_method_72_code (5 : Nat) (Option.some FieldType.int) ∈ gT := gm_6 (List.mem_of_getElem? (i := 89) rfl) rfl
theorem kw_918 : Cond.methodLink "SeedBenchLaw" (115 : Nat) ({ cls := "SeedBenchModel", name := "flip", desc := "(III)I" } : MethodName) ∈ gT := gm_6 (List.mem_of_getElem? (i := 86) rfl) rfl
theorem kw_919 : Cond.instanceMethod ({ cls := "SeedBenchModel", name := "flip", desc := "(III)I" } : MethodName) ∈ gT := gm_6 (List.mem_of_getElem? (i := 87) rfl) rfl
theorem kw_920 : Cond.selects "SeedBenchModel" ({ cls := "SeedBenchModel", name := "flip", desc := "(III)I" } : MethodName) ({ cls := "SeedBenchModel", name := "flip", desc := "(III)I" } : MethodName) ∈ gT := gm_6 (List.mem_of_getElem? (i := 88) rfl) rfl
theorem kw_921 : Cond.code ({ cls := "SeedBench", name := "ringOf", desc := "(II)I" } : MethodName) prog_1_method_25_code (3 : Nat) (Option.some FieldType.int) ∈ gT := gm_4 (List.mem_of_getElem? (i := 55) rfl) rfl
theorem kw_922 : Cond.methodLink "SeedBenchLaw" (116 : Nat) ({ cls := "SeedBench", name := "ringOf", desc := "(II)I" } : MethodName) ∈ gT := gm_4 (List.mem_of_getElem? (i := 52) rfl) rfl
theorem kw_923 : Cond.instanceMethod ({ cls := "SeedBench", name := "ringOf", desc := "(II)I" } : MethodName) ∈ gT := gm_4 (List.mem_of_getElem? (i := 53) rfl) rfl
theorem kw_924 : Cond.selects "SeedBench" ({ cls := "SeedBench", name := "ringOf", desc := "(II)I" } : MethodName) ({ cls := "SeedBench", name := "ringOf", desc := "(II)I" } : MethodName) ∈ gT := gm_4 (List.mem_of_getElem? (i := 54) rfl) rfl
theorem kw_925 : Cond.code ({ cls := "SeedBenchModel", name := "ringOf", desc := "(II)I" } : MethodName) prog_12_method_75_code (3 : Nat) (Option.some FieldType.int) ∈ gT := gm_6 (List.mem_of_getElem? (i := 112) rfl) rfl
theorem kw_926 : Cond.methodLink "SeedBenchLaw" (119 : Nat) ({ cls := "SeedBenchModel", name := "ringOf", desc := "(II)I" } : MethodName) ∈ gT := gm_6 (List.mem_of_getElem? (i := 109) rfl) rfl
theorem kw_927 : Cond.instanceMethod ({ cls := "SeedBenchModel", name := "ringOf", desc := "(II)I" } : MethodName) ∈ gT := gm_6 (List.mem_of_getElem? (i := 110) rfl) rfl
theorem kw_928 : Cond.selects "SeedBenchModel" ({ cls := "SeedBenchModel", name := "ringOf", desc := "(II)I" } : MethodName) ({ cls := "SeedBenchModel", name := "ringOf", desc := "(II)I" } : MethodName) ∈ gT := gm_6 (List.mem_of_getElem? (i := 111) rfl) rfl
theorem kw_929 : Cond.code ({ cls := "SeedBench", name := "frieze", desc := "(III)J" } : MethodName) prog_1_method_26_code (4 : Nat) (Option.some FieldType.long) ∈ gT := gm_4 (List.mem_of_getElem? (i := 72) rfl) rfl
theorem kw_930 : Cond.methodLink "SeedBenchLaw" (120 : Nat) ({ cls := "SeedBench", name := "frieze", desc := "(III)J" } : MethodName) ∈ gT := gm_4 (List.mem_of_getElem? (i := 69) rfl) rfl
theorem kw_931 : Cond.instanceMethod ({ cls := "SeedBench", name := "frieze", desc := "(III)J" } : MethodName) ∈ gT := gm_4 (List.mem_of_getElem? (i := 70) rfl) rfl
theorem kw_932 : Cond.selects "SeedBench" ({ cls := "SeedBench", name := "frieze", desc := "(III)J" } : MethodName) ({ cls := "SeedBench", name := "frieze", desc := "(III)J" } : MethodName) ∈ gT := gm_4 (List.mem_of_getElem? (i := 71) rfl) rfl
theorem kw_933 : Cond.code ({ cls := "SeedBenchModel", name := "frieze", desc := "(III)J" } : MethodName) prog_12_method_76_code (11 : Nat) (Option.some FieldType.long) ∈ gT := gm_6 (List.mem_of_getElem? (i := 124) rfl) rfl
theorem kw_934 : Cond.methodLink "SeedBenchLaw" (123 : Nat) ({ cls := "SeedBenchModel", name := "frieze", desc := "(III)J" } : MethodName) ∈ gT := gm_6 (List.mem_of_getElem? (i := 121) rfl) rfl
theorem kw_935 : Cond.instanceMethod ({ cls := "SeedBenchModel", name := "frieze", desc := "(III)J" } : MethodName) ∈ gT := gm_6 (List.mem_of_getElem? (i := 122) rfl) rfl
theorem kw_936 : Cond.selects "SeedBenchModel" ({ cls := "SeedBenchModel", name := "frieze", desc := "(III)J" } : MethodName) ({ cls := "SeedBenchModel", name := "frieze", desc := "(III)J" } : MethodName) ∈ gT := gm_6 (List.mem_of_getElem? (i := 123) rfl) rfl
theorem kw_937 : Cond.code ({ cls := "SeedBench", name := "way", desc := "()I" } : MethodName) prog_1_method_27_code (1 : Nat) (Option.some FieldType.int) ∈ gT := gm_4 (List.mem_of_getElem? (i := 80) rfl) rfl
theorem kw_938 : Cond.methodLink "SeedBenchLaw" (124 : Nat) ({ cls := "SeedBench", name := "way", desc := "()I" } : MethodName) ∈ gT := gm_4 (List.mem_of_getElem? (i := 77) rfl) rfl
theorem kw_939 : Cond.instanceMethod ({ cls := "SeedBench", name := "way", desc := "()I" } : MethodName) ∈ gT := gm_4 (List.mem_of_getElem? (i := 78) rfl) rfl
theorem kw_940 : Cond.selects "SeedBench" ({ cls := "SeedBench", name := "way", desc := "()I" } : MethodName) ({ cls := "SeedBench", name := "way", desc := "()I" } : MethodName) ∈ gT := gm_4 (List.mem_of_getElem? (i := 79) rfl) rfl
theorem kw_941 : Cond.code ({ cls := "SeedBenchModel", name := "way", desc := "()I" } : MethodName) prog_12_method_80_code (10 : Nat) (Option.some FieldType.int) ∈ gT := gm_6 (List.mem_of_getElem? (i := 128) rfl) rfl
theorem kw_942 : Cond.methodLink "SeedBenchLaw" (127 : Nat) ({ cls := "SeedBenchModel", name := "way", desc := "()I" } : MethodName) ∈ gT := gm_6 (List.mem_of_getElem? (i := 125) rfl) rfl
theorem kw_943 : Cond.instanceMethod ({ cls := "SeedBenchModel", name := "way", desc := "()I" } : MethodName) ∈ gT := gm_6 (List.mem_of_getElem? (i := 126) rfl) rfl
theorem kw_944 : Cond.selects "SeedBenchModel" ({ cls := "SeedBenchModel", name := "way", desc := "()I" } : MethodName) ({ cls := "SeedBenchModel", name := "way", desc := "()I" } : MethodName) ∈ gT := gm_6 (List.mem_of_getElem? (i := 127) rfl) rfl
theorem kw_945 : Cond.code ({ cls := "SeedBench", name := "goes", desc := "(I)I" } : MethodName) prog_1_method_28_code (2 : Nat) (Option.some FieldType.int) ∈ gT := gm_4 (List.mem_of_getElem? (i := 107) rfl) rfl
theorem kw_946 : Cond.methodLink "SeedBenchLaw" (128 : Nat) ({ cls := "SeedBench", name := "goes", desc := "(I)I" } : MethodName) ∈ gT := gm_4 (List.mem_of_getElem? (i := 104) rfl) rfl
theorem kw_947 : Cond.instanceMethod ({ cls := "SeedBench", name := "goes", desc := "(I)I" } : MethodName) ∈ gT := gm_4 (List.mem_of_getElem? (i := 105) rfl) rfl
theorem kw_948 : Cond.selects "SeedBench" ({ cls := "SeedBench", name := "goes", desc := "(I)I" } : MethodName) ({ cls := "SeedBench", name := "goes", desc := "(I)I" } : MethodName) ∈ gT := gm_4 (List.mem_of_getElem? (i := 106) rfl) rfl
theorem kw_949 : Cond.code ({ cls := "SeedBenchModel", name := "goes", desc := "(I)I" } : MethodName) prog_12_method_81_code (2 : Nat) (Option.some FieldType.int) ∈ gT := gm_6 (List.mem_of_getElem? (i := 144) rfl) rfl
theorem kw_950 : Cond.methodLink "SeedBenchLaw" (131 : Nat) ({ cls := "SeedBenchModel", name := "goes", desc := "(I)I" } : MethodName) ∈ gT := gm_6 (List.mem_of_getElem? (i := 141) rfl) rfl
theorem kw_951 : Cond.instanceMethod ({ cls := "SeedBenchModel", name := "goes", desc := "(I)I" } : MethodName) ∈ gT := gm_6 (List.mem_of_getElem? (i := 142) rfl) rfl
theorem kw_952 : Cond.selects "SeedBenchModel" ({ cls := "SeedBenchModel", name := "goes", desc := "(I)I" } : MethodName) ({ cls := "SeedBenchModel", name := "goes", desc := "(I)I" } : MethodName) ∈ gT := gm_6 (List.mem_of_getElem? (i := 143) rfl) rfl
theorem kw_953 : Cond.code ({ cls := "SeedBench", name := "seed", desc := "(I)Z" } : MethodName) prog_1_method_29_code (2 : Nat) (Option.some FieldType.boolean) ∈ gT := gm_4 (List.mem_of_getElem? (i := 111) rfl) rfl
theorem kw_954 : Cond.methodLink "SeedBenchLaw" (132 : Nat) ({ cls := "SeedBench", name := "seed", desc := "(I)Z" } : MethodName) ∈ gT := gm_4 (List.mem_of_getElem? (i := 108) rfl) rfl
theorem kw_955 : Cond.instanceMethod ({ cls := "SeedBench", name := "seed", desc := "(I)Z" } : MethodName) ∈ gT := gm_4 (List.mem_of_getElem? (i := 109) rfl) rfl
theorem kw_956 : Cond.selects "SeedBench" ({ cls := "SeedBench", name := "seed", desc := "(I)Z" } : MethodName) ({ cls := "SeedBench", name := "seed", desc := "(I)Z" } : MethodName) ∈ gT := gm_4 (List.mem_of_getElem? (i := 110) rfl) rfl
theorem kw_957 : Cond.code ({ cls := "SeedBenchModel", name := "seed", desc := "(I)Z" } : MethodName) prog_12_method_84_code (10 : Nat) (Option.some FieldType.boolean) ∈ gT := gm_6 (List.mem_of_getElem? (i := 148) rfl) rfl
theorem kw_958 : Cond.methodLink "SeedBenchLaw" (135 : Nat) ({ cls := "SeedBenchModel", name := "seed", desc := "(I)Z" } : MethodName) ∈ gT := gm_6 (List.mem_of_getElem? (i := 145) rfl) rfl
theorem kw_959 : Cond.instanceMethod ({ cls := "SeedBenchModel", name := "seed", desc := "(I)Z" } : MethodName) ∈ gT := gm_6 (List.mem_of_getElem? (i := 146) rfl) rfl
theorem kw_960 : Cond.selects "SeedBenchModel" ({ cls := "SeedBenchModel", name := "seed", desc := "(I)Z" } : MethodName) ({ cls := "SeedBenchModel", name := "seed", desc := "(I)Z" } : MethodName) ∈ gT := gm_6 (List.mem_of_getElem? (i := 147) rfl) rfl
theorem kw_961 : Cond.code ({ cls := "SeedBench", name := "count", desc := "(I)I" } : MethodName) prog_1_method_30_code (2 : Nat) (Option.some FieldType.int) ∈ gT := gm_4 (List.mem_of_getElem? (i := 126) rfl) rfl
theorem kw_962 : Cond.methodLink "SeedBenchLaw" (136 : Nat) ({ cls := "SeedBench", name := "count", desc := "(I)I" } : MethodName) ∈ gT := gm_4 (List.mem_of_getElem? (i := 123) rfl) rfl
theorem kw_963 : Cond.instanceMethod ({ cls := "SeedBench", name := "count", desc := "(I)I" } : MethodName) ∈ gT := gm_4 (List.mem_of_getElem? (i := 124) rfl) rfl
theorem kw_964 : Cond.selects "SeedBench" ({ cls := "SeedBench", name := "count", desc := "(I)I" } : MethodName) ({ cls := "SeedBench", name := "count", desc := "(I)I" } : MethodName) ∈ gT := gm_4 (List.mem_of_getElem? (i := 125) rfl) rfl
theorem kw_965 : Cond.code ({ cls := "SeedBenchModel", name := "count", desc := "(I)I" } : MethodName) prog_12_method_85_code (4 : Nat) (Option.some FieldType.int) ∈ gT := gm_6 (List.mem_of_getElem? (i := 162) rfl) rfl
theorem kw_966 : Cond.methodLink "SeedBenchLaw" (139 : Nat) ({ cls := "SeedBenchModel", name := "count", desc := "(I)I" } : MethodName) ∈ gT := gm_6 (List.mem_of_getElem? (i := 159) rfl) rfl
theorem kw_967 : Cond.instanceMethod ({ cls := "SeedBenchModel", name := "count", desc := "(I)I" } : MethodName) ∈ gT := gm_6 (List.mem_of_getElem? (i := 160) rfl) rfl
theorem kw_968 : Cond.selects "SeedBenchModel" ({ cls := "SeedBenchModel", name := "count", desc := "(I)I" } : MethodName) ({ cls := "SeedBenchModel", name := "count", desc := "(I)I" } : MethodName) ∈ gT := gm_6 (List.mem_of_getElem? (i := 161) rfl) rfl
theorem kw_969 : Cond.code ({ cls := "SeedBench", name := "<init>", desc := "()V" } : MethodName) prog_1_method_1_code (2 : Nat) (Option.none : Option FieldType) ∈ gT := gm_1 (List.mem_of_getElem? (i := 21) rfl) rfl
theorem kw_970 : Cond.methodLink "SeedBenchLaw" (9 : Nat) ({ cls := "SeedBench", name := "<init>", desc := "()V" } : MethodName) ∈ gT := gm_1 (List.mem_of_getElem? (i := 19) rfl) rfl
theorem kw_971 : Cond.instanceMethod ({ cls := "SeedBench", name := "<init>", desc := "()V" } : MethodName) ∈ gT := gm_1 (List.mem_of_getElem? (i := 20) rfl) rfl
theorem kw_972 : Cond.code ({ cls := "SeedBenchModel", name := "<init>", desc := "()V" } : MethodName) prog_12_method_2_code (1 : Nat) (Option.none : Option FieldType) ∈ gT := gm_4 (List.mem_of_getElem? (i := 135) rfl) rfl
theorem kw_973 : Cond.methodLink "SeedBenchLaw" (12 : Nat) ({ cls := "SeedBenchModel", name := "<init>", desc := "()V" } : MethodName) ∈ gT := gm_4 (List.mem_of_getElem? (i := 133) rfl) rfl
theorem kw_974 : Cond.instanceMethod ({ cls := "SeedBenchModel", name := "<init>", desc := "()V" } : MethodName) ∈ gT := gm_4 (List.mem_of_getElem? (i := 134) rfl) rfl
theorem hz_111 : (mt 111).2.2.2.2.1.cells = 0 ∧ (mt 111).2.2.2.2.1.slots = 0 := by
  rw [show mt 111 = m_X9_table from rfl]
  exact ⟨rfl, rfl⟩
theorem hz_187 : (mt 187).2.2.2.2.1.cells = 0 ∧ (mt 187).2.2.2.2.1.slots = 0 := by
  rw [show mt 187 = m_X10_table from rfl]
  exact ⟨rfl, rfl⟩
theorem hz_84 : (mt 84).2.2.2.2.1.cells = 0 ∧ (mt 84).2.2.2.2.1.slots = 0 := by
  rw [show mt 84 = m_X9_arrows from rfl]
  exact ⟨rfl, rfl⟩
theorem hz_126 : (mt 126).2.2.2.2.1.cells = 0 ∧ (mt 126).2.2.2.2.1.slots = 0 := by
  rw [show mt 126 = m_X10_arrows from rfl]
  exact ⟨rfl, rfl⟩
theorem hz_87 : (mt 87).2.2.2.2.1.cells = 0 ∧ (mt 87).2.2.2.2.1.slots = 0 := by
  rw [show mt 87 = m_X9_begin from rfl]
  exact ⟨rfl, rfl⟩
theorem hz_129 : (mt 129).2.2.2.2.1.cells = 0 ∧ (mt 129).2.2.2.2.1.slots = 0 := by
  rw [show mt 129 = m_X10_begin from rfl]
  exact ⟨rfl, rfl⟩
theorem hz_108 : (mt 108).2.2.2.2.1.cells = 0 ∧ (mt 108).2.2.2.2.1.slots = 0 := by
  rw [show mt 108 = m_X9_size from rfl]
  exact ⟨rfl, rfl⟩
theorem hz_184 : (mt 184).2.2.2.2.1.cells = 0 ∧ (mt 184).2.2.2.2.1.slots = 0 := by
  rw [show mt 184 = m_X10_size from rfl]
  exact ⟨rfl, rfl⟩
theorem hz_115 : (mt 115).2.2.2.2.1.cells = 0 ∧ (mt 115).2.2.2.2.1.slots = 0 := by
  rw [show mt 115 = m_X9_turn from rfl]
  exact ⟨rfl, rfl⟩
theorem hz_198 : (mt 198).2.2.2.2.1.cells = 0 ∧ (mt 198).2.2.2.2.1.slots = 0 := by
  rw [show mt 198 = m_X10_turn from rfl]
  exact ⟨rfl, rfl⟩
theorem hz_86 : (mt 86).2.2.2.2.1.cells = 0 ∧ (mt 86).2.2.2.2.1.slots = 0 := by
  rw [show mt 86 = m_X9_back from rfl]
  exact ⟨rfl, rfl⟩
theorem hz_128 : (mt 128).2.2.2.2.1.cells = 0 ∧ (mt 128).2.2.2.2.1.slots = 0 := by
  rw [show mt 128 = m_X10_back from rfl]
  exact ⟨rfl, rfl⟩
theorem hz_85 : (mt 85).2.2.2.2.1.cells = 0 ∧ (mt 85).2.2.2.2.1.slots = 0 := by
  rw [show mt 85 = m_X9_b from rfl]
  exact ⟨rfl, rfl⟩
theorem hz_127 : (mt 127).2.2.2.2.1.cells = 0 ∧ (mt 127).2.2.2.2.1.slots = 0 := by
  rw [show mt 127 = m_X10_b from rfl]
  exact ⟨rfl, rfl⟩
theorem hz_114 : (mt 114).2.2.2.2.1.cells = 0 ∧ (mt 114).2.2.2.2.1.slots = 0 := by
  rw [show mt 114 = m_X9_terms from rfl]
  exact ⟨rfl, rfl⟩
theorem hz_194 : (mt 194).2.2.2.2.1.cells = 0 ∧ (mt 194).2.2.2.2.1.slots = 0 := by
  rw [show mt 194 = m_X10_terms from rfl]
  exact ⟨rfl, rfl⟩
theorem hz_113 : (mt 113).2.2.2.2.1.cells = 0 ∧ (mt 113).2.2.2.2.1.slots = 0 := by
  rw [show mt 113 = m_X9_term from rfl]
  exact ⟨rfl, rfl⟩
theorem hz_193 : (mt 193).2.2.2.2.1.cells = 0 ∧ (mt 193).2.2.2.2.1.slots = 0 := by
  rw [show mt 193 = m_X10_term from rfl]
  exact ⟨rfl, rfl⟩
theorem hz_100 : (mt 100).2.2.2.2.1.cells = 0 ∧ (mt 100).2.2.2.2.1.slots = 0 := by
  rw [show mt 100 = m_X9_least from rfl]
  exact ⟨rfl, rfl⟩
theorem hz_162 : (mt 162).2.2.2.2.1.cells = 0 ∧ (mt 162).2.2.2.2.1.slots = 0 := by
  rw [show mt 162 = m_X10_least from rfl]
  exact ⟨rfl, rfl⟩
theorem hz_101 : (mt 101).2.2.2.2.1.cells = 0 ∧ (mt 101).2.2.2.2.1.slots = 0 := by
  rw [show mt 101 = m_X9_ones from rfl]
  exact ⟨rfl, rfl⟩
theorem hz_169 : (mt 169).2.2.2.2.1.cells = 0 ∧ (mt 169).2.2.2.2.1.slots = 0 := by
  rw [show mt 169 = m_X10_ones from rfl]
  exact ⟨rfl, rfl⟩
theorem hz_99 : (mt 99).2.2.2.2.1.cells = 0 ∧ (mt 99).2.2.2.2.1.slots = 0 := by
  rw [show mt 99 = m_X9_keep from rfl]
  exact ⟨rfl, rfl⟩
theorem hz_160 : (mt 160).2.2.2.2.1.cells = 0 ∧ (mt 160).2.2.2.2.1.slots = 0 := by
  rw [show mt 160 = m_X10_keep from rfl]
  exact ⟨rfl, rfl⟩
theorem hz_106 : (mt 106).2.2.2.2.1.cells = 0 ∧ (mt 106).2.2.2.2.1.slots = 0 := by
  rw [show mt 106 = m_X9_same from rfl]
  exact ⟨rfl, rfl⟩
theorem hz_180 : (mt 180).2.2.2.2.1.cells = 0 ∧ (mt 180).2.2.2.2.1.slots = 0 := by
  rw [show mt 180 = m_X10_same from rfl]
  exact ⟨rfl, rfl⟩
theorem hz_83 : (mt 83).2.2.2.2.1.cells = 0 ∧ (mt 83).2.2.2.2.1.slots = 0 := by
  rw [show mt 83 = m_X9_all from rfl]
  exact ⟨rfl, rfl⟩
theorem hz_123 : (mt 123).2.2.2.2.1.cells = 0 ∧ (mt 123).2.2.2.2.1.slots = 0 := by
  rw [show mt 123 = m_X10_all from rfl]
  exact ⟨rfl, rfl⟩
theorem hz_120 : (mt 120).2.2.2.2.1.cells = 0 ∧ (mt 120).2.2.2.2.1.slots = 0 := by
  rw [show mt 120 = m_X9_what from rfl]
  exact ⟨rfl, rfl⟩
theorem hz_203 : (mt 203).2.2.2.2.1.cells = 0 ∧ (mt 203).2.2.2.2.1.slots = 0 := by
  rw [show mt 203 = m_X10_what from rfl]
  exact ⟨rfl, rfl⟩
theorem hz_90 : (mt 90).2.2.2.2.1.cells = 0 ∧ (mt 90).2.2.2.2.1.slots = 0 := by
  rw [show mt 90 = m_X9_finite from rfl]
  exact ⟨rfl, rfl⟩
theorem hz_141 : (mt 141).2.2.2.2.1.cells = 0 ∧ (mt 141).2.2.2.2.1.slots = 0 := by
  rw [show mt 141 = m_X10_finite from rfl]
  exact ⟨rfl, rfl⟩
theorem hz_110 : (mt 110).2.2.2.2.1.cells = 0 ∧ (mt 110).2.2.2.2.1.slots = 0 := by
  rw [show mt 110 = m_X9_step from rfl]
  exact ⟨rfl, rfl⟩
theorem hz_185 : (mt 185).2.2.2.2.1.cells = 0 ∧ (mt 185).2.2.2.2.1.slots = 0 := by
  rw [show mt 185 = m_X10_step from rfl]
  exact ⟨rfl, rfl⟩
theorem hz_112 : (mt 112).2.2.2.2.1.cells = 0 ∧ (mt 112).2.2.2.2.1.slots = 0 := by
  rw [show mt 112 = m_X9_tables from rfl]
  exact ⟨rfl, rfl⟩
theorem hz_189 : (mt 189).2.2.2.2.1.cells = 0 ∧ (mt 189).2.2.2.2.1.slots = 0 := by
  rw [show mt 189 = m_X10_tables from rfl]
  exact ⟨rfl, rfl⟩
theorem hz_105 : (mt 105).2.2.2.2.1.cells = 0 ∧ (mt 105).2.2.2.2.1.slots = 0 := by
  rw [show mt 105 = m_X9_row from rfl]
  exact ⟨rfl, rfl⟩
theorem hz_179 : (mt 179).2.2.2.2.1.cells = 0 ∧ (mt 179).2.2.2.2.1.slots = 0 := by
  rw [show mt 179 = m_X10_row from rfl]
  exact ⟨rfl, rfl⟩
theorem hz_102 : (mt 102).2.2.2.2.1.cells = 0 ∧ (mt 102).2.2.2.2.1.slots = 0 := by
  rw [show mt 102 = m_X9_order from rfl]
  exact ⟨rfl, rfl⟩
theorem hz_170 : (mt 170).2.2.2.2.1.cells = 0 ∧ (mt 170).2.2.2.2.1.slots = 0 := by
  rw [show mt 170 = m_X10_order from rfl]
  exact ⟨rfl, rfl⟩
theorem hz_103 : (mt 103).2.2.2.2.1.cells = 0 ∧ (mt 103).2.2.2.2.1.slots = 0 := by
  rw [show mt 103 = m_X9_ring from rfl]
  exact ⟨rfl, rfl⟩
theorem hz_177 : (mt 177).2.2.2.2.1.cells = 0 ∧ (mt 177).2.2.2.2.1.slots = 0 := by
  rw [show mt 177 = m_X10_ring from rfl]
  exact ⟨rfl, rfl⟩
theorem hz_89 : (mt 89).2.2.2.2.1.cells = 0 ∧ (mt 89).2.2.2.2.1.slots = 0 := by
  rw [show mt 89 = m_X9_fence from rfl]
  exact ⟨rfl, rfl⟩
theorem hz_138 : (mt 138).2.2.2.2.1.cells = 0 ∧ (mt 138).2.2.2.2.1.slots = 0 := by
  rw [show mt 138 = m_X10_fence from rfl]
  exact ⟨rfl, rfl⟩
theorem hz_91 : (mt 91).2.2.2.2.1.cells = 0 ∧ (mt 91).2.2.2.2.1.slots = 0 := by
  rw [show mt 91 = m_X9_flip from rfl]
  exact ⟨rfl, rfl⟩
theorem hz_143 : (mt 143).2.2.2.2.1.cells = 0 ∧ (mt 143).2.2.2.2.1.slots = 0 := by
  rw [show mt 143 = m_X10_flip from rfl]
  exact ⟨rfl, rfl⟩
theorem hz_104 : (mt 104).2.2.2.2.1.cells = 0 ∧ (mt 104).2.2.2.2.1.slots = 0 := by
  rw [show mt 104 = m_X9_ringOf from rfl]
  exact ⟨rfl, rfl⟩
theorem hz_178 : (mt 178).2.2.2.2.1.cells = 0 ∧ (mt 178).2.2.2.2.1.slots = 0 := by
  rw [show mt 178 = m_X10_ringOf from rfl]
  exact ⟨rfl, rfl⟩
theorem hz_92 : (mt 92).2.2.2.2.1.cells = 0 ∧ (mt 92).2.2.2.2.1.slots = 0 := by
  rw [show mt 92 = m_X9_frieze from rfl]
  exact ⟨rfl, rfl⟩
theorem hz_145 : (mt 145).2.2.2.2.1.cells = 0 ∧ (mt 145).2.2.2.2.1.slots = 0 := by
  rw [show mt 145 = m_X10_frieze from rfl]
  exact ⟨rfl, rfl⟩
theorem hz_119 : (mt 119).2.2.2.2.1.cells = 0 ∧ (mt 119).2.2.2.2.1.slots = 0 := by
  rw [show mt 119 = m_X9_way from rfl]
  exact ⟨rfl, rfl⟩
theorem hz_202 : (mt 202).2.2.2.2.1.cells = 0 ∧ (mt 202).2.2.2.2.1.slots = 0 := by
  rw [show mt 202 = m_X10_way from rfl]
  exact ⟨rfl, rfl⟩
theorem hz_93 : (mt 93).2.2.2.2.1.cells = 0 ∧ (mt 93).2.2.2.2.1.slots = 0 := by
  rw [show mt 93 = m_X9_goes from rfl]
  exact ⟨rfl, rfl⟩
theorem hz_146 : (mt 146).2.2.2.2.1.cells = 0 ∧ (mt 146).2.2.2.2.1.slots = 0 := by
  rw [show mt 146 = m_X10_goes from rfl]
  exact ⟨rfl, rfl⟩
theorem hz_107 : (mt 107).2.2.2.2.1.cells = 0 ∧ (mt 107).2.2.2.2.1.slots = 0 := by
  rw [show mt 107 = m_X9_seed from rfl]
  exact ⟨rfl, rfl⟩
theorem hz_183 : (mt 183).2.2.2.2.1.cells = 0 ∧ (mt 183).2.2.2.2.1.slots = 0 := by
  rw [show mt 183 = m_X10_seed from rfl]
  exact ⟨rfl, rfl⟩
theorem hz_88 : (mt 88).2.2.2.2.1.cells = 0 ∧ (mt 88).2.2.2.2.1.slots = 0 := by
  rw [show mt 88 = m_X9_count from rfl]
  exact ⟨rfl, rfl⟩
theorem hz_135 : (mt 135).2.2.2.2.1.cells = 0 ∧ (mt 135).2.2.2.2.1.slots = 0 := by
  rw [show mt 135 = m_X10_count from rfl]
  exact ⟨rfl, rfl⟩
theorem hz_94 : (mt 94).2.2.2.2.1.cells = 513 ∧ (mt 94).2.2.2.2.1.slots = 421477 := by
  rw [show mt 94 = m_X9_init from rfl]
  exact ⟨rfl, rfl⟩
theorem hz_152 : (mt 152).2.2.2.2.1.cells = 38 ∧ (mt 152).2.2.2.2.1.slots = 536755 := by
  rw [show mt 152 = m_X10_init from rfl]
  exact ⟨rfl, rfl⟩
theorem lk_175 {l : Launch} {D : va_G} {cy : Nat → ClassId} {σ : Nat → Int32} {nm : String} : rx_Lk (gG l D cy σ) mt (lwM nm) 175 111 3 9 true := rx_lk_V gok (mid := 111) (ci := 9) (C := (RX9, TX9, 15)) ⟨kw_743, kw_35, hd_X9_table, Nat.le_of_ble_eq_true rfl, Nat.le_of_ble_eq_true rfl⟩ rfl kw_744 kw_745 kw_746 dL_law_175
theorem lk_190 {l : Launch} {D : va_G} {cy : Nat → ClassId} {σ : Nat → Int32} {nm : String} : rx_Lk (gG l D cy σ) mt (lwM nm) 190 187 3 10 true := rx_lk_V gok (mid := 187) (ci := 10) (C := (RX10, TX10, 58)) ⟨kw_687, kw_484, hd_X10_table, Nat.le_of_ble_eq_true rfl, Nat.le_of_ble_eq_true rfl⟩ rfl kw_747 kw_689 kw_690 dL_law_190
theorem lk_213 {l : Launch} {D : va_G} {cy : Nat → ClassId} {σ : Nat → Int32} {nm : String} : rx_Lk (gG l D cy σ) mt (lwM nm) 213 84 4 9 true := rx_lk_V gok (mid := 84) (ci := 9) (C := (RX9, TX9, 15)) ⟨kw_748, kw_35, hd_X9_arrows, Nat.le_of_ble_eq_true rfl, Nat.le_of_ble_eq_true rfl⟩ rfl kw_749 kw_750 kw_751 dL_law_213
theorem lk_233 {l : Launch} {D : va_G} {cy : Nat → ClassId} {σ : Nat → Int32} {nm : String} : rx_Lk (gG l D cy σ) mt (lwM nm) 233 126 4 10 true := rx_lk_V gok (mid := 126) (ci := 10) (C := (RX10, TX10, 58)) ⟨kw_752, kw_484, hd_X10_arrows, Nat.le_of_ble_eq_true rfl, Nat.le_of_ble_eq_true rfl⟩ rfl kw_753 kw_754 kw_755 dL_law_233
theorem lk_241 {l : Launch} {D : va_G} {cy : Nat → ClassId} {σ : Nat → Int32} {nm : String} : rx_Lk (gG l D cy σ) mt (lwM nm) 241 87 1 9 true := rx_lk_V gok (mid := 87) (ci := 9) (C := (RX9, TX9, 15)) ⟨kw_756, kw_35, hd_X9_begin, Nat.le_of_ble_eq_true rfl, Nat.le_of_ble_eq_true rfl⟩ rfl kw_757 kw_758 kw_759 dL_law_241
theorem lk_246 {l : Launch} {D : va_G} {cy : Nat → ClassId} {σ : Nat → Int32} {nm : String} : rx_Lk (gG l D cy σ) mt (lwM nm) 246 129 1 10 true := rx_lk_V gok (mid := 129) (ci := 10) (C := (RX10, TX10, 58)) ⟨kw_699, kw_484, hd_X10_begin, Nat.le_of_ble_eq_true rfl, Nat.le_of_ble_eq_true rfl⟩ rfl kw_760 kw_701 kw_702 dL_law_246
theorem lk_259 {l : Launch} {D : va_G} {cy : Nat → ClassId} {σ : Nat → Int32} {nm : String} : rx_Lk (gG l D cy σ) mt (lwM nm) 259 108 2 9 true := rx_lk_V gok (mid := 108) (ci := 9) (C := (RX9, TX9, 15)) ⟨kw_761, kw_35, hd_X9_size, Nat.le_of_ble_eq_true rfl, Nat.le_of_ble_eq_true rfl⟩ rfl kw_762 kw_763 kw_764 dL_law_259
theorem lk_269 {l : Launch} {D : va_G} {cy : Nat → ClassId} {σ : Nat → Int32} {nm : String} : rx_Lk (gG l D cy σ) mt (lwM nm) 269 184 2 10 true := rx_lk_V gok (mid := 184) (ci := 10) (C := (RX10, TX10, 58)) ⟨kw_765, kw_484, hd_X10_size, Nat.le_of_ble_eq_true rfl, Nat.le_of_ble_eq_true rfl⟩ rfl kw_766 kw_767 kw_768 dL_law_269
theorem lk_282 {l : Launch} {D : va_G} {cy : Nat → ClassId} {σ : Nat → Int32} {nm : String} : rx_Lk (gG l D cy σ) mt (lwM nm) 282 115 2 9 true := rx_lk_V gok (mid := 115) (ci := 9) (C := (RX9, TX9, 15)) ⟨kw_769, kw_35, hd_X9_turn, Nat.le_of_ble_eq_true rfl, Nat.le_of_ble_eq_true rfl⟩ rfl kw_770 kw_771 kw_772 dL_law_282
theorem lk_292 {l : Launch} {D : va_G} {cy : Nat → ClassId} {σ : Nat → Int32} {nm : String} : rx_Lk (gG l D cy σ) mt (lwM nm) 292 198 2 10 true := rx_lk_V gok (mid := 198) (ci := 10) (C := (RX10, TX10, 58)) ⟨kw_773, kw_484, hd_X10_turn, Nat.le_of_ble_eq_true rfl, Nat.le_of_ble_eq_true rfl⟩ rfl kw_774 kw_775 kw_776 dL_law_292
theorem lk_300 {l : Launch} {D : va_G} {cy : Nat → ClassId} {σ : Nat → Int32} {nm : String} : rx_Lk (gG l D cy σ) mt (lwM nm) 300 86 1 9 true := rx_lk_V gok (mid := 86) (ci := 9) (C := (RX9, TX9, 15)) ⟨kw_777, kw_35, hd_X9_back, Nat.le_of_ble_eq_true rfl, Nat.le_of_ble_eq_true rfl⟩ rfl kw_778 kw_779 kw_780 dL_law_300
theorem lk_305 {l : Launch} {D : va_G} {cy : Nat → ClassId} {σ : Nat → Int32} {nm : String} : rx_Lk (gG l D cy σ) mt (lwM nm) 305 128 1 10 true := rx_lk_V gok (mid := 128) (ci := 10) (C := (RX10, TX10, 58)) ⟨kw_781, kw_484, hd_X10_back, Nat.le_of_ble_eq_true rfl, Nat.le_of_ble_eq_true rfl⟩ rfl kw_782 kw_783 kw_784 dL_law_305
theorem lk_323 {l : Launch} {D : va_G} {cy : Nat → ClassId} {σ : Nat → Int32} {nm : String} : rx_Lk (gG l D cy σ) mt (lwM nm) 323 85 3 9 true := rx_lk_V gok (mid := 85) (ci := 9) (C := (RX9, TX9, 15)) ⟨kw_785, kw_35, hd_X9_b, Nat.le_of_ble_eq_true rfl, Nat.le_of_ble_eq_true rfl⟩ rfl kw_786 kw_787 kw_788 dL_law_323
theorem lk_338 {l : Launch} {D : va_G} {cy : Nat → ClassId} {σ : Nat → Int32} {nm : String} : rx_Lk (gG l D cy σ) mt (lwM nm) 338 127 3 10 true := rx_lk_V gok (mid := 127) (ci := 10) (C := (RX10, TX10, 58)) ⟨kw_789, kw_484, hd_X10_b, Nat.le_of_ble_eq_true rfl, Nat.le_of_ble_eq_true rfl⟩ rfl kw_790 kw_791 kw_792 dL_law_338
theorem lk_351 {l : Launch} {D : va_G} {cy : Nat → ClassId} {σ : Nat → Int32} {nm : String} : rx_Lk (gG l D cy σ) mt (lwM nm) 351 114 2 9 true := rx_lk_V gok (mid := 114) (ci := 9) (C := (RX9, TX9, 15)) ⟨kw_793, kw_35, hd_X9_terms, Nat.le_of_ble_eq_true rfl, Nat.le_of_ble_eq_true rfl⟩ rfl kw_794 kw_795 kw_796 dL_law_351
theorem lk_361 {l : Launch} {D : va_G} {cy : Nat → ClassId} {σ : Nat → Int32} {nm : String} : rx_Lk (gG l D cy σ) mt (lwM nm) 361 194 2 10 true := rx_lk_V gok (mid := 194) (ci := 10) (C := (RX10, TX10, 58)) ⟨kw_797, kw_484, hd_X10_terms, Nat.le_of_ble_eq_true rfl, Nat.le_of_ble_eq_true rfl⟩ rfl kw_798 kw_799 kw_800 dL_law_361
theorem lk_384 {l : Launch} {D : va_G} {cy : Nat → ClassId} {σ : Nat → Int32} {nm : String} : rx_Lk (gG l D cy σ) mt (lwM nm) 384 113 4 9 true := rx_lk_V gok (mid := 113) (ci := 9) (C := (RX9, TX9, 15)) ⟨kw_801, kw_35, hd_X9_term, Nat.le_of_ble_eq_true rfl, Nat.le_of_ble_eq_true rfl⟩ rfl kw_802 kw_803 kw_804 dL_law_384
theorem lk_404 {l : Launch} {D : va_G} {cy : Nat → ClassId} {σ : Nat → Int32} {nm : String} : rx_Lk (gG l D cy σ) mt (lwM nm) 404 193 4 10 true := rx_lk_V gok (mid := 193) (ci := 10) (C := (RX10, TX10, 58)) ⟨kw_805, kw_484, hd_X10_term, Nat.le_of_ble_eq_true rfl, Nat.le_of_ble_eq_true rfl⟩ rfl kw_806 kw_807 kw_808 dL_law_404
theorem lk_422 {l : Launch} {D : va_G} {cy : Nat → ClassId} {σ : Nat → Int32} {nm : String} : rx_Lk (gG l D cy σ) mt (lwM nm) 422 100 3 9 true := rx_lk_V gok (mid := 100) (ci := 9) (C := (RX9, TX9, 15)) ⟨kw_809, kw_35, hd_X9_least, Nat.le_of_ble_eq_true rfl, Nat.le_of_ble_eq_true rfl⟩ rfl kw_810 kw_811 kw_812 dL_law_422
theorem lk_437 {l : Launch} {D : va_G} {cy : Nat → ClassId} {σ : Nat → Int32} {nm : String} : rx_Lk (gG l D cy σ) mt (lwM nm) 437 162 3 10 true := rx_lk_V gok (mid := 162) (ci := 10) (C := (RX10, TX10, 58)) ⟨kw_813, kw_484, hd_X10_least, Nat.le_of_ble_eq_true rfl, Nat.le_of_ble_eq_true rfl⟩ rfl kw_814 kw_815 kw_816 dL_law_437
theorem lk_450 {l : Launch} {D : va_G} {cy : Nat → ClassId} {σ : Nat → Int32} {nm : String} : rx_Lk (gG l D cy σ) mt (lwM nm) 450 101 2 9 true := rx_lk_V gok (mid := 101) (ci := 9) (C := (RX9, TX9, 15)) ⟨kw_817, kw_35, hd_X9_ones, Nat.le_of_ble_eq_true rfl, Nat.le_of_ble_eq_true rfl⟩ rfl kw_818 kw_819 kw_820 dL_law_450
theorem lk_460 {l : Launch} {D : va_G} {cy : Nat → ClassId} {σ : Nat → Int32} {nm : String} : rx_Lk (gG l D cy σ) mt (lwM nm) 460 169 2 10 true := rx_lk_V gok (mid := 169) (ci := 10) (C := (RX10, TX10, 58)) ⟨kw_821, kw_484, hd_X10_ones, Nat.le_of_ble_eq_true rfl, Nat.le_of_ble_eq_true rfl⟩ rfl kw_822 kw_823 kw_824 dL_law_460
theorem lk_473 {l : Launch} {D : va_G} {cy : Nat → ClassId} {σ : Nat → Int32} {nm : String} : rx_Lk (gG l D cy σ) mt (lwM nm) 473 99 2 9 true := rx_lk_V gok (mid := 99) (ci := 9) (C := (RX9, TX9, 15)) ⟨kw_825, kw_35, hd_X9_keep, Nat.le_of_ble_eq_true rfl, Nat.le_of_ble_eq_true rfl⟩ rfl kw_826 kw_827 kw_828 dL_law_473
theorem lk_483 {l : Launch} {D : va_G} {cy : Nat → ClassId} {σ : Nat → Int32} {nm : String} : rx_Lk (gG l D cy σ) mt (lwM nm) 483 160 2 10 true := rx_lk_V gok (mid := 160) (ci := 10) (C := (RX10, TX10, 58)) ⟨kw_829, kw_484, hd_X10_keep, Nat.le_of_ble_eq_true rfl, Nat.le_of_ble_eq_true rfl⟩ rfl kw_830 kw_831 kw_832 dL_law_483
theorem lk_496 {l : Launch} {D : va_G} {cy : Nat → ClassId} {σ : Nat → Int32} {nm : String} : rx_Lk (gG l D cy σ) mt (lwM nm) 496 106 2 9 true := rx_lk_V gok (mid := 106) (ci := 9) (C := (RX9, TX9, 15)) ⟨kw_833, kw_35, hd_X9_same, Nat.le_of_ble_eq_true rfl, Nat.le_of_ble_eq_true rfl⟩ rfl kw_834 kw_835 kw_836 dL_law_496
theorem lk_506 {l : Launch} {D : va_G} {cy : Nat → ClassId} {σ : Nat → Int32} {nm : String} : rx_Lk (gG l D cy σ) mt (lwM nm) 506 180 2 10 true := rx_lk_V gok (mid := 180) (ci := 10) (C := (RX10, TX10, 58)) ⟨kw_837, kw_484, hd_X10_same, Nat.le_of_ble_eq_true rfl, Nat.le_of_ble_eq_true rfl⟩ rfl kw_838 kw_839 kw_840 dL_law_506
theorem lk_514 {l : Launch} {D : va_G} {cy : Nat → ClassId} {σ : Nat → Int32} {nm : String} : rx_Lk (gG l D cy σ) mt (lwM nm) 514 83 1 9 true := rx_lk_V gok (mid := 83) (ci := 9) (C := (RX9, TX9, 15)) ⟨kw_841, kw_35, hd_X9_all, Nat.le_of_ble_eq_true rfl, Nat.le_of_ble_eq_true rfl⟩ rfl kw_842 kw_843 kw_844 dL_law_514
theorem lk_519 {l : Launch} {D : va_G} {cy : Nat → ClassId} {σ : Nat → Int32} {nm : String} : rx_Lk (gG l D cy σ) mt (lwM nm) 519 123 1 10 true := rx_lk_V gok (mid := 123) (ci := 10) (C := (RX10, TX10, 58)) ⟨kw_845, kw_484, hd_X10_all, Nat.le_of_ble_eq_true rfl, Nat.le_of_ble_eq_true rfl⟩ rfl kw_846 kw_847 kw_848 dL_law_519
theorem lk_537 {l : Launch} {D : va_G} {cy : Nat → ClassId} {σ : Nat → Int32} {nm : String} : rx_Lk (gG l D cy σ) mt (lwM nm) 537 120 3 9 true := rx_lk_V gok (mid := 120) (ci := 9) (C := (RX9, TX9, 15)) ⟨kw_849, kw_35, hd_X9_what, Nat.le_of_ble_eq_true rfl, Nat.le_of_ble_eq_true rfl⟩ rfl kw_850 kw_851 kw_852 dL_law_537
theorem lk_552 {l : Launch} {D : va_G} {cy : Nat → ClassId} {σ : Nat → Int32} {nm : String} : rx_Lk (gG l D cy σ) mt (lwM nm) 552 203 3 10 true := rx_lk_V gok (mid := 203) (ci := 10) (C := (RX10, TX10, 58)) ⟨kw_853, kw_484, hd_X10_what, Nat.le_of_ble_eq_true rfl, Nat.le_of_ble_eq_true rfl⟩ rfl kw_854 kw_855 kw_856 dL_law_552
theorem lk_560 {l : Launch} {D : va_G} {cy : Nat → ClassId} {σ : Nat → Int32} {nm : String} : rx_Lk (gG l D cy σ) mt (lwM nm) 560 90 1 9 true := rx_lk_V gok (mid := 90) (ci := 9) (C := (RX9, TX9, 15)) ⟨kw_857, kw_35, hd_X9_finite, Nat.le_of_ble_eq_true rfl, Nat.le_of_ble_eq_true rfl⟩ rfl kw_858 kw_859 kw_860 dL_law_560
theorem lk_565 {l : Launch} {D : va_G} {cy : Nat → ClassId} {σ : Nat → Int32} {nm : String} : rx_Lk (gG l D cy σ) mt (lwM nm) 565 141 1 10 true := rx_lk_V gok (mid := 141) (ci := 10) (C := (RX10, TX10, 58)) ⟨kw_861, kw_484, hd_X10_finite, Nat.le_of_ble_eq_true rfl, Nat.le_of_ble_eq_true rfl⟩ rfl kw_862 kw_863 kw_864 dL_law_565
theorem lk_578 {l : Launch} {D : va_G} {cy : Nat → ClassId} {σ : Nat → Int32} {nm : String} : rx_Lk (gG l D cy σ) mt (lwM nm) 578 110 2 9 true := rx_lk_V gok (mid := 110) (ci := 9) (C := (RX9, TX9, 15)) ⟨kw_865, kw_35, hd_X9_step, Nat.le_of_ble_eq_true rfl, Nat.le_of_ble_eq_true rfl⟩ rfl kw_866 kw_867 kw_868 dL_law_578
theorem lk_588 {l : Launch} {D : va_G} {cy : Nat → ClassId} {σ : Nat → Int32} {nm : String} : rx_Lk (gG l D cy σ) mt (lwM nm) 588 185 2 10 true := rx_lk_V gok (mid := 185) (ci := 10) (C := (RX10, TX10, 58)) ⟨kw_869, kw_484, hd_X10_step, Nat.le_of_ble_eq_true rfl, Nat.le_of_ble_eq_true rfl⟩ rfl kw_870 kw_871 kw_872 dL_law_588
theorem lk_596 {l : Launch} {D : va_G} {cy : Nat → ClassId} {σ : Nat → Int32} {nm : String} : rx_Lk (gG l D cy σ) mt (lwM nm) 596 112 1 9 true := rx_lk_V gok (mid := 112) (ci := 9) (C := (RX9, TX9, 15)) ⟨kw_873, kw_35, hd_X9_tables, Nat.le_of_ble_eq_true rfl, Nat.le_of_ble_eq_true rfl⟩ rfl kw_874 kw_875 kw_876 dL_law_596
theorem lk_600 {l : Launch} {D : va_G} {cy : Nat → ClassId} {σ : Nat → Int32} {nm : String} : rx_Lk (gG l D cy σ) mt (lwM nm) 600 189 1 10 true := rx_lk_V gok (mid := 189) (ci := 10) (C := (RX10, TX10, 58)) ⟨kw_877, kw_484, hd_X10_tables, Nat.le_of_ble_eq_true rfl, Nat.le_of_ble_eq_true rfl⟩ rfl kw_878 kw_879 kw_880 dL_law_600
theorem lk_624 {l : Launch} {D : va_G} {cy : Nat → ClassId} {σ : Nat → Int32} {nm : String} : rx_Lk (gG l D cy σ) mt (lwM nm) 624 105 4 9 true := rx_lk_V gok (mid := 105) (ci := 9) (C := (RX9, TX9, 15)) ⟨kw_881, kw_35, hd_X9_row, Nat.le_of_ble_eq_true rfl, Nat.le_of_ble_eq_true rfl⟩ rfl kw_882 kw_883 kw_884 dL_law_624
theorem lk_644 {l : Launch} {D : va_G} {cy : Nat → ClassId} {σ : Nat → Int32} {nm : String} : rx_Lk (gG l D cy σ) mt (lwM nm) 644 179 4 10 true := rx_lk_V gok (mid := 179) (ci := 10) (C := (RX10, TX10, 58)) ⟨kw_885, kw_484, hd_X10_row, Nat.le_of_ble_eq_true rfl, Nat.le_of_ble_eq_true rfl⟩ rfl kw_886 kw_887 kw_888 dL_law_644
theorem lk_652 {l : Launch} {D : va_G} {cy : Nat → ClassId} {σ : Nat → Int32} {nm : String} : rx_Lk (gG l D cy σ) mt (lwM nm) 652 102 1 9 true := rx_lk_V gok (mid := 102) (ci := 9) (C := (RX9, TX9, 15)) ⟨kw_889, kw_35, hd_X9_order, Nat.le_of_ble_eq_true rfl, Nat.le_of_ble_eq_true rfl⟩ rfl kw_890 kw_891 kw_892 dL_law_652
theorem lk_657 {l : Launch} {D : va_G} {cy : Nat → ClassId} {σ : Nat → Int32} {nm : String} : rx_Lk (gG l D cy σ) mt (lwM nm) 657 170 1 10 true := rx_lk_V gok (mid := 170) (ci := 10) (C := (RX10, TX10, 58)) ⟨kw_893, kw_484, hd_X10_order, Nat.le_of_ble_eq_true rfl, Nat.le_of_ble_eq_true rfl⟩ rfl kw_894 kw_895 kw_896 dL_law_657
theorem lk_675 {l : Launch} {D : va_G} {cy : Nat → ClassId} {σ : Nat → Int32} {nm : String} : rx_Lk (gG l D cy σ) mt (lwM nm) 675 103 3 9 true := rx_lk_V gok (mid := 103) (ci := 9) (C := (RX9, TX9, 15)) ⟨kw_897, kw_35, hd_X9_ring, Nat.le_of_ble_eq_true rfl, Nat.le_of_ble_eq_true rfl⟩ rfl kw_898 kw_899 kw_900 dL_law_675
theorem lk_690 {l : Launch} {D : va_G} {cy : Nat → ClassId} {σ : Nat → Int32} {nm : String} : rx_Lk (gG l D cy σ) mt (lwM nm) 690 177 3 10 true := rx_lk_V gok (mid := 177) (ci := 10) (C := (RX10, TX10, 58)) ⟨kw_901, kw_484, hd_X10_ring, Nat.le_of_ble_eq_true rfl, Nat.le_of_ble_eq_true rfl⟩ rfl kw_902 kw_903 kw_904 dL_law_690
theorem lk_713 {l : Launch} {D : va_G} {cy : Nat → ClassId} {σ : Nat → Int32} {nm : String} : rx_Lk (gG l D cy σ) mt (lwM nm) 713 89 4 9 true := rx_lk_V gok (mid := 89) (ci := 9) (C := (RX9, TX9, 15)) ⟨kw_905, kw_35, hd_X9_fence, Nat.le_of_ble_eq_true rfl, Nat.le_of_ble_eq_true rfl⟩ rfl kw_906 kw_907 kw_908 dL_law_713
theorem lk_733 {l : Launch} {D : va_G} {cy : Nat → ClassId} {σ : Nat → Int32} {nm : String} : rx_Lk (gG l D cy σ) mt (lwM nm) 733 138 4 10 true := rx_lk_V gok (mid := 138) (ci := 10) (C := (RX10, TX10, 58)) ⟨kw_909, kw_484, hd_X10_fence, Nat.le_of_ble_eq_true rfl, Nat.le_of_ble_eq_true rfl⟩ rfl kw_910 kw_911 kw_912 dL_law_733
theorem lk_756 {l : Launch} {D : va_G} {cy : Nat → ClassId} {σ : Nat → Int32} {nm : String} : rx_Lk (gG l D cy σ) mt (lwM nm) 756 91 4 9 true := rx_lk_V gok (mid := 91) (ci := 9) (C := (RX9, TX9, 15)) ⟨kw_913, kw_35, hd_X9_flip, Nat.le_of_ble_eq_true rfl, Nat.le_of_ble_eq_true rfl⟩ rfl kw_914 kw_915 kw_916 dL_law_756
theorem lk_776 {l : Launch} {D : va_G} {cy : Nat → ClassId} {σ : Nat → Int32} {nm : String} : rx_Lk (gG l D cy σ) mt (lwM nm) 776 143 4 10 true := rx_lk_V gok (mid := 143) (ci := 10) (C := (RX10, TX10, 58)) ⟨kw_917, kw_484, hd_X10_flip, Nat.le_of_ble_eq_true rfl, Nat.le_of_ble_eq_true rfl⟩ rfl kw_918 kw_919 kw_920 dL_law_776
theorem lk_794 {l : Launch} {D : va_G} {cy : Nat → ClassId} {σ : Nat → Int32} {nm : String} : rx_Lk (gG l D cy σ) mt (lwM nm) 794 104 3 9 true := rx_lk_V gok (mid := 104) (ci := 9) (C := (RX9, TX9, 15)) ⟨kw_921, kw_35, hd_X9_ringOf, Nat.le_of_ble_eq_true rfl, Nat.le_of_ble_eq_true rfl⟩ rfl kw_922 kw_923 kw_924 dL_law_794
theorem lk_809 {l : Launch} {D : va_G} {cy : Nat → ClassId} {σ : Nat → Int32} {nm : String} : rx_Lk (gG l D cy σ) mt (lwM nm) 809 178 3 10 true := rx_lk_V gok (mid := 178) (ci := 10) (C := (RX10, TX10, 58)) ⟨kw_925, kw_484, hd_X10_ringOf, Nat.le_of_ble_eq_true rfl, Nat.le_of_ble_eq_true rfl⟩ rfl kw_926 kw_927 kw_928 dL_law_809
theorem lk_832 {l : Launch} {D : va_G} {cy : Nat → ClassId} {σ : Nat → Int32} {nm : String} : rx_Lk (gG l D cy σ) mt (lwM nm) 832 92 4 9 true := rx_lk_V gok (mid := 92) (ci := 9) (C := (RX9, TX9, 15)) ⟨kw_929, kw_35, hd_X9_frieze, Nat.le_of_ble_eq_true rfl, Nat.le_of_ble_eq_true rfl⟩ rfl kw_930 kw_931 kw_932 dL_law_832
theorem lk_852 {l : Launch} {D : va_G} {cy : Nat → ClassId} {σ : Nat → Int32} {nm : String} : rx_Lk (gG l D cy σ) mt (lwM nm) 852 145 4 10 true := rx_lk_V gok (mid := 145) (ci := 10) (C := (RX10, TX10, 58)) ⟨kw_933, kw_484, hd_X10_frieze, Nat.le_of_ble_eq_true rfl, Nat.le_of_ble_eq_true rfl⟩ rfl kw_934 kw_935 kw_936 dL_law_852
theorem lk_860 {l : Launch} {D : va_G} {cy : Nat → ClassId} {σ : Nat → Int32} {nm : String} : rx_Lk (gG l D cy σ) mt (lwM nm) 860 119 1 9 true := rx_lk_V gok (mid := 119) (ci := 9) (C := (RX9, TX9, 15)) ⟨kw_937, kw_35, hd_X9_way, Nat.le_of_ble_eq_true rfl, Nat.le_of_ble_eq_true rfl⟩ rfl kw_938 kw_939 kw_940 dL_law_860
theorem lk_865 {l : Launch} {D : va_G} {cy : Nat → ClassId} {σ : Nat → Int32} {nm : String} : rx_Lk (gG l D cy σ) mt (lwM nm) 865 202 1 10 true := rx_lk_V gok (mid := 202) (ci := 10) (C := (RX10, TX10, 58)) ⟨kw_941, kw_484, hd_X10_way, Nat.le_of_ble_eq_true rfl, Nat.le_of_ble_eq_true rfl⟩ rfl kw_942 kw_943 kw_944 dL_law_865
theorem lk_878 {l : Launch} {D : va_G} {cy : Nat → ClassId} {σ : Nat → Int32} {nm : String} : rx_Lk (gG l D cy σ) mt (lwM nm) 878 93 2 9 true := rx_lk_V gok (mid := 93) (ci := 9) (C := (RX9, TX9, 15)) ⟨kw_945, kw_35, hd_X9_goes, Nat.le_of_ble_eq_true rfl, Nat.le_of_ble_eq_true rfl⟩ rfl kw_946 kw_947 kw_948 dL_law_878
theorem lk_888 {l : Launch} {D : va_G} {cy : Nat → ClassId} {σ : Nat → Int32} {nm : String} : rx_Lk (gG l D cy σ) mt (lwM nm) 888 146 2 10 true := rx_lk_V gok (mid := 146) (ci := 10) (C := (RX10, TX10, 58)) ⟨kw_949, kw_484, hd_X10_goes, Nat.le_of_ble_eq_true rfl, Nat.le_of_ble_eq_true rfl⟩ rfl kw_950 kw_951 kw_952 dL_law_888
theorem lk_901 {l : Launch} {D : va_G} {cy : Nat → ClassId} {σ : Nat → Int32} {nm : String} : rx_Lk (gG l D cy σ) mt (lwM nm) 901 107 2 9 true := rx_lk_V gok (mid := 107) (ci := 9) (C := (RX9, TX9, 15)) ⟨kw_953, kw_35, hd_X9_seed, Nat.le_of_ble_eq_true rfl, Nat.le_of_ble_eq_true rfl⟩ rfl kw_954 kw_955 kw_956 dL_law_901
theorem lk_911 {l : Launch} {D : va_G} {cy : Nat → ClassId} {σ : Nat → Int32} {nm : String} : rx_Lk (gG l D cy σ) mt (lwM nm) 911 183 2 10 true := rx_lk_V gok (mid := 183) (ci := 10) (C := (RX10, TX10, 58)) ⟨kw_957, kw_484, hd_X10_seed, Nat.le_of_ble_eq_true rfl, Nat.le_of_ble_eq_true rfl⟩ rfl kw_958 kw_959 kw_960 dL_law_911
theorem lk_924 {l : Launch} {D : va_G} {cy : Nat → ClassId} {σ : Nat → Int32} {nm : String} : rx_Lk (gG l D cy σ) mt (lwM nm) 924 88 2 9 true := rx_lk_V gok (mid := 88) (ci := 9) (C := (RX9, TX9, 15)) ⟨kw_961, kw_35, hd_X9_count, Nat.le_of_ble_eq_true rfl, Nat.le_of_ble_eq_true rfl⟩ rfl kw_962 kw_963 kw_964 dL_law_924
theorem lk_934 {l : Launch} {D : va_G} {cy : Nat → ClassId} {σ : Nat → Int32} {nm : String} : rx_Lk (gG l D cy σ) mt (lwM nm) 934 135 2 10 true := rx_lk_V gok (mid := 135) (ci := 10) (C := (RX10, TX10, 58)) ⟨kw_965, kw_484, hd_X10_count, Nat.le_of_ble_eq_true rfl, Nat.le_of_ble_eq_true rfl⟩ rfl kw_966 kw_967 kw_968 dL_law_934
theorem lk_4 {l : Launch} {D : va_G} {cy : Nat → ClassId} {σ : Nat → Int32} {nm : String} : rx_Lk (gG l D cy σ) mt (lwM nm) 4 94 1 9 true := rx_lk_I gok (mid := 94) (ci := 9) (C := (RX9, TX9, 15)) ⟨kw_969, kw_35, hd_X9_init, Nat.le_of_ble_eq_true rfl, Nat.le_of_ble_eq_true rfl⟩ rfl rfl kw_970 kw_971 rfl dL_law_4
theorem lk_12 {l : Launch} {D : va_G} {cy : Nat → ClassId} {σ : Nat → Int32} {nm : String} : rx_Lk (gG l D cy σ) mt (lwM nm) 12 152 1 10 true := rx_lk_I gok (mid := 152) (ci := 10) (C := (RX10, TX10, 58)) ⟨kw_972, kw_484, hd_X10_init, Nat.le_of_ble_eq_true rfl, Nat.le_of_ble_eq_true rfl⟩ rfl rfl kw_973 kw_974 rfl dL_law_12
def lwR (AX AM : pm_A) : Prop := St AX ∧ RI AM ∧ RR AX AM ∧ DT AX AM ∧ XR AX AM ∧ RW AX AM ∧ BK AX ∧ FT AX AM
end

section
set_option maxHeartbeats 4000000 in
set_option maxRecDepth 100000 in
theorem lw_c0 {p : Program} {l : Launch} {e : Env} {s : State} {m : MethodId} {below : List Frame} {meth : Method} {c : Code} {b L : Nat} {xs : Nat → Int32} {D : va_G} {cy : Nat → ClassId} (C0 : lw_At p s m meth c b L xs) (hL : L ≤ 2048) (hK : rx_K D vwCl (tyl cy) nwl ocl s) {i : Nat} (hi : i + 4 ≤ L) {AX AM : pm_A} {qx qm : Nat} {H : Heap} {locs : List Loc} (hR : lwR AX AM) (hJ : lwJ AX AM D cy s qx qm H locs) {ls : Array Slot} (hl : lv_has ls 4 [(3, .int (Int32.ofNat i)), (2, .ref qm), (1, .ref qx), (0, .ref b)]) (K : ∀ (AX AM : pm_A) (H : Heap) (locs : List Loc), lwR AX AM → lwJ AX AM D cy s qx qm H locs → W p l e room_1 s m #[Value.ref b] below meth c H locs 600000 7302250 (lw_Z below #[Value.ref b] s) (F0 m 941 ls [])) : W p l e room_1 s m #[Value.ref b] below meth c H locs 600000 7302250 (lw_Z below #[Value.ref b] s) (F0 m 164 ls []) := by
  obtain ⟨hx, hb, hr, hml, hown, hts, hX, hbl, hlocks, hgv⟩ := id C0
  have hbA : ¬ lA s b := Nat.not_le.mpr hbl
  have hS0 := hJ
  obtain ⟨_, _, _, _, _, _, _, _, _, _, _, _, _, _, hS0⟩ := hS0
  obtain ⟨sd, ks, hQ⟩ := hR.2.2.2.2.1
  obtain ⟨n1, r1, c1, ⟨⟨z1, e1⟩, q1⟩, b1⟩ := Cl.and (ox_table hR.1 (i32_r (ya xs i 1)) (i32_r (ya xs i 2))) (xtable_exq hR.1.1 hR.2.2.1.1 hR.2.2.2.1.1.1)
  obtain ⟨n2, r2, c2, ⟨⟨z2, e2⟩, q2⟩, b2⟩ := Cl.and (om_table hR.2.1 (i32_r (ya xs i 1)) (i32_r (ya xs i 2))) (table_ex hR.2.1.g _ _)
  have fx := fx_table c1 hR.2.2.1.1
  have fm := fm_table c2 (gK_of hR.2.1.g)
  have hRR : RR r1.2 r2.2 := (hR.2.2.1.kX fx.1 fx.2 rfl rfl rfl rfl).kM fm.2 rfl rfl
  have hst := dt_table hR.2.2.2.1 fx.2 b1 b2
  have hDD := hst.1
  have hCA : CA r1.2 := hQ.2.1.k fx.2 rfl
  have hFT : FT r1.2 r2.2 := hR.2.2.2.2.2.2.2.k fx.2 fm.2 rfl rfl
  have hBK : BK r1.2 := hR.2.2.2.2.2.2.1.k fx.2 rfl
  have hRW : RW r1.2 r2.2 := hR.2.2.2.2.2.1.k fx.2 fm.2 rfl rfl
  have hXR : XR r1.2 r2.2 := hR.2.2.2.2.1.kk q1.1 q2.g fx.2 fm.2 rfl rfl rfl rfl
  refine lv_aload_n hx hb dL_law_164 rfl (lv_at hl 2 rfl) ?_
  refine lv_aload_n hx hb dL_law_165 rfl (lv_at hl 3 rfl) ?_
  refine lv_iload_n hx hb dL_law_166 rfl (lv_at hl 0 rfl) ?_
  refine lv_iconst (v := 1) hx hb dL_law_167 (by decide) ?_
  refine lv_iadd hx hb dL_law_168 ?_
  refine va_sld hx hb hX hbl hbA hS0 (lw_vin (k := 1) (j := 1) hL rfl (by omega) hi) dL_law_169 ?_
  refine W.eq (g2 := F0 m 170 ls [.int (ya xs i 1), .ref qx]) rfl ?_
  refine lv_aload_n hx hb dL_law_170 rfl (lv_at hl 3 rfl) ?_
  refine lv_iload_n hx hb dL_law_171 rfl (lv_at hl 0 rfl) ?_
  refine lv_iconst (v := 2) hx hb dL_law_172 (by decide) ?_
  refine lv_iadd hx hb dL_law_173 ?_
  refine va_sld hx hb hX hbl hbA hS0 (lw_vin (k := 2) (j := 2) hL rfl (by omega) hi) dL_law_174 ?_
  refine W.eq (g2 := F0 m 175 ls [.int (ya xs i 2), .int (ya xs i 1), .ref qx]) rfl ?_
  refine W.eq (g2 := F0 m 175 ls ((Value.ref qx :: List.map Value.int [ya xs i 1, ya xs i 2]).reverse ++ [])) rfl ?_
  refine lw_cX lk_175 hz_111 C0 hK hJ [ya xs i 1, ya xs i 2] hl.1 rfl (Nat.le_of_ble_eq_true rfl) c1 (Or.inl rfl) e1 (fun v1 H1 locs1 hv1 hJ1 => ?_)
  obtain ⟨y1, hy1, hz1⟩ := lwV_i hv1 e1
  subst hy1
  show W p l e room_1 s m #[Value.ref b] below meth c H1 locs1 600000 7302250 (lw_Z below #[Value.ref b] s) (F0 m 178 ls [.int y1])
  have hS1 := hJ1
  obtain ⟨_, _, _, _, _, _, _, _, _, _, _, _, _, _, hS1⟩ := hS1
  refine lv_pop hx hb dL_law_178 rfl ?_
  refine lv_aload_n hx hb dL_law_179 rfl (lv_at hl 1 rfl) ?_
  refine lv_aload_n hx hb dL_law_180 rfl (lv_at hl 3 rfl) ?_
  refine lv_iload_n hx hb dL_law_181 rfl (lv_at hl 0 rfl) ?_
  refine lv_iconst (v := 1) hx hb dL_law_182 (by decide) ?_
  refine lv_iadd hx hb dL_law_183 ?_
  refine va_sld hx hb hX hbl hbA hS1 (lw_vin (k := 1) (j := 1) hL rfl (by omega) hi) dL_law_184 ?_
  refine W.eq (g2 := F0 m 185 ls [.int (ya xs i 1), .ref qm]) rfl ?_
  refine lv_aload_n hx hb dL_law_185 rfl (lv_at hl 3 rfl) ?_
  refine lv_iload_n hx hb dL_law_186 rfl (lv_at hl 0 rfl) ?_
  refine lv_iconst (v := 2) hx hb dL_law_187 (by decide) ?_
  refine lv_iadd hx hb dL_law_188 ?_
  refine va_sld hx hb hX hbl hbA hS1 (lw_vin (k := 2) (j := 2) hL rfl (by omega) hi) dL_law_189 ?_
  refine W.eq (g2 := F0 m 190 ls [.int (ya xs i 2), .int (ya xs i 1), .ref qm]) rfl ?_
  refine W.eq (g2 := F0 m 190 ls ((Value.ref qm :: List.map Value.int [ya xs i 1, ya xs i 2]).reverse ++ [])) rfl ?_
  refine lw_cM lk_190 hz_187 C0 hK hJ1 [ya xs i 1, ya xs i 2] hl.1 rfl (Nat.le_of_ble_eq_true rfl) c2 (Or.inl rfl) e2 (fun v2 H2 locs2 hv2 hJ2 => ?_)
  obtain ⟨y2, hy2, hz2⟩ := lwV_i hv2 e2
  subst hy2
  show W p l e room_1 s m #[Value.ref b] below meth c H2 locs2 600000 7302250 (lw_Z below #[Value.ref b] s) (F0 m 193 ls [.int y2])
  refine lv_pop hx hb dL_law_193 rfl ?_
  refine lv_goto (tgt := 941) hx hb dL_law_194 (by decide) ?_
  exact K _ _ _ _ ⟨q1, q2, hRR, hDD, hXR, hRW, hBK, hFT⟩ hJ2
set_option maxHeartbeats 4000000 in
set_option maxRecDepth 100000 in
theorem lw_c1 {p : Program} {l : Launch} {e : Env} {s : State} {m : MethodId} {below : List Frame} {meth : Method} {c : Code} {b L : Nat} {xs : Nat → Int32} {D : va_G} {cy : Nat → ClassId} (C0 : lw_At p s m meth c b L xs) (hL : L ≤ 2048) (hK : rx_K D vwCl (tyl cy) nwl ocl s) {i : Nat} (hi : i + 4 ≤ L) {AX AM : pm_A} {qx qm : Nat} {H : Heap} {locs : List Loc} (hR : lwR AX AM) (hJ : lwJ AX AM D cy s qx qm H locs) {ls : Array Slot} (hl : lv_has ls 4 [(3, .int (Int32.ofNat i)), (2, .ref qm), (1, .ref qx), (0, .ref b)]) (K : ∀ (AX AM : pm_A) (H : Heap) (locs : List Loc), lwR AX AM → lwJ AX AM D cy s qx qm H locs → W p l e room_1 s m #[Value.ref b] below meth c H locs 600000 7302250 (lw_Z below #[Value.ref b] s) (F0 m 941 ls [])) : W p l e room_1 s m #[Value.ref b] below meth c H locs 600000 7302250 (lw_Z below #[Value.ref b] s) (F0 m 197 ls []) := by
  obtain ⟨hx, hb, hr, hml, hown, hts, hX, hbl, hlocks, hgv⟩ := id C0
  have hbA : ¬ lA s b := Nat.not_le.mpr hbl
  have hS0 := hJ
  obtain ⟨_, _, _, _, _, _, _, _, _, _, _, _, _, _, hS0⟩ := hS0
  obtain ⟨sd, ks, hQ⟩ := hR.2.2.2.2.1
  obtain ⟨n1, r1, c1, ⟨⟨z1, e1⟩, q1⟩, b1⟩ := Cl.and (ox_arrows hR.1 (i32_r (ya xs i 1)) (i32_r (ya xs i 2)) (i32_r (ya xs i 3))) (xarrows_exq hR.1.1)
  obtain ⟨n2, r2, c2, ⟨⟨z2, e2⟩, q2⟩, b2⟩ := Cl.and (om_arrows hR.2.1 (i32_r (ya xs i 1)) (i32_r (ya xs i 2)) (i32_r (ya xs i 3))) (marrows_exq hR.2.1.g)
  have fx := fx_arrows c1 hR.2.2.1.1
  have fm := fm_arrows c2 (gK_of hR.2.1.g)
  have hRR : RR r1.2 r2.2 := (hR.2.2.1.kX fx.1 fx.2 rfl rfl rfl rfl).kM fm.2 rfl rfl
  have hst := dt_arrows hR.2.2.2.1 b1 b2
  have hDD := hst.1
  have hCA : CA r1.2 := hQ.2.1.k fx.2 rfl
  have hFT : FT r1.2 r2.2 := hR.2.2.2.2.2.2.2.k fx.2 fm.2 rfl rfl
  have hBK : BK r1.2 := hR.2.2.2.2.2.2.1.k fx.2 rfl
  have hRW : RW r1.2 r2.2 := hR.2.2.2.2.2.1.k fx.2 fm.2 rfl rfl
  have hXR : XR r1.2 r2.2 := hR.2.2.2.2.1.kk q1.1 q2.g fx.2 fm.2 rfl rfl rfl rfl
  refine lv_aload_n hx hb dL_law_197 rfl (lv_at hl 2 rfl) ?_
  refine lv_aload_n hx hb dL_law_198 rfl (lv_at hl 3 rfl) ?_
  refine lv_iload_n hx hb dL_law_199 rfl (lv_at hl 0 rfl) ?_
  refine lv_iconst (v := 1) hx hb dL_law_200 (by decide) ?_
  refine lv_iadd hx hb dL_law_201 ?_
  refine va_sld hx hb hX hbl hbA hS0 (lw_vin (k := 1) (j := 1) hL rfl (by omega) hi) dL_law_202 ?_
  refine W.eq (g2 := F0 m 203 ls [.int (ya xs i 1), .ref qx]) rfl ?_
  refine lv_aload_n hx hb dL_law_203 rfl (lv_at hl 3 rfl) ?_
  refine lv_iload_n hx hb dL_law_204 rfl (lv_at hl 0 rfl) ?_
  refine lv_iconst (v := 2) hx hb dL_law_205 (by decide) ?_
  refine lv_iadd hx hb dL_law_206 ?_
  refine va_sld hx hb hX hbl hbA hS0 (lw_vin (k := 2) (j := 2) hL rfl (by omega) hi) dL_law_207 ?_
  refine W.eq (g2 := F0 m 208 ls [.int (ya xs i 2), .int (ya xs i 1), .ref qx]) rfl ?_
  refine lv_aload_n hx hb dL_law_208 rfl (lv_at hl 3 rfl) ?_
  refine lv_iload_n hx hb dL_law_209 rfl (lv_at hl 0 rfl) ?_
  refine lv_iconst (v := 3) hx hb dL_law_210 (by decide) ?_
  refine lv_iadd hx hb dL_law_211 ?_
  refine va_sld hx hb hX hbl hbA hS0 (lw_vin (k := 3) (j := 3) hL rfl (by omega) hi) dL_law_212 ?_
  refine W.eq (g2 := F0 m 213 ls [.int (ya xs i 3), .int (ya xs i 2), .int (ya xs i 1), .ref qx]) rfl ?_
  refine W.eq (g2 := F0 m 213 ls ((Value.ref qx :: List.map Value.int [ya xs i 1, ya xs i 2, ya xs i 3]).reverse ++ [])) rfl ?_
  refine lw_cX lk_213 hz_84 C0 hK hJ [ya xs i 1, ya xs i 2, ya xs i 3] hl.1 rfl (Nat.le_of_ble_eq_true rfl) c1 (Or.inl rfl) e1 (fun v1 H1 locs1 hv1 hJ1 => ?_)
  obtain ⟨y1, hy1, hz1⟩ := lwV_i hv1 e1
  subst hy1
  show W p l e room_1 s m #[Value.ref b] below meth c H1 locs1 600000 7302250 (lw_Z below #[Value.ref b] s) (F0 m 216 ls [.int y1])
  have hS1 := hJ1
  obtain ⟨_, _, _, _, _, _, _, _, _, _, _, _, _, _, hS1⟩ := hS1
  refine lv_pop hx hb dL_law_216 rfl ?_
  refine lv_aload_n hx hb dL_law_217 rfl (lv_at hl 1 rfl) ?_
  refine lv_aload_n hx hb dL_law_218 rfl (lv_at hl 3 rfl) ?_
  refine lv_iload_n hx hb dL_law_219 rfl (lv_at hl 0 rfl) ?_
  refine lv_iconst (v := 1) hx hb dL_law_220 (by decide) ?_
  refine lv_iadd hx hb dL_law_221 ?_
  refine va_sld hx hb hX hbl hbA hS1 (lw_vin (k := 1) (j := 1) hL rfl (by omega) hi) dL_law_222 ?_
  refine W.eq (g2 := F0 m 223 ls [.int (ya xs i 1), .ref qm]) rfl ?_
  refine lv_aload_n hx hb dL_law_223 rfl (lv_at hl 3 rfl) ?_
  refine lv_iload_n hx hb dL_law_224 rfl (lv_at hl 0 rfl) ?_
  refine lv_iconst (v := 2) hx hb dL_law_225 (by decide) ?_
  refine lv_iadd hx hb dL_law_226 ?_
  refine va_sld hx hb hX hbl hbA hS1 (lw_vin (k := 2) (j := 2) hL rfl (by omega) hi) dL_law_227 ?_
  refine W.eq (g2 := F0 m 228 ls [.int (ya xs i 2), .int (ya xs i 1), .ref qm]) rfl ?_
  refine lv_aload_n hx hb dL_law_228 rfl (lv_at hl 3 rfl) ?_
  refine lv_iload_n hx hb dL_law_229 rfl (lv_at hl 0 rfl) ?_
  refine lv_iconst (v := 3) hx hb dL_law_230 (by decide) ?_
  refine lv_iadd hx hb dL_law_231 ?_
  refine va_sld hx hb hX hbl hbA hS1 (lw_vin (k := 3) (j := 3) hL rfl (by omega) hi) dL_law_232 ?_
  refine W.eq (g2 := F0 m 233 ls [.int (ya xs i 3), .int (ya xs i 2), .int (ya xs i 1), .ref qm]) rfl ?_
  refine W.eq (g2 := F0 m 233 ls ((Value.ref qm :: List.map Value.int [ya xs i 1, ya xs i 2, ya xs i 3]).reverse ++ [])) rfl ?_
  refine lw_cM lk_233 hz_126 C0 hK hJ1 [ya xs i 1, ya xs i 2, ya xs i 3] hl.1 rfl (Nat.le_of_ble_eq_true rfl) c2 (Or.inl rfl) e2 (fun v2 H2 locs2 hv2 hJ2 => ?_)
  obtain ⟨y2, hy2, hz2⟩ := lwV_i hv2 e2
  subst hy2
  show W p l e room_1 s m #[Value.ref b] below meth c H2 locs2 600000 7302250 (lw_Z below #[Value.ref b] s) (F0 m 236 ls [.int y2])
  refine lv_pop hx hb dL_law_236 rfl ?_
  refine lv_goto (tgt := 941) hx hb dL_law_237 (by decide) ?_
  exact K _ _ _ _ ⟨q1, q2, hRR, hDD, hXR, hRW, hBK, hFT⟩ hJ2
set_option maxHeartbeats 4000000 in
set_option maxRecDepth 100000 in
theorem lw_c2 {p : Program} {l : Launch} {e : Env} {s : State} {m : MethodId} {below : List Frame} {meth : Method} {c : Code} {b L : Nat} {xs : Nat → Int32} {D : va_G} {cy : Nat → ClassId} (C0 : lw_At p s m meth c b L xs) (hL : L ≤ 2048) (hK : rx_K D vwCl (tyl cy) nwl ocl s) {i : Nat} (hi : i + 4 ≤ L) {AX AM : pm_A} {qx qm : Nat} {H : Heap} {locs : List Loc} (hR : lwR AX AM) (hJ : lwJ AX AM D cy s qx qm H locs) {ls : Array Slot} (hl : lv_has ls 4 [(3, .int (Int32.ofNat i)), (2, .ref qm), (1, .ref qx), (0, .ref b)]) (K : ∀ (AX AM : pm_A) (H : Heap) (locs : List Loc), lwR AX AM → lwJ AX AM D cy s qx qm H locs → W p l e room_1 s m #[Value.ref b] below meth c H locs 600000 7302250 (lw_Z below #[Value.ref b] s) (F0 m 941 ls [])) : W p l e room_1 s m #[Value.ref b] below meth c H locs 600000 7302250 (lw_Z below #[Value.ref b] s) (F0 m 240 ls []) := by
  obtain ⟨hx, hb, hr, hml, hown, hts, hX, hbl, hlocks, hgv⟩ := id C0
  have hbA : ¬ lA s b := Nat.not_le.mpr hbl
  have hS0 := hJ
  obtain ⟨_, _, _, _, _, _, _, _, _, _, _, _, _, _, hS0⟩ := hS0
  obtain ⟨sd, ks, hQ⟩ := hR.2.2.2.2.1
  obtain ⟨n1, r1, c1, ⟨⟨z1, e1⟩, q1⟩, b1⟩ := Cl.and (ox_begin hR.1 ) (xbegin_exq hQ.1.1 hQ.2.1 hR.2.2.1.1 hQ.1.2.1 hR.2.2.2.1.1.1 hR.2.2.2.1.2.1 (hR.2.2.2.1.b9 hR.2.1))
  obtain ⟨n2, r2, c2, ⟨⟨z2, e2⟩, q2⟩, b2⟩ := Cl.and (om_begin hR.2.1 ) (mbegin_ex3 hR.2.1)
  have fx := fx_begin c1 hR.2.2.1.1
  have fm := fm_begin c2 (gK_of hR.2.1.g)
  have hRR : RR r1.2 r2.2 := (hR.2.2.1.kX fx.1 fx.2 rfl rfl rfl rfl).kM fm.2 rfl rfl
  have hDD : DT r1.2 r2.2 := (hR.2.2.2.1.kX (fx_begin c1 hR.2.2.1.1).2 rfl rfl rfl rfl rfl).kM (fm_begin c2 (gK_of hR.2.1.g)).2 rfl rfl rfl
  have hCA : CA r1.2 := hQ.2.1.k fx.2 rfl
  have hxr := xr_begin hR.2.2.2.1 hR.2.1 hQ hCA b1 b2
  have hXR : XR r1.2 r2.2 := hxr.1
  have hFT : FT r1.2 r2.2 := hR.2.2.2.2.2.2.2.k fx.2 fm.2 rfl rfl
  have hBK : BK r1.2 := hR.2.2.2.2.2.2.1.k fx.2 rfl
  have hRW : RW r1.2 r2.2 := hR.2.2.2.2.2.1.k fx.2 fm.2 rfl rfl
  refine lv_aload_n hx hb dL_law_240 rfl (lv_at hl 2 rfl) ?_
  refine W.eq (g2 := F0 m 241 ls ((Value.ref qx :: List.map Value.int []).reverse ++ [])) rfl ?_
  refine lw_cX lk_241 hz_87 C0 hK hJ [] hl.1 rfl (Nat.le_of_ble_eq_true rfl) c1 (Or.inl rfl) e1 (fun v1 H1 locs1 hv1 hJ1 => ?_)
  obtain ⟨y1, hy1, hz1⟩ := lwV_i hv1 e1
  subst hy1
  show W p l e room_1 s m #[Value.ref b] below meth c H1 locs1 600000 7302250 (lw_Z below #[Value.ref b] s) (F0 m 244 ls [.int y1])
  have hS1 := hJ1
  obtain ⟨_, _, _, _, _, _, _, _, _, _, _, _, _, _, hS1⟩ := hS1
  refine lv_pop hx hb dL_law_244 rfl ?_
  refine lv_aload_n hx hb dL_law_245 rfl (lv_at hl 1 rfl) ?_
  refine W.eq (g2 := F0 m 246 ls ((Value.ref qm :: List.map Value.int []).reverse ++ [])) rfl ?_
  refine lw_cM lk_246 hz_129 C0 hK hJ1 [] hl.1 rfl (Nat.le_of_ble_eq_true rfl) c2 (Or.inl rfl) e2 (fun v2 H2 locs2 hv2 hJ2 => ?_)
  obtain ⟨y2, hy2, hz2⟩ := lwV_i hv2 e2
  subst hy2
  show W p l e room_1 s m #[Value.ref b] below meth c H2 locs2 600000 7302250 (lw_Z below #[Value.ref b] s) (F0 m 249 ls [.int y2])
  refine lv_pop hx hb dL_law_249 rfl ?_
  refine lv_goto (tgt := 941) hx hb dL_law_250 (by decide) ?_
  exact K _ _ _ _ ⟨q1, q2, hRR, hDD, hXR, hRW, hBK, hFT⟩ hJ2
set_option maxHeartbeats 4000000 in
set_option maxRecDepth 100000 in
theorem lw_c3 {p : Program} {l : Launch} {e : Env} {s : State} {m : MethodId} {below : List Frame} {meth : Method} {c : Code} {b L : Nat} {xs : Nat → Int32} {D : va_G} {cy : Nat → ClassId} (C0 : lw_At p s m meth c b L xs) (hL : L ≤ 2048) (hK : rx_K D vwCl (tyl cy) nwl ocl s) {i : Nat} (hi : i + 4 ≤ L) {AX AM : pm_A} {qx qm : Nat} {H : Heap} {locs : List Loc} (hR : lwR AX AM) (hJ : lwJ AX AM D cy s qx qm H locs) {ls : Array Slot} (hl : lv_has ls 4 [(3, .int (Int32.ofNat i)), (2, .ref qm), (1, .ref qx), (0, .ref b)]) (K : ∀ (AX AM : pm_A) (H : Heap) (locs : List Loc), lwR AX AM → lwJ AX AM D cy s qx qm H locs → W p l e room_1 s m #[Value.ref b] below meth c H locs 600000 7302250 (lw_Z below #[Value.ref b] s) (F0 m 941 ls [])) : W p l e room_1 s m #[Value.ref b] below meth c H locs 600000 7302250 (lw_Z below #[Value.ref b] s) (F0 m 253 ls []) := by
  obtain ⟨hx, hb, hr, hml, hown, hts, hX, hbl, hlocks, hgv⟩ := id C0
  have hbA : ¬ lA s b := Nat.not_le.mpr hbl
  have hS0 := hJ
  obtain ⟨_, _, _, _, _, _, _, _, _, _, _, _, _, _, hS0⟩ := hS0
  obtain ⟨sd, ks, hQ⟩ := hR.2.2.2.2.1
  obtain ⟨n1, r1, c1, ⟨z1, e1⟩, q1⟩ := ox_size hR.1 (i32_r (ya xs i 1))
  obtain ⟨n2, r2, c2, ⟨z2, e2⟩, q2⟩ := om_size hR.2.1 (i32_r (ya xs i 1))
  have fx := fx_size c1 hR.2.2.1.1
  have fm := fm_size c2 (gK_of hR.2.1.g)
  have hRR : RR r1.2 r2.2 := (hR.2.2.1.kX fx.1 fx.2 rfl rfl rfl rfl).kM fm.2 rfl rfl
  have hDD : DT r1.2 r2.2 := (hR.2.2.2.1.kX (fx_size c1 hR.2.2.1.1).2 rfl rfl rfl rfl rfl).kM (fm_size c2 (gK_of hR.2.1.g)).2 rfl rfl rfl
  have hCA : CA r1.2 := hQ.2.1.k fx.2 rfl
  have hFT : FT r1.2 r2.2 := hR.2.2.2.2.2.2.2.k fx.2 fm.2 rfl rfl
  have hBK : BK r1.2 := hR.2.2.2.2.2.2.1.k fx.2 rfl
  have hRW : RW r1.2 r2.2 := hR.2.2.2.2.2.1.k fx.2 fm.2 rfl rfl
  have hXR : XR r1.2 r2.2 := hR.2.2.2.2.1.kk q1.1 q2.g fx.2 fm.2 rfl rfl rfl rfl
  refine lv_aload_n hx hb dL_law_253 rfl (lv_at hl 2 rfl) ?_
  refine lv_aload_n hx hb dL_law_254 rfl (lv_at hl 3 rfl) ?_
  refine lv_iload_n hx hb dL_law_255 rfl (lv_at hl 0 rfl) ?_
  refine lv_iconst (v := 1) hx hb dL_law_256 (by decide) ?_
  refine lv_iadd hx hb dL_law_257 ?_
  refine va_sld hx hb hX hbl hbA hS0 (lw_vin (k := 1) (j := 1) hL rfl (by omega) hi) dL_law_258 ?_
  refine W.eq (g2 := F0 m 259 ls [.int (ya xs i 1), .ref qx]) rfl ?_
  refine W.eq (g2 := F0 m 259 ls ((Value.ref qx :: List.map Value.int [ya xs i 1]).reverse ++ [])) rfl ?_
  refine lw_cX lk_259 hz_108 C0 hK hJ [ya xs i 1] hl.1 rfl (Nat.le_of_ble_eq_true rfl) c1 (Or.inl rfl) e1 (fun v1 H1 locs1 hv1 hJ1 => ?_)
  obtain ⟨y1, hy1, hz1⟩ := lwV_i hv1 e1
  subst hy1
  show W p l e room_1 s m #[Value.ref b] below meth c H1 locs1 600000 7302250 (lw_Z below #[Value.ref b] s) (F0 m 262 ls [.int y1])
  have hS1 := hJ1
  obtain ⟨_, _, _, _, _, _, _, _, _, _, _, _, _, _, hS1⟩ := hS1
  refine lv_pop hx hb dL_law_262 rfl ?_
  refine lv_aload_n hx hb dL_law_263 rfl (lv_at hl 1 rfl) ?_
  refine lv_aload_n hx hb dL_law_264 rfl (lv_at hl 3 rfl) ?_
  refine lv_iload_n hx hb dL_law_265 rfl (lv_at hl 0 rfl) ?_
  refine lv_iconst (v := 1) hx hb dL_law_266 (by decide) ?_
  refine lv_iadd hx hb dL_law_267 ?_
  refine va_sld hx hb hX hbl hbA hS1 (lw_vin (k := 1) (j := 1) hL rfl (by omega) hi) dL_law_268 ?_
  refine W.eq (g2 := F0 m 269 ls [.int (ya xs i 1), .ref qm]) rfl ?_
  refine W.eq (g2 := F0 m 269 ls ((Value.ref qm :: List.map Value.int [ya xs i 1]).reverse ++ [])) rfl ?_
  refine lw_cM lk_269 hz_184 C0 hK hJ1 [ya xs i 1] hl.1 rfl (Nat.le_of_ble_eq_true rfl) c2 (Or.inl rfl) e2 (fun v2 H2 locs2 hv2 hJ2 => ?_)
  obtain ⟨y2, hy2, hz2⟩ := lwV_i hv2 e2
  subst hy2
  show W p l e room_1 s m #[Value.ref b] below meth c H2 locs2 600000 7302250 (lw_Z below #[Value.ref b] s) (F0 m 272 ls [.int y2])
  refine lv_pop hx hb dL_law_272 rfl ?_
  refine lv_goto (tgt := 941) hx hb dL_law_273 (by decide) ?_
  exact K _ _ _ _ ⟨q1, q2, hRR, hDD, hXR, hRW, hBK, hFT⟩ hJ2
set_option maxHeartbeats 4000000 in
set_option maxRecDepth 100000 in
theorem lw_c4 {p : Program} {l : Launch} {e : Env} {s : State} {m : MethodId} {below : List Frame} {meth : Method} {c : Code} {b L : Nat} {xs : Nat → Int32} {D : va_G} {cy : Nat → ClassId} (C0 : lw_At p s m meth c b L xs) (hL : L ≤ 2048) (hK : rx_K D vwCl (tyl cy) nwl ocl s) {i : Nat} (hi : i + 4 ≤ L) {AX AM : pm_A} {qx qm : Nat} {H : Heap} {locs : List Loc} (hR : lwR AX AM) (hJ : lwJ AX AM D cy s qx qm H locs) {ls : Array Slot} (hl : lv_has ls 4 [(3, .int (Int32.ofNat i)), (2, .ref qm), (1, .ref qx), (0, .ref b)]) (K : ∀ (AX AM : pm_A) (H : Heap) (locs : List Loc), lwR AX AM → lwJ AX AM D cy s qx qm H locs → W p l e room_1 s m #[Value.ref b] below meth c H locs 600000 7302250 (lw_Z below #[Value.ref b] s) (F0 m 941 ls [])) : W p l e room_1 s m #[Value.ref b] below meth c H locs 600000 7302250 (lw_Z below #[Value.ref b] s) (F0 m 276 ls []) := by
  obtain ⟨hx, hb, hr, hml, hown, hts, hX, hbl, hlocks, hgv⟩ := id C0
  have hbA : ¬ lA s b := Nat.not_le.mpr hbl
  have hS0 := hJ
  obtain ⟨_, _, _, _, _, _, _, _, _, _, _, _, _, _, hS0⟩ := hS0
  obtain ⟨sd, ks, hQ⟩ := hR.2.2.2.2.1
  obtain ⟨n1, r1, c1, ⟨⟨z1, e1⟩, q1⟩, b1⟩ := Cl.and (ox_turn hR.1 (i32_r (ya xs i 1))) (turn_exX hQ.1.1 hQ.1.2.1 (i32_r _))
  obtain ⟨n2, r2, c2, ⟨⟨z2, e2⟩, q2⟩, b2⟩ := Cl.and (om_turn hR.2.1 (i32_r (ya xs i 1))) (mturn_exq hQ.1.2.2.1 _)
  have fx := fx_turn c1 hR.2.2.1.1
  have fm := fm_turn c2 (gK_of hR.2.1.g)
  have hRR : RR r1.2 r2.2 := (hR.2.2.1.kX fx.1 fx.2 rfl rfl rfl rfl).kM fm.2 rfl rfl
  have hDD : DT r1.2 r2.2 := (hR.2.2.2.1.kX (fx_turn c1 hR.2.2.1.1).2 rfl rfl rfl rfl rfl).kM (fm_turn c2 (gK_of hR.2.1.g)).2 rfl rfl rfl
  have hCA : CA r1.2 := hQ.2.1.k fx.2 rfl
  have hXR : XR r1.2 r2.2 := xr_turn hQ hCA fx.2 fm.2 rfl rfl b1 b2
  have hFT : FT r1.2 r2.2 := hR.2.2.2.2.2.2.2.k fx.2 fm.2 rfl rfl
  have hBK : BK r1.2 := hR.2.2.2.2.2.2.1.k fx.2 rfl
  have hRW : RW r1.2 r2.2 := hR.2.2.2.2.2.1.k fx.2 fm.2 rfl rfl
  refine lv_aload_n hx hb dL_law_276 rfl (lv_at hl 2 rfl) ?_
  refine lv_aload_n hx hb dL_law_277 rfl (lv_at hl 3 rfl) ?_
  refine lv_iload_n hx hb dL_law_278 rfl (lv_at hl 0 rfl) ?_
  refine lv_iconst (v := 1) hx hb dL_law_279 (by decide) ?_
  refine lv_iadd hx hb dL_law_280 ?_
  refine va_sld hx hb hX hbl hbA hS0 (lw_vin (k := 1) (j := 1) hL rfl (by omega) hi) dL_law_281 ?_
  refine W.eq (g2 := F0 m 282 ls [.int (ya xs i 1), .ref qx]) rfl ?_
  refine W.eq (g2 := F0 m 282 ls ((Value.ref qx :: List.map Value.int [ya xs i 1]).reverse ++ [])) rfl ?_
  refine lw_cX lk_282 hz_115 C0 hK hJ [ya xs i 1] hl.1 rfl (Nat.le_of_ble_eq_true rfl) c1 (Or.inl rfl) e1 (fun v1 H1 locs1 hv1 hJ1 => ?_)
  obtain ⟨y1, hy1, hz1⟩ := lwV_i hv1 e1
  subst hy1
  show W p l e room_1 s m #[Value.ref b] below meth c H1 locs1 600000 7302250 (lw_Z below #[Value.ref b] s) (F0 m 285 ls [.int y1])
  have hS1 := hJ1
  obtain ⟨_, _, _, _, _, _, _, _, _, _, _, _, _, _, hS1⟩ := hS1
  refine lv_pop hx hb dL_law_285 rfl ?_
  refine lv_aload_n hx hb dL_law_286 rfl (lv_at hl 1 rfl) ?_
  refine lv_aload_n hx hb dL_law_287 rfl (lv_at hl 3 rfl) ?_
  refine lv_iload_n hx hb dL_law_288 rfl (lv_at hl 0 rfl) ?_
  refine lv_iconst (v := 1) hx hb dL_law_289 (by decide) ?_
  refine lv_iadd hx hb dL_law_290 ?_
  refine va_sld hx hb hX hbl hbA hS1 (lw_vin (k := 1) (j := 1) hL rfl (by omega) hi) dL_law_291 ?_
  refine W.eq (g2 := F0 m 292 ls [.int (ya xs i 1), .ref qm]) rfl ?_
  refine W.eq (g2 := F0 m 292 ls ((Value.ref qm :: List.map Value.int [ya xs i 1]).reverse ++ [])) rfl ?_
  refine lw_cM lk_292 hz_198 C0 hK hJ1 [ya xs i 1] hl.1 rfl (Nat.le_of_ble_eq_true rfl) c2 (Or.inl rfl) e2 (fun v2 H2 locs2 hv2 hJ2 => ?_)
  obtain ⟨y2, hy2, hz2⟩ := lwV_i hv2 e2
  subst hy2
  show W p l e room_1 s m #[Value.ref b] below meth c H2 locs2 600000 7302250 (lw_Z below #[Value.ref b] s) (F0 m 295 ls [.int y2])
  refine lv_pop hx hb dL_law_295 rfl ?_
  refine lv_goto (tgt := 941) hx hb dL_law_296 (by decide) ?_
  exact K _ _ _ _ ⟨q1, q2, hRR, hDD, hXR, hRW, hBK, hFT⟩ hJ2
set_option maxHeartbeats 4000000 in
set_option maxRecDepth 100000 in
theorem lw_c5 {p : Program} {l : Launch} {e : Env} {s : State} {m : MethodId} {below : List Frame} {meth : Method} {c : Code} {b L : Nat} {xs : Nat → Int32} {D : va_G} {cy : Nat → ClassId} (C0 : lw_At p s m meth c b L xs) (hL : L ≤ 2048) (hK : rx_K D vwCl (tyl cy) nwl ocl s) {i : Nat} (hi : i + 4 ≤ L) {AX AM : pm_A} {qx qm : Nat} {H : Heap} {locs : List Loc} (hR : lwR AX AM) (hJ : lwJ AX AM D cy s qx qm H locs) {ls : Array Slot} (hl : lv_has ls 4 [(3, .int (Int32.ofNat i)), (2, .ref qm), (1, .ref qx), (0, .ref b)]) (K : ∀ (AX AM : pm_A) (H : Heap) (locs : List Loc), lwR AX AM → lwJ AX AM D cy s qx qm H locs → W p l e room_1 s m #[Value.ref b] below meth c H locs 600000 7302250 (lw_Z below #[Value.ref b] s) (F0 m 941 ls [])) : W p l e room_1 s m #[Value.ref b] below meth c H locs 600000 7302250 (lw_Z below #[Value.ref b] s) (F0 m 299 ls []) := by
  obtain ⟨hx, hb, hr, hml, hown, hts, hX, hbl, hlocks, hgv⟩ := id C0
  have hbA : ¬ lA s b := Nat.not_le.mpr hbl
  have hS0 := hJ
  obtain ⟨_, _, _, _, _, _, _, _, _, _, _, _, _, _, hS0⟩ := hS0
  obtain ⟨sd, ks, hQ⟩ := hR.2.2.2.2.1
  obtain ⟨n1, r1, c1, ⟨⟨z1, e1⟩, q1⟩, b1⟩ := Cl.and (ox_back hR.1 ) (xback_c hQ)
  obtain ⟨n2, r2, c2, ⟨⟨z2, e2⟩, q2⟩, b2⟩ := Cl.and (om_back hR.2.1 ) (mback_c hQ)
  have fx := fx_back c1 hR.2.2.1.1
  have fm := fm_back c2 (gK_of hR.2.1.g)
  have hRR : RR r1.2 r2.2 := (hR.2.2.1.kX fx.1 fx.2 rfl rfl rfl rfl).kM fm.2 rfl rfl
  have hDD : DT r1.2 r2.2 := (hR.2.2.2.1.kX (fx_back c1 hR.2.2.1.1).2 rfl rfl rfl rfl rfl).kM (fm_back c2 (gK_of hR.2.1.g)).2 rfl rfl rfl
  have hCA : CA r1.2 := hQ.2.1.k fx.2 rfl
  have hxr := xr_back hQ hCA fx.2 fm.2 rfl rfl b1 b2
  have hXR : XR r1.2 r2.2 := hxr.1
  have hFT : FT r1.2 r2.2 := hR.2.2.2.2.2.2.2.k fx.2 fm.2 rfl rfl
  have hBK : BK r1.2 := hR.2.2.2.2.2.2.1.k fx.2 rfl
  have hRW : RW r1.2 r2.2 := hR.2.2.2.2.2.1.k fx.2 fm.2 rfl rfl
  refine lv_aload_n hx hb dL_law_299 rfl (lv_at hl 2 rfl) ?_
  refine W.eq (g2 := F0 m 300 ls ((Value.ref qx :: List.map Value.int []).reverse ++ [])) rfl ?_
  refine lw_cX lk_300 hz_86 C0 hK hJ [] hl.1 rfl (Nat.le_of_ble_eq_true rfl) c1 (Or.inl rfl) e1 (fun v1 H1 locs1 hv1 hJ1 => ?_)
  obtain ⟨y1, hy1, hz1⟩ := lwV_i hv1 e1
  subst hy1
  show W p l e room_1 s m #[Value.ref b] below meth c H1 locs1 600000 7302250 (lw_Z below #[Value.ref b] s) (F0 m 303 ls [.int y1])
  have hS1 := hJ1
  obtain ⟨_, _, _, _, _, _, _, _, _, _, _, _, _, _, hS1⟩ := hS1
  refine lv_pop hx hb dL_law_303 rfl ?_
  refine lv_aload_n hx hb dL_law_304 rfl (lv_at hl 1 rfl) ?_
  refine W.eq (g2 := F0 m 305 ls ((Value.ref qm :: List.map Value.int []).reverse ++ [])) rfl ?_
  refine lw_cM lk_305 hz_128 C0 hK hJ1 [] hl.1 rfl (Nat.le_of_ble_eq_true rfl) c2 (Or.inl rfl) e2 (fun v2 H2 locs2 hv2 hJ2 => ?_)
  obtain ⟨y2, hy2, hz2⟩ := lwV_i hv2 e2
  subst hy2
  show W p l e room_1 s m #[Value.ref b] below meth c H2 locs2 600000 7302250 (lw_Z below #[Value.ref b] s) (F0 m 308 ls [.int y2])
  refine lv_pop hx hb dL_law_308 rfl ?_
  refine lv_goto (tgt := 941) hx hb dL_law_309 (by decide) ?_
  exact K _ _ _ _ ⟨q1, q2, hRR, hDD, hXR, hRW, hBK, hFT⟩ hJ2
set_option maxHeartbeats 4000000 in
set_option maxRecDepth 100000 in
theorem lw_c6 {p : Program} {l : Launch} {e : Env} {s : State} {m : MethodId} {below : List Frame} {meth : Method} {c : Code} {b L : Nat} {xs : Nat → Int32} {D : va_G} {cy : Nat → ClassId} (C0 : lw_At p s m meth c b L xs) (hL : L ≤ 2048) (hK : rx_K D vwCl (tyl cy) nwl ocl s) {i : Nat} (hi : i + 4 ≤ L) {AX AM : pm_A} {qx qm : Nat} {H : Heap} {locs : List Loc} (hR : lwR AX AM) (hJ : lwJ AX AM D cy s qx qm H locs) {ls : Array Slot} (hl : lv_has ls 4 [(3, .int (Int32.ofNat i)), (2, .ref qm), (1, .ref qx), (0, .ref b)]) (K : ∀ (AX AM : pm_A) (H : Heap) (locs : List Loc), lwR AX AM → lwJ AX AM D cy s qx qm H locs → W p l e room_1 s m #[Value.ref b] below meth c H locs 600000 7302250 (lw_Z below #[Value.ref b] s) (F0 m 941 ls [])) : W p l e room_1 s m #[Value.ref b] below meth c H locs 600000 7302250 (lw_Z below #[Value.ref b] s) (F0 m 312 ls []) := by
  obtain ⟨hx, hb, hr, hml, hown, hts, hX, hbl, hlocks, hgv⟩ := id C0
  have hbA : ¬ lA s b := Nat.not_le.mpr hbl
  have hS0 := hJ
  obtain ⟨_, _, _, _, _, _, _, _, _, _, _, _, _, _, hS0⟩ := hS0
  obtain ⟨sd, ks, hQ⟩ := hR.2.2.2.2.1
  obtain ⟨n1, r1, c1, ⟨z1, e1⟩, q1⟩ := ox_b hR.1 (i32_r (ya xs i 1)) (i32_r (ya xs i 2))
  obtain ⟨n2, r2, c2, ⟨z2, e2⟩, q2⟩ := om_b hR.2.1 (i32_r (ya xs i 1)) (i32_r (ya xs i 2))
  have fx := fx_b c1 hR.2.2.1.1
  have fm := fm_b c2 (gK_of hR.2.1.g)
  have hRR : RR r1.2 r2.2 := (hR.2.2.1.kX fx.1 fx.2 rfl rfl rfl rfl).kM fm.2 rfl rfl
  have hDD : DT r1.2 r2.2 := (hR.2.2.2.1.kX (fx_b c1 hR.2.2.1.1).2 rfl rfl rfl rfl rfl).kM (fm_b c2 (gK_of hR.2.1.g)).2 rfl rfl rfl
  have hCA : CA r1.2 := hQ.2.1.k fx.2 rfl
  have hFT : FT r1.2 r2.2 := hR.2.2.2.2.2.2.2.k fx.2 fm.2 rfl rfl
  have hBK : BK r1.2 := hR.2.2.2.2.2.2.1.k fx.2 rfl
  have hRW : RW r1.2 r2.2 := hR.2.2.2.2.2.1.k fx.2 fm.2 rfl rfl
  have hXR : XR r1.2 r2.2 := hR.2.2.2.2.1.kk q1.1 q2.g fx.2 fm.2 rfl rfl rfl rfl
  refine lv_aload_n hx hb dL_law_312 rfl (lv_at hl 2 rfl) ?_
  refine lv_aload_n hx hb dL_law_313 rfl (lv_at hl 3 rfl) ?_
  refine lv_iload_n hx hb dL_law_314 rfl (lv_at hl 0 rfl) ?_
  refine lv_iconst (v := 1) hx hb dL_law_315 (by decide) ?_
  refine lv_iadd hx hb dL_law_316 ?_
  refine va_sld hx hb hX hbl hbA hS0 (lw_vin (k := 1) (j := 1) hL rfl (by omega) hi) dL_law_317 ?_
  refine W.eq (g2 := F0 m 318 ls [.int (ya xs i 1), .ref qx]) rfl ?_
  refine lv_aload_n hx hb dL_law_318 rfl (lv_at hl 3 rfl) ?_
  refine lv_iload_n hx hb dL_law_319 rfl (lv_at hl 0 rfl) ?_
  refine lv_iconst (v := 2) hx hb dL_law_320 (by decide) ?_
  refine lv_iadd hx hb dL_law_321 ?_
  refine va_sld hx hb hX hbl hbA hS0 (lw_vin (k := 2) (j := 2) hL rfl (by omega) hi) dL_law_322 ?_
  refine W.eq (g2 := F0 m 323 ls [.int (ya xs i 2), .int (ya xs i 1), .ref qx]) rfl ?_
  refine W.eq (g2 := F0 m 323 ls ((Value.ref qx :: List.map Value.int [ya xs i 1, ya xs i 2]).reverse ++ [])) rfl ?_
  refine lw_cX lk_323 hz_85 C0 hK hJ [ya xs i 1, ya xs i 2] hl.1 rfl (Nat.le_of_ble_eq_true rfl) c1 (Or.inl rfl) e1 (fun v1 H1 locs1 hv1 hJ1 => ?_)
  obtain ⟨y1, hy1, hz1⟩ := lwV_i hv1 e1
  subst hy1
  show W p l e room_1 s m #[Value.ref b] below meth c H1 locs1 600000 7302250 (lw_Z below #[Value.ref b] s) (F0 m 326 ls [.int y1])
  have hS1 := hJ1
  obtain ⟨_, _, _, _, _, _, _, _, _, _, _, _, _, _, hS1⟩ := hS1
  refine lv_pop hx hb dL_law_326 rfl ?_
  refine lv_aload_n hx hb dL_law_327 rfl (lv_at hl 1 rfl) ?_
  refine lv_aload_n hx hb dL_law_328 rfl (lv_at hl 3 rfl) ?_
  refine lv_iload_n hx hb dL_law_329 rfl (lv_at hl 0 rfl) ?_
  refine lv_iconst (v := 1) hx hb dL_law_330 (by decide) ?_
  refine lv_iadd hx hb dL_law_331 ?_
  refine va_sld hx hb hX hbl hbA hS1 (lw_vin (k := 1) (j := 1) hL rfl (by omega) hi) dL_law_332 ?_
  refine W.eq (g2 := F0 m 333 ls [.int (ya xs i 1), .ref qm]) rfl ?_
  refine lv_aload_n hx hb dL_law_333 rfl (lv_at hl 3 rfl) ?_
  refine lv_iload_n hx hb dL_law_334 rfl (lv_at hl 0 rfl) ?_
  refine lv_iconst (v := 2) hx hb dL_law_335 (by decide) ?_
  refine lv_iadd hx hb dL_law_336 ?_
  refine va_sld hx hb hX hbl hbA hS1 (lw_vin (k := 2) (j := 2) hL rfl (by omega) hi) dL_law_337 ?_
  refine W.eq (g2 := F0 m 338 ls [.int (ya xs i 2), .int (ya xs i 1), .ref qm]) rfl ?_
  refine W.eq (g2 := F0 m 338 ls ((Value.ref qm :: List.map Value.int [ya xs i 1, ya xs i 2]).reverse ++ [])) rfl ?_
  refine lw_cM lk_338 hz_127 C0 hK hJ1 [ya xs i 1, ya xs i 2] hl.1 rfl (Nat.le_of_ble_eq_true rfl) c2 (Or.inl rfl) e2 (fun v2 H2 locs2 hv2 hJ2 => ?_)
  obtain ⟨y2, hy2, hz2⟩ := lwV_i hv2 e2
  subst hy2
  show W p l e room_1 s m #[Value.ref b] below meth c H2 locs2 600000 7302250 (lw_Z below #[Value.ref b] s) (F0 m 341 ls [.int y2])
  refine lv_pop hx hb dL_law_341 rfl ?_
  refine lv_goto (tgt := 941) hx hb dL_law_342 (by decide) ?_
  exact K _ _ _ _ ⟨q1, q2, hRR, hDD, hXR, hRW, hBK, hFT⟩ hJ2
set_option maxHeartbeats 4000000 in
set_option maxRecDepth 100000 in
theorem lw_c7 {p : Program} {l : Launch} {e : Env} {s : State} {m : MethodId} {below : List Frame} {meth : Method} {c : Code} {b L : Nat} {xs : Nat → Int32} {D : va_G} {cy : Nat → ClassId} (C0 : lw_At p s m meth c b L xs) (hL : L ≤ 2048) (hK : rx_K D vwCl (tyl cy) nwl ocl s) {i : Nat} (hi : i + 4 ≤ L) {AX AM : pm_A} {qx qm : Nat} {H : Heap} {locs : List Loc} (hR : lwR AX AM) (hJ : lwJ AX AM D cy s qx qm H locs) {ls : Array Slot} (hl : lv_has ls 4 [(3, .int (Int32.ofNat i)), (2, .ref qm), (1, .ref qx), (0, .ref b)]) (K : ∀ (AX AM : pm_A) (H : Heap) (locs : List Loc), lwR AX AM → lwJ AX AM D cy s qx qm H locs → W p l e room_1 s m #[Value.ref b] below meth c H locs 600000 7302250 (lw_Z below #[Value.ref b] s) (F0 m 941 ls [])) : W p l e room_1 s m #[Value.ref b] below meth c H locs 600000 7302250 (lw_Z below #[Value.ref b] s) (F0 m 345 ls []) := by
  obtain ⟨hx, hb, hr, hml, hown, hts, hX, hbl, hlocks, hgv⟩ := id C0
  have hbA : ¬ lA s b := Nat.not_le.mpr hbl
  have hS0 := hJ
  obtain ⟨_, _, _, _, _, _, _, _, _, _, _, _, _, _, hS0⟩ := hS0
  obtain ⟨sd, ks, hQ⟩ := hR.2.2.2.2.1
  obtain ⟨n1, r1, c1, ⟨z1, e1⟩, q1⟩ := ox_terms hR.1 (i32_r (ya xs i 1))
  obtain ⟨n2, r2, c2, ⟨z2, e2⟩, q2⟩ := om_terms hR.2.1 (i32_r (ya xs i 1))
  have fx := fx_terms c1 hR.2.2.1.1
  have fm := fm_terms c2 (gK_of hR.2.1.g)
  have hRR : RR r1.2 r2.2 := (hR.2.2.1.kX fx.1 fx.2 rfl rfl rfl rfl).kM fm.2 rfl rfl
  have hDD : DT r1.2 r2.2 := (hR.2.2.2.1.kX (fx_terms c1 hR.2.2.1.1).2 rfl rfl rfl rfl rfl).kM (fm_terms c2 (gK_of hR.2.1.g)).2 rfl rfl rfl
  have hCA : CA r1.2 := hQ.2.1.k fx.2 rfl
  have hFT : FT r1.2 r2.2 := hR.2.2.2.2.2.2.2.k fx.2 fm.2 rfl rfl
  have hBK : BK r1.2 := hR.2.2.2.2.2.2.1.k fx.2 rfl
  have hRW : RW r1.2 r2.2 := hR.2.2.2.2.2.1.k fx.2 fm.2 rfl rfl
  have hXR : XR r1.2 r2.2 := hR.2.2.2.2.1.kk q1.1 q2.g fx.2 fm.2 rfl rfl rfl rfl
  refine lv_aload_n hx hb dL_law_345 rfl (lv_at hl 2 rfl) ?_
  refine lv_aload_n hx hb dL_law_346 rfl (lv_at hl 3 rfl) ?_
  refine lv_iload_n hx hb dL_law_347 rfl (lv_at hl 0 rfl) ?_
  refine lv_iconst (v := 1) hx hb dL_law_348 (by decide) ?_
  refine lv_iadd hx hb dL_law_349 ?_
  refine va_sld hx hb hX hbl hbA hS0 (lw_vin (k := 1) (j := 1) hL rfl (by omega) hi) dL_law_350 ?_
  refine W.eq (g2 := F0 m 351 ls [.int (ya xs i 1), .ref qx]) rfl ?_
  refine W.eq (g2 := F0 m 351 ls ((Value.ref qx :: List.map Value.int [ya xs i 1]).reverse ++ [])) rfl ?_
  refine lw_cX lk_351 hz_114 C0 hK hJ [ya xs i 1] hl.1 rfl (Nat.le_of_ble_eq_true rfl) c1 (Or.inl rfl) e1 (fun v1 H1 locs1 hv1 hJ1 => ?_)
  obtain ⟨y1, hy1, hz1⟩ := lwV_i hv1 e1
  subst hy1
  show W p l e room_1 s m #[Value.ref b] below meth c H1 locs1 600000 7302250 (lw_Z below #[Value.ref b] s) (F0 m 354 ls [.int y1])
  have hS1 := hJ1
  obtain ⟨_, _, _, _, _, _, _, _, _, _, _, _, _, _, hS1⟩ := hS1
  refine lv_pop hx hb dL_law_354 rfl ?_
  refine lv_aload_n hx hb dL_law_355 rfl (lv_at hl 1 rfl) ?_
  refine lv_aload_n hx hb dL_law_356 rfl (lv_at hl 3 rfl) ?_
  refine lv_iload_n hx hb dL_law_357 rfl (lv_at hl 0 rfl) ?_
  refine lv_iconst (v := 1) hx hb dL_law_358 (by decide) ?_
  refine lv_iadd hx hb dL_law_359 ?_
  refine va_sld hx hb hX hbl hbA hS1 (lw_vin (k := 1) (j := 1) hL rfl (by omega) hi) dL_law_360 ?_
  refine W.eq (g2 := F0 m 361 ls [.int (ya xs i 1), .ref qm]) rfl ?_
  refine W.eq (g2 := F0 m 361 ls ((Value.ref qm :: List.map Value.int [ya xs i 1]).reverse ++ [])) rfl ?_
  refine lw_cM lk_361 hz_194 C0 hK hJ1 [ya xs i 1] hl.1 rfl (Nat.le_of_ble_eq_true rfl) c2 (Or.inl rfl) e2 (fun v2 H2 locs2 hv2 hJ2 => ?_)
  obtain ⟨y2, hy2, hz2⟩ := lwV_i hv2 e2
  subst hy2
  show W p l e room_1 s m #[Value.ref b] below meth c H2 locs2 600000 7302250 (lw_Z below #[Value.ref b] s) (F0 m 364 ls [.int y2])
  refine lv_pop hx hb dL_law_364 rfl ?_
  refine lv_goto (tgt := 941) hx hb dL_law_365 (by decide) ?_
  exact K _ _ _ _ ⟨q1, q2, hRR, hDD, hXR, hRW, hBK, hFT⟩ hJ2
set_option maxHeartbeats 4000000 in
set_option maxRecDepth 100000 in
theorem lw_c8 {p : Program} {l : Launch} {e : Env} {s : State} {m : MethodId} {below : List Frame} {meth : Method} {c : Code} {b L : Nat} {xs : Nat → Int32} {D : va_G} {cy : Nat → ClassId} (C0 : lw_At p s m meth c b L xs) (hL : L ≤ 2048) (hK : rx_K D vwCl (tyl cy) nwl ocl s) {i : Nat} (hi : i + 4 ≤ L) {AX AM : pm_A} {qx qm : Nat} {H : Heap} {locs : List Loc} (hR : lwR AX AM) (hJ : lwJ AX AM D cy s qx qm H locs) {ls : Array Slot} (hl : lv_has ls 4 [(3, .int (Int32.ofNat i)), (2, .ref qm), (1, .ref qx), (0, .ref b)]) (K : ∀ (AX AM : pm_A) (H : Heap) (locs : List Loc), lwR AX AM → lwJ AX AM D cy s qx qm H locs → W p l e room_1 s m #[Value.ref b] below meth c H locs 600000 7302250 (lw_Z below #[Value.ref b] s) (F0 m 941 ls [])) : W p l e room_1 s m #[Value.ref b] below meth c H locs 600000 7302250 (lw_Z below #[Value.ref b] s) (F0 m 368 ls []) := by
  obtain ⟨hx, hb, hr, hml, hown, hts, hX, hbl, hlocks, hgv⟩ := id C0
  have hbA : ¬ lA s b := Nat.not_le.mpr hbl
  have hS0 := hJ
  obtain ⟨_, _, _, _, _, _, _, _, _, _, _, _, _, _, hS0⟩ := hS0
  obtain ⟨sd, ks, hQ⟩ := hR.2.2.2.2.1
  obtain ⟨n1, r1, c1, ⟨z1, e1⟩, q1⟩ := ox_term hR.1 (i32_r (ya xs i 1)) (i32_r (ya xs i 2)) (i32_r (ya xs i 3))
  obtain ⟨n2, r2, c2, ⟨z2, e2⟩, q2⟩ := om_term hR.2.1 (i32_r (ya xs i 1)) (i32_r (ya xs i 2)) (i32_r (ya xs i 3))
  have fx := fx_term c1 hR.2.2.1.1
  have fm := fm_term c2 (gK_of hR.2.1.g)
  have hRR : RR r1.2 r2.2 := (hR.2.2.1.kX fx.1 fx.2 rfl rfl rfl rfl).kM fm.2 rfl rfl
  have hDD : DT r1.2 r2.2 := (hR.2.2.2.1.kX (fx_term c1 hR.2.2.1.1).2 rfl rfl rfl rfl rfl).kM (fm_term c2 (gK_of hR.2.1.g)).2 rfl rfl rfl
  have hCA : CA r1.2 := hQ.2.1.k fx.2 rfl
  have hFT : FT r1.2 r2.2 := hR.2.2.2.2.2.2.2.k fx.2 fm.2 rfl rfl
  have hBK : BK r1.2 := hR.2.2.2.2.2.2.1.k fx.2 rfl
  have hRW : RW r1.2 r2.2 := hR.2.2.2.2.2.1.k fx.2 fm.2 rfl rfl
  have hXR : XR r1.2 r2.2 := hR.2.2.2.2.1.kk q1.1 q2.g fx.2 fm.2 rfl rfl rfl rfl
  refine lv_aload_n hx hb dL_law_368 rfl (lv_at hl 2 rfl) ?_
  refine lv_aload_n hx hb dL_law_369 rfl (lv_at hl 3 rfl) ?_
  refine lv_iload_n hx hb dL_law_370 rfl (lv_at hl 0 rfl) ?_
  refine lv_iconst (v := 1) hx hb dL_law_371 (by decide) ?_
  refine lv_iadd hx hb dL_law_372 ?_
  refine va_sld hx hb hX hbl hbA hS0 (lw_vin (k := 1) (j := 1) hL rfl (by omega) hi) dL_law_373 ?_
  refine W.eq (g2 := F0 m 374 ls [.int (ya xs i 1), .ref qx]) rfl ?_
  refine lv_aload_n hx hb dL_law_374 rfl (lv_at hl 3 rfl) ?_
  refine lv_iload_n hx hb dL_law_375 rfl (lv_at hl 0 rfl) ?_
  refine lv_iconst (v := 2) hx hb dL_law_376 (by decide) ?_
  refine lv_iadd hx hb dL_law_377 ?_
  refine va_sld hx hb hX hbl hbA hS0 (lw_vin (k := 2) (j := 2) hL rfl (by omega) hi) dL_law_378 ?_
  refine W.eq (g2 := F0 m 379 ls [.int (ya xs i 2), .int (ya xs i 1), .ref qx]) rfl ?_
  refine lv_aload_n hx hb dL_law_379 rfl (lv_at hl 3 rfl) ?_
  refine lv_iload_n hx hb dL_law_380 rfl (lv_at hl 0 rfl) ?_
  refine lv_iconst (v := 3) hx hb dL_law_381 (by decide) ?_
  refine lv_iadd hx hb dL_law_382 ?_
  refine va_sld hx hb hX hbl hbA hS0 (lw_vin (k := 3) (j := 3) hL rfl (by omega) hi) dL_law_383 ?_
  refine W.eq (g2 := F0 m 384 ls [.int (ya xs i 3), .int (ya xs i 2), .int (ya xs i 1), .ref qx]) rfl ?_
  refine W.eq (g2 := F0 m 384 ls ((Value.ref qx :: List.map Value.int [ya xs i 1, ya xs i 2, ya xs i 3]).reverse ++ [])) rfl ?_
  refine lw_cX lk_384 hz_113 C0 hK hJ [ya xs i 1, ya xs i 2, ya xs i 3] hl.1 rfl (Nat.le_of_ble_eq_true rfl) c1 (Or.inr rfl) e1 (fun v1 H1 locs1 hv1 hJ1 => ?_)
  obtain ⟨y1, hy1, hz1⟩ := lwV_l hv1 e1
  subst hy1
  show W p l e room_1 s m #[Value.ref b] below meth c H1 locs1 600000 7302250 (lw_Z below #[Value.ref b] s) (F0 m 387 ls [.long y1])
  have hS1 := hJ1
  obtain ⟨_, _, _, _, _, _, _, _, _, _, _, _, _, _, hS1⟩ := hS1
  refine lv_pop2_2 hx hb dL_law_387 rfl ?_
  refine lv_aload_n hx hb dL_law_388 rfl (lv_at hl 1 rfl) ?_
  refine lv_aload_n hx hb dL_law_389 rfl (lv_at hl 3 rfl) ?_
  refine lv_iload_n hx hb dL_law_390 rfl (lv_at hl 0 rfl) ?_
  refine lv_iconst (v := 1) hx hb dL_law_391 (by decide) ?_
  refine lv_iadd hx hb dL_law_392 ?_
  refine va_sld hx hb hX hbl hbA hS1 (lw_vin (k := 1) (j := 1) hL rfl (by omega) hi) dL_law_393 ?_
  refine W.eq (g2 := F0 m 394 ls [.int (ya xs i 1), .ref qm]) rfl ?_
  refine lv_aload_n hx hb dL_law_394 rfl (lv_at hl 3 rfl) ?_
  refine lv_iload_n hx hb dL_law_395 rfl (lv_at hl 0 rfl) ?_
  refine lv_iconst (v := 2) hx hb dL_law_396 (by decide) ?_
  refine lv_iadd hx hb dL_law_397 ?_
  refine va_sld hx hb hX hbl hbA hS1 (lw_vin (k := 2) (j := 2) hL rfl (by omega) hi) dL_law_398 ?_
  refine W.eq (g2 := F0 m 399 ls [.int (ya xs i 2), .int (ya xs i 1), .ref qm]) rfl ?_
  refine lv_aload_n hx hb dL_law_399 rfl (lv_at hl 3 rfl) ?_
  refine lv_iload_n hx hb dL_law_400 rfl (lv_at hl 0 rfl) ?_
  refine lv_iconst (v := 3) hx hb dL_law_401 (by decide) ?_
  refine lv_iadd hx hb dL_law_402 ?_
  refine va_sld hx hb hX hbl hbA hS1 (lw_vin (k := 3) (j := 3) hL rfl (by omega) hi) dL_law_403 ?_
  refine W.eq (g2 := F0 m 404 ls [.int (ya xs i 3), .int (ya xs i 2), .int (ya xs i 1), .ref qm]) rfl ?_
  refine W.eq (g2 := F0 m 404 ls ((Value.ref qm :: List.map Value.int [ya xs i 1, ya xs i 2, ya xs i 3]).reverse ++ [])) rfl ?_
  refine lw_cM lk_404 hz_193 C0 hK hJ1 [ya xs i 1, ya xs i 2, ya xs i 3] hl.1 rfl (Nat.le_of_ble_eq_true rfl) c2 (Or.inr rfl) e2 (fun v2 H2 locs2 hv2 hJ2 => ?_)
  obtain ⟨y2, hy2, hz2⟩ := lwV_l hv2 e2
  subst hy2
  show W p l e room_1 s m #[Value.ref b] below meth c H2 locs2 600000 7302250 (lw_Z below #[Value.ref b] s) (F0 m 407 ls [.long y2])
  refine lv_pop2_2 hx hb dL_law_407 rfl ?_
  refine lv_goto (tgt := 941) hx hb dL_law_408 (by decide) ?_
  exact K _ _ _ _ ⟨q1, q2, hRR, hDD, hXR, hRW, hBK, hFT⟩ hJ2
set_option maxHeartbeats 4000000 in
set_option maxRecDepth 100000 in
theorem lw_c9 {p : Program} {l : Launch} {e : Env} {s : State} {m : MethodId} {below : List Frame} {meth : Method} {c : Code} {b L : Nat} {xs : Nat → Int32} {D : va_G} {cy : Nat → ClassId} (C0 : lw_At p s m meth c b L xs) (hL : L ≤ 2048) (hK : rx_K D vwCl (tyl cy) nwl ocl s) {i : Nat} (hi : i + 4 ≤ L) {AX AM : pm_A} {qx qm : Nat} {H : Heap} {locs : List Loc} (hR : lwR AX AM) (hJ : lwJ AX AM D cy s qx qm H locs) {ls : Array Slot} (hl : lv_has ls 4 [(3, .int (Int32.ofNat i)), (2, .ref qm), (1, .ref qx), (0, .ref b)]) (K : ∀ (AX AM : pm_A) (H : Heap) (locs : List Loc), lwR AX AM → lwJ AX AM D cy s qx qm H locs → W p l e room_1 s m #[Value.ref b] below meth c H locs 600000 7302250 (lw_Z below #[Value.ref b] s) (F0 m 941 ls [])) : W p l e room_1 s m #[Value.ref b] below meth c H locs 600000 7302250 (lw_Z below #[Value.ref b] s) (F0 m 411 ls []) := by
  obtain ⟨hx, hb, hr, hml, hown, hts, hX, hbl, hlocks, hgv⟩ := id C0
  have hbA : ¬ lA s b := Nat.not_le.mpr hbl
  have hS0 := hJ
  obtain ⟨_, _, _, _, _, _, _, _, _, _, _, _, _, _, hS0⟩ := hS0
  obtain ⟨sd, ks, hQ⟩ := hR.2.2.2.2.1
  obtain ⟨n1, r1, c1, ⟨z1, e1⟩, q1⟩ := ox_least hR.1 (i32_r (ya xs i 1)) (i32_r (ya xs i 2))
  obtain ⟨n2, r2, c2, ⟨z2, e2⟩, q2⟩ := om_least hR.2.1 (i32_r (ya xs i 1)) (i32_r (ya xs i 2))
  have fx := fx_least c1 hR.2.2.1.1
  have fm := fm_least c2 (gK_of hR.2.1.g)
  have hRR : RR r1.2 r2.2 := (hR.2.2.1.kX fx.1 fx.2 rfl rfl rfl rfl).kM fm.2 rfl rfl
  have hDD : DT r1.2 r2.2 := (hR.2.2.2.1.kX (fx_least c1 hR.2.2.1.1).2 rfl rfl rfl rfl rfl).kM (fm_least c2 (gK_of hR.2.1.g)).2 rfl rfl rfl
  have hCA : CA r1.2 := hQ.2.1.k fx.2 rfl
  have hFT : FT r1.2 r2.2 := hR.2.2.2.2.2.2.2.k fx.2 fm.2 rfl rfl
  have hBK : BK r1.2 := hR.2.2.2.2.2.2.1.k fx.2 rfl
  have hRW : RW r1.2 r2.2 := hR.2.2.2.2.2.1.k fx.2 fm.2 rfl rfl
  have hXR : XR r1.2 r2.2 := hR.2.2.2.2.1.kk q1.1 q2.g fx.2 fm.2 rfl rfl rfl rfl
  refine lv_aload_n hx hb dL_law_411 rfl (lv_at hl 2 rfl) ?_
  refine lv_aload_n hx hb dL_law_412 rfl (lv_at hl 3 rfl) ?_
  refine lv_iload_n hx hb dL_law_413 rfl (lv_at hl 0 rfl) ?_
  refine lv_iconst (v := 1) hx hb dL_law_414 (by decide) ?_
  refine lv_iadd hx hb dL_law_415 ?_
  refine va_sld hx hb hX hbl hbA hS0 (lw_vin (k := 1) (j := 1) hL rfl (by omega) hi) dL_law_416 ?_
  refine W.eq (g2 := F0 m 417 ls [.int (ya xs i 1), .ref qx]) rfl ?_
  refine lv_aload_n hx hb dL_law_417 rfl (lv_at hl 3 rfl) ?_
  refine lv_iload_n hx hb dL_law_418 rfl (lv_at hl 0 rfl) ?_
  refine lv_iconst (v := 2) hx hb dL_law_419 (by decide) ?_
  refine lv_iadd hx hb dL_law_420 ?_
  refine va_sld hx hb hX hbl hbA hS0 (lw_vin (k := 2) (j := 2) hL rfl (by omega) hi) dL_law_421 ?_
  refine W.eq (g2 := F0 m 422 ls [.int (ya xs i 2), .int (ya xs i 1), .ref qx]) rfl ?_
  refine W.eq (g2 := F0 m 422 ls ((Value.ref qx :: List.map Value.int [ya xs i 1, ya xs i 2]).reverse ++ [])) rfl ?_
  refine lw_cX lk_422 hz_100 C0 hK hJ [ya xs i 1, ya xs i 2] hl.1 rfl (Nat.le_of_ble_eq_true rfl) c1 (Or.inl rfl) e1 (fun v1 H1 locs1 hv1 hJ1 => ?_)
  obtain ⟨y1, hy1, hz1⟩ := lwV_i hv1 e1
  subst hy1
  show W p l e room_1 s m #[Value.ref b] below meth c H1 locs1 600000 7302250 (lw_Z below #[Value.ref b] s) (F0 m 425 ls [.int y1])
  have hS1 := hJ1
  obtain ⟨_, _, _, _, _, _, _, _, _, _, _, _, _, _, hS1⟩ := hS1
  refine lv_pop hx hb dL_law_425 rfl ?_
  refine lv_aload_n hx hb dL_law_426 rfl (lv_at hl 1 rfl) ?_
  refine lv_aload_n hx hb dL_law_427 rfl (lv_at hl 3 rfl) ?_
  refine lv_iload_n hx hb dL_law_428 rfl (lv_at hl 0 rfl) ?_
  refine lv_iconst (v := 1) hx hb dL_law_429 (by decide) ?_
  refine lv_iadd hx hb dL_law_430 ?_
  refine va_sld hx hb hX hbl hbA hS1 (lw_vin (k := 1) (j := 1) hL rfl (by omega) hi) dL_law_431 ?_
  refine W.eq (g2 := F0 m 432 ls [.int (ya xs i 1), .ref qm]) rfl ?_
  refine lv_aload_n hx hb dL_law_432 rfl (lv_at hl 3 rfl) ?_
  refine lv_iload_n hx hb dL_law_433 rfl (lv_at hl 0 rfl) ?_
  refine lv_iconst (v := 2) hx hb dL_law_434 (by decide) ?_
  refine lv_iadd hx hb dL_law_435 ?_
  refine va_sld hx hb hX hbl hbA hS1 (lw_vin (k := 2) (j := 2) hL rfl (by omega) hi) dL_law_436 ?_
  refine W.eq (g2 := F0 m 437 ls [.int (ya xs i 2), .int (ya xs i 1), .ref qm]) rfl ?_
  refine W.eq (g2 := F0 m 437 ls ((Value.ref qm :: List.map Value.int [ya xs i 1, ya xs i 2]).reverse ++ [])) rfl ?_
  refine lw_cM lk_437 hz_162 C0 hK hJ1 [ya xs i 1, ya xs i 2] hl.1 rfl (Nat.le_of_ble_eq_true rfl) c2 (Or.inl rfl) e2 (fun v2 H2 locs2 hv2 hJ2 => ?_)
  obtain ⟨y2, hy2, hz2⟩ := lwV_i hv2 e2
  subst hy2
  show W p l e room_1 s m #[Value.ref b] below meth c H2 locs2 600000 7302250 (lw_Z below #[Value.ref b] s) (F0 m 440 ls [.int y2])
  refine lv_pop hx hb dL_law_440 rfl ?_
  refine lv_goto (tgt := 941) hx hb dL_law_441 (by decide) ?_
  exact K _ _ _ _ ⟨q1, q2, hRR, hDD, hXR, hRW, hBK, hFT⟩ hJ2
set_option maxHeartbeats 4000000 in
set_option maxRecDepth 100000 in
theorem lw_c10 {p : Program} {l : Launch} {e : Env} {s : State} {m : MethodId} {below : List Frame} {meth : Method} {c : Code} {b L : Nat} {xs : Nat → Int32} {D : va_G} {cy : Nat → ClassId} (C0 : lw_At p s m meth c b L xs) (hL : L ≤ 2048) (hK : rx_K D vwCl (tyl cy) nwl ocl s) {i : Nat} (hi : i + 4 ≤ L) {AX AM : pm_A} {qx qm : Nat} {H : Heap} {locs : List Loc} (hR : lwR AX AM) (hJ : lwJ AX AM D cy s qx qm H locs) {ls : Array Slot} (hl : lv_has ls 4 [(3, .int (Int32.ofNat i)), (2, .ref qm), (1, .ref qx), (0, .ref b)]) (K : ∀ (AX AM : pm_A) (H : Heap) (locs : List Loc), lwR AX AM → lwJ AX AM D cy s qx qm H locs → W p l e room_1 s m #[Value.ref b] below meth c H locs 600000 7302250 (lw_Z below #[Value.ref b] s) (F0 m 941 ls [])) : W p l e room_1 s m #[Value.ref b] below meth c H locs 600000 7302250 (lw_Z below #[Value.ref b] s) (F0 m 444 ls []) := by
  obtain ⟨hx, hb, hr, hml, hown, hts, hX, hbl, hlocks, hgv⟩ := id C0
  have hbA : ¬ lA s b := Nat.not_le.mpr hbl
  have hS0 := hJ
  obtain ⟨_, _, _, _, _, _, _, _, _, _, _, _, _, _, hS0⟩ := hS0
  obtain ⟨sd, ks, hQ⟩ := hR.2.2.2.2.1
  obtain ⟨n1, r1, c1, ⟨z1, e1⟩, q1⟩ := ox_ones hR.1 (i32_r (ya xs i 1))
  obtain ⟨n2, r2, c2, ⟨z2, e2⟩, q2⟩ := om_ones hR.2.1 (i32_r (ya xs i 1))
  have fx := fx_ones c1 hR.2.2.1.1
  have fm := fm_ones c2 (gK_of hR.2.1.g)
  have hRR : RR r1.2 r2.2 := (hR.2.2.1.kX fx.1 fx.2 rfl rfl rfl rfl).kM fm.2 rfl rfl
  have hDD : DT r1.2 r2.2 := (hR.2.2.2.1.kX (fx_ones c1 hR.2.2.1.1).2 rfl rfl rfl rfl rfl).kM (fm_ones c2 (gK_of hR.2.1.g)).2 rfl rfl rfl
  have hCA : CA r1.2 := hQ.2.1.k fx.2 rfl
  have hFT : FT r1.2 r2.2 := hR.2.2.2.2.2.2.2.k fx.2 fm.2 rfl rfl
  have hBK : BK r1.2 := hR.2.2.2.2.2.2.1.k fx.2 rfl
  have hRW : RW r1.2 r2.2 := hR.2.2.2.2.2.1.k fx.2 fm.2 rfl rfl
  have hXR : XR r1.2 r2.2 := hR.2.2.2.2.1.kk q1.1 q2.g fx.2 fm.2 rfl rfl rfl rfl
  refine lv_aload_n hx hb dL_law_444 rfl (lv_at hl 2 rfl) ?_
  refine lv_aload_n hx hb dL_law_445 rfl (lv_at hl 3 rfl) ?_
  refine lv_iload_n hx hb dL_law_446 rfl (lv_at hl 0 rfl) ?_
  refine lv_iconst (v := 1) hx hb dL_law_447 (by decide) ?_
  refine lv_iadd hx hb dL_law_448 ?_
  refine va_sld hx hb hX hbl hbA hS0 (lw_vin (k := 1) (j := 1) hL rfl (by omega) hi) dL_law_449 ?_
  refine W.eq (g2 := F0 m 450 ls [.int (ya xs i 1), .ref qx]) rfl ?_
  refine W.eq (g2 := F0 m 450 ls ((Value.ref qx :: List.map Value.int [ya xs i 1]).reverse ++ [])) rfl ?_
  refine lw_cX lk_450 hz_101 C0 hK hJ [ya xs i 1] hl.1 rfl (Nat.le_of_ble_eq_true rfl) c1 (Or.inr rfl) e1 (fun v1 H1 locs1 hv1 hJ1 => ?_)
  obtain ⟨y1, hy1, hz1⟩ := lwV_l hv1 e1
  subst hy1
  show W p l e room_1 s m #[Value.ref b] below meth c H1 locs1 600000 7302250 (lw_Z below #[Value.ref b] s) (F0 m 453 ls [.long y1])
  have hS1 := hJ1
  obtain ⟨_, _, _, _, _, _, _, _, _, _, _, _, _, _, hS1⟩ := hS1
  refine lv_pop2_2 hx hb dL_law_453 rfl ?_
  refine lv_aload_n hx hb dL_law_454 rfl (lv_at hl 1 rfl) ?_
  refine lv_aload_n hx hb dL_law_455 rfl (lv_at hl 3 rfl) ?_
  refine lv_iload_n hx hb dL_law_456 rfl (lv_at hl 0 rfl) ?_
  refine lv_iconst (v := 1) hx hb dL_law_457 (by decide) ?_
  refine lv_iadd hx hb dL_law_458 ?_
  refine va_sld hx hb hX hbl hbA hS1 (lw_vin (k := 1) (j := 1) hL rfl (by omega) hi) dL_law_459 ?_
  refine W.eq (g2 := F0 m 460 ls [.int (ya xs i 1), .ref qm]) rfl ?_
  refine W.eq (g2 := F0 m 460 ls ((Value.ref qm :: List.map Value.int [ya xs i 1]).reverse ++ [])) rfl ?_
  refine lw_cM lk_460 hz_169 C0 hK hJ1 [ya xs i 1] hl.1 rfl (Nat.le_of_ble_eq_true rfl) c2 (Or.inr rfl) e2 (fun v2 H2 locs2 hv2 hJ2 => ?_)
  obtain ⟨y2, hy2, hz2⟩ := lwV_l hv2 e2
  subst hy2
  show W p l e room_1 s m #[Value.ref b] below meth c H2 locs2 600000 7302250 (lw_Z below #[Value.ref b] s) (F0 m 463 ls [.long y2])
  refine lv_pop2_2 hx hb dL_law_463 rfl ?_
  refine lv_goto (tgt := 941) hx hb dL_law_464 (by decide) ?_
  exact K _ _ _ _ ⟨q1, q2, hRR, hDD, hXR, hRW, hBK, hFT⟩ hJ2
set_option maxHeartbeats 4000000 in
set_option maxRecDepth 100000 in
theorem lw_c11 {p : Program} {l : Launch} {e : Env} {s : State} {m : MethodId} {below : List Frame} {meth : Method} {c : Code} {b L : Nat} {xs : Nat → Int32} {D : va_G} {cy : Nat → ClassId} (C0 : lw_At p s m meth c b L xs) (hL : L ≤ 2048) (hK : rx_K D vwCl (tyl cy) nwl ocl s) {i : Nat} (hi : i + 4 ≤ L) {AX AM : pm_A} {qx qm : Nat} {H : Heap} {locs : List Loc} (hR : lwR AX AM) (hJ : lwJ AX AM D cy s qx qm H locs) {ls : Array Slot} (hl : lv_has ls 4 [(3, .int (Int32.ofNat i)), (2, .ref qm), (1, .ref qx), (0, .ref b)]) (K : ∀ (AX AM : pm_A) (H : Heap) (locs : List Loc), lwR AX AM → lwJ AX AM D cy s qx qm H locs → W p l e room_1 s m #[Value.ref b] below meth c H locs 600000 7302250 (lw_Z below #[Value.ref b] s) (F0 m 941 ls [])) : W p l e room_1 s m #[Value.ref b] below meth c H locs 600000 7302250 (lw_Z below #[Value.ref b] s) (F0 m 467 ls []) := by
  obtain ⟨hx, hb, hr, hml, hown, hts, hX, hbl, hlocks, hgv⟩ := id C0
  have hbA : ¬ lA s b := Nat.not_le.mpr hbl
  have hS0 := hJ
  obtain ⟨_, _, _, _, _, _, _, _, _, _, _, _, _, _, hS0⟩ := hS0
  obtain ⟨sd, ks, hQ⟩ := hR.2.2.2.2.1
  obtain ⟨n1, r1, c1, ⟨⟨z1, e1⟩, q1⟩, b1⟩ := Cl.and (ox_keep hR.1 (i32_r (ya xs i 1))) (keep_exX hQ.1.1 hQ.1.2.1)
  obtain ⟨n2, r2, c2, ⟨⟨z2, e2⟩, q2⟩, b2⟩ := Cl.and (om_keep hR.2.1 (i32_r (ya xs i 1))) (mkeep_exk ⟨hQ.1.2.2.1, hR.2.1.2⟩ _)
  have fx := fx_keep c1 hR.2.2.1.1
  have fm := fm_keep c2 (gK_of hR.2.1.g)
  have hRR : RR r1.2 r2.2 := (hR.2.2.1.kX fx.1 fx.2 rfl rfl rfl rfl).kM fm.2 rfl rfl
  have hDD : DT r1.2 r2.2 := (hR.2.2.2.1.kX (fx_keep c1 hR.2.2.1.1).2 rfl rfl rfl rfl rfl).kM (fm_keep c2 (gK_of hR.2.1.g)).2 rfl rfl rfl
  have hCA : CA r1.2 := hQ.2.1.k fx.2 rfl
  have hXR : XR r1.2 r2.2 := ⟨sd, ks, xr_sm hQ (kpP.sm hQ.1.1 hQ.1.2.1 b1) hCA (msm.t b2.2.1 fm.2 rfl)⟩
  have hFT : FT r1.2 r2.2 := hR.2.2.2.2.2.2.2.k fx.2 fm.2 rfl rfl
  have hBK : BK r1.2 := hR.2.2.2.2.2.2.1.k fx.2 rfl
  have hRW : RW r1.2 r2.2 := hR.2.2.2.2.2.1.k fx.2 fm.2 rfl rfl
  refine lv_aload_n hx hb dL_law_467 rfl (lv_at hl 2 rfl) ?_
  refine lv_aload_n hx hb dL_law_468 rfl (lv_at hl 3 rfl) ?_
  refine lv_iload_n hx hb dL_law_469 rfl (lv_at hl 0 rfl) ?_
  refine lv_iconst (v := 1) hx hb dL_law_470 (by decide) ?_
  refine lv_iadd hx hb dL_law_471 ?_
  refine va_sld hx hb hX hbl hbA hS0 (lw_vin (k := 1) (j := 1) hL rfl (by omega) hi) dL_law_472 ?_
  refine W.eq (g2 := F0 m 473 ls [.int (ya xs i 1), .ref qx]) rfl ?_
  refine W.eq (g2 := F0 m 473 ls ((Value.ref qx :: List.map Value.int [ya xs i 1]).reverse ++ [])) rfl ?_
  refine lw_cX lk_473 hz_99 C0 hK hJ [ya xs i 1] hl.1 rfl (Nat.le_of_ble_eq_true rfl) c1 (Or.inl rfl) e1 (fun v1 H1 locs1 hv1 hJ1 => ?_)
  obtain ⟨y1, hy1, hz1⟩ := lwV_i hv1 e1
  subst hy1
  show W p l e room_1 s m #[Value.ref b] below meth c H1 locs1 600000 7302250 (lw_Z below #[Value.ref b] s) (F0 m 476 ls [.int y1])
  have hS1 := hJ1
  obtain ⟨_, _, _, _, _, _, _, _, _, _, _, _, _, _, hS1⟩ := hS1
  refine lv_pop hx hb dL_law_476 rfl ?_
  refine lv_aload_n hx hb dL_law_477 rfl (lv_at hl 1 rfl) ?_
  refine lv_aload_n hx hb dL_law_478 rfl (lv_at hl 3 rfl) ?_
  refine lv_iload_n hx hb dL_law_479 rfl (lv_at hl 0 rfl) ?_
  refine lv_iconst (v := 1) hx hb dL_law_480 (by decide) ?_
  refine lv_iadd hx hb dL_law_481 ?_
  refine va_sld hx hb hX hbl hbA hS1 (lw_vin (k := 1) (j := 1) hL rfl (by omega) hi) dL_law_482 ?_
  refine W.eq (g2 := F0 m 483 ls [.int (ya xs i 1), .ref qm]) rfl ?_
  refine W.eq (g2 := F0 m 483 ls ((Value.ref qm :: List.map Value.int [ya xs i 1]).reverse ++ [])) rfl ?_
  refine lw_cM lk_483 hz_160 C0 hK hJ1 [ya xs i 1] hl.1 rfl (Nat.le_of_ble_eq_true rfl) c2 (Or.inl rfl) e2 (fun v2 H2 locs2 hv2 hJ2 => ?_)
  obtain ⟨y2, hy2, hz2⟩ := lwV_i hv2 e2
  subst hy2
  show W p l e room_1 s m #[Value.ref b] below meth c H2 locs2 600000 7302250 (lw_Z below #[Value.ref b] s) (F0 m 486 ls [.int y2])
  refine lv_pop hx hb dL_law_486 rfl ?_
  refine lv_goto (tgt := 941) hx hb dL_law_487 (by decide) ?_
  exact K _ _ _ _ ⟨q1, q2, hRR, hDD, hXR, hRW, hBK, hFT⟩ hJ2
set_option maxHeartbeats 4000000 in
set_option maxRecDepth 100000 in
theorem lw_c12 {p : Program} {l : Launch} {e : Env} {s : State} {m : MethodId} {below : List Frame} {meth : Method} {c : Code} {b L : Nat} {xs : Nat → Int32} {D : va_G} {cy : Nat → ClassId} (C0 : lw_At p s m meth c b L xs) (hL : L ≤ 2048) (hK : rx_K D vwCl (tyl cy) nwl ocl s) {i : Nat} (hi : i + 4 ≤ L) {AX AM : pm_A} {qx qm : Nat} {H : Heap} {locs : List Loc} (hR : lwR AX AM) (hJ : lwJ AX AM D cy s qx qm H locs) {ls : Array Slot} (hl : lv_has ls 4 [(3, .int (Int32.ofNat i)), (2, .ref qm), (1, .ref qx), (0, .ref b)]) (K : ∀ (AX AM : pm_A) (H : Heap) (locs : List Loc), lwR AX AM → lwJ AX AM D cy s qx qm H locs → W p l e room_1 s m #[Value.ref b] below meth c H locs 600000 7302250 (lw_Z below #[Value.ref b] s) (F0 m 941 ls [])) : W p l e room_1 s m #[Value.ref b] below meth c H locs 600000 7302250 (lw_Z below #[Value.ref b] s) (F0 m 490 ls []) := by
  obtain ⟨hx, hb, hr, hml, hown, hts, hX, hbl, hlocks, hgv⟩ := id C0
  have hbA : ¬ lA s b := Nat.not_le.mpr hbl
  have hS0 := hJ
  obtain ⟨_, _, _, _, _, _, _, _, _, _, _, _, _, _, hS0⟩ := hS0
  obtain ⟨sd, ks, hQ⟩ := hR.2.2.2.2.1
  obtain ⟨n1, r1, c1, ⟨z1, e1⟩, q1⟩ := ox_same hR.1 (i32_r (ya xs i 1))
  obtain ⟨n2, r2, c2, ⟨z2, e2⟩, q2⟩ := om_same hR.2.1 (i32_r (ya xs i 1))
  have fx := fx_same c1 hR.2.2.1.1
  have fm := fm_same c2 (gK_of hR.2.1.g)
  have hRR : RR r1.2 r2.2 := (hR.2.2.1.kX fx.1 fx.2 rfl rfl rfl rfl).kM fm.2 rfl rfl
  have hDD : DT r1.2 r2.2 := (hR.2.2.2.1.kX (fx_same c1 hR.2.2.1.1).2 rfl rfl rfl rfl rfl).kM (fm_same c2 (gK_of hR.2.1.g)).2 rfl rfl rfl
  have hCA : CA r1.2 := hQ.2.1.k fx.2 rfl
  have hFT : FT r1.2 r2.2 := hR.2.2.2.2.2.2.2.k fx.2 fm.2 rfl rfl
  have hBK : BK r1.2 := hR.2.2.2.2.2.2.1.k fx.2 rfl
  have hRW : RW r1.2 r2.2 := hR.2.2.2.2.2.1.k fx.2 fm.2 rfl rfl
  have hXR : XR r1.2 r2.2 := hR.2.2.2.2.1.kk q1.1 q2.g fx.2 fm.2 rfl rfl rfl rfl
  refine lv_aload_n hx hb dL_law_490 rfl (lv_at hl 2 rfl) ?_
  refine lv_aload_n hx hb dL_law_491 rfl (lv_at hl 3 rfl) ?_
  refine lv_iload_n hx hb dL_law_492 rfl (lv_at hl 0 rfl) ?_
  refine lv_iconst (v := 1) hx hb dL_law_493 (by decide) ?_
  refine lv_iadd hx hb dL_law_494 ?_
  refine va_sld hx hb hX hbl hbA hS0 (lw_vin (k := 1) (j := 1) hL rfl (by omega) hi) dL_law_495 ?_
  refine W.eq (g2 := F0 m 496 ls [.int (ya xs i 1), .ref qx]) rfl ?_
  refine W.eq (g2 := F0 m 496 ls ((Value.ref qx :: List.map Value.int [ya xs i 1]).reverse ++ [])) rfl ?_
  refine lw_cX lk_496 hz_106 C0 hK hJ [ya xs i 1] hl.1 rfl (Nat.le_of_ble_eq_true rfl) c1 (Or.inl rfl) e1 (fun v1 H1 locs1 hv1 hJ1 => ?_)
  obtain ⟨y1, hy1, hz1⟩ := lwV_i hv1 e1
  subst hy1
  show W p l e room_1 s m #[Value.ref b] below meth c H1 locs1 600000 7302250 (lw_Z below #[Value.ref b] s) (F0 m 499 ls [.int y1])
  have hS1 := hJ1
  obtain ⟨_, _, _, _, _, _, _, _, _, _, _, _, _, _, hS1⟩ := hS1
  refine lv_pop hx hb dL_law_499 rfl ?_
  refine lv_aload_n hx hb dL_law_500 rfl (lv_at hl 1 rfl) ?_
  refine lv_aload_n hx hb dL_law_501 rfl (lv_at hl 3 rfl) ?_
  refine lv_iload_n hx hb dL_law_502 rfl (lv_at hl 0 rfl) ?_
  refine lv_iconst (v := 1) hx hb dL_law_503 (by decide) ?_
  refine lv_iadd hx hb dL_law_504 ?_
  refine va_sld hx hb hX hbl hbA hS1 (lw_vin (k := 1) (j := 1) hL rfl (by omega) hi) dL_law_505 ?_
  refine W.eq (g2 := F0 m 506 ls [.int (ya xs i 1), .ref qm]) rfl ?_
  refine W.eq (g2 := F0 m 506 ls ((Value.ref qm :: List.map Value.int [ya xs i 1]).reverse ++ [])) rfl ?_
  refine lw_cM lk_506 hz_180 C0 hK hJ1 [ya xs i 1] hl.1 rfl (Nat.le_of_ble_eq_true rfl) c2 (Or.inl rfl) e2 (fun v2 H2 locs2 hv2 hJ2 => ?_)
  obtain ⟨y2, hy2, hz2⟩ := lwV_i hv2 e2
  subst hy2
  show W p l e room_1 s m #[Value.ref b] below meth c H2 locs2 600000 7302250 (lw_Z below #[Value.ref b] s) (F0 m 509 ls [.int y2])
  refine lv_pop hx hb dL_law_509 rfl ?_
  refine lv_goto (tgt := 941) hx hb dL_law_510 (by decide) ?_
  exact K _ _ _ _ ⟨q1, q2, hRR, hDD, hXR, hRW, hBK, hFT⟩ hJ2
set_option maxHeartbeats 4000000 in
set_option maxRecDepth 100000 in
theorem lw_c13 {p : Program} {l : Launch} {e : Env} {s : State} {m : MethodId} {below : List Frame} {meth : Method} {c : Code} {b L : Nat} {xs : Nat → Int32} {D : va_G} {cy : Nat → ClassId} (C0 : lw_At p s m meth c b L xs) (hL : L ≤ 2048) (hK : rx_K D vwCl (tyl cy) nwl ocl s) {i : Nat} (hi : i + 4 ≤ L) {AX AM : pm_A} {qx qm : Nat} {H : Heap} {locs : List Loc} (hR : lwR AX AM) (hJ : lwJ AX AM D cy s qx qm H locs) {ls : Array Slot} (hl : lv_has ls 4 [(3, .int (Int32.ofNat i)), (2, .ref qm), (1, .ref qx), (0, .ref b)]) (K : ∀ (AX AM : pm_A) (H : Heap) (locs : List Loc), lwR AX AM → lwJ AX AM D cy s qx qm H locs → W p l e room_1 s m #[Value.ref b] below meth c H locs 600000 7302250 (lw_Z below #[Value.ref b] s) (F0 m 941 ls [])) : W p l e room_1 s m #[Value.ref b] below meth c H locs 600000 7302250 (lw_Z below #[Value.ref b] s) (F0 m 513 ls []) := by
  obtain ⟨hx, hb, hr, hml, hown, hts, hX, hbl, hlocks, hgv⟩ := id C0
  have hbA : ¬ lA s b := Nat.not_le.mpr hbl
  have hS0 := hJ
  obtain ⟨_, _, _, _, _, _, _, _, _, _, _, _, _, _, hS0⟩ := hS0
  obtain ⟨sd, ks, hQ⟩ := hR.2.2.2.2.1
  obtain ⟨n1, r1, c1, ⟨⟨z1, e1⟩, q1⟩, b1⟩ := Cl.and (ox_all hR.1 ) (xall_ex hQ.wp hQ.1.1 hQ.2.1.1 hQ.1.2.1 ⟨rfl, rfl⟩)
  obtain ⟨n2, r2, c2, ⟨⟨z2, e2⟩, q2⟩, b2⟩ := Cl.and (om_all hR.2.1 ) (mall_exk ⟨hQ.1.2.2.1, hR.2.1.2⟩)
  have fx := fx_all c1 hR.2.2.1.1
  have fm := fm_all c2 (gK_of hR.2.1.g)
  have hRR : RR r1.2 r2.2 := (hR.2.2.1.kX fx.1 fx.2 rfl rfl rfl rfl).kM fm.2 rfl rfl
  have hDD : DT r1.2 r2.2 := (hR.2.2.2.1.kX (fx_all c1 hR.2.2.1.1).2 rfl rfl rfl rfl rfl).kM (fm_all c2 (gK_of hR.2.1.g)).2 rfl rfl rfl
  have hCA : CA r1.2 := hQ.2.1.k fx.2 rfl
  have hXR : XR r1.2 r2.2 := ⟨sd, ks, xr_sm hQ b1.sm hCA (msm.t b2.2.1 fm.2 rfl)⟩
  have hFT : FT r1.2 r2.2 := hR.2.2.2.2.2.2.2.k fx.2 fm.2 rfl rfl
  have hBK : BK r1.2 := hR.2.2.2.2.2.2.1.k fx.2 rfl
  have hRW : RW r1.2 r2.2 := hR.2.2.2.2.2.1.k fx.2 fm.2 rfl rfl
  refine lv_aload_n hx hb dL_law_513 rfl (lv_at hl 2 rfl) ?_
  refine W.eq (g2 := F0 m 514 ls ((Value.ref qx :: List.map Value.int []).reverse ++ [])) rfl ?_
  refine lw_cX lk_514 hz_83 C0 hK hJ [] hl.1 rfl (Nat.le_of_ble_eq_true rfl) c1 (Or.inl rfl) e1 (fun v1 H1 locs1 hv1 hJ1 => ?_)
  obtain ⟨y1, hy1, hz1⟩ := lwV_i hv1 e1
  subst hy1
  show W p l e room_1 s m #[Value.ref b] below meth c H1 locs1 600000 7302250 (lw_Z below #[Value.ref b] s) (F0 m 517 ls [.int y1])
  have hS1 := hJ1
  obtain ⟨_, _, _, _, _, _, _, _, _, _, _, _, _, _, hS1⟩ := hS1
  refine lv_pop hx hb dL_law_517 rfl ?_
  refine lv_aload_n hx hb dL_law_518 rfl (lv_at hl 1 rfl) ?_
  refine W.eq (g2 := F0 m 519 ls ((Value.ref qm :: List.map Value.int []).reverse ++ [])) rfl ?_
  refine lw_cM lk_519 hz_123 C0 hK hJ1 [] hl.1 rfl (Nat.le_of_ble_eq_true rfl) c2 (Or.inl rfl) e2 (fun v2 H2 locs2 hv2 hJ2 => ?_)
  obtain ⟨y2, hy2, hz2⟩ := lwV_i hv2 e2
  subst hy2
  show W p l e room_1 s m #[Value.ref b] below meth c H2 locs2 600000 7302250 (lw_Z below #[Value.ref b] s) (F0 m 522 ls [.int y2])
  refine lv_pop hx hb dL_law_522 rfl ?_
  refine lv_goto (tgt := 941) hx hb dL_law_523 (by decide) ?_
  exact K _ _ _ _ ⟨q1, q2, hRR, hDD, hXR, hRW, hBK, hFT⟩ hJ2
set_option maxHeartbeats 4000000 in
set_option maxRecDepth 100000 in
theorem lw_c14 {p : Program} {l : Launch} {e : Env} {s : State} {m : MethodId} {below : List Frame} {meth : Method} {c : Code} {b L : Nat} {xs : Nat → Int32} {D : va_G} {cy : Nat → ClassId} (C0 : lw_At p s m meth c b L xs) (hL : L ≤ 2048) (hK : rx_K D vwCl (tyl cy) nwl ocl s) {i : Nat} (hi : i + 4 ≤ L) {AX AM : pm_A} {qx qm : Nat} {H : Heap} {locs : List Loc} (hR : lwR AX AM) (hJ : lwJ AX AM D cy s qx qm H locs) {ls : Array Slot} (hl : lv_has ls 4 [(3, .int (Int32.ofNat i)), (2, .ref qm), (1, .ref qx), (0, .ref b)]) (K : ∀ (AX AM : pm_A) (H : Heap) (locs : List Loc), lwR AX AM → lwJ AX AM D cy s qx qm H locs → W p l e room_1 s m #[Value.ref b] below meth c H locs 600000 7302250 (lw_Z below #[Value.ref b] s) (F0 m 941 ls [])) : W p l e room_1 s m #[Value.ref b] below meth c H locs 600000 7302250 (lw_Z below #[Value.ref b] s) (F0 m 526 ls []) := by
  obtain ⟨hx, hb, hr, hml, hown, hts, hX, hbl, hlocks, hgv⟩ := id C0
  have hbA : ¬ lA s b := Nat.not_le.mpr hbl
  have hS0 := hJ
  obtain ⟨_, _, _, _, _, _, _, _, _, _, _, _, _, _, hS0⟩ := hS0
  obtain ⟨sd, ks, hQ⟩ := hR.2.2.2.2.1
  obtain ⟨n1, r1, c1, ⟨z1, e1⟩, q1⟩ := ox_what hR.1 (i32_r (ya xs i 1)) (i32_r (ya xs i 2))
  obtain ⟨n2, r2, c2, ⟨z2, e2⟩, q2⟩ := om_what hR.2.1 (i32_r (ya xs i 1)) (i32_r (ya xs i 2))
  have fx := fx_what c1 hR.2.2.1.1
  have fm := fm_what c2 (gK_of hR.2.1.g)
  have hRR : RR r1.2 r2.2 := (hR.2.2.1.kX fx.1 fx.2 rfl rfl rfl rfl).kM fm.2 rfl rfl
  have hDD : DT r1.2 r2.2 := (hR.2.2.2.1.kX (fx_what c1 hR.2.2.1.1).2 rfl rfl rfl rfl rfl).kM (fm_what c2 (gK_of hR.2.1.g)).2 rfl rfl rfl
  have hCA : CA r1.2 := hQ.2.1.k fx.2 rfl
  have hFT : FT r1.2 r2.2 := hR.2.2.2.2.2.2.2.k fx.2 fm.2 rfl rfl
  have hBK : BK r1.2 := hR.2.2.2.2.2.2.1.k fx.2 rfl
  have hRW : RW r1.2 r2.2 := hR.2.2.2.2.2.1.k fx.2 fm.2 rfl rfl
  have hXR : XR r1.2 r2.2 := hR.2.2.2.2.1.kk q1.1 q2.g fx.2 fm.2 rfl rfl rfl rfl
  refine lv_aload_n hx hb dL_law_526 rfl (lv_at hl 2 rfl) ?_
  refine lv_aload_n hx hb dL_law_527 rfl (lv_at hl 3 rfl) ?_
  refine lv_iload_n hx hb dL_law_528 rfl (lv_at hl 0 rfl) ?_
  refine lv_iconst (v := 1) hx hb dL_law_529 (by decide) ?_
  refine lv_iadd hx hb dL_law_530 ?_
  refine va_sld hx hb hX hbl hbA hS0 (lw_vin (k := 1) (j := 1) hL rfl (by omega) hi) dL_law_531 ?_
  refine W.eq (g2 := F0 m 532 ls [.int (ya xs i 1), .ref qx]) rfl ?_
  refine lv_aload_n hx hb dL_law_532 rfl (lv_at hl 3 rfl) ?_
  refine lv_iload_n hx hb dL_law_533 rfl (lv_at hl 0 rfl) ?_
  refine lv_iconst (v := 2) hx hb dL_law_534 (by decide) ?_
  refine lv_iadd hx hb dL_law_535 ?_
  refine va_sld hx hb hX hbl hbA hS0 (lw_vin (k := 2) (j := 2) hL rfl (by omega) hi) dL_law_536 ?_
  refine W.eq (g2 := F0 m 537 ls [.int (ya xs i 2), .int (ya xs i 1), .ref qx]) rfl ?_
  refine W.eq (g2 := F0 m 537 ls ((Value.ref qx :: List.map Value.int [ya xs i 1, ya xs i 2]).reverse ++ [])) rfl ?_
  refine lw_cX lk_537 hz_120 C0 hK hJ [ya xs i 1, ya xs i 2] hl.1 rfl (Nat.le_of_ble_eq_true rfl) c1 (Or.inr rfl) e1 (fun v1 H1 locs1 hv1 hJ1 => ?_)
  obtain ⟨y1, hy1, hz1⟩ := lwV_l hv1 e1
  subst hy1
  show W p l e room_1 s m #[Value.ref b] below meth c H1 locs1 600000 7302250 (lw_Z below #[Value.ref b] s) (F0 m 540 ls [.long y1])
  have hS1 := hJ1
  obtain ⟨_, _, _, _, _, _, _, _, _, _, _, _, _, _, hS1⟩ := hS1
  refine lv_pop2_2 hx hb dL_law_540 rfl ?_
  refine lv_aload_n hx hb dL_law_541 rfl (lv_at hl 1 rfl) ?_
  refine lv_aload_n hx hb dL_law_542 rfl (lv_at hl 3 rfl) ?_
  refine lv_iload_n hx hb dL_law_543 rfl (lv_at hl 0 rfl) ?_
  refine lv_iconst (v := 1) hx hb dL_law_544 (by decide) ?_
  refine lv_iadd hx hb dL_law_545 ?_
  refine va_sld hx hb hX hbl hbA hS1 (lw_vin (k := 1) (j := 1) hL rfl (by omega) hi) dL_law_546 ?_
  refine W.eq (g2 := F0 m 547 ls [.int (ya xs i 1), .ref qm]) rfl ?_
  refine lv_aload_n hx hb dL_law_547 rfl (lv_at hl 3 rfl) ?_
  refine lv_iload_n hx hb dL_law_548 rfl (lv_at hl 0 rfl) ?_
  refine lv_iconst (v := 2) hx hb dL_law_549 (by decide) ?_
  refine lv_iadd hx hb dL_law_550 ?_
  refine va_sld hx hb hX hbl hbA hS1 (lw_vin (k := 2) (j := 2) hL rfl (by omega) hi) dL_law_551 ?_
  refine W.eq (g2 := F0 m 552 ls [.int (ya xs i 2), .int (ya xs i 1), .ref qm]) rfl ?_
  refine W.eq (g2 := F0 m 552 ls ((Value.ref qm :: List.map Value.int [ya xs i 1, ya xs i 2]).reverse ++ [])) rfl ?_
  refine lw_cM lk_552 hz_203 C0 hK hJ1 [ya xs i 1, ya xs i 2] hl.1 rfl (Nat.le_of_ble_eq_true rfl) c2 (Or.inr rfl) e2 (fun v2 H2 locs2 hv2 hJ2 => ?_)
  obtain ⟨y2, hy2, hz2⟩ := lwV_l hv2 e2
  subst hy2
  show W p l e room_1 s m #[Value.ref b] below meth c H2 locs2 600000 7302250 (lw_Z below #[Value.ref b] s) (F0 m 555 ls [.long y2])
  refine lv_pop2_2 hx hb dL_law_555 rfl ?_
  refine lv_goto (tgt := 941) hx hb dL_law_556 (by decide) ?_
  exact K _ _ _ _ ⟨q1, q2, hRR, hDD, hXR, hRW, hBK, hFT⟩ hJ2
set_option maxHeartbeats 4000000 in
set_option maxRecDepth 100000 in
theorem lw_c15 {p : Program} {l : Launch} {e : Env} {s : State} {m : MethodId} {below : List Frame} {meth : Method} {c : Code} {b L : Nat} {xs : Nat → Int32} {D : va_G} {cy : Nat → ClassId} (C0 : lw_At p s m meth c b L xs) (hL : L ≤ 2048) (hK : rx_K D vwCl (tyl cy) nwl ocl s) {i : Nat} (hi : i + 4 ≤ L) {AX AM : pm_A} {qx qm : Nat} {H : Heap} {locs : List Loc} (hR : lwR AX AM) (hJ : lwJ AX AM D cy s qx qm H locs) {ls : Array Slot} (hl : lv_has ls 4 [(3, .int (Int32.ofNat i)), (2, .ref qm), (1, .ref qx), (0, .ref b)]) (K : ∀ (AX AM : pm_A) (H : Heap) (locs : List Loc), lwR AX AM → lwJ AX AM D cy s qx qm H locs → W p l e room_1 s m #[Value.ref b] below meth c H locs 600000 7302250 (lw_Z below #[Value.ref b] s) (F0 m 941 ls [])) : W p l e room_1 s m #[Value.ref b] below meth c H locs 600000 7302250 (lw_Z below #[Value.ref b] s) (F0 m 559 ls []) := by
  obtain ⟨hx, hb, hr, hml, hown, hts, hX, hbl, hlocks, hgv⟩ := id C0
  have hbA : ¬ lA s b := Nat.not_le.mpr hbl
  have hS0 := hJ
  obtain ⟨_, _, _, _, _, _, _, _, _, _, _, _, _, _, hS0⟩ := hS0
  obtain ⟨sd, ks, hQ⟩ := hR.2.2.2.2.1
  obtain ⟨n1, r1, c1, ⟨⟨z1, e1⟩, q1⟩, kx⟩ := Cl.and (ox_finite hR.1 ) (xfinite_ex hQ.1.1 hQ.1.2.1 hR.2.2.2.2.2.2.1)
  obtain ⟨n2, r2, c2, ⟨⟨⟨z2, e2⟩, q2⟩, b2⟩, km⟩ := Cl.and (Cl.and (om_finite hR.2.1 ) (mfinite_exk ⟨hQ.1.2.2.1, hR.2.1.2⟩)) (mfinite_exq hQ.1.2.2.1)
  have fx := fx_finite c1 hR.2.2.1.1
  have fm := fm_finite c2 (gK_of hR.2.1.g)
  have hRR : RR r1.2 r2.2 := (hR.2.2.1.kX fx.1 fx.2 rfl rfl rfl rfl).kM fm.2 rfl rfl
  have hDD : DT r1.2 r2.2 := (hR.2.2.2.1.kX (fx_finite c1 hR.2.2.1.1).2 rfl rfl rfl rfl rfl).kM (fm_finite c2 (gK_of hR.2.1.g)).2 rfl rfl rfl
  have hCA : CA r1.2 := hQ.2.1.k fx.2 rfl
  have hXR : XR r1.2 r2.2 := ⟨sd, ks, xr_sm hQ (xfin_sm hQ.1.1 hQ.2.1 hQ.1.2.1 c1 q1.1) hCA (msm.t b2.2.1 fm.2 rfl)⟩
  have hff := rl_fin hQ kx km
  have hFT : FT r1.2 r2.2 := hff.1
  have hBK : BK r1.2 := hR.2.2.2.2.2.2.1.k fx.2 rfl
  have hRW : RW r1.2 r2.2 := hR.2.2.2.2.2.1.k fx.2 fm.2 rfl rfl
  refine lv_aload_n hx hb dL_law_559 rfl (lv_at hl 2 rfl) ?_
  refine W.eq (g2 := F0 m 560 ls ((Value.ref qx :: List.map Value.int []).reverse ++ [])) rfl ?_
  refine lw_cX lk_560 hz_90 C0 hK hJ [] hl.1 rfl (Nat.le_of_ble_eq_true rfl) c1 (Or.inl rfl) e1 (fun v1 H1 locs1 hv1 hJ1 => ?_)
  obtain ⟨y1, hy1, hz1⟩ := lwV_i hv1 e1
  subst hy1
  show W p l e room_1 s m #[Value.ref b] below meth c H1 locs1 600000 7302250 (lw_Z below #[Value.ref b] s) (F0 m 563 ls [.int y1])
  have hS1 := hJ1
  obtain ⟨_, _, _, _, _, _, _, _, _, _, _, _, _, _, hS1⟩ := hS1
  refine lv_pop hx hb dL_law_563 rfl ?_
  refine lv_aload_n hx hb dL_law_564 rfl (lv_at hl 1 rfl) ?_
  refine W.eq (g2 := F0 m 565 ls ((Value.ref qm :: List.map Value.int []).reverse ++ [])) rfl ?_
  refine lw_cM lk_565 hz_141 C0 hK hJ1 [] hl.1 rfl (Nat.le_of_ble_eq_true rfl) c2 (Or.inl rfl) e2 (fun v2 H2 locs2 hv2 hJ2 => ?_)
  obtain ⟨y2, hy2, hz2⟩ := lwV_i hv2 e2
  subst hy2
  show W p l e room_1 s m #[Value.ref b] below meth c H2 locs2 600000 7302250 (lw_Z below #[Value.ref b] s) (F0 m 568 ls [.int y2])
  refine lv_pop hx hb dL_law_568 rfl ?_
  refine lv_goto (tgt := 941) hx hb dL_law_569 (by decide) ?_
  exact K _ _ _ _ ⟨q1, q2, hRR, hDD, hXR, hRW, hBK, hFT⟩ hJ2
set_option maxHeartbeats 4000000 in
set_option maxRecDepth 100000 in
theorem lw_c16 {p : Program} {l : Launch} {e : Env} {s : State} {m : MethodId} {below : List Frame} {meth : Method} {c : Code} {b L : Nat} {xs : Nat → Int32} {D : va_G} {cy : Nat → ClassId} (C0 : lw_At p s m meth c b L xs) (hL : L ≤ 2048) (hK : rx_K D vwCl (tyl cy) nwl ocl s) {i : Nat} (hi : i + 4 ≤ L) {AX AM : pm_A} {qx qm : Nat} {H : Heap} {locs : List Loc} (hR : lwR AX AM) (hJ : lwJ AX AM D cy s qx qm H locs) {ls : Array Slot} (hl : lv_has ls 4 [(3, .int (Int32.ofNat i)), (2, .ref qm), (1, .ref qx), (0, .ref b)]) (K : ∀ (AX AM : pm_A) (H : Heap) (locs : List Loc), lwR AX AM → lwJ AX AM D cy s qx qm H locs → W p l e room_1 s m #[Value.ref b] below meth c H locs 600000 7302250 (lw_Z below #[Value.ref b] s) (F0 m 941 ls [])) : W p l e room_1 s m #[Value.ref b] below meth c H locs 600000 7302250 (lw_Z below #[Value.ref b] s) (F0 m 572 ls []) := by
  obtain ⟨hx, hb, hr, hml, hown, hts, hX, hbl, hlocks, hgv⟩ := id C0
  have hbA : ¬ lA s b := Nat.not_le.mpr hbl
  have hS0 := hJ
  obtain ⟨_, _, _, _, _, _, _, _, _, _, _, _, _, _, hS0⟩ := hS0
  obtain ⟨sd, ks, hQ⟩ := hR.2.2.2.2.1
  obtain ⟨n1, r1, c1, ⟨z1, e1⟩, q1⟩ := ox_step hR.1 (i32_r (ya xs i 1))
  obtain ⟨n2, r2, c2, ⟨z2, e2⟩, q2⟩ := om_step hR.2.1 (i32_r (ya xs i 1))
  have fx := fx_step c1 hR.2.2.1.1
  have fm := fm_step c2 (gK_of hR.2.1.g)
  have hRR : RR r1.2 r2.2 := (hR.2.2.1.kX fx.1 fx.2 rfl rfl rfl rfl).kM fm.2 rfl rfl
  have hDD : DT r1.2 r2.2 := (hR.2.2.2.1.kX (fx_step c1 hR.2.2.1.1).2 rfl rfl rfl rfl rfl).kM (fm_step c2 (gK_of hR.2.1.g)).2 rfl rfl rfl
  have hCA : CA r1.2 := hQ.2.1.k fx.2 rfl
  have hFT : FT r1.2 r2.2 := hR.2.2.2.2.2.2.2.k fx.2 fm.2 rfl rfl
  have hBK : BK r1.2 := hR.2.2.2.2.2.2.1.k fx.2 rfl
  have hRW : RW r1.2 r2.2 := hR.2.2.2.2.2.1.k fx.2 fm.2 rfl rfl
  have hXR : XR r1.2 r2.2 := hR.2.2.2.2.1.kk q1.1 q2.g fx.2 fm.2 rfl rfl rfl rfl
  refine lv_aload_n hx hb dL_law_572 rfl (lv_at hl 2 rfl) ?_
  refine lv_aload_n hx hb dL_law_573 rfl (lv_at hl 3 rfl) ?_
  refine lv_iload_n hx hb dL_law_574 rfl (lv_at hl 0 rfl) ?_
  refine lv_iconst (v := 1) hx hb dL_law_575 (by decide) ?_
  refine lv_iadd hx hb dL_law_576 ?_
  refine va_sld hx hb hX hbl hbA hS0 (lw_vin (k := 1) (j := 1) hL rfl (by omega) hi) dL_law_577 ?_
  refine W.eq (g2 := F0 m 578 ls [.int (ya xs i 1), .ref qx]) rfl ?_
  refine W.eq (g2 := F0 m 578 ls ((Value.ref qx :: List.map Value.int [ya xs i 1]).reverse ++ [])) rfl ?_
  refine lw_cX lk_578 hz_110 C0 hK hJ [ya xs i 1] hl.1 rfl (Nat.le_of_ble_eq_true rfl) c1 (Or.inl rfl) e1 (fun v1 H1 locs1 hv1 hJ1 => ?_)
  obtain ⟨y1, hy1, hz1⟩ := lwV_i hv1 e1
  subst hy1
  show W p l e room_1 s m #[Value.ref b] below meth c H1 locs1 600000 7302250 (lw_Z below #[Value.ref b] s) (F0 m 581 ls [.int y1])
  have hS1 := hJ1
  obtain ⟨_, _, _, _, _, _, _, _, _, _, _, _, _, _, hS1⟩ := hS1
  refine lv_pop hx hb dL_law_581 rfl ?_
  refine lv_aload_n hx hb dL_law_582 rfl (lv_at hl 1 rfl) ?_
  refine lv_aload_n hx hb dL_law_583 rfl (lv_at hl 3 rfl) ?_
  refine lv_iload_n hx hb dL_law_584 rfl (lv_at hl 0 rfl) ?_
  refine lv_iconst (v := 1) hx hb dL_law_585 (by decide) ?_
  refine lv_iadd hx hb dL_law_586 ?_
  refine va_sld hx hb hX hbl hbA hS1 (lw_vin (k := 1) (j := 1) hL rfl (by omega) hi) dL_law_587 ?_
  refine W.eq (g2 := F0 m 588 ls [.int (ya xs i 1), .ref qm]) rfl ?_
  refine W.eq (g2 := F0 m 588 ls ((Value.ref qm :: List.map Value.int [ya xs i 1]).reverse ++ [])) rfl ?_
  refine lw_cM lk_588 hz_185 C0 hK hJ1 [ya xs i 1] hl.1 rfl (Nat.le_of_ble_eq_true rfl) c2 (Or.inl rfl) e2 (fun v2 H2 locs2 hv2 hJ2 => ?_)
  obtain ⟨y2, hy2, hz2⟩ := lwV_i hv2 e2
  subst hy2
  show W p l e room_1 s m #[Value.ref b] below meth c H2 locs2 600000 7302250 (lw_Z below #[Value.ref b] s) (F0 m 591 ls [.int y2])
  refine lv_pop hx hb dL_law_591 rfl ?_
  refine lv_goto (tgt := 941) hx hb dL_law_592 (by decide) ?_
  exact K _ _ _ _ ⟨q1, q2, hRR, hDD, hXR, hRW, hBK, hFT⟩ hJ2
set_option maxHeartbeats 4000000 in
set_option maxRecDepth 100000 in
theorem lw_c17 {p : Program} {l : Launch} {e : Env} {s : State} {m : MethodId} {below : List Frame} {meth : Method} {c : Code} {b L : Nat} {xs : Nat → Int32} {D : va_G} {cy : Nat → ClassId} (C0 : lw_At p s m meth c b L xs) (hL : L ≤ 2048) (hK : rx_K D vwCl (tyl cy) nwl ocl s) {i : Nat} (hi : i + 4 ≤ L) {AX AM : pm_A} {qx qm : Nat} {H : Heap} {locs : List Loc} (hR : lwR AX AM) (hJ : lwJ AX AM D cy s qx qm H locs) {ls : Array Slot} (hl : lv_has ls 4 [(3, .int (Int32.ofNat i)), (2, .ref qm), (1, .ref qx), (0, .ref b)]) (K : ∀ (AX AM : pm_A) (H : Heap) (locs : List Loc), lwR AX AM → lwJ AX AM D cy s qx qm H locs → W p l e room_1 s m #[Value.ref b] below meth c H locs 600000 7302250 (lw_Z below #[Value.ref b] s) (F0 m 941 ls [])) : W p l e room_1 s m #[Value.ref b] below meth c H locs 600000 7302250 (lw_Z below #[Value.ref b] s) (F0 m 595 ls []) := by
  obtain ⟨hx, hb, hr, hml, hown, hts, hX, hbl, hlocks, hgv⟩ := id C0
  have hbA : ¬ lA s b := Nat.not_le.mpr hbl
  have hS0 := hJ
  obtain ⟨_, _, _, _, _, _, _, _, _, _, _, _, _, _, hS0⟩ := hS0
  obtain ⟨sd, ks, hQ⟩ := hR.2.2.2.2.1
  obtain ⟨n1, r1, c1, ⟨⟨z1, e1⟩, q1⟩, b1⟩ := Cl.and (ox_tables hR.1 ) (xtables_ex hQ.1.1.1 hR.2.2.2.2.2.2.1)
  obtain ⟨n2, r2, c2, ⟨⟨z2, e2⟩, q2⟩, b2⟩ := Cl.and (om_tables hR.2.1 ) (mtables_ex hR.2.1.g)
  have ez : z1 = z2 := by
    have := ((⟨trivial, trivial, rl_tables hR.2.2.2.2.2.2.2 b1 b2⟩ : True ∧ True ∧ _)).2.2
    rw [e1, e2] at this
    cases this
    rfl
  have fx := fx_tables c1 hR.2.2.1.1
  have fm := fm_tables c2 (gK_of hR.2.1.g)
  have hRR : RR r1.2 r2.2 := (hR.2.2.1.kX fx.1 fx.2 rfl rfl rfl rfl).kM fm.2 rfl rfl
  have hDD : DT r1.2 r2.2 := (hR.2.2.2.1.kX (fx_tables c1 hR.2.2.1.1).2 rfl rfl rfl rfl rfl).kM (fm_tables c2 (gK_of hR.2.1.g)).2 rfl rfl rfl
  have hCA : CA r1.2 := hQ.2.1.k fx.2 rfl
  have hFT : FT r1.2 r2.2 := hR.2.2.2.2.2.2.2.k fx.2 fm.2 rfl rfl
  have hBK : BK r1.2 := hR.2.2.2.2.2.2.1.k fx.2 rfl
  have hRW : RW r1.2 r2.2 := hR.2.2.2.2.2.1.k fx.2 fm.2 rfl rfl
  have hXR : XR r1.2 r2.2 := hR.2.2.2.2.1.kk q1.1 q2.g fx.2 fm.2 rfl rfl rfl rfl
  refine lv_aload_n hx hb dL_law_595 rfl (lv_at hl 2 rfl) ?_
  refine W.eq (g2 := F0 m 596 ls ((Value.ref qx :: List.map Value.int []).reverse ++ [])) rfl ?_
  refine lw_cX lk_596 hz_112 C0 hK hJ [] hl.1 rfl (Nat.le_of_ble_eq_true rfl) c1 (Or.inl rfl) e1 (fun v1 H1 locs1 hv1 hJ1 => ?_)
  obtain ⟨y1, hy1, hz1⟩ := lwV_i hv1 e1
  subst hy1
  show W p l e room_1 s m #[Value.ref b] below meth c H1 locs1 600000 7302250 (lw_Z below #[Value.ref b] s) (F0 m 599 ls [.int y1])
  have hS1 := hJ1
  obtain ⟨_, _, _, _, _, _, _, _, _, _, _, _, _, _, hS1⟩ := hS1
  refine lv_aload_n hx hb dL_law_599 rfl (lv_at hl 1 rfl) ?_
  refine W.eq (g2 := F0 m 600 ls ((Value.ref qm :: List.map Value.int []).reverse ++ [.int y1])) rfl ?_
  refine lw_cM lk_600 hz_189 C0 hK hJ1 [] hl.1 rfl (Nat.le_of_ble_eq_true rfl) c2 (Or.inl rfl) e2 (fun v2 H2 locs2 hv2 hJ2 => ?_)
  obtain ⟨y2, hy2, hz2⟩ := lwV_i hv2 e2
  subst hy2
  show W p l e room_1 s m #[Value.ref b] below meth c H2 locs2 600000 7302250 (lw_Z below #[Value.ref b] s) (F0 m 603 ls [.int y2, .int y1])
  have ey : y1 = y2 := Int32.toInt_inj.mp (by rw [hz1, hz2, ez])
  subst ey
  refine lv_icmp_eq (tgt := 941) hx hb dL_law_603 (by decide) (fun _ => ?_) (fun h => absurd rfl h)
  exact K _ _ _ _ ⟨q1, q2, hRR, hDD, hXR, hRW, hBK, hFT⟩ hJ2
set_option maxHeartbeats 4000000 in
set_option maxRecDepth 100000 in
theorem lw_c18 {p : Program} {l : Launch} {e : Env} {s : State} {m : MethodId} {below : List Frame} {meth : Method} {c : Code} {b L : Nat} {xs : Nat → Int32} {D : va_G} {cy : Nat → ClassId} (C0 : lw_At p s m meth c b L xs) (hL : L ≤ 2048) (hK : rx_K D vwCl (tyl cy) nwl ocl s) {i : Nat} (hi : i + 4 ≤ L) {AX AM : pm_A} {qx qm : Nat} {H : Heap} {locs : List Loc} (hR : lwR AX AM) (hJ : lwJ AX AM D cy s qx qm H locs) {ls : Array Slot} (hl : lv_has ls 4 [(3, .int (Int32.ofNat i)), (2, .ref qm), (1, .ref qx), (0, .ref b)]) (K : ∀ (AX AM : pm_A) (H : Heap) (locs : List Loc), lwR AX AM → lwJ AX AM D cy s qx qm H locs → W p l e room_1 s m #[Value.ref b] below meth c H locs 600000 7302250 (lw_Z below #[Value.ref b] s) (F0 m 941 ls [])) : W p l e room_1 s m #[Value.ref b] below meth c H locs 600000 7302250 (lw_Z below #[Value.ref b] s) (F0 m 608 ls []) := by
  obtain ⟨hx, hb, hr, hml, hown, hts, hX, hbl, hlocks, hgv⟩ := id C0
  have hbA : ¬ lA s b := Nat.not_le.mpr hbl
  have hS0 := hJ
  obtain ⟨_, _, _, _, _, _, _, _, _, _, _, _, _, _, hS0⟩ := hS0
  obtain ⟨sd, ks, hQ⟩ := hR.2.2.2.2.1
  obtain ⟨n1, r1, c1, ⟨⟨z1, e1⟩, q1⟩, b1⟩ := Cl.and (ox_row hR.1 (i32_r (ya xs i 1)) (i32_r (ya xs i 2)) (i32_r (ya xs i 3))) (xrow_ex hR.1.1 hR.2.2.2.2.2.1.1)
  obtain ⟨n2, r2, c2, ⟨⟨z2, e2⟩, q2⟩, b2⟩ := Cl.and (om_row hR.2.1 (i32_r (ya xs i 1)) (i32_r (ya xs i 2)) (i32_r (ya xs i 3))) (mrow_ex hR.2.1.g)
  have fx := fx_row c1 hR.2.2.1.1
  have fm := fm_row c2 (gK_of hR.2.1.g)
  have hRR : RR r1.2 r2.2 := (hR.2.2.1.kX fx.1 fx.2 rfl rfl rfl rfl).kM fm.2 rfl rfl
  have hDD : DT r1.2 r2.2 := (hR.2.2.2.1.kX (fx_row c1 hR.2.2.1.1).2 rfl rfl rfl rfl rfl).kM (fm_row c2 (gK_of hR.2.1.g)).2 rfl rfl rfl
  have hCA : CA r1.2 := hQ.2.1.k fx.2 rfl
  have hFT : FT r1.2 r2.2 := hR.2.2.2.2.2.2.2.k fx.2 fm.2 rfl rfl
  have hBK : BK r1.2 := hR.2.2.2.2.2.2.1.k fx.2 rfl
  have hRW : RW r1.2 r2.2 := rw_row hR.2.2.2.2.2.1 fx.2 rfl b1 b2
  have hXR : XR r1.2 r2.2 := hR.2.2.2.2.1.kk q1.1 q2.g fx.2 fm.2 rfl rfl rfl rfl
  refine lv_aload_n hx hb dL_law_608 rfl (lv_at hl 2 rfl) ?_
  refine lv_aload_n hx hb dL_law_609 rfl (lv_at hl 3 rfl) ?_
  refine lv_iload_n hx hb dL_law_610 rfl (lv_at hl 0 rfl) ?_
  refine lv_iconst (v := 1) hx hb dL_law_611 (by decide) ?_
  refine lv_iadd hx hb dL_law_612 ?_
  refine va_sld hx hb hX hbl hbA hS0 (lw_vin (k := 1) (j := 1) hL rfl (by omega) hi) dL_law_613 ?_
  refine W.eq (g2 := F0 m 614 ls [.int (ya xs i 1), .ref qx]) rfl ?_
  refine lv_aload_n hx hb dL_law_614 rfl (lv_at hl 3 rfl) ?_
  refine lv_iload_n hx hb dL_law_615 rfl (lv_at hl 0 rfl) ?_
  refine lv_iconst (v := 2) hx hb dL_law_616 (by decide) ?_
  refine lv_iadd hx hb dL_law_617 ?_
  refine va_sld hx hb hX hbl hbA hS0 (lw_vin (k := 2) (j := 2) hL rfl (by omega) hi) dL_law_618 ?_
  refine W.eq (g2 := F0 m 619 ls [.int (ya xs i 2), .int (ya xs i 1), .ref qx]) rfl ?_
  refine lv_aload_n hx hb dL_law_619 rfl (lv_at hl 3 rfl) ?_
  refine lv_iload_n hx hb dL_law_620 rfl (lv_at hl 0 rfl) ?_
  refine lv_iconst (v := 3) hx hb dL_law_621 (by decide) ?_
  refine lv_iadd hx hb dL_law_622 ?_
  refine va_sld hx hb hX hbl hbA hS0 (lw_vin (k := 3) (j := 3) hL rfl (by omega) hi) dL_law_623 ?_
  refine W.eq (g2 := F0 m 624 ls [.int (ya xs i 3), .int (ya xs i 2), .int (ya xs i 1), .ref qx]) rfl ?_
  refine W.eq (g2 := F0 m 624 ls ((Value.ref qx :: List.map Value.int [ya xs i 1, ya xs i 2, ya xs i 3]).reverse ++ [])) rfl ?_
  refine lw_cX lk_624 hz_105 C0 hK hJ [ya xs i 1, ya xs i 2, ya xs i 3] hl.1 rfl (Nat.le_of_ble_eq_true rfl) c1 (Or.inl rfl) e1 (fun v1 H1 locs1 hv1 hJ1 => ?_)
  obtain ⟨y1, hy1, hz1⟩ := lwV_i hv1 e1
  subst hy1
  show W p l e room_1 s m #[Value.ref b] below meth c H1 locs1 600000 7302250 (lw_Z below #[Value.ref b] s) (F0 m 627 ls [.int y1])
  have hS1 := hJ1
  obtain ⟨_, _, _, _, _, _, _, _, _, _, _, _, _, _, hS1⟩ := hS1
  refine lv_pop hx hb dL_law_627 rfl ?_
  refine lv_aload_n hx hb dL_law_628 rfl (lv_at hl 1 rfl) ?_
  refine lv_aload_n hx hb dL_law_629 rfl (lv_at hl 3 rfl) ?_
  refine lv_iload_n hx hb dL_law_630 rfl (lv_at hl 0 rfl) ?_
  refine lv_iconst (v := 1) hx hb dL_law_631 (by decide) ?_
  refine lv_iadd hx hb dL_law_632 ?_
  refine va_sld hx hb hX hbl hbA hS1 (lw_vin (k := 1) (j := 1) hL rfl (by omega) hi) dL_law_633 ?_
  refine W.eq (g2 := F0 m 634 ls [.int (ya xs i 1), .ref qm]) rfl ?_
  refine lv_aload_n hx hb dL_law_634 rfl (lv_at hl 3 rfl) ?_
  refine lv_iload_n hx hb dL_law_635 rfl (lv_at hl 0 rfl) ?_
  refine lv_iconst (v := 2) hx hb dL_law_636 (by decide) ?_
  refine lv_iadd hx hb dL_law_637 ?_
  refine va_sld hx hb hX hbl hbA hS1 (lw_vin (k := 2) (j := 2) hL rfl (by omega) hi) dL_law_638 ?_
  refine W.eq (g2 := F0 m 639 ls [.int (ya xs i 2), .int (ya xs i 1), .ref qm]) rfl ?_
  refine lv_aload_n hx hb dL_law_639 rfl (lv_at hl 3 rfl) ?_
  refine lv_iload_n hx hb dL_law_640 rfl (lv_at hl 0 rfl) ?_
  refine lv_iconst (v := 3) hx hb dL_law_641 (by decide) ?_
  refine lv_iadd hx hb dL_law_642 ?_
  refine va_sld hx hb hX hbl hbA hS1 (lw_vin (k := 3) (j := 3) hL rfl (by omega) hi) dL_law_643 ?_
  refine W.eq (g2 := F0 m 644 ls [.int (ya xs i 3), .int (ya xs i 2), .int (ya xs i 1), .ref qm]) rfl ?_
  refine W.eq (g2 := F0 m 644 ls ((Value.ref qm :: List.map Value.int [ya xs i 1, ya xs i 2, ya xs i 3]).reverse ++ [])) rfl ?_
  refine lw_cM lk_644 hz_179 C0 hK hJ1 [ya xs i 1, ya xs i 2, ya xs i 3] hl.1 rfl (Nat.le_of_ble_eq_true rfl) c2 (Or.inl rfl) e2 (fun v2 H2 locs2 hv2 hJ2 => ?_)
  obtain ⟨y2, hy2, hz2⟩ := lwV_i hv2 e2
  subst hy2
  show W p l e room_1 s m #[Value.ref b] below meth c H2 locs2 600000 7302250 (lw_Z below #[Value.ref b] s) (F0 m 647 ls [.int y2])
  refine lv_pop hx hb dL_law_647 rfl ?_
  refine lv_goto (tgt := 941) hx hb dL_law_648 (by decide) ?_
  exact K _ _ _ _ ⟨q1, q2, hRR, hDD, hXR, hRW, hBK, hFT⟩ hJ2
set_option maxHeartbeats 4000000 in
set_option maxRecDepth 100000 in
theorem lw_c19 {p : Program} {l : Launch} {e : Env} {s : State} {m : MethodId} {below : List Frame} {meth : Method} {c : Code} {b L : Nat} {xs : Nat → Int32} {D : va_G} {cy : Nat → ClassId} (C0 : lw_At p s m meth c b L xs) (hL : L ≤ 2048) (hK : rx_K D vwCl (tyl cy) nwl ocl s) {i : Nat} (hi : i + 4 ≤ L) {AX AM : pm_A} {qx qm : Nat} {H : Heap} {locs : List Loc} (hR : lwR AX AM) (hJ : lwJ AX AM D cy s qx qm H locs) {ls : Array Slot} (hl : lv_has ls 4 [(3, .int (Int32.ofNat i)), (2, .ref qm), (1, .ref qx), (0, .ref b)]) (K : ∀ (AX AM : pm_A) (H : Heap) (locs : List Loc), lwR AX AM → lwJ AX AM D cy s qx qm H locs → W p l e room_1 s m #[Value.ref b] below meth c H locs 600000 7302250 (lw_Z below #[Value.ref b] s) (F0 m 941 ls [])) : W p l e room_1 s m #[Value.ref b] below meth c H locs 600000 7302250 (lw_Z below #[Value.ref b] s) (F0 m 651 ls []) := by
  obtain ⟨hx, hb, hr, hml, hown, hts, hX, hbl, hlocks, hgv⟩ := id C0
  have hbA : ¬ lA s b := Nat.not_le.mpr hbl
  have hS0 := hJ
  obtain ⟨_, _, _, _, _, _, _, _, _, _, _, _, _, _, hS0⟩ := hS0
  obtain ⟨sd, ks, hQ⟩ := hR.2.2.2.2.1
  obtain ⟨n1, r1, c1, ⟨⟨z1, e1⟩, q1⟩, b1⟩ := Cl.and (ox_order hR.1 ) (xorder_ex hQ.1.1 hQ.1.2.1 hQ.2.1.2.2.2)
  obtain ⟨n2, r2, c2, ⟨⟨z2, e2⟩, q2⟩, b2⟩ := Cl.and (om_order hR.2.1 ) (morder_ex hQ.1.2.2.1)
  have fx := fx_order c1 hR.2.2.1.1
  have fm := fm_order c2 (gK_of hR.2.1.g)
  have hRR : RR r1.2 r2.2 := (hR.2.2.1.kX fx.1 fx.2 rfl rfl rfl rfl).kM fm.2 rfl rfl
  have hDD : DT r1.2 r2.2 := (hR.2.2.2.1.kX (fx_order c1 hR.2.2.1.1).2 rfl rfl rfl rfl rfl).kM (fm_order c2 (gK_of hR.2.1.g)).2 rfl rfl rfl
  have hCA : CA r1.2 := hQ.2.1.k fx.2 rfl
  have hXR : XR r1.2 r2.2 := ⟨sd, ks, xr_sm hQ b1.1.sm hCA (msm.t b2.1.1 fm.2 rfl)⟩
  have hFT : FT r1.2 r2.2 := hR.2.2.2.2.2.2.2.k fx.2 fm.2 rfl rfl
  have hBK : BK r1.2 := hR.2.2.2.2.2.2.1.k fx.2 rfl
  have hRW : RW r1.2 r2.2 := hR.2.2.2.2.2.1.k fx.2 fm.2 rfl rfl
  refine lv_aload_n hx hb dL_law_651 rfl (lv_at hl 2 rfl) ?_
  refine W.eq (g2 := F0 m 652 ls ((Value.ref qx :: List.map Value.int []).reverse ++ [])) rfl ?_
  refine lw_cX lk_652 hz_102 C0 hK hJ [] hl.1 rfl (Nat.le_of_ble_eq_true rfl) c1 (Or.inl rfl) e1 (fun v1 H1 locs1 hv1 hJ1 => ?_)
  obtain ⟨y1, hy1, hz1⟩ := lwV_i hv1 e1
  subst hy1
  show W p l e room_1 s m #[Value.ref b] below meth c H1 locs1 600000 7302250 (lw_Z below #[Value.ref b] s) (F0 m 655 ls [.int y1])
  have hS1 := hJ1
  obtain ⟨_, _, _, _, _, _, _, _, _, _, _, _, _, _, hS1⟩ := hS1
  refine lv_pop hx hb dL_law_655 rfl ?_
  refine lv_aload_n hx hb dL_law_656 rfl (lv_at hl 1 rfl) ?_
  refine W.eq (g2 := F0 m 657 ls ((Value.ref qm :: List.map Value.int []).reverse ++ [])) rfl ?_
  refine lw_cM lk_657 hz_170 C0 hK hJ1 [] hl.1 rfl (Nat.le_of_ble_eq_true rfl) c2 (Or.inl rfl) e2 (fun v2 H2 locs2 hv2 hJ2 => ?_)
  obtain ⟨y2, hy2, hz2⟩ := lwV_i hv2 e2
  subst hy2
  show W p l e room_1 s m #[Value.ref b] below meth c H2 locs2 600000 7302250 (lw_Z below #[Value.ref b] s) (F0 m 660 ls [.int y2])
  refine lv_pop hx hb dL_law_660 rfl ?_
  refine lv_goto (tgt := 941) hx hb dL_law_661 (by decide) ?_
  exact K _ _ _ _ ⟨q1, q2, hRR, hDD, hXR, hRW, hBK, hFT⟩ hJ2
set_option maxHeartbeats 4000000 in
set_option maxRecDepth 100000 in
theorem lw_c20 {p : Program} {l : Launch} {e : Env} {s : State} {m : MethodId} {below : List Frame} {meth : Method} {c : Code} {b L : Nat} {xs : Nat → Int32} {D : va_G} {cy : Nat → ClassId} (C0 : lw_At p s m meth c b L xs) (hL : L ≤ 2048) (hK : rx_K D vwCl (tyl cy) nwl ocl s) {i : Nat} (hi : i + 4 ≤ L) {AX AM : pm_A} {qx qm : Nat} {H : Heap} {locs : List Loc} (hR : lwR AX AM) (hJ : lwJ AX AM D cy s qx qm H locs) {ls : Array Slot} (hl : lv_has ls 4 [(3, .int (Int32.ofNat i)), (2, .ref qm), (1, .ref qx), (0, .ref b)]) (K : ∀ (AX AM : pm_A) (H : Heap) (locs : List Loc), lwR AX AM → lwJ AX AM D cy s qx qm H locs → W p l e room_1 s m #[Value.ref b] below meth c H locs 600000 7302250 (lw_Z below #[Value.ref b] s) (F0 m 941 ls [])) : W p l e room_1 s m #[Value.ref b] below meth c H locs 600000 7302250 (lw_Z below #[Value.ref b] s) (F0 m 664 ls []) := by
  obtain ⟨hx, hb, hr, hml, hown, hts, hX, hbl, hlocks, hgv⟩ := id C0
  have hbA : ¬ lA s b := Nat.not_le.mpr hbl
  have hS0 := hJ
  obtain ⟨_, _, _, _, _, _, _, _, _, _, _, _, _, _, hS0⟩ := hS0
  obtain ⟨sd, ks, hQ⟩ := hR.2.2.2.2.1
  obtain ⟨n1, r1, c1, ⟨⟨z1, e1⟩, q1⟩, b1⟩ := Cl.and (ox_ring hR.1 (i32_r (ya xs i 1)) (i32_r (ya xs i 2))) (xring_ex hR.1.1)
  obtain ⟨n2, r2, c2, ⟨⟨z2, e2⟩, q2⟩, b2⟩ := Cl.and (om_ring hR.2.1 (i32_r (ya xs i 1)) (i32_r (ya xs i 2))) (mring_ex hR.2.1.g)
  have hst := rr_ring hR.2.2.1 (fx_ring c1 hR.2.2.1.1).1 b1 b2
  have hRR := hst.1
  have ez : z1 = z2 := by
    have := hst.2
    rw [e1, e2] at this
    cases this
    rfl
  have hDD : DT r1.2 r2.2 := (hR.2.2.2.1.kX (fx_ring c1 hR.2.2.1.1).2 rfl rfl rfl rfl rfl).kM (fm_ring c2 (gK_of hR.2.1.g)).2 rfl rfl rfl
  have fx := fx_ring c1 hR.2.2.1.1
  have fm := fm_ring c2 (gK_of hR.2.1.g)
  have hCA : CA r1.2 := hQ.2.1.k fx.2 rfl
  have hFT : FT r1.2 r2.2 := hR.2.2.2.2.2.2.2.k fx.2 fm.2 rfl rfl
  have hBK : BK r1.2 := hR.2.2.2.2.2.2.1.k fx.2 rfl
  have hRW : RW r1.2 r2.2 := hR.2.2.2.2.2.1.k fx.2 fm.2 rfl rfl
  have hXR : XR r1.2 r2.2 := hR.2.2.2.2.1.kk q1.1 q2.g fx.2 fm.2 rfl rfl rfl rfl
  refine lv_aload_n hx hb dL_law_664 rfl (lv_at hl 2 rfl) ?_
  refine lv_aload_n hx hb dL_law_665 rfl (lv_at hl 3 rfl) ?_
  refine lv_iload_n hx hb dL_law_666 rfl (lv_at hl 0 rfl) ?_
  refine lv_iconst (v := 1) hx hb dL_law_667 (by decide) ?_
  refine lv_iadd hx hb dL_law_668 ?_
  refine va_sld hx hb hX hbl hbA hS0 (lw_vin (k := 1) (j := 1) hL rfl (by omega) hi) dL_law_669 ?_
  refine W.eq (g2 := F0 m 670 ls [.int (ya xs i 1), .ref qx]) rfl ?_
  refine lv_aload_n hx hb dL_law_670 rfl (lv_at hl 3 rfl) ?_
  refine lv_iload_n hx hb dL_law_671 rfl (lv_at hl 0 rfl) ?_
  refine lv_iconst (v := 2) hx hb dL_law_672 (by decide) ?_
  refine lv_iadd hx hb dL_law_673 ?_
  refine va_sld hx hb hX hbl hbA hS0 (lw_vin (k := 2) (j := 2) hL rfl (by omega) hi) dL_law_674 ?_
  refine W.eq (g2 := F0 m 675 ls [.int (ya xs i 2), .int (ya xs i 1), .ref qx]) rfl ?_
  refine W.eq (g2 := F0 m 675 ls ((Value.ref qx :: List.map Value.int [ya xs i 1, ya xs i 2]).reverse ++ [])) rfl ?_
  refine lw_cX lk_675 hz_103 C0 hK hJ [ya xs i 1, ya xs i 2] hl.1 rfl (Nat.le_of_ble_eq_true rfl) c1 (Or.inl rfl) e1 (fun v1 H1 locs1 hv1 hJ1 => ?_)
  obtain ⟨y1, hy1, hz1⟩ := lwV_i hv1 e1
  subst hy1
  show W p l e room_1 s m #[Value.ref b] below meth c H1 locs1 600000 7302250 (lw_Z below #[Value.ref b] s) (F0 m 678 ls [.int y1])
  have hS1 := hJ1
  obtain ⟨_, _, _, _, _, _, _, _, _, _, _, _, _, _, hS1⟩ := hS1
  refine lv_pop hx hb dL_law_678 rfl ?_
  refine lv_aload_n hx hb dL_law_679 rfl (lv_at hl 1 rfl) ?_
  refine lv_aload_n hx hb dL_law_680 rfl (lv_at hl 3 rfl) ?_
  refine lv_iload_n hx hb dL_law_681 rfl (lv_at hl 0 rfl) ?_
  refine lv_iconst (v := 1) hx hb dL_law_682 (by decide) ?_
  refine lv_iadd hx hb dL_law_683 ?_
  refine va_sld hx hb hX hbl hbA hS1 (lw_vin (k := 1) (j := 1) hL rfl (by omega) hi) dL_law_684 ?_
  refine W.eq (g2 := F0 m 685 ls [.int (ya xs i 1), .ref qm]) rfl ?_
  refine lv_aload_n hx hb dL_law_685 rfl (lv_at hl 3 rfl) ?_
  refine lv_iload_n hx hb dL_law_686 rfl (lv_at hl 0 rfl) ?_
  refine lv_iconst (v := 2) hx hb dL_law_687 (by decide) ?_
  refine lv_iadd hx hb dL_law_688 ?_
  refine va_sld hx hb hX hbl hbA hS1 (lw_vin (k := 2) (j := 2) hL rfl (by omega) hi) dL_law_689 ?_
  refine W.eq (g2 := F0 m 690 ls [.int (ya xs i 2), .int (ya xs i 1), .ref qm]) rfl ?_
  refine W.eq (g2 := F0 m 690 ls ((Value.ref qm :: List.map Value.int [ya xs i 1, ya xs i 2]).reverse ++ [])) rfl ?_
  refine lw_cM lk_690 hz_177 C0 hK hJ1 [ya xs i 1, ya xs i 2] hl.1 rfl (Nat.le_of_ble_eq_true rfl) c2 (Or.inl rfl) e2 (fun v2 H2 locs2 hv2 hJ2 => ?_)
  obtain ⟨y2, hy2, hz2⟩ := lwV_i hv2 e2
  subst hy2
  show W p l e room_1 s m #[Value.ref b] below meth c H2 locs2 600000 7302250 (lw_Z below #[Value.ref b] s) (F0 m 693 ls [.int y2])
  refine lv_pop hx hb dL_law_693 rfl ?_
  refine lv_goto (tgt := 941) hx hb dL_law_694 (by decide) ?_
  exact K _ _ _ _ ⟨q1, q2, hRR, hDD, hXR, hRW, hBK, hFT⟩ hJ2
set_option maxHeartbeats 4000000 in
set_option maxRecDepth 100000 in
theorem lw_c21 {p : Program} {l : Launch} {e : Env} {s : State} {m : MethodId} {below : List Frame} {meth : Method} {c : Code} {b L : Nat} {xs : Nat → Int32} {D : va_G} {cy : Nat → ClassId} (C0 : lw_At p s m meth c b L xs) (hL : L ≤ 2048) (hK : rx_K D vwCl (tyl cy) nwl ocl s) {i : Nat} (hi : i + 4 ≤ L) {AX AM : pm_A} {qx qm : Nat} {H : Heap} {locs : List Loc} (hR : lwR AX AM) (hJ : lwJ AX AM D cy s qx qm H locs) {ls : Array Slot} (hl : lv_has ls 4 [(3, .int (Int32.ofNat i)), (2, .ref qm), (1, .ref qx), (0, .ref b)]) (K : ∀ (AX AM : pm_A) (H : Heap) (locs : List Loc), lwR AX AM → lwJ AX AM D cy s qx qm H locs → W p l e room_1 s m #[Value.ref b] below meth c H locs 600000 7302250 (lw_Z below #[Value.ref b] s) (F0 m 941 ls [])) : W p l e room_1 s m #[Value.ref b] below meth c H locs 600000 7302250 (lw_Z below #[Value.ref b] s) (F0 m 697 ls []) := by
  obtain ⟨hx, hb, hr, hml, hown, hts, hX, hbl, hlocks, hgv⟩ := id C0
  have hbA : ¬ lA s b := Nat.not_le.mpr hbl
  have hS0 := hJ
  obtain ⟨_, _, _, _, _, _, _, _, _, _, _, _, _, _, hS0⟩ := hS0
  obtain ⟨sd, ks, hQ⟩ := hR.2.2.2.2.1
  obtain ⟨n1, r1, c1, ⟨⟨z1, e1⟩, q1⟩, b1⟩ := Cl.and (ox_fence hR.1 (i32_r (ya xs i 1)) (i32_r (ya xs i 2)) (i32_r (ya xs i 3))) (xfence_ex hR.1.1 (fun hs => ⟨hR.2.2.1.at hs, hR.2.1.2.2 _ hs⟩))
  obtain ⟨n2, r2, c2, ⟨⟨z2, e2⟩, q2⟩, b2⟩ := Cl.and (om_fence hR.2.1 (i32_r (ya xs i 1)) (i32_r (ya xs i 2)) (i32_r (ya xs i 3))) (mfence_ex hR.2.1.g)
  have hst := rr_fence hR.2.2.1 hR.2.1 (fx_fence c1 hR.2.2.1.1).1 b1 b2
  have hRR := hst.1
  have ez : z1 = z2 := by
    have := hst.2
    rw [e1, e2] at this
    cases this
    rfl
  have hDD : DT r1.2 r2.2 := (hR.2.2.2.1.kX (fx_fence c1 hR.2.2.1.1).2 rfl rfl rfl rfl rfl).kM (fm_fence c2 (gK_of hR.2.1.g)).2 rfl rfl rfl
  have fx := fx_fence c1 hR.2.2.1.1
  have fm := fm_fence c2 (gK_of hR.2.1.g)
  have hCA : CA r1.2 := hQ.2.1.k fx.2 rfl
  have hFT : FT r1.2 r2.2 := hR.2.2.2.2.2.2.2.k fx.2 fm.2 rfl rfl
  have hBK : BK r1.2 := hR.2.2.2.2.2.2.1.k fx.2 rfl
  have hRW : RW r1.2 r2.2 := hR.2.2.2.2.2.1.k fx.2 fm.2 rfl rfl
  have hXR : XR r1.2 r2.2 := hR.2.2.2.2.1.kk q1.1 q2.g fx.2 fm.2 rfl rfl rfl rfl
  refine lv_aload_n hx hb dL_law_697 rfl (lv_at hl 2 rfl) ?_
  refine lv_aload_n hx hb dL_law_698 rfl (lv_at hl 3 rfl) ?_
  refine lv_iload_n hx hb dL_law_699 rfl (lv_at hl 0 rfl) ?_
  refine lv_iconst (v := 1) hx hb dL_law_700 (by decide) ?_
  refine lv_iadd hx hb dL_law_701 ?_
  refine va_sld hx hb hX hbl hbA hS0 (lw_vin (k := 1) (j := 1) hL rfl (by omega) hi) dL_law_702 ?_
  refine W.eq (g2 := F0 m 703 ls [.int (ya xs i 1), .ref qx]) rfl ?_
  refine lv_aload_n hx hb dL_law_703 rfl (lv_at hl 3 rfl) ?_
  refine lv_iload_n hx hb dL_law_704 rfl (lv_at hl 0 rfl) ?_
  refine lv_iconst (v := 2) hx hb dL_law_705 (by decide) ?_
  refine lv_iadd hx hb dL_law_706 ?_
  refine va_sld hx hb hX hbl hbA hS0 (lw_vin (k := 2) (j := 2) hL rfl (by omega) hi) dL_law_707 ?_
  refine W.eq (g2 := F0 m 708 ls [.int (ya xs i 2), .int (ya xs i 1), .ref qx]) rfl ?_
  refine lv_aload_n hx hb dL_law_708 rfl (lv_at hl 3 rfl) ?_
  refine lv_iload_n hx hb dL_law_709 rfl (lv_at hl 0 rfl) ?_
  refine lv_iconst (v := 3) hx hb dL_law_710 (by decide) ?_
  refine lv_iadd hx hb dL_law_711 ?_
  refine va_sld hx hb hX hbl hbA hS0 (lw_vin (k := 3) (j := 3) hL rfl (by omega) hi) dL_law_712 ?_
  refine W.eq (g2 := F0 m 713 ls [.int (ya xs i 3), .int (ya xs i 2), .int (ya xs i 1), .ref qx]) rfl ?_
  refine W.eq (g2 := F0 m 713 ls ((Value.ref qx :: List.map Value.int [ya xs i 1, ya xs i 2, ya xs i 3]).reverse ++ [])) rfl ?_
  refine lw_cX lk_713 hz_89 C0 hK hJ [ya xs i 1, ya xs i 2, ya xs i 3] hl.1 rfl (Nat.le_of_ble_eq_true rfl) c1 (Or.inl rfl) e1 (fun v1 H1 locs1 hv1 hJ1 => ?_)
  obtain ⟨y1, hy1, hz1⟩ := lwV_i hv1 e1
  subst hy1
  show W p l e room_1 s m #[Value.ref b] below meth c H1 locs1 600000 7302250 (lw_Z below #[Value.ref b] s) (F0 m 716 ls [.int y1])
  have hS1 := hJ1
  obtain ⟨_, _, _, _, _, _, _, _, _, _, _, _, _, _, hS1⟩ := hS1
  refine lv_pop hx hb dL_law_716 rfl ?_
  refine lv_aload_n hx hb dL_law_717 rfl (lv_at hl 1 rfl) ?_
  refine lv_aload_n hx hb dL_law_718 rfl (lv_at hl 3 rfl) ?_
  refine lv_iload_n hx hb dL_law_719 rfl (lv_at hl 0 rfl) ?_
  refine lv_iconst (v := 1) hx hb dL_law_720 (by decide) ?_
  refine lv_iadd hx hb dL_law_721 ?_
  refine va_sld hx hb hX hbl hbA hS1 (lw_vin (k := 1) (j := 1) hL rfl (by omega) hi) dL_law_722 ?_
  refine W.eq (g2 := F0 m 723 ls [.int (ya xs i 1), .ref qm]) rfl ?_
  refine lv_aload_n hx hb dL_law_723 rfl (lv_at hl 3 rfl) ?_
  refine lv_iload_n hx hb dL_law_724 rfl (lv_at hl 0 rfl) ?_
  refine lv_iconst (v := 2) hx hb dL_law_725 (by decide) ?_
  refine lv_iadd hx hb dL_law_726 ?_
  refine va_sld hx hb hX hbl hbA hS1 (lw_vin (k := 2) (j := 2) hL rfl (by omega) hi) dL_law_727 ?_
  refine W.eq (g2 := F0 m 728 ls [.int (ya xs i 2), .int (ya xs i 1), .ref qm]) rfl ?_
  refine lv_aload_n hx hb dL_law_728 rfl (lv_at hl 3 rfl) ?_
  refine lv_iload_n hx hb dL_law_729 rfl (lv_at hl 0 rfl) ?_
  refine lv_iconst (v := 3) hx hb dL_law_730 (by decide) ?_
  refine lv_iadd hx hb dL_law_731 ?_
  refine va_sld hx hb hX hbl hbA hS1 (lw_vin (k := 3) (j := 3) hL rfl (by omega) hi) dL_law_732 ?_
  refine W.eq (g2 := F0 m 733 ls [.int (ya xs i 3), .int (ya xs i 2), .int (ya xs i 1), .ref qm]) rfl ?_
  refine W.eq (g2 := F0 m 733 ls ((Value.ref qm :: List.map Value.int [ya xs i 1, ya xs i 2, ya xs i 3]).reverse ++ [])) rfl ?_
  refine lw_cM lk_733 hz_138 C0 hK hJ1 [ya xs i 1, ya xs i 2, ya xs i 3] hl.1 rfl (Nat.le_of_ble_eq_true rfl) c2 (Or.inl rfl) e2 (fun v2 H2 locs2 hv2 hJ2 => ?_)
  obtain ⟨y2, hy2, hz2⟩ := lwV_i hv2 e2
  subst hy2
  show W p l e room_1 s m #[Value.ref b] below meth c H2 locs2 600000 7302250 (lw_Z below #[Value.ref b] s) (F0 m 736 ls [.int y2])
  refine lv_pop hx hb dL_law_736 rfl ?_
  refine lv_goto (tgt := 941) hx hb dL_law_737 (by decide) ?_
  exact K _ _ _ _ ⟨q1, q2, hRR, hDD, hXR, hRW, hBK, hFT⟩ hJ2
set_option maxHeartbeats 4000000 in
set_option maxRecDepth 100000 in
theorem lw_c22 {p : Program} {l : Launch} {e : Env} {s : State} {m : MethodId} {below : List Frame} {meth : Method} {c : Code} {b L : Nat} {xs : Nat → Int32} {D : va_G} {cy : Nat → ClassId} (C0 : lw_At p s m meth c b L xs) (hL : L ≤ 2048) (hK : rx_K D vwCl (tyl cy) nwl ocl s) {i : Nat} (hi : i + 4 ≤ L) {AX AM : pm_A} {qx qm : Nat} {H : Heap} {locs : List Loc} (hR : lwR AX AM) (hJ : lwJ AX AM D cy s qx qm H locs) {ls : Array Slot} (hl : lv_has ls 4 [(3, .int (Int32.ofNat i)), (2, .ref qm), (1, .ref qx), (0, .ref b)]) (K : ∀ (AX AM : pm_A) (H : Heap) (locs : List Loc), lwR AX AM → lwJ AX AM D cy s qx qm H locs → W p l e room_1 s m #[Value.ref b] below meth c H locs 600000 7302250 (lw_Z below #[Value.ref b] s) (F0 m 941 ls [])) : W p l e room_1 s m #[Value.ref b] below meth c H locs 600000 7302250 (lw_Z below #[Value.ref b] s) (F0 m 740 ls []) := by
  obtain ⟨hx, hb, hr, hml, hown, hts, hX, hbl, hlocks, hgv⟩ := id C0
  have hbA : ¬ lA s b := Nat.not_le.mpr hbl
  have hS0 := hJ
  obtain ⟨_, _, _, _, _, _, _, _, _, _, _, _, _, _, hS0⟩ := hS0
  obtain ⟨sd, ks, hQ⟩ := hR.2.2.2.2.1
  obtain ⟨n1, r1, c1, ⟨⟨z1, e1⟩, q1⟩, b1⟩ := Cl.and (ox_flip hR.1 (i32_r (ya xs i 1)) (i32_r (ya xs i 2)) (i32_r (ya xs i 3))) (xflip_ex hR.1.1 (fun hs => ⟨hR.2.2.1.at hs, hR.2.1.2.2 _ hs⟩))
  obtain ⟨n2, r2, c2, ⟨⟨z2, e2⟩, q2⟩, b2⟩ := Cl.and (om_flip hR.2.1 (i32_r (ya xs i 1)) (i32_r (ya xs i 2)) (i32_r (ya xs i 3))) (mflip_ex hR.2.1)
  have hst := rr_flip hR.2.2.1 hR.2.1 (fx_flip c1 hR.2.2.1.1).1 b1 b2
  have hRR := hst.1
  have ez : z1 = z2 := by
    have := hst.2
    rw [e1, e2] at this
    cases this
    rfl
  have hDD : DT r1.2 r2.2 := (hR.2.2.2.1.kX (fx_flip c1 hR.2.2.1.1).2 rfl rfl rfl rfl rfl).kM (fm_flip c2 (gK_of hR.2.1.g)).2 rfl rfl rfl
  have fx := fx_flip c1 hR.2.2.1.1
  have fm := fm_flip c2 (gK_of hR.2.1.g)
  have hCA : CA r1.2 := hQ.2.1.k fx.2 rfl
  have hFT : FT r1.2 r2.2 := hR.2.2.2.2.2.2.2.k fx.2 fm.2 rfl rfl
  have hBK : BK r1.2 := hR.2.2.2.2.2.2.1.k fx.2 rfl
  have hRW : RW r1.2 r2.2 := hR.2.2.2.2.2.1.k fx.2 fm.2 rfl rfl
  have hXR : XR r1.2 r2.2 := hR.2.2.2.2.1.kk q1.1 q2.g fx.2 fm.2 rfl rfl rfl rfl
  refine lv_aload_n hx hb dL_law_740 rfl (lv_at hl 2 rfl) ?_
  refine lv_aload_n hx hb dL_law_741 rfl (lv_at hl 3 rfl) ?_
  refine lv_iload_n hx hb dL_law_742 rfl (lv_at hl 0 rfl) ?_
  refine lv_iconst (v := 1) hx hb dL_law_743 (by decide) ?_
  refine lv_iadd hx hb dL_law_744 ?_
  refine va_sld hx hb hX hbl hbA hS0 (lw_vin (k := 1) (j := 1) hL rfl (by omega) hi) dL_law_745 ?_
  refine W.eq (g2 := F0 m 746 ls [.int (ya xs i 1), .ref qx]) rfl ?_
  refine lv_aload_n hx hb dL_law_746 rfl (lv_at hl 3 rfl) ?_
  refine lv_iload_n hx hb dL_law_747 rfl (lv_at hl 0 rfl) ?_
  refine lv_iconst (v := 2) hx hb dL_law_748 (by decide) ?_
  refine lv_iadd hx hb dL_law_749 ?_
  refine va_sld hx hb hX hbl hbA hS0 (lw_vin (k := 2) (j := 2) hL rfl (by omega) hi) dL_law_750 ?_
  refine W.eq (g2 := F0 m 751 ls [.int (ya xs i 2), .int (ya xs i 1), .ref qx]) rfl ?_
  refine lv_aload_n hx hb dL_law_751 rfl (lv_at hl 3 rfl) ?_
  refine lv_iload_n hx hb dL_law_752 rfl (lv_at hl 0 rfl) ?_
  refine lv_iconst (v := 3) hx hb dL_law_753 (by decide) ?_
  refine lv_iadd hx hb dL_law_754 ?_
  refine va_sld hx hb hX hbl hbA hS0 (lw_vin (k := 3) (j := 3) hL rfl (by omega) hi) dL_law_755 ?_
  refine W.eq (g2 := F0 m 756 ls [.int (ya xs i 3), .int (ya xs i 2), .int (ya xs i 1), .ref qx]) rfl ?_
  refine W.eq (g2 := F0 m 756 ls ((Value.ref qx :: List.map Value.int [ya xs i 1, ya xs i 2, ya xs i 3]).reverse ++ [])) rfl ?_
  refine lw_cX lk_756 hz_91 C0 hK hJ [ya xs i 1, ya xs i 2, ya xs i 3] hl.1 rfl (Nat.le_of_ble_eq_true rfl) c1 (Or.inl rfl) e1 (fun v1 H1 locs1 hv1 hJ1 => ?_)
  obtain ⟨y1, hy1, hz1⟩ := lwV_i hv1 e1
  subst hy1
  show W p l e room_1 s m #[Value.ref b] below meth c H1 locs1 600000 7302250 (lw_Z below #[Value.ref b] s) (F0 m 759 ls [.int y1])
  have hS1 := hJ1
  obtain ⟨_, _, _, _, _, _, _, _, _, _, _, _, _, _, hS1⟩ := hS1
  refine lv_pop hx hb dL_law_759 rfl ?_
  refine lv_aload_n hx hb dL_law_760 rfl (lv_at hl 1 rfl) ?_
  refine lv_aload_n hx hb dL_law_761 rfl (lv_at hl 3 rfl) ?_
  refine lv_iload_n hx hb dL_law_762 rfl (lv_at hl 0 rfl) ?_
  refine lv_iconst (v := 1) hx hb dL_law_763 (by decide) ?_
  refine lv_iadd hx hb dL_law_764 ?_
  refine va_sld hx hb hX hbl hbA hS1 (lw_vin (k := 1) (j := 1) hL rfl (by omega) hi) dL_law_765 ?_
  refine W.eq (g2 := F0 m 766 ls [.int (ya xs i 1), .ref qm]) rfl ?_
  refine lv_aload_n hx hb dL_law_766 rfl (lv_at hl 3 rfl) ?_
  refine lv_iload_n hx hb dL_law_767 rfl (lv_at hl 0 rfl) ?_
  refine lv_iconst (v := 2) hx hb dL_law_768 (by decide) ?_
  refine lv_iadd hx hb dL_law_769 ?_
  refine va_sld hx hb hX hbl hbA hS1 (lw_vin (k := 2) (j := 2) hL rfl (by omega) hi) dL_law_770 ?_
  refine W.eq (g2 := F0 m 771 ls [.int (ya xs i 2), .int (ya xs i 1), .ref qm]) rfl ?_
  refine lv_aload_n hx hb dL_law_771 rfl (lv_at hl 3 rfl) ?_
  refine lv_iload_n hx hb dL_law_772 rfl (lv_at hl 0 rfl) ?_
  refine lv_iconst (v := 3) hx hb dL_law_773 (by decide) ?_
  refine lv_iadd hx hb dL_law_774 ?_
  refine va_sld hx hb hX hbl hbA hS1 (lw_vin (k := 3) (j := 3) hL rfl (by omega) hi) dL_law_775 ?_
  refine W.eq (g2 := F0 m 776 ls [.int (ya xs i 3), .int (ya xs i 2), .int (ya xs i 1), .ref qm]) rfl ?_
  refine W.eq (g2 := F0 m 776 ls ((Value.ref qm :: List.map Value.int [ya xs i 1, ya xs i 2, ya xs i 3]).reverse ++ [])) rfl ?_
  refine lw_cM lk_776 hz_143 C0 hK hJ1 [ya xs i 1, ya xs i 2, ya xs i 3] hl.1 rfl (Nat.le_of_ble_eq_true rfl) c2 (Or.inl rfl) e2 (fun v2 H2 locs2 hv2 hJ2 => ?_)
  obtain ⟨y2, hy2, hz2⟩ := lwV_i hv2 e2
  subst hy2
  show W p l e room_1 s m #[Value.ref b] below meth c H2 locs2 600000 7302250 (lw_Z below #[Value.ref b] s) (F0 m 779 ls [.int y2])
  refine lv_pop hx hb dL_law_779 rfl ?_
  refine lv_goto (tgt := 941) hx hb dL_law_780 (by decide) ?_
  exact K _ _ _ _ ⟨q1, q2, hRR, hDD, hXR, hRW, hBK, hFT⟩ hJ2
set_option maxHeartbeats 4000000 in
set_option maxRecDepth 100000 in
theorem lw_c23 {p : Program} {l : Launch} {e : Env} {s : State} {m : MethodId} {below : List Frame} {meth : Method} {c : Code} {b L : Nat} {xs : Nat → Int32} {D : va_G} {cy : Nat → ClassId} (C0 : lw_At p s m meth c b L xs) (hL : L ≤ 2048) (hK : rx_K D vwCl (tyl cy) nwl ocl s) {i : Nat} (hi : i + 4 ≤ L) {AX AM : pm_A} {qx qm : Nat} {H : Heap} {locs : List Loc} (hR : lwR AX AM) (hJ : lwJ AX AM D cy s qx qm H locs) {ls : Array Slot} (hl : lv_has ls 4 [(3, .int (Int32.ofNat i)), (2, .ref qm), (1, .ref qx), (0, .ref b)]) (K : ∀ (AX AM : pm_A) (H : Heap) (locs : List Loc), lwR AX AM → lwJ AX AM D cy s qx qm H locs → W p l e room_1 s m #[Value.ref b] below meth c H locs 600000 7302250 (lw_Z below #[Value.ref b] s) (F0 m 941 ls [])) : W p l e room_1 s m #[Value.ref b] below meth c H locs 600000 7302250 (lw_Z below #[Value.ref b] s) (F0 m 783 ls []) := by
  obtain ⟨hx, hb, hr, hml, hown, hts, hX, hbl, hlocks, hgv⟩ := id C0
  have hbA : ¬ lA s b := Nat.not_le.mpr hbl
  have hS0 := hJ
  obtain ⟨_, _, _, _, _, _, _, _, _, _, _, _, _, _, hS0⟩ := hS0
  obtain ⟨sd, ks, hQ⟩ := hR.2.2.2.2.1
  obtain ⟨n1, r1, c1, ⟨z1, e1⟩, q1⟩ := ox_ringOf hR.1 (i32_r (ya xs i 1)) (i32_r (ya xs i 2))
  obtain ⟨n2, r2, c2, ⟨z2, e2⟩, q2⟩ := om_ringOf hR.2.1 (i32_r (ya xs i 1)) (i32_r (ya xs i 2))
  have fx := fx_ringOf c1 hR.2.2.1.1
  have fm := fm_ringOf c2 (gK_of hR.2.1.g)
  have hRR : RR r1.2 r2.2 := (hR.2.2.1.kX fx.1 fx.2 rfl rfl rfl rfl).kM fm.2 rfl rfl
  have hDD : DT r1.2 r2.2 := (hR.2.2.2.1.kX (fx_ringOf c1 hR.2.2.1.1).2 rfl rfl rfl rfl rfl).kM (fm_ringOf c2 (gK_of hR.2.1.g)).2 rfl rfl rfl
  have hCA : CA r1.2 := hQ.2.1.k fx.2 rfl
  have hFT : FT r1.2 r2.2 := hR.2.2.2.2.2.2.2.k fx.2 fm.2 rfl rfl
  have hBK : BK r1.2 := hR.2.2.2.2.2.2.1.k fx.2 rfl
  have hRW : RW r1.2 r2.2 := hR.2.2.2.2.2.1.k fx.2 fm.2 rfl rfl
  have hXR : XR r1.2 r2.2 := hR.2.2.2.2.1.kk q1.1 q2.g fx.2 fm.2 rfl rfl rfl rfl
  refine lv_aload_n hx hb dL_law_783 rfl (lv_at hl 2 rfl) ?_
  refine lv_aload_n hx hb dL_law_784 rfl (lv_at hl 3 rfl) ?_
  refine lv_iload_n hx hb dL_law_785 rfl (lv_at hl 0 rfl) ?_
  refine lv_iconst (v := 1) hx hb dL_law_786 (by decide) ?_
  refine lv_iadd hx hb dL_law_787 ?_
  refine va_sld hx hb hX hbl hbA hS0 (lw_vin (k := 1) (j := 1) hL rfl (by omega) hi) dL_law_788 ?_
  refine W.eq (g2 := F0 m 789 ls [.int (ya xs i 1), .ref qx]) rfl ?_
  refine lv_aload_n hx hb dL_law_789 rfl (lv_at hl 3 rfl) ?_
  refine lv_iload_n hx hb dL_law_790 rfl (lv_at hl 0 rfl) ?_
  refine lv_iconst (v := 2) hx hb dL_law_791 (by decide) ?_
  refine lv_iadd hx hb dL_law_792 ?_
  refine va_sld hx hb hX hbl hbA hS0 (lw_vin (k := 2) (j := 2) hL rfl (by omega) hi) dL_law_793 ?_
  refine W.eq (g2 := F0 m 794 ls [.int (ya xs i 2), .int (ya xs i 1), .ref qx]) rfl ?_
  refine W.eq (g2 := F0 m 794 ls ((Value.ref qx :: List.map Value.int [ya xs i 1, ya xs i 2]).reverse ++ [])) rfl ?_
  refine lw_cX lk_794 hz_104 C0 hK hJ [ya xs i 1, ya xs i 2] hl.1 rfl (Nat.le_of_ble_eq_true rfl) c1 (Or.inl rfl) e1 (fun v1 H1 locs1 hv1 hJ1 => ?_)
  obtain ⟨y1, hy1, hz1⟩ := lwV_i hv1 e1
  subst hy1
  show W p l e room_1 s m #[Value.ref b] below meth c H1 locs1 600000 7302250 (lw_Z below #[Value.ref b] s) (F0 m 797 ls [.int y1])
  have hS1 := hJ1
  obtain ⟨_, _, _, _, _, _, _, _, _, _, _, _, _, _, hS1⟩ := hS1
  refine lv_pop hx hb dL_law_797 rfl ?_
  refine lv_aload_n hx hb dL_law_798 rfl (lv_at hl 1 rfl) ?_
  refine lv_aload_n hx hb dL_law_799 rfl (lv_at hl 3 rfl) ?_
  refine lv_iload_n hx hb dL_law_800 rfl (lv_at hl 0 rfl) ?_
  refine lv_iconst (v := 1) hx hb dL_law_801 (by decide) ?_
  refine lv_iadd hx hb dL_law_802 ?_
  refine va_sld hx hb hX hbl hbA hS1 (lw_vin (k := 1) (j := 1) hL rfl (by omega) hi) dL_law_803 ?_
  refine W.eq (g2 := F0 m 804 ls [.int (ya xs i 1), .ref qm]) rfl ?_
  refine lv_aload_n hx hb dL_law_804 rfl (lv_at hl 3 rfl) ?_
  refine lv_iload_n hx hb dL_law_805 rfl (lv_at hl 0 rfl) ?_
  refine lv_iconst (v := 2) hx hb dL_law_806 (by decide) ?_
  refine lv_iadd hx hb dL_law_807 ?_
  refine va_sld hx hb hX hbl hbA hS1 (lw_vin (k := 2) (j := 2) hL rfl (by omega) hi) dL_law_808 ?_
  refine W.eq (g2 := F0 m 809 ls [.int (ya xs i 2), .int (ya xs i 1), .ref qm]) rfl ?_
  refine W.eq (g2 := F0 m 809 ls ((Value.ref qm :: List.map Value.int [ya xs i 1, ya xs i 2]).reverse ++ [])) rfl ?_
  refine lw_cM lk_809 hz_178 C0 hK hJ1 [ya xs i 1, ya xs i 2] hl.1 rfl (Nat.le_of_ble_eq_true rfl) c2 (Or.inl rfl) e2 (fun v2 H2 locs2 hv2 hJ2 => ?_)
  obtain ⟨y2, hy2, hz2⟩ := lwV_i hv2 e2
  subst hy2
  show W p l e room_1 s m #[Value.ref b] below meth c H2 locs2 600000 7302250 (lw_Z below #[Value.ref b] s) (F0 m 812 ls [.int y2])
  refine lv_pop hx hb dL_law_812 rfl ?_
  refine lv_goto (tgt := 941) hx hb dL_law_813 (by decide) ?_
  exact K _ _ _ _ ⟨q1, q2, hRR, hDD, hXR, hRW, hBK, hFT⟩ hJ2
set_option maxHeartbeats 4000000 in
set_option maxRecDepth 100000 in
theorem lw_c24 {p : Program} {l : Launch} {e : Env} {s : State} {m : MethodId} {below : List Frame} {meth : Method} {c : Code} {b L : Nat} {xs : Nat → Int32} {D : va_G} {cy : Nat → ClassId} (C0 : lw_At p s m meth c b L xs) (hL : L ≤ 2048) (hK : rx_K D vwCl (tyl cy) nwl ocl s) {i : Nat} (hi : i + 4 ≤ L) {AX AM : pm_A} {qx qm : Nat} {H : Heap} {locs : List Loc} (hR : lwR AX AM) (hJ : lwJ AX AM D cy s qx qm H locs) {ls : Array Slot} (hl : lv_has ls 4 [(3, .int (Int32.ofNat i)), (2, .ref qm), (1, .ref qx), (0, .ref b)]) (K : ∀ (AX AM : pm_A) (H : Heap) (locs : List Loc), lwR AX AM → lwJ AX AM D cy s qx qm H locs → W p l e room_1 s m #[Value.ref b] below meth c H locs 600000 7302250 (lw_Z below #[Value.ref b] s) (F0 m 941 ls [])) : W p l e room_1 s m #[Value.ref b] below meth c H locs 600000 7302250 (lw_Z below #[Value.ref b] s) (F0 m 816 ls []) := by
  obtain ⟨hx, hb, hr, hml, hown, hts, hX, hbl, hlocks, hgv⟩ := id C0
  have hbA : ¬ lA s b := Nat.not_le.mpr hbl
  have hS0 := hJ
  obtain ⟨_, _, _, _, _, _, _, _, _, _, _, _, _, _, hS0⟩ := hS0
  obtain ⟨sd, ks, hQ⟩ := hR.2.2.2.2.1
  obtain ⟨n1, r1, c1, ⟨z1, e1⟩, q1⟩ := ox_frieze hR.1 (i32_r (ya xs i 1)) (i32_r (ya xs i 2)) (i32_r (ya xs i 3))
  obtain ⟨n2, r2, c2, ⟨z2, e2⟩, q2⟩ := om_frieze hR.2.1 (i32_r (ya xs i 1)) (i32_r (ya xs i 2)) (i32_r (ya xs i 3))
  have fx := fx_frieze c1 hR.2.2.1.1
  have fm := fm_frieze c2 (gK_of hR.2.1.g)
  have hRR : RR r1.2 r2.2 := (hR.2.2.1.kX fx.1 fx.2 rfl rfl rfl rfl).kM fm.2 rfl rfl
  have hDD : DT r1.2 r2.2 := (hR.2.2.2.1.kX (fx_frieze c1 hR.2.2.1.1).2 rfl rfl rfl rfl rfl).kM (fm_frieze c2 (gK_of hR.2.1.g)).2 rfl rfl rfl
  have hCA : CA r1.2 := hQ.2.1.k fx.2 rfl
  have hFT : FT r1.2 r2.2 := hR.2.2.2.2.2.2.2.k fx.2 fm.2 rfl rfl
  have hBK : BK r1.2 := hR.2.2.2.2.2.2.1.k fx.2 rfl
  have hRW : RW r1.2 r2.2 := hR.2.2.2.2.2.1.k fx.2 fm.2 rfl rfl
  have hXR : XR r1.2 r2.2 := hR.2.2.2.2.1.kk q1.1 q2.g fx.2 fm.2 rfl rfl rfl rfl
  refine lv_aload_n hx hb dL_law_816 rfl (lv_at hl 2 rfl) ?_
  refine lv_aload_n hx hb dL_law_817 rfl (lv_at hl 3 rfl) ?_
  refine lv_iload_n hx hb dL_law_818 rfl (lv_at hl 0 rfl) ?_
  refine lv_iconst (v := 1) hx hb dL_law_819 (by decide) ?_
  refine lv_iadd hx hb dL_law_820 ?_
  refine va_sld hx hb hX hbl hbA hS0 (lw_vin (k := 1) (j := 1) hL rfl (by omega) hi) dL_law_821 ?_
  refine W.eq (g2 := F0 m 822 ls [.int (ya xs i 1), .ref qx]) rfl ?_
  refine lv_aload_n hx hb dL_law_822 rfl (lv_at hl 3 rfl) ?_
  refine lv_iload_n hx hb dL_law_823 rfl (lv_at hl 0 rfl) ?_
  refine lv_iconst (v := 2) hx hb dL_law_824 (by decide) ?_
  refine lv_iadd hx hb dL_law_825 ?_
  refine va_sld hx hb hX hbl hbA hS0 (lw_vin (k := 2) (j := 2) hL rfl (by omega) hi) dL_law_826 ?_
  refine W.eq (g2 := F0 m 827 ls [.int (ya xs i 2), .int (ya xs i 1), .ref qx]) rfl ?_
  refine lv_aload_n hx hb dL_law_827 rfl (lv_at hl 3 rfl) ?_
  refine lv_iload_n hx hb dL_law_828 rfl (lv_at hl 0 rfl) ?_
  refine lv_iconst (v := 3) hx hb dL_law_829 (by decide) ?_
  refine lv_iadd hx hb dL_law_830 ?_
  refine va_sld hx hb hX hbl hbA hS0 (lw_vin (k := 3) (j := 3) hL rfl (by omega) hi) dL_law_831 ?_
  refine W.eq (g2 := F0 m 832 ls [.int (ya xs i 3), .int (ya xs i 2), .int (ya xs i 1), .ref qx]) rfl ?_
  refine W.eq (g2 := F0 m 832 ls ((Value.ref qx :: List.map Value.int [ya xs i 1, ya xs i 2, ya xs i 3]).reverse ++ [])) rfl ?_
  refine lw_cX lk_832 hz_92 C0 hK hJ [ya xs i 1, ya xs i 2, ya xs i 3] hl.1 rfl (Nat.le_of_ble_eq_true rfl) c1 (Or.inr rfl) e1 (fun v1 H1 locs1 hv1 hJ1 => ?_)
  obtain ⟨y1, hy1, hz1⟩ := lwV_l hv1 e1
  subst hy1
  show W p l e room_1 s m #[Value.ref b] below meth c H1 locs1 600000 7302250 (lw_Z below #[Value.ref b] s) (F0 m 835 ls [.long y1])
  have hS1 := hJ1
  obtain ⟨_, _, _, _, _, _, _, _, _, _, _, _, _, _, hS1⟩ := hS1
  refine lv_pop2_2 hx hb dL_law_835 rfl ?_
  refine lv_aload_n hx hb dL_law_836 rfl (lv_at hl 1 rfl) ?_
  refine lv_aload_n hx hb dL_law_837 rfl (lv_at hl 3 rfl) ?_
  refine lv_iload_n hx hb dL_law_838 rfl (lv_at hl 0 rfl) ?_
  refine lv_iconst (v := 1) hx hb dL_law_839 (by decide) ?_
  refine lv_iadd hx hb dL_law_840 ?_
  refine va_sld hx hb hX hbl hbA hS1 (lw_vin (k := 1) (j := 1) hL rfl (by omega) hi) dL_law_841 ?_
  refine W.eq (g2 := F0 m 842 ls [.int (ya xs i 1), .ref qm]) rfl ?_
  refine lv_aload_n hx hb dL_law_842 rfl (lv_at hl 3 rfl) ?_
  refine lv_iload_n hx hb dL_law_843 rfl (lv_at hl 0 rfl) ?_
  refine lv_iconst (v := 2) hx hb dL_law_844 (by decide) ?_
  refine lv_iadd hx hb dL_law_845 ?_
  refine va_sld hx hb hX hbl hbA hS1 (lw_vin (k := 2) (j := 2) hL rfl (by omega) hi) dL_law_846 ?_
  refine W.eq (g2 := F0 m 847 ls [.int (ya xs i 2), .int (ya xs i 1), .ref qm]) rfl ?_
  refine lv_aload_n hx hb dL_law_847 rfl (lv_at hl 3 rfl) ?_
  refine lv_iload_n hx hb dL_law_848 rfl (lv_at hl 0 rfl) ?_
  refine lv_iconst (v := 3) hx hb dL_law_849 (by decide) ?_
  refine lv_iadd hx hb dL_law_850 ?_
  refine va_sld hx hb hX hbl hbA hS1 (lw_vin (k := 3) (j := 3) hL rfl (by omega) hi) dL_law_851 ?_
  refine W.eq (g2 := F0 m 852 ls [.int (ya xs i 3), .int (ya xs i 2), .int (ya xs i 1), .ref qm]) rfl ?_
  refine W.eq (g2 := F0 m 852 ls ((Value.ref qm :: List.map Value.int [ya xs i 1, ya xs i 2, ya xs i 3]).reverse ++ [])) rfl ?_
  refine lw_cM lk_852 hz_145 C0 hK hJ1 [ya xs i 1, ya xs i 2, ya xs i 3] hl.1 rfl (Nat.le_of_ble_eq_true rfl) c2 (Or.inr rfl) e2 (fun v2 H2 locs2 hv2 hJ2 => ?_)
  obtain ⟨y2, hy2, hz2⟩ := lwV_l hv2 e2
  subst hy2
  show W p l e room_1 s m #[Value.ref b] below meth c H2 locs2 600000 7302250 (lw_Z below #[Value.ref b] s) (F0 m 855 ls [.long y2])
  refine lv_pop2_2 hx hb dL_law_855 rfl ?_
  refine lv_goto (tgt := 941) hx hb dL_law_856 (by decide) ?_
  exact K _ _ _ _ ⟨q1, q2, hRR, hDD, hXR, hRW, hBK, hFT⟩ hJ2
set_option maxHeartbeats 4000000 in
set_option maxRecDepth 100000 in
theorem lw_c25 {p : Program} {l : Launch} {e : Env} {s : State} {m : MethodId} {below : List Frame} {meth : Method} {c : Code} {b L : Nat} {xs : Nat → Int32} {D : va_G} {cy : Nat → ClassId} (C0 : lw_At p s m meth c b L xs) (hL : L ≤ 2048) (hK : rx_K D vwCl (tyl cy) nwl ocl s) {i : Nat} (hi : i + 4 ≤ L) {AX AM : pm_A} {qx qm : Nat} {H : Heap} {locs : List Loc} (hR : lwR AX AM) (hJ : lwJ AX AM D cy s qx qm H locs) {ls : Array Slot} (hl : lv_has ls 4 [(3, .int (Int32.ofNat i)), (2, .ref qm), (1, .ref qx), (0, .ref b)]) (K : ∀ (AX AM : pm_A) (H : Heap) (locs : List Loc), lwR AX AM → lwJ AX AM D cy s qx qm H locs → W p l e room_1 s m #[Value.ref b] below meth c H locs 600000 7302250 (lw_Z below #[Value.ref b] s) (F0 m 941 ls [])) : W p l e room_1 s m #[Value.ref b] below meth c H locs 600000 7302250 (lw_Z below #[Value.ref b] s) (F0 m 859 ls []) := by
  obtain ⟨hx, hb, hr, hml, hown, hts, hX, hbl, hlocks, hgv⟩ := id C0
  have hbA : ¬ lA s b := Nat.not_le.mpr hbl
  have hS0 := hJ
  obtain ⟨_, _, _, _, _, _, _, _, _, _, _, _, _, _, hS0⟩ := hS0
  obtain ⟨sd, ks, hQ⟩ := hR.2.2.2.2.1
  obtain ⟨n1, r1, c1, ⟨z1, e1⟩, q1⟩ := ox_way hR.1
  obtain ⟨n2, r2, c2, ⟨⟨z2, e2⟩, q2⟩, b2⟩ := mway_ex hR.2.1
  have fx := fx_way c1 hR.2.2.1.1
  have hRR : RR r1.2 r2.2 := (hR.2.2.1.kX fx.1 fx.2 rfl rfl rfl rfl).kM2 b2.1 b2.2
  have hDD : DT r1.2 r2.2 := (hR.2.2.2.1.kX (fx_way c1 hR.2.2.1.1).2 rfl rfl rfl rfl rfl).kM (fm_way c2 (gK_of hR.2.1.g)).2 rfl rfl rfl
  have fm := fm_way c2 (gK_of hR.2.1.g)
  have hCA : CA r1.2 := hQ.2.1.k fx.2 rfl
  have hFT : FT r1.2 r2.2 := hR.2.2.2.2.2.2.2.way (fx_wayP c1 (gK_P hQ.1.1.1 hR.2.2.2.2.2.2.1.2.2.2.1 hR.2.2.2.2.2.2.1.1.2.2.2.1)) fm.2 rfl rfl
  have hBK : BK r1.2 := hR.2.2.2.2.2.2.1.k fx.2 rfl
  have hRW : RW r1.2 r2.2 := hR.2.2.2.2.2.1.k fx.2 fm.2 rfl rfl
  have hXR : XR r1.2 r2.2 := hR.2.2.2.2.1.kk q1.1 q2.g fx.2 fm.2 rfl rfl rfl rfl
  refine lv_aload_n hx hb dL_law_859 rfl (lv_at hl 2 rfl) ?_
  refine W.eq (g2 := F0 m 860 ls ((Value.ref qx :: List.map Value.int []).reverse ++ [])) rfl ?_
  refine lw_cX lk_860 hz_119 C0 hK hJ [] hl.1 rfl (Nat.le_of_ble_eq_true rfl) c1 (Or.inl rfl) e1 (fun v1 H1 locs1 hv1 hJ1 => ?_)
  obtain ⟨y1, hy1, hz1⟩ := lwV_i hv1 e1
  subst hy1
  show W p l e room_1 s m #[Value.ref b] below meth c H1 locs1 600000 7302250 (lw_Z below #[Value.ref b] s) (F0 m 863 ls [.int y1])
  have hS1 := hJ1
  obtain ⟨_, _, _, _, _, _, _, _, _, _, _, _, _, _, hS1⟩ := hS1
  refine lv_pop hx hb dL_law_863 rfl ?_
  refine lv_aload_n hx hb dL_law_864 rfl (lv_at hl 1 rfl) ?_
  refine W.eq (g2 := F0 m 865 ls ((Value.ref qm :: List.map Value.int []).reverse ++ [])) rfl ?_
  refine lw_cM lk_865 hz_202 C0 hK hJ1 [] hl.1 rfl (Nat.le_of_ble_eq_true rfl) c2 (Or.inl rfl) e2 (fun v2 H2 locs2 hv2 hJ2 => ?_)
  obtain ⟨y2, hy2, hz2⟩ := lwV_i hv2 e2
  subst hy2
  show W p l e room_1 s m #[Value.ref b] below meth c H2 locs2 600000 7302250 (lw_Z below #[Value.ref b] s) (F0 m 868 ls [.int y2])
  refine lv_pop hx hb dL_law_868 rfl ?_
  refine lv_goto (tgt := 941) hx hb dL_law_869 (by decide) ?_
  exact K _ _ _ _ ⟨q1, q2, hRR, hDD, hXR, hRW, hBK, hFT⟩ hJ2
set_option maxHeartbeats 4000000 in
set_option maxRecDepth 100000 in
theorem lw_c26 {p : Program} {l : Launch} {e : Env} {s : State} {m : MethodId} {below : List Frame} {meth : Method} {c : Code} {b L : Nat} {xs : Nat → Int32} {D : va_G} {cy : Nat → ClassId} (C0 : lw_At p s m meth c b L xs) (hL : L ≤ 2048) (hK : rx_K D vwCl (tyl cy) nwl ocl s) {i : Nat} (hi : i + 4 ≤ L) {AX AM : pm_A} {qx qm : Nat} {H : Heap} {locs : List Loc} (hR : lwR AX AM) (hJ : lwJ AX AM D cy s qx qm H locs) {ls : Array Slot} (hl : lv_has ls 4 [(3, .int (Int32.ofNat i)), (2, .ref qm), (1, .ref qx), (0, .ref b)]) (K : ∀ (AX AM : pm_A) (H : Heap) (locs : List Loc), lwR AX AM → lwJ AX AM D cy s qx qm H locs → W p l e room_1 s m #[Value.ref b] below meth c H locs 600000 7302250 (lw_Z below #[Value.ref b] s) (F0 m 941 ls [])) : W p l e room_1 s m #[Value.ref b] below meth c H locs 600000 7302250 (lw_Z below #[Value.ref b] s) (F0 m 872 ls []) := by
  obtain ⟨hx, hb, hr, hml, hown, hts, hX, hbl, hlocks, hgv⟩ := id C0
  have hbA : ¬ lA s b := Nat.not_le.mpr hbl
  have hS0 := hJ
  obtain ⟨_, _, _, _, _, _, _, _, _, _, _, _, _, _, hS0⟩ := hS0
  obtain ⟨sd, ks, hQ⟩ := hR.2.2.2.2.1
  obtain ⟨n1, r1, c1, ⟨z1, e1⟩, q1⟩ := ox_goes hR.1 (i32_r (ya xs i 1))
  obtain ⟨n2, r2, c2, ⟨z2, e2⟩, q2⟩ := om_goes hR.2.1 (i32_r (ya xs i 1))
  have fx := fx_goes c1 hR.2.2.1.1
  have fm := fm_goes c2 (gK_of hR.2.1.g)
  have hRR : RR r1.2 r2.2 := (hR.2.2.1.kX fx.1 fx.2 rfl rfl rfl rfl).kM fm.2 rfl rfl
  have hDD : DT r1.2 r2.2 := (hR.2.2.2.1.kX (fx_goes c1 hR.2.2.1.1).2 rfl rfl rfl rfl rfl).kM (fm_goes c2 (gK_of hR.2.1.g)).2 rfl rfl rfl
  have hCA : CA r1.2 := hQ.2.1.k fx.2 rfl
  have hFT : FT r1.2 r2.2 := hR.2.2.2.2.2.2.2.k fx.2 fm.2 rfl rfl
  have hBK : BK r1.2 := hR.2.2.2.2.2.2.1.k fx.2 rfl
  have hRW : RW r1.2 r2.2 := hR.2.2.2.2.2.1.k fx.2 fm.2 rfl rfl
  have hXR : XR r1.2 r2.2 := hR.2.2.2.2.1.kk q1.1 q2.g fx.2 fm.2 rfl rfl rfl rfl
  refine lv_aload_n hx hb dL_law_872 rfl (lv_at hl 2 rfl) ?_
  refine lv_aload_n hx hb dL_law_873 rfl (lv_at hl 3 rfl) ?_
  refine lv_iload_n hx hb dL_law_874 rfl (lv_at hl 0 rfl) ?_
  refine lv_iconst (v := 1) hx hb dL_law_875 (by decide) ?_
  refine lv_iadd hx hb dL_law_876 ?_
  refine va_sld hx hb hX hbl hbA hS0 (lw_vin (k := 1) (j := 1) hL rfl (by omega) hi) dL_law_877 ?_
  refine W.eq (g2 := F0 m 878 ls [.int (ya xs i 1), .ref qx]) rfl ?_
  refine W.eq (g2 := F0 m 878 ls ((Value.ref qx :: List.map Value.int [ya xs i 1]).reverse ++ [])) rfl ?_
  refine lw_cX lk_878 hz_93 C0 hK hJ [ya xs i 1] hl.1 rfl (Nat.le_of_ble_eq_true rfl) c1 (Or.inl rfl) e1 (fun v1 H1 locs1 hv1 hJ1 => ?_)
  obtain ⟨y1, hy1, hz1⟩ := lwV_i hv1 e1
  subst hy1
  show W p l e room_1 s m #[Value.ref b] below meth c H1 locs1 600000 7302250 (lw_Z below #[Value.ref b] s) (F0 m 881 ls [.int y1])
  have hS1 := hJ1
  obtain ⟨_, _, _, _, _, _, _, _, _, _, _, _, _, _, hS1⟩ := hS1
  refine lv_pop hx hb dL_law_881 rfl ?_
  refine lv_aload_n hx hb dL_law_882 rfl (lv_at hl 1 rfl) ?_
  refine lv_aload_n hx hb dL_law_883 rfl (lv_at hl 3 rfl) ?_
  refine lv_iload_n hx hb dL_law_884 rfl (lv_at hl 0 rfl) ?_
  refine lv_iconst (v := 1) hx hb dL_law_885 (by decide) ?_
  refine lv_iadd hx hb dL_law_886 ?_
  refine va_sld hx hb hX hbl hbA hS1 (lw_vin (k := 1) (j := 1) hL rfl (by omega) hi) dL_law_887 ?_
  refine W.eq (g2 := F0 m 888 ls [.int (ya xs i 1), .ref qm]) rfl ?_
  refine W.eq (g2 := F0 m 888 ls ((Value.ref qm :: List.map Value.int [ya xs i 1]).reverse ++ [])) rfl ?_
  refine lw_cM lk_888 hz_146 C0 hK hJ1 [ya xs i 1] hl.1 rfl (Nat.le_of_ble_eq_true rfl) c2 (Or.inl rfl) e2 (fun v2 H2 locs2 hv2 hJ2 => ?_)
  obtain ⟨y2, hy2, hz2⟩ := lwV_i hv2 e2
  subst hy2
  show W p l e room_1 s m #[Value.ref b] below meth c H2 locs2 600000 7302250 (lw_Z below #[Value.ref b] s) (F0 m 891 ls [.int y2])
  refine lv_pop hx hb dL_law_891 rfl ?_
  refine lv_goto (tgt := 941) hx hb dL_law_892 (by decide) ?_
  exact K _ _ _ _ ⟨q1, q2, hRR, hDD, hXR, hRW, hBK, hFT⟩ hJ2
set_option maxHeartbeats 4000000 in
set_option maxRecDepth 100000 in
theorem lw_c27 {p : Program} {l : Launch} {e : Env} {s : State} {m : MethodId} {below : List Frame} {meth : Method} {c : Code} {b L : Nat} {xs : Nat → Int32} {D : va_G} {cy : Nat → ClassId} (C0 : lw_At p s m meth c b L xs) (hL : L ≤ 2048) (hK : rx_K D vwCl (tyl cy) nwl ocl s) {i : Nat} (hi : i + 4 ≤ L) {AX AM : pm_A} {qx qm : Nat} {H : Heap} {locs : List Loc} (hR : lwR AX AM) (hJ : lwJ AX AM D cy s qx qm H locs) {ls : Array Slot} (hl : lv_has ls 4 [(3, .int (Int32.ofNat i)), (2, .ref qm), (1, .ref qx), (0, .ref b)]) (K : ∀ (AX AM : pm_A) (H : Heap) (locs : List Loc), lwR AX AM → lwJ AX AM D cy s qx qm H locs → W p l e room_1 s m #[Value.ref b] below meth c H locs 600000 7302250 (lw_Z below #[Value.ref b] s) (F0 m 941 ls [])) : W p l e room_1 s m #[Value.ref b] below meth c H locs 600000 7302250 (lw_Z below #[Value.ref b] s) (F0 m 895 ls []) := by
  obtain ⟨hx, hb, hr, hml, hown, hts, hX, hbl, hlocks, hgv⟩ := id C0
  have hbA : ¬ lA s b := Nat.not_le.mpr hbl
  have hS0 := hJ
  obtain ⟨_, _, _, _, _, _, _, _, _, _, _, _, _, _, hS0⟩ := hS0
  obtain ⟨sd, ks, hQ⟩ := hR.2.2.2.2.1
  obtain ⟨n1, r1, c1, ⟨⟨⟨z1, e1⟩, q1⟩, b1⟩, d1⟩ := Cl.and (Cl.and (ox_seed hR.1 (i32_r (ya xs i 1))) (xseed_exq hR.1.1 hR.2.2.1.1 hR.2.2.2.1.1.1 hR.2.2.2.1.2.1 (fun ho => ts_9 hR.2.1 ho) (fun hs => ⟨hR.2.2.1.at hs, hR.2.1.2.2 _ hs⟩))) (kseed_exq hQ.1.1 hQ.2.1 hQ.1.2.1 hR.2.2.1.1 hR.2.2.2.1.1.1 hR.2.2.2.1.2.1 (fun ho => ts_9 hR.2.1 ho) (fun hs => ⟨hR.2.2.1.at hs, hR.2.1.2.2 _ hs⟩))
  obtain ⟨n2, r2, c2, ⟨⟨⟨z2, e2⟩, q2⟩, b2⟩, d2⟩ := Cl.and (Cl.and (om_seed hR.2.1 (i32_r (ya xs i 1))) (mseed_exq hR.2.1)) (mseed_ex3 hR.2.1)
  have fx := fx_seed c1 hR.2.2.1.1
  have fm := fm_seed c2 (gK_of hR.2.1.g)
  have hRR : RR r1.2 r2.2 := (hR.2.2.1.kX fx.1 fx.2 rfl rfl rfl rfl).kM fm.2 rfl rfl
  have hst := dt_seed hR.2.2.2.1 hR.2.1 fx.2 rfl rfl b1 b2
  have hDD := hst.1
  have hCA : CA r1.2 := hQ.2.1.k fx.2 rfl
  have hXR : XR r1.2 r2.2 := xr_seed hR.2.1 hQ hCA d1 d2
  have hFT : FT r1.2 r2.2 := hR.2.2.2.2.2.2.2.k fx.2 fm.2 rfl rfl
  have hBK : BK r1.2 := hR.2.2.2.2.2.2.1.k fx.2 rfl
  have hRW : RW r1.2 r2.2 := hR.2.2.2.2.2.1.k fx.2 fm.2 rfl rfl
  refine lv_aload_n hx hb dL_law_895 rfl (lv_at hl 2 rfl) ?_
  refine lv_aload_n hx hb dL_law_896 rfl (lv_at hl 3 rfl) ?_
  refine lv_iload_n hx hb dL_law_897 rfl (lv_at hl 0 rfl) ?_
  refine lv_iconst (v := 1) hx hb dL_law_898 (by decide) ?_
  refine lv_iadd hx hb dL_law_899 ?_
  refine va_sld hx hb hX hbl hbA hS0 (lw_vin (k := 1) (j := 1) hL rfl (by omega) hi) dL_law_900 ?_
  refine W.eq (g2 := F0 m 901 ls [.int (ya xs i 1), .ref qx]) rfl ?_
  refine W.eq (g2 := F0 m 901 ls ((Value.ref qx :: List.map Value.int [ya xs i 1]).reverse ++ [])) rfl ?_
  refine lw_cX lk_901 hz_107 C0 hK hJ [ya xs i 1] hl.1 rfl (Nat.le_of_ble_eq_true rfl) c1 (Or.inl rfl) e1 (fun v1 H1 locs1 hv1 hJ1 => ?_)
  obtain ⟨y1, hy1, hz1⟩ := lwV_i hv1 e1
  subst hy1
  show W p l e room_1 s m #[Value.ref b] below meth c H1 locs1 600000 7302250 (lw_Z below #[Value.ref b] s) (F0 m 904 ls [.int y1])
  have hS1 := hJ1
  obtain ⟨_, _, _, _, _, _, _, _, _, _, _, _, _, _, hS1⟩ := hS1
  refine lv_pop hx hb dL_law_904 rfl ?_
  refine lv_aload_n hx hb dL_law_905 rfl (lv_at hl 1 rfl) ?_
  refine lv_aload_n hx hb dL_law_906 rfl (lv_at hl 3 rfl) ?_
  refine lv_iload_n hx hb dL_law_907 rfl (lv_at hl 0 rfl) ?_
  refine lv_iconst (v := 1) hx hb dL_law_908 (by decide) ?_
  refine lv_iadd hx hb dL_law_909 ?_
  refine va_sld hx hb hX hbl hbA hS1 (lw_vin (k := 1) (j := 1) hL rfl (by omega) hi) dL_law_910 ?_
  refine W.eq (g2 := F0 m 911 ls [.int (ya xs i 1), .ref qm]) rfl ?_
  refine W.eq (g2 := F0 m 911 ls ((Value.ref qm :: List.map Value.int [ya xs i 1]).reverse ++ [])) rfl ?_
  refine lw_cM lk_911 hz_183 C0 hK hJ1 [ya xs i 1] hl.1 rfl (Nat.le_of_ble_eq_true rfl) c2 (Or.inl rfl) e2 (fun v2 H2 locs2 hv2 hJ2 => ?_)
  obtain ⟨y2, hy2, hz2⟩ := lwV_i hv2 e2
  subst hy2
  show W p l e room_1 s m #[Value.ref b] below meth c H2 locs2 600000 7302250 (lw_Z below #[Value.ref b] s) (F0 m 914 ls [.int y2])
  refine lv_pop hx hb dL_law_914 rfl ?_
  refine lv_goto (tgt := 941) hx hb dL_law_915 (by decide) ?_
  exact K _ _ _ _ ⟨q1, q2, hRR, hDD, hXR, hRW, hBK, hFT⟩ hJ2
set_option maxHeartbeats 4000000 in
set_option maxRecDepth 100000 in
theorem lw_c28 {p : Program} {l : Launch} {e : Env} {s : State} {m : MethodId} {below : List Frame} {meth : Method} {c : Code} {b L : Nat} {xs : Nat → Int32} {D : va_G} {cy : Nat → ClassId} (C0 : lw_At p s m meth c b L xs) (hL : L ≤ 2048) (hK : rx_K D vwCl (tyl cy) nwl ocl s) {i : Nat} (hi : i + 4 ≤ L) {AX AM : pm_A} {qx qm : Nat} {H : Heap} {locs : List Loc} (hR : lwR AX AM) (hJ : lwJ AX AM D cy s qx qm H locs) {ls : Array Slot} (hl : lv_has ls 4 [(3, .int (Int32.ofNat i)), (2, .ref qm), (1, .ref qx), (0, .ref b)]) (K : ∀ (AX AM : pm_A) (H : Heap) (locs : List Loc), lwR AX AM → lwJ AX AM D cy s qx qm H locs → W p l e room_1 s m #[Value.ref b] below meth c H locs 600000 7302250 (lw_Z below #[Value.ref b] s) (F0 m 941 ls [])) : W p l e room_1 s m #[Value.ref b] below meth c H locs 600000 7302250 (lw_Z below #[Value.ref b] s) (F0 m 918 ls []) := by
  obtain ⟨hx, hb, hr, hml, hown, hts, hX, hbl, hlocks, hgv⟩ := id C0
  have hbA : ¬ lA s b := Nat.not_le.mpr hbl
  have hS0 := hJ
  obtain ⟨_, _, _, _, _, _, _, _, _, _, _, _, _, _, hS0⟩ := hS0
  obtain ⟨sd, ks, hQ⟩ := hR.2.2.2.2.1
  obtain ⟨n1, r1, c1, ⟨z1, e1⟩, q1⟩ := ox_count hR.1 (i32_r (ya xs i 1))
  obtain ⟨n2, r2, c2, ⟨z2, e2⟩, q2⟩ := om_count hR.2.1 (i32_r (ya xs i 1))
  have fx := fx_count c1 hR.2.2.1.1
  have fm := fm_count c2 (gK_of hR.2.1.g)
  have hRR : RR r1.2 r2.2 := (hR.2.2.1.kX fx.1 fx.2 rfl rfl rfl rfl).kM fm.2 rfl rfl
  have hDD : DT r1.2 r2.2 := (hR.2.2.2.1.kX (fx_count c1 hR.2.2.1.1).2 rfl rfl rfl rfl rfl).kM (fm_count c2 (gK_of hR.2.1.g)).2 rfl rfl rfl
  have hCA : CA r1.2 := hQ.2.1.k fx.2 rfl
  have hFT : FT r1.2 r2.2 := hR.2.2.2.2.2.2.2.k fx.2 fm.2 rfl rfl
  have hBK : BK r1.2 := hR.2.2.2.2.2.2.1.k fx.2 rfl
  have hRW : RW r1.2 r2.2 := hR.2.2.2.2.2.1.k fx.2 fm.2 rfl rfl
  have hXR : XR r1.2 r2.2 := hR.2.2.2.2.1.kk q1.1 q2.g fx.2 fm.2 rfl rfl rfl rfl
  refine lv_aload_n hx hb dL_law_918 rfl (lv_at hl 2 rfl) ?_
  refine lv_aload_n hx hb dL_law_919 rfl (lv_at hl 3 rfl) ?_
  refine lv_iload_n hx hb dL_law_920 rfl (lv_at hl 0 rfl) ?_
  refine lv_iconst (v := 1) hx hb dL_law_921 (by decide) ?_
  refine lv_iadd hx hb dL_law_922 ?_
  refine va_sld hx hb hX hbl hbA hS0 (lw_vin (k := 1) (j := 1) hL rfl (by omega) hi) dL_law_923 ?_
  refine W.eq (g2 := F0 m 924 ls [.int (ya xs i 1), .ref qx]) rfl ?_
  refine W.eq (g2 := F0 m 924 ls ((Value.ref qx :: List.map Value.int [ya xs i 1]).reverse ++ [])) rfl ?_
  refine lw_cX lk_924 hz_88 C0 hK hJ [ya xs i 1] hl.1 rfl (Nat.le_of_ble_eq_true rfl) c1 (Or.inl rfl) e1 (fun v1 H1 locs1 hv1 hJ1 => ?_)
  obtain ⟨y1, hy1, hz1⟩ := lwV_i hv1 e1
  subst hy1
  show W p l e room_1 s m #[Value.ref b] below meth c H1 locs1 600000 7302250 (lw_Z below #[Value.ref b] s) (F0 m 927 ls [.int y1])
  have hS1 := hJ1
  obtain ⟨_, _, _, _, _, _, _, _, _, _, _, _, _, _, hS1⟩ := hS1
  refine lv_pop hx hb dL_law_927 rfl ?_
  refine lv_aload_n hx hb dL_law_928 rfl (lv_at hl 1 rfl) ?_
  refine lv_aload_n hx hb dL_law_929 rfl (lv_at hl 3 rfl) ?_
  refine lv_iload_n hx hb dL_law_930 rfl (lv_at hl 0 rfl) ?_
  refine lv_iconst (v := 1) hx hb dL_law_931 (by decide) ?_
  refine lv_iadd hx hb dL_law_932 ?_
  refine va_sld hx hb hX hbl hbA hS1 (lw_vin (k := 1) (j := 1) hL rfl (by omega) hi) dL_law_933 ?_
  refine W.eq (g2 := F0 m 934 ls [.int (ya xs i 1), .ref qm]) rfl ?_
  refine W.eq (g2 := F0 m 934 ls ((Value.ref qm :: List.map Value.int [ya xs i 1]).reverse ++ [])) rfl ?_
  refine lw_cM lk_934 hz_135 C0 hK hJ1 [ya xs i 1] hl.1 rfl (Nat.le_of_ble_eq_true rfl) c2 (Or.inl rfl) e2 (fun v2 H2 locs2 hv2 hJ2 => ?_)
  obtain ⟨y2, hy2, hz2⟩ := lwV_i hv2 e2
  subst hy2
  show W p l e room_1 s m #[Value.ref b] below meth c H2 locs2 600000 7302250 (lw_Z below #[Value.ref b] s) (F0 m 937 ls [.int y2])
  refine lv_pop hx hb dL_law_937 rfl ?_
  refine lv_goto (tgt := 941) hx hb dL_law_938 (by decide) ?_
  exact K _ _ _ _ ⟨q1, q2, hRR, hDD, hXR, hRW, hBK, hFT⟩ hJ2
end
