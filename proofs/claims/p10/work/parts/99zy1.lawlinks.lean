theorem kw_743 : Cond.code ({ cls := "SeedBench", name := "table", desc := "(II)Z" } : MethodName) prog_1_method_2_code (3 : Nat) (Option.some FieldType.boolean) ∈ gT := gm_2 (List.mem_of_getElem? (i := 142) rfl) rfl
theorem kw_744 : Cond.methodLink "SeedBenchLaw" (13 : Nat) ({ cls := "SeedBench", name := "table", desc := "(II)Z" } : MethodName) ∈ gT := gm_2 (List.mem_of_getElem? (i := 139) rfl) rfl
theorem kw_745 : Cond.instanceMethod ({ cls := "SeedBench", name := "table", desc := "(II)Z" } : MethodName) ∈ gT := gm_2 (List.mem_of_getElem? (i := 140) rfl) rfl
theorem kw_746 : Cond.selects "SeedBench" ({ cls := "SeedBench", name := "table", desc := "(II)Z" } : MethodName) ({ cls := "SeedBench", name := "table", desc := "(II)Z" } : MethodName) ∈ gT := gm_2 (List.mem_of_getElem? (i := 141) rfl) rfl
theorem kw_747 : Cond.methodLink "SeedBenchLaw" (17 : Nat) ({ cls := "SeedBenchModel", name := "table", desc := "(II)Z" } : MethodName) ∈ gT := gm_5 (List.mem_of_getElem? (i := 81) rfl) rfl
theorem kw_748 : Cond.code ({ cls := "SeedBench", name := "arrows", desc := "(III)Z" } : MethodName) prog_1_method_3_code (4 : Nat) (Option.some FieldType.boolean) ∈ gT := gm_2 (List.mem_of_getElem? (i := 153) rfl) rfl
theorem kw_749 : Cond.methodLink "SeedBenchLaw" (18 : Nat) ({ cls := "SeedBench", name := "arrows", desc := "(III)Z" } : MethodName) ∈ gT := gm_2 (List.mem_of_getElem? (i := 150) rfl) rfl
theorem kw_750 : Cond.instanceMethod ({ cls := "SeedBench", name := "arrows", desc := "(III)Z" } : MethodName) ∈ gT := gm_2 (List.mem_of_getElem? (i := 151) rfl) rfl
theorem kw_751 : Cond.selects "SeedBench" ({ cls := "SeedBench", name := "arrows", desc := "(III)Z" } : MethodName) ({ cls := "SeedBench", name := "arrows", desc := "(III)Z" } : MethodName) ∈ gT := gm_2 (List.mem_of_getElem? (i := 152) rfl) rfl
theorem kw_752 : Cond.code ({ cls := "SeedBenchModel", name := "arrows", desc := "(III)Z" } : MethodName) prog_12_method_16_code (4 : Nat) (Option.some FieldType.boolean) ∈ gT := gm_5 (List.mem_of_getElem? (i := 88) rfl) rfl
theorem kw_753 : Cond.methodLink "SeedBenchLaw" (22 : Nat) ({ cls := "SeedBenchModel", name := "arrows", desc := "(III)Z" } : MethodName) ∈ gT := gm_5 (List.mem_of_getElem? (i := 85) rfl) rfl
theorem kw_754 : Cond.instanceMethod ({ cls := "SeedBenchModel", name := "arrows", desc := "(III)Z" } : MethodName) ∈ gT := gm_5 (List.mem_of_getElem? (i := 86) rfl) rfl
theorem kw_755 : Cond.selects "SeedBenchModel" ({ cls := "SeedBenchModel", name := "arrows", desc := "(III)Z" } : MethodName) ({ cls := "SeedBenchModel", name := "arrows", desc := "(III)Z" } : MethodName) ∈ gT := gm_5 (List.mem_of_getElem? (i := 87) rfl) rfl
theorem kw_756 : Cond.code ({ cls := "SeedBench", name := "begin", desc := "()I" } : MethodName) prog_1_method_4_code (2 : Nat) (Option.some FieldType.int) ∈ gT := gm_2 (List.mem_of_getElem? (i := 160) rfl) rfl
theorem kw_757 : Cond.methodLink "SeedBenchLaw" (23 : Nat) ({ cls := "SeedBench", name := "begin", desc := "()I" } : MethodName) ∈ gT := gm_2 (List.mem_of_getElem? (i := 157) rfl) rfl
theorem kw_758 : Cond.instanceMethod ({ cls := "SeedBench", name := "begin", desc := "()I" } : MethodName) ∈ gT := gm_2 (List.mem_of_getElem? (i := 158) rfl) rfl
theorem kw_759 : Cond.selects "SeedBench" ({ cls := "SeedBench", name := "begin", desc := "()I" } : MethodName) ({ cls := "SeedBench", name := "begin", desc := "()I" } : MethodName) ∈ gT := gm_2 (List.mem_of_getElem? (i := 159) rfl) rfl
theorem kw_760 : Cond.methodLink "SeedBenchLaw" (27 : Nat) ({ cls := "SeedBenchModel", name := "begin", desc := "()I" } : MethodName) ∈ gT := gm_5 (List.mem_of_getElem? (i := 89) rfl) rfl
theorem kw_761 : Cond.code ({ cls := "SeedBench", name := "size", desc := "(I)I" } : MethodName) prog_1_method_5_code (2 : Nat) (Option.some FieldType.int) ∈ gT := gm_2 (List.mem_of_getElem? (i := 196) rfl) rfl
theorem kw_762 : Cond.methodLink "SeedBenchLaw" (28 : Nat) ({ cls := "SeedBench", name := "size", desc := "(I)I" } : MethodName) ∈ gT := gm_2 (List.mem_of_getElem? (i := 193) rfl) rfl
theorem kw_763 : Cond.instanceMethod ({ cls := "SeedBench", name := "size", desc := "(I)I" } : MethodName) ∈ gT := gm_2 (List.mem_of_getElem? (i := 194) rfl) rfl
theorem kw_764 : Cond.selects "SeedBench" ({ cls := "SeedBench", name := "size", desc := "(I)I" } : MethodName) ({ cls := "SeedBench", name := "size", desc := "(I)I" } : MethodName) ∈ gT := gm_2 (List.mem_of_getElem? (i := 195) rfl) rfl
theorem kw_765 : Cond.code ({ cls := "SeedBenchModel", name := "size", desc := "(I)I" } : MethodName) prog_12_method_25_code (2 : Nat) (Option.some FieldType.int) ∈ gT := gm_5 (List.mem_of_getElem? (i := 114) rfl) rfl
theorem kw_766 : Cond.methodLink "SeedBenchLaw" (32 : Nat) ({ cls := "SeedBenchModel", name := "size", desc := "(I)I" } : MethodName) ∈ gT := gm_5 (List.mem_of_getElem? (i := 111) rfl) rfl
theorem kw_767 : Cond.instanceMethod ({ cls := "SeedBenchModel", name := "size", desc := "(I)I" } : MethodName) ∈ gT := gm_5 (List.mem_of_getElem? (i := 112) rfl) rfl
theorem kw_768 : Cond.selects "SeedBenchModel" ({ cls := "SeedBenchModel", name := "size", desc := "(I)I" } : MethodName) ({ cls := "SeedBenchModel", name := "size", desc := "(I)I" } : MethodName) ∈ gT := gm_5 (List.mem_of_getElem? (i := 113) rfl) rfl
theorem kw_769 : Cond.code ({ cls := "SeedBench", name := "turn", desc := "(I)I" } : MethodName) prog_1_method_6_code (2 : Nat) (Option.some FieldType.int) ∈ gT := gm_2 (List.mem_of_getElem? (i := 204) rfl) rfl
theorem kw_770 : Cond.methodLink "SeedBenchLaw" (33 : Nat) ({ cls := "SeedBench", name := "turn", desc := "(I)I" } : MethodName) ∈ gT := gm_2 (List.mem_of_getElem? (i := 201) rfl) rfl
theorem kw_771 : Cond.instanceMethod ({ cls := "SeedBench", name := "turn", desc := "(I)I" } : MethodName) ∈ gT := gm_2 (List.mem_of_getElem? (i := 202) rfl) rfl
theorem kw_772 : Cond.selects "SeedBench" ({ cls := "SeedBench", name := "turn", desc := "(I)I" } : MethodName) ({ cls := "SeedBench", name := "turn", desc := "(I)I" } : MethodName) ∈ gT := gm_2 (List.mem_of_getElem? (i := 203) rfl) rfl
theorem kw_773 : Cond.code ({ cls := "SeedBenchModel", name := "turn", desc := "(I)I" } : MethodName) prog_12_method_30_code (2 : Nat) (Option.some FieldType.int) ∈ gT := gm_5 (List.mem_of_getElem? (i := 118) rfl) rfl
theorem kw_774 : Cond.methodLink "SeedBenchLaw" (36 : Nat) ({ cls := "SeedBenchModel", name := "turn", desc := "(I)I" } : MethodName) ∈ gT := gm_5 (List.mem_of_getElem? (i := 115) rfl) rfl
theorem kw_775 : Cond.instanceMethod ({ cls := "SeedBenchModel", name := "turn", desc := "(I)I" } : MethodName) ∈ gT := gm_5 (List.mem_of_getElem? (i := 116) rfl) rfl
theorem kw_776 : Cond.selects "SeedBenchModel" ({ cls := "SeedBenchModel", name := "turn", desc := "(I)I" } : MethodName) ({ cls := "SeedBenchModel", name := "turn", desc := "(I)I" } : MethodName) ∈ gT := gm_5 (List.mem_of_getElem? (i := 117) rfl) rfl
theorem kw_777 : Cond.code ({ cls := "SeedBench", name := "back", desc := "()Z" } : MethodName) prog_1_method_7_code (2 : Nat) (Option.some FieldType.boolean) ∈ gT := gm_3 (List.mem_of_getElem? (i := 29) rfl) rfl
theorem kw_778 : Cond.methodLink "SeedBenchLaw" (37 : Nat) ({ cls := "SeedBench", name := "back", desc := "()Z" } : MethodName) ∈ gT := gm_3 (List.mem_of_getElem? (i := 26) rfl) rfl
theorem kw_779 : Cond.instanceMethod ({ cls := "SeedBench", name := "back", desc := "()Z" } : MethodName) ∈ gT := gm_3 (List.mem_of_getElem? (i := 27) rfl) rfl
theorem kw_780 : Cond.selects "SeedBench" ({ cls := "SeedBench", name := "back", desc := "()Z" } : MethodName) ({ cls := "SeedBench", name := "back", desc := "()Z" } : MethodName) ∈ gT := gm_3 (List.mem_of_getElem? (i := 28) rfl) rfl
theorem kw_781 : Cond.code ({ cls := "SeedBenchModel", name := "back", desc := "()Z" } : MethodName) prog_12_method_31_code (1 : Nat) (Option.some FieldType.boolean) ∈ gT := gm_5 (List.mem_of_getElem? (i := 176) rfl) rfl
theorem kw_782 : Cond.methodLink "SeedBenchLaw" (41 : Nat) ({ cls := "SeedBenchModel", name := "back", desc := "()Z" } : MethodName) ∈ gT := gm_5 (List.mem_of_getElem? (i := 173) rfl) rfl
theorem kw_783 : Cond.instanceMethod ({ cls := "SeedBenchModel", name := "back", desc := "()Z" } : MethodName) ∈ gT := gm_5 (List.mem_of_getElem? (i := 174) rfl) rfl
theorem kw_784 : Cond.selects "SeedBenchModel" ({ cls := "SeedBenchModel", name := "back", desc := "()Z" } : MethodName) ({ cls := "SeedBenchModel", name := "back", desc := "()Z" } : MethodName) ∈ gT := gm_5 (List.mem_of_getElem? (i := 175) rfl) rfl
theorem kw_785 : Cond.code ({ cls := "SeedBench", name := "b", desc := "(II)I" } : MethodName) prog_1_method_8_code (3 : Nat) (Option.some FieldType.int) ∈ gT := gm_3 (List.mem_of_getElem? (i := 33) rfl) rfl
theorem kw_786 : Cond.methodLink "SeedBenchLaw" (42 : Nat) ({ cls := "SeedBench", name := "b", desc := "(II)I" } : MethodName) ∈ gT := gm_3 (List.mem_of_getElem? (i := 30) rfl) rfl
theorem kw_787 : Cond.instanceMethod ({ cls := "SeedBench", name := "b", desc := "(II)I" } : MethodName) ∈ gT := gm_3 (List.mem_of_getElem? (i := 31) rfl) rfl
theorem kw_788 : Cond.selects "SeedBench" ({ cls := "SeedBench", name := "b", desc := "(II)I" } : MethodName) ({ cls := "SeedBench", name := "b", desc := "(II)I" } : MethodName) ∈ gT := gm_3 (List.mem_of_getElem? (i := 32) rfl) rfl
theorem kw_789 : Cond.code ({ cls := "SeedBenchModel", name := "b", desc := "(II)I" } : MethodName) prog_12_method_32_code (3 : Nat) (Option.some FieldType.int) ∈ gT := gm_5 (List.mem_of_getElem? (i := 180) rfl) rfl
theorem kw_790 : Cond.methodLink "SeedBenchLaw" (46 : Nat) ({ cls := "SeedBenchModel", name := "b", desc := "(II)I" } : MethodName) ∈ gT := gm_5 (List.mem_of_getElem? (i := 177) rfl) rfl
theorem kw_791 : Cond.instanceMethod ({ cls := "SeedBenchModel", name := "b", desc := "(II)I" } : MethodName) ∈ gT := gm_5 (List.mem_of_getElem? (i := 178) rfl) rfl
theorem kw_792 : Cond.selects "SeedBenchModel" ({ cls := "SeedBenchModel", name := "b", desc := "(II)I" } : MethodName) ({ cls := "SeedBenchModel", name := "b", desc := "(II)I" } : MethodName) ∈ gT := gm_5 (List.mem_of_getElem? (i := 179) rfl) rfl
theorem kw_793 : Cond.code ({ cls := "SeedBench", name := "terms", desc := "(I)I" } : MethodName) prog_1_method_9_code (2 : Nat) (Option.some FieldType.int) ∈ gT := gm_3 (List.mem_of_getElem? (i := 37) rfl) rfl
theorem kw_794 : Cond.methodLink "SeedBenchLaw" (47 : Nat) ({ cls := "SeedBench", name := "terms", desc := "(I)I" } : MethodName) ∈ gT := gm_3 (List.mem_of_getElem? (i := 34) rfl) rfl
theorem kw_795 : Cond.instanceMethod ({ cls := "SeedBench", name := "terms", desc := "(I)I" } : MethodName) ∈ gT := gm_3 (List.mem_of_getElem? (i := 35) rfl) rfl
theorem kw_796 : Cond.selects "SeedBench" ({ cls := "SeedBench", name := "terms", desc := "(I)I" } : MethodName) ({ cls := "SeedBench", name := "terms", desc := "(I)I" } : MethodName) ∈ gT := gm_3 (List.mem_of_getElem? (i := 36) rfl) rfl
theorem kw_797 : Cond.code ({ cls := "SeedBenchModel", name := "terms", desc := "(I)I" } : MethodName) prog_12_method_33_code (2 : Nat) (Option.some FieldType.int) ∈ gT := gm_5 (List.mem_of_getElem? (i := 184) rfl) rfl
theorem kw_798 : Cond.methodLink "SeedBenchLaw" (50 : Nat) ({ cls := "SeedBenchModel", name := "terms", desc := "(I)I" } : MethodName) ∈ gT := gm_5 (List.mem_of_getElem? (i := 181) rfl) rfl
theorem kw_799 : Cond.instanceMethod ({ cls := "SeedBenchModel", name := "terms", desc := "(I)I" } : MethodName) ∈ gT := gm_5 (List.mem_of_getElem? (i := 182) rfl) rfl
theorem kw_800 : Cond.selects "SeedBenchModel" ({ cls := "SeedBenchModel", name := "terms", desc := "(I)I" } : MethodName) ({ cls := "SeedBenchModel", name := "terms", desc := "(I)I" } : MethodName) ∈ gT := gm_5 (List.mem_of_getElem? (i := 183) rfl) rfl
theorem kw_801 : Cond.code ({ cls := "SeedBench", name := "term", desc := "(III)J" } : MethodName) prog_1_method_10_code (5 : Nat) (Option.some FieldType.long) ∈ gT := gm_3 (List.mem_of_getElem? (i := 41) rfl) rfl
theorem kw_802 : Cond.methodLink "SeedBenchLaw" (51 : Nat) ({ cls := "SeedBench", name := "term", desc := "(III)J" } : MethodName) ∈ gT := gm_3 (List.mem_of_getElem? (i := 38) rfl) rfl
theorem kw_803 : Cond.instanceMethod ({ cls := "SeedBench", name := "term", desc := "(III)J" } : MethodName) ∈ gT := gm_3 (List.mem_of_getElem? (i := 39) rfl) rfl
theorem kw_804 : Cond.selects "SeedBench" ({ cls := "SeedBench", name := "term", desc := "(III)J" } : MethodName) ({ cls := "SeedBench", name := "term", desc := "(III)J" } : MethodName) ∈ gT := gm_3 (List.mem_of_getElem? (i := 40) rfl) rfl
theorem kw_805 : Cond.code ({ cls := "SeedBenchModel", name := "term", desc := "(III)J" } : MethodName) prog_12_method_34_code (4 : Nat) (Option.some FieldType.long) ∈ gT := gm_5 (List.mem_of_getElem? (i := 188) rfl) rfl
theorem kw_806 : Cond.methodLink "SeedBenchLaw" (55 : Nat) ({ cls := "SeedBenchModel", name := "term", desc := "(III)J" } : MethodName) ∈ gT := gm_5 (List.mem_of_getElem? (i := 185) rfl) rfl
theorem kw_807 : Cond.instanceMethod ({ cls := "SeedBenchModel", name := "term", desc := "(III)J" } : MethodName) ∈ gT := gm_5 (List.mem_of_getElem? (i := 186) rfl) rfl
theorem kw_808 : Cond.selects "SeedBenchModel" ({ cls := "SeedBenchModel", name := "term", desc := "(III)J" } : MethodName) ({ cls := "SeedBenchModel", name := "term", desc := "(III)J" } : MethodName) ∈ gT := gm_5 (List.mem_of_getElem? (i := 187) rfl) rfl
theorem kw_809 : Cond.code ({ cls := "SeedBench", name := "least", desc := "(II)I" } : MethodName) prog_1_method_11_code (3 : Nat) (Option.some FieldType.int) ∈ gT := gm_3 (List.mem_of_getElem? (i := 49) rfl) rfl
theorem kw_810 : Cond.methodLink "SeedBenchLaw" (56 : Nat) ({ cls := "SeedBench", name := "least", desc := "(II)I" } : MethodName) ∈ gT := gm_3 (List.mem_of_getElem? (i := 46) rfl) rfl
theorem kw_811 : Cond.instanceMethod ({ cls := "SeedBench", name := "least", desc := "(II)I" } : MethodName) ∈ gT := gm_3 (List.mem_of_getElem? (i := 47) rfl) rfl
theorem kw_812 : Cond.selects "SeedBench" ({ cls := "SeedBench", name := "least", desc := "(II)I" } : MethodName) ({ cls := "SeedBench", name := "least", desc := "(II)I" } : MethodName) ∈ gT := gm_3 (List.mem_of_getElem? (i := 48) rfl) rfl
theorem kw_813 : Cond.code ({ cls := "SeedBenchModel", name := "least", desc := "(II)I" } : MethodName) prog_12_method_37_code (3 : Nat) (Option.some FieldType.int) ∈ gT := gm_5 (List.mem_of_getElem? (i := 192) rfl) rfl
theorem kw_814 : Cond.methodLink "SeedBenchLaw" (59 : Nat) ({ cls := "SeedBenchModel", name := "least", desc := "(II)I" } : MethodName) ∈ gT := gm_5 (List.mem_of_getElem? (i := 189) rfl) rfl
theorem kw_815 : Cond.instanceMethod ({ cls := "SeedBenchModel", name := "least", desc := "(II)I" } : MethodName) ∈ gT := gm_5 (List.mem_of_getElem? (i := 190) rfl) rfl
theorem kw_816 : Cond.selects "SeedBenchModel" ({ cls := "SeedBenchModel", name := "least", desc := "(II)I" } : MethodName) ({ cls := "SeedBenchModel", name := "least", desc := "(II)I" } : MethodName) ∈ gT := gm_5 (List.mem_of_getElem? (i := 191) rfl) rfl
theorem kw_817 : Cond.code ({ cls := "SeedBench", name := "ones", desc := "(I)J" } : MethodName) prog_1_method_12_code (2 : Nat) (Option.some FieldType.long) ∈ gT := gm_3 (List.mem_of_getElem? (i := 60) rfl) rfl
theorem kw_818 : Cond.methodLink "SeedBenchLaw" (60 : Nat) ({ cls := "SeedBench", name := "ones", desc := "(I)J" } : MethodName) ∈ gT := gm_3 (List.mem_of_getElem? (i := 57) rfl) rfl
theorem kw_819 : Cond.instanceMethod ({ cls := "SeedBench", name := "ones", desc := "(I)J" } : MethodName) ∈ gT := gm_3 (List.mem_of_getElem? (i := 58) rfl) rfl
theorem kw_820 : Cond.selects "SeedBench" ({ cls := "SeedBench", name := "ones", desc := "(I)J" } : MethodName) ({ cls := "SeedBench", name := "ones", desc := "(I)J" } : MethodName) ∈ gT := gm_3 (List.mem_of_getElem? (i := 59) rfl) rfl
theorem kw_821 : Cond.code ({ cls := "SeedBenchModel", name := "ones", desc := "(I)J" } : MethodName) prog_12_method_38_code (2 : Nat) (Option.some FieldType.long) ∈ gT := gm_5 (List.mem_of_getElem? (i := 203) rfl) rfl
theorem kw_822 : Cond.methodLink "SeedBenchLaw" (64 : Nat) ({ cls := "SeedBenchModel", name := "ones", desc := "(I)J" } : MethodName) ∈ gT := gm_5 (List.mem_of_getElem? (i := 200) rfl) rfl
theorem kw_823 : Cond.instanceMethod ({ cls := "SeedBenchModel", name := "ones", desc := "(I)J" } : MethodName) ∈ gT := gm_5 (List.mem_of_getElem? (i := 201) rfl) rfl
theorem kw_824 : Cond.selects "SeedBenchModel" ({ cls := "SeedBenchModel", name := "ones", desc := "(I)J" } : MethodName) ({ cls := "SeedBenchModel", name := "ones", desc := "(I)J" } : MethodName) ∈ gT := gm_5 (List.mem_of_getElem? (i := 202) rfl) rfl
theorem kw_825 : Cond.code ({ cls := "SeedBench", name := "keep", desc := "(I)Z" } : MethodName) prog_1_method_13_code (2 : Nat) (Option.some FieldType.boolean) ∈ gT := gm_3 (List.mem_of_getElem? (i := 68) rfl) rfl
theorem kw_826 : Cond.methodLink "SeedBenchLaw" (65 : Nat) ({ cls := "SeedBench", name := "keep", desc := "(I)Z" } : MethodName) ∈ gT := gm_3 (List.mem_of_getElem? (i := 65) rfl) rfl
theorem kw_827 : Cond.instanceMethod ({ cls := "SeedBench", name := "keep", desc := "(I)Z" } : MethodName) ∈ gT := gm_3 (List.mem_of_getElem? (i := 66) rfl) rfl
theorem kw_828 : Cond.selects "SeedBench" ({ cls := "SeedBench", name := "keep", desc := "(I)Z" } : MethodName) ({ cls := "SeedBench", name := "keep", desc := "(I)Z" } : MethodName) ∈ gT := gm_3 (List.mem_of_getElem? (i := 67) rfl) rfl
theorem kw_829 : Cond.code ({ cls := "SeedBenchModel", name := "keep", desc := "(I)Z" } : MethodName) prog_12_method_39_code (3 : Nat) (Option.some FieldType.boolean) ∈ gT := gm_5 (List.mem_of_getElem? (i := 211) rfl) rfl
theorem kw_830 : Cond.methodLink "SeedBenchLaw" (69 : Nat) ({ cls := "SeedBenchModel", name := "keep", desc := "(I)Z" } : MethodName) ∈ gT := gm_5 (List.mem_of_getElem? (i := 208) rfl) rfl
theorem kw_831 : Cond.instanceMethod ({ cls := "SeedBenchModel", name := "keep", desc := "(I)Z" } : MethodName) ∈ gT := gm_5 (List.mem_of_getElem? (i := 209) rfl) rfl
theorem kw_832 : Cond.selects "SeedBenchModel" ({ cls := "SeedBenchModel", name := "keep", desc := "(I)Z" } : MethodName) ({ cls := "SeedBenchModel", name := "keep", desc := "(I)Z" } : MethodName) ∈ gT := gm_5 (List.mem_of_getElem? (i := 210) rfl) rfl
theorem kw_833 : Cond.code ({ cls := "SeedBench", name := "same", desc := "(I)I" } : MethodName) prog_1_method_14_code (2 : Nat) (Option.some FieldType.int) ∈ gT := gm_3 (List.mem_of_getElem? (i := 80) rfl) rfl
theorem kw_834 : Cond.methodLink "SeedBenchLaw" (70 : Nat) ({ cls := "SeedBench", name := "same", desc := "(I)I" } : MethodName) ∈ gT := gm_3 (List.mem_of_getElem? (i := 77) rfl) rfl
theorem kw_835 : Cond.instanceMethod ({ cls := "SeedBench", name := "same", desc := "(I)I" } : MethodName) ∈ gT := gm_3 (List.mem_of_getElem? (i := 78) rfl) rfl
theorem kw_836 : Cond.selects "SeedBench" ({ cls := "SeedBench", name := "same", desc := "(I)I" } : MethodName) ({ cls := "SeedBench", name := "same", desc := "(I)I" } : MethodName) ∈ gT := gm_3 (List.mem_of_getElem? (i := 79) rfl) rfl
theorem kw_837 : Cond.code ({ cls := "SeedBenchModel", name := "same", desc := "(I)I" } : MethodName) prog_12_method_40_code (5 : Nat) (Option.some FieldType.int) ∈ gT := gm_5 (List.mem_of_getElem? (i := 215) rfl) rfl
theorem kw_838 : Cond.methodLink "SeedBenchLaw" (73 : Nat) ({ cls := "SeedBenchModel", name := "same", desc := "(I)I" } : MethodName) ∈ gT := gm_5 (List.mem_of_getElem? (i := 212) rfl) rfl
theorem kw_839 : Cond.instanceMethod ({ cls := "SeedBenchModel", name := "same", desc := "(I)I" } : MethodName) ∈ gT := gm_5 (List.mem_of_getElem? (i := 213) rfl) rfl
theorem kw_840 : Cond.selects "SeedBenchModel" ({ cls := "SeedBenchModel", name := "same", desc := "(I)I" } : MethodName) ({ cls := "SeedBenchModel", name := "same", desc := "(I)I" } : MethodName) ∈ gT := gm_5 (List.mem_of_getElem? (i := 214) rfl) rfl
theorem kw_841 : Cond.code ({ cls := "SeedBench", name := "all", desc := "()I" } : MethodName) prog_1_method_15_code (2 : Nat) (Option.some FieldType.int) ∈ gT := gm_3 (List.mem_of_getElem? (i := 100) rfl) rfl
theorem kw_842 : Cond.methodLink "SeedBenchLaw" (74 : Nat) ({ cls := "SeedBench", name := "all", desc := "()I" } : MethodName) ∈ gT := gm_3 (List.mem_of_getElem? (i := 97) rfl) rfl
theorem kw_843 : Cond.instanceMethod ({ cls := "SeedBench", name := "all", desc := "()I" } : MethodName) ∈ gT := gm_3 (List.mem_of_getElem? (i := 98) rfl) rfl
theorem kw_844 : Cond.selects "SeedBench" ({ cls := "SeedBench", name := "all", desc := "()I" } : MethodName) ({ cls := "SeedBench", name := "all", desc := "()I" } : MethodName) ∈ gT := gm_3 (List.mem_of_getElem? (i := 99) rfl) rfl
theorem kw_845 : Cond.code ({ cls := "SeedBenchModel", name := "all", desc := "()I" } : MethodName) prog_12_method_48_code (4 : Nat) (Option.some FieldType.int) ∈ gT := gm_5 (List.mem_of_getElem? (i := 223) rfl) rfl
theorem kw_846 : Cond.methodLink "SeedBenchLaw" (77 : Nat) ({ cls := "SeedBenchModel", name := "all", desc := "()I" } : MethodName) ∈ gT := gm_5 (List.mem_of_getElem? (i := 220) rfl) rfl
theorem kw_847 : Cond.instanceMethod ({ cls := "SeedBenchModel", name := "all", desc := "()I" } : MethodName) ∈ gT := gm_5 (List.mem_of_getElem? (i := 221) rfl) rfl
theorem kw_848 : Cond.selects "SeedBenchModel" ({ cls := "SeedBenchModel", name := "all", desc := "()I" } : MethodName) ({ cls := "SeedBenchModel", name := "all", desc := "()I" } : MethodName) ∈ gT := gm_5 (List.mem_of_getElem? (i := 222) rfl) rfl
theorem kw_849 : Cond.code ({ cls := "SeedBench", name := "what", desc := "(II)J" } : MethodName) prog_1_method_16_code (3 : Nat) (Option.some FieldType.long) ∈ gT := gm_3 (List.mem_of_getElem? (i := 155) rfl) rfl
theorem kw_850 : Cond.methodLink "SeedBenchLaw" (78 : Nat) ({ cls := "SeedBench", name := "what", desc := "(II)J" } : MethodName) ∈ gT := gm_3 (List.mem_of_getElem? (i := 152) rfl) rfl
theorem kw_851 : Cond.instanceMethod ({ cls := "SeedBench", name := "what", desc := "(II)J" } : MethodName) ∈ gT := gm_3 (List.mem_of_getElem? (i := 153) rfl) rfl
theorem kw_852 : Cond.selects "SeedBench" ({ cls := "SeedBench", name := "what", desc := "(II)J" } : MethodName) ({ cls := "SeedBench", name := "what", desc := "(II)J" } : MethodName) ∈ gT := gm_3 (List.mem_of_getElem? (i := 154) rfl) rfl
theorem kw_853 : Cond.code ({ cls := "SeedBenchModel", name := "what", desc := "(II)J" } : MethodName) prog_12_method_49_code (3 : Nat) (Option.some FieldType.long) ∈ gT := gm_6 (List.mem_of_getElem? (i := 15) rfl) rfl
theorem kw_854 : Cond.methodLink "SeedBenchLaw" (82 : Nat) ({ cls := "SeedBenchModel", name := "what", desc := "(II)J" } : MethodName) ∈ gT := gm_6 (List.mem_of_getElem? (i := 12) rfl) rfl
theorem kw_855 : Cond.instanceMethod ({ cls := "SeedBenchModel", name := "what", desc := "(II)J" } : MethodName) ∈ gT := gm_6 (List.mem_of_getElem? (i := 13) rfl) rfl
theorem kw_856 : Cond.selects "SeedBenchModel" ({ cls := "SeedBenchModel", name := "what", desc := "(II)J" } : MethodName) ({ cls := "SeedBenchModel", name := "what", desc := "(II)J" } : MethodName) ∈ gT := gm_6 (List.mem_of_getElem? (i := 14) rfl) rfl
theorem kw_857 : Cond.code ({ cls := "SeedBench", name := "finite", desc := "()I" } : MethodName) prog_1_method_17_code (1 : Nat) (Option.some FieldType.int) ∈ gT := gm_3 (List.mem_of_getElem? (i := 164) rfl) rfl
theorem kw_858 : Cond.methodLink "SeedBenchLaw" (83 : Nat) ({ cls := "SeedBench", name := "finite", desc := "()I" } : MethodName) ∈ gT := gm_3 (List.mem_of_getElem? (i := 161) rfl) rfl
theorem kw_859 : Cond.instanceMethod ({ cls := "SeedBench", name := "finite", desc := "()I" } : MethodName) ∈ gT := gm_3 (List.mem_of_getElem? (i := 162) rfl) rfl
theorem kw_860 : Cond.selects "SeedBench" ({ cls := "SeedBench", name := "finite", desc := "()I" } : MethodName) ({ cls := "SeedBench", name := "finite", desc := "()I" } : MethodName) ∈ gT := gm_3 (List.mem_of_getElem? (i := 163) rfl) rfl
theorem kw_861 : Cond.code ({ cls := "SeedBenchModel", name := "finite", desc := "()I" } : MethodName) prog_12_method_54_code (2 : Nat) (Option.some FieldType.int) ∈ gT := gm_6 (List.mem_of_getElem? (i := 20) rfl) rfl
theorem kw_862 : Cond.methodLink "SeedBenchLaw" (86 : Nat) ({ cls := "SeedBenchModel", name := "finite", desc := "()I" } : MethodName) ∈ gT := gm_6 (List.mem_of_getElem? (i := 17) rfl) rfl
theorem kw_863 : Cond.instanceMethod ({ cls := "SeedBenchModel", name := "finite", desc := "()I" } : MethodName) ∈ gT := gm_6 (List.mem_of_getElem? (i := 18) rfl) rfl
theorem kw_864 : Cond.selects "SeedBenchModel" ({ cls := "SeedBenchModel", name := "finite", desc := "()I" } : MethodName) ({ cls := "SeedBenchModel", name := "finite", desc := "()I" } : MethodName) ∈ gT := gm_6 (List.mem_of_getElem? (i := 19) rfl) rfl
theorem kw_865 : Cond.code ({ cls := "SeedBench", name := "step", desc := "(I)I" } : MethodName) prog_1_method_18_code (2 : Nat) (Option.some FieldType.int) ∈ gT := gm_3 (List.mem_of_getElem? (i := 210) rfl) rfl
theorem kw_866 : Cond.methodLink "SeedBenchLaw" (87 : Nat) ({ cls := "SeedBench", name := "step", desc := "(I)I" } : MethodName) ∈ gT := gm_3 (List.mem_of_getElem? (i := 207) rfl) rfl
theorem kw_867 : Cond.instanceMethod ({ cls := "SeedBench", name := "step", desc := "(I)I" } : MethodName) ∈ gT := gm_3 (List.mem_of_getElem? (i := 208) rfl) rfl
theorem kw_868 : Cond.selects "SeedBench" ({ cls := "SeedBench", name := "step", desc := "(I)I" } : MethodName) ({ cls := "SeedBench", name := "step", desc := "(I)I" } : MethodName) ∈ gT := gm_3 (List.mem_of_getElem? (i := 209) rfl) rfl
theorem kw_869 : Cond.code ({ cls := "SeedBenchModel", name := "step", desc := "(I)I" } : MethodName) prog_12_method_56_code (2 : Nat) (Option.some FieldType.int) ∈ gT := gm_6 (List.mem_of_getElem? (i := 44) rfl) rfl
theorem kw_870 : Cond.methodLink "SeedBenchLaw" (90 : Nat) ({ cls := "SeedBenchModel", name := "step", desc := "(I)I" } : MethodName) ∈ gT := gm_6 (List.mem_of_getElem? (i := 41) rfl) rfl
theorem kw_871 : Cond.instanceMethod ({ cls := "SeedBenchModel", name := "step", desc := "(I)I" } : MethodName) ∈ gT := gm_6 (List.mem_of_getElem? (i := 42) rfl) rfl
theorem kw_872 : Cond.selects "SeedBenchModel" ({ cls := "SeedBenchModel", name := "step", desc := "(I)I" } : MethodName) ({ cls := "SeedBenchModel", name := "step", desc := "(I)I" } : MethodName) ∈ gT := gm_6 (List.mem_of_getElem? (i := 43) rfl) rfl
theorem kw_873 : Cond.code ({ cls := "SeedBench", name := "tables", desc := "()I" } : MethodName) prog_1_method_19_code (1 : Nat) (Option.some FieldType.int) ∈ gT := gm_3 (List.mem_of_getElem? (i := 214) rfl) rfl
theorem kw_874 : Cond.methodLink "SeedBenchLaw" (91 : Nat) ({ cls := "SeedBench", name := "tables", desc := "()I" } : MethodName) ∈ gT := gm_3 (List.mem_of_getElem? (i := 211) rfl) rfl
theorem kw_875 : Cond.instanceMethod ({ cls := "SeedBench", name := "tables", desc := "()I" } : MethodName) ∈ gT := gm_3 (List.mem_of_getElem? (i := 212) rfl) rfl
theorem kw_876 : Cond.selects "SeedBench" ({ cls := "SeedBench", name := "tables", desc := "()I" } : MethodName) ({ cls := "SeedBench", name := "tables", desc := "()I" } : MethodName) ∈ gT := gm_3 (List.mem_of_getElem? (i := 213) rfl) rfl
theorem kw_877 : Cond.code ({ cls := "SeedBenchModel", name := "tables", desc := "()I" } : MethodName) prog_12_method_57_code (1 : Nat) (Option.some FieldType.int) ∈ gT := gm_6 (List.mem_of_getElem? (i := 48) rfl) rfl
theorem kw_878 : Cond.methodLink "SeedBenchLaw" (94 : Nat) ({ cls := "SeedBenchModel", name := "tables", desc := "()I" } : MethodName) ∈ gT := gm_6 (List.mem_of_getElem? (i := 45) rfl) rfl
theorem kw_879 : Cond.instanceMethod ({ cls := "SeedBenchModel", name := "tables", desc := "()I" } : MethodName) ∈ gT := gm_6 (List.mem_of_getElem? (i := 46) rfl) rfl
theorem kw_880 : Cond.selects "SeedBenchModel" ({ cls := "SeedBenchModel", name := "tables", desc := "()I" } : MethodName) ({ cls := "SeedBenchModel", name := "tables", desc := "()I" } : MethodName) ∈ gT := gm_6 (List.mem_of_getElem? (i := 47) rfl) rfl
theorem kw_881 : Cond.code ({ cls := "SeedBench", name := "row", desc := "(III)Z" } : MethodName) prog_1_method_20_code (4 : Nat) (Option.some FieldType.boolean) ∈ gT := gm_3 (List.mem_of_getElem? (i := 218) rfl) rfl
theorem kw_882 : Cond.methodLink "SeedBenchLaw" (95 : Nat) ({ cls := "SeedBench", name := "row", desc := "(III)Z" } : MethodName) ∈ gT := gm_3 (List.mem_of_getElem? (i := 215) rfl) rfl
theorem kw_883 : Cond.instanceMethod ({ cls := "SeedBench", name := "row", desc := "(III)Z" } : MethodName) ∈ gT := gm_3 (List.mem_of_getElem? (i := 216) rfl) rfl
theorem kw_884 : Cond.selects "SeedBench" ({ cls := "SeedBench", name := "row", desc := "(III)Z" } : MethodName) ({ cls := "SeedBench", name := "row", desc := "(III)Z" } : MethodName) ∈ gT := gm_3 (List.mem_of_getElem? (i := 217) rfl) rfl
theorem kw_885 : Cond.code ({ cls := "SeedBenchModel", name := "row", desc := "(III)Z" } : MethodName) prog_12_method_58_code (5 : Nat) (Option.some FieldType.boolean) ∈ gT := gm_6 (List.mem_of_getElem? (i := 52) rfl) rfl
theorem kw_886 : Cond.methodLink "SeedBenchLaw" (98 : Nat) ({ cls := "SeedBenchModel", name := "row", desc := "(III)Z" } : MethodName) ∈ gT := gm_6 (List.mem_of_getElem? (i := 49) rfl) rfl
theorem kw_887 : Cond.instanceMethod ({ cls := "SeedBenchModel", name := "row", desc := "(III)Z" } : MethodName) ∈ gT := gm_6 (List.mem_of_getElem? (i := 50) rfl) rfl
theorem kw_888 : Cond.selects "SeedBenchModel" ({ cls := "SeedBenchModel", name := "row", desc := "(III)Z" } : MethodName) ({ cls := "SeedBenchModel", name := "row", desc := "(III)Z" } : MethodName) ∈ gT := gm_6 (List.mem_of_getElem? (i := 51) rfl) rfl
theorem kw_889 : Cond.code ({ cls := "SeedBench", name := "order", desc := "()I" } : MethodName) prog_1_method_21_code (2 : Nat) (Option.some FieldType.int) ∈ gT := gm_3 (List.mem_of_getElem? (i := 223) rfl) rfl
theorem kw_890 : Cond.methodLink "SeedBenchLaw" (99 : Nat) ({ cls := "SeedBench", name := "order", desc := "()I" } : MethodName) ∈ gT := gm_3 (List.mem_of_getElem? (i := 220) rfl) rfl
theorem kw_891 : Cond.instanceMethod ({ cls := "SeedBench", name := "order", desc := "()I" } : MethodName) ∈ gT := gm_3 (List.mem_of_getElem? (i := 221) rfl) rfl
theorem kw_892 : Cond.selects "SeedBench" ({ cls := "SeedBench", name := "order", desc := "()I" } : MethodName) ({ cls := "SeedBench", name := "order", desc := "()I" } : MethodName) ∈ gT := gm_3 (List.mem_of_getElem? (i := 222) rfl) rfl
theorem kw_893 : Cond.code ({ cls := "SeedBenchModel", name := "order", desc := "()I" } : MethodName) prog_12_method_59_code (5 : Nat) (Option.some FieldType.int) ∈ gT := gm_6 (List.mem_of_getElem? (i := 56) rfl) rfl
theorem kw_894 : Cond.methodLink "SeedBenchLaw" (102 : Nat) ({ cls := "SeedBenchModel", name := "order", desc := "()I" } : MethodName) ∈ gT := gm_6 (List.mem_of_getElem? (i := 53) rfl) rfl
theorem kw_895 : Cond.instanceMethod ({ cls := "SeedBenchModel", name := "order", desc := "()I" } : MethodName) ∈ gT := gm_6 (List.mem_of_getElem? (i := 54) rfl) rfl
theorem kw_896 : Cond.selects "SeedBenchModel" ({ cls := "SeedBenchModel", name := "order", desc := "()I" } : MethodName) ({ cls := "SeedBenchModel", name := "order", desc := "()I" } : MethodName) ∈ gT := gm_6 (List.mem_of_getElem? (i := 55) rfl) rfl
theorem kw_897 : Cond.code ({ cls := "SeedBench", name := "ring", desc := "(II)Z" } : MethodName) prog_1_method_22_code (3 : Nat) (Option.some FieldType.boolean) ∈ gT := gm_3 (List.mem_of_getElem? (i := 231) rfl) rfl
theorem kw_898 : Cond.methodLink "SeedBenchLaw" (103 : Nat) ({ cls := "SeedBench", name := "ring", desc := "(II)Z" } : MethodName) ∈ gT := gm_3 (List.mem_of_getElem? (i := 228) rfl) rfl
theorem kw_899 : Cond.instanceMethod ({ cls := "SeedBench", name := "ring", desc := "(II)Z" } : MethodName) ∈ gT := gm_3 (List.mem_of_getElem? (i := 229) rfl) rfl
theorem kw_900 : Cond.selects "SeedBench" ({ cls := "SeedBench", name := "ring", desc := "(II)Z" } : MethodName) ({ cls := "SeedBench", name := "ring", desc := "(II)Z" } : MethodName) ∈ gT := gm_3 (List.mem_of_getElem? (i := 230) rfl) rfl
theorem kw_901 : Cond.code ({ cls := "SeedBenchModel", name := "ring", desc := "(II)Z" } : MethodName) prog_12_method_62_code (4 : Nat) (Option.some FieldType.boolean) ∈ gT := gm_6 (List.mem_of_getElem? (i := 64) rfl) rfl
theorem kw_902 : Cond.methodLink "SeedBenchLaw" (106 : Nat) ({ cls := "SeedBenchModel", name := "ring", desc := "(II)Z" } : MethodName) ∈ gT := gm_6 (List.mem_of_getElem? (i := 61) rfl) rfl
theorem kw_903 : Cond.instanceMethod ({ cls := "SeedBenchModel", name := "ring", desc := "(II)Z" } : MethodName) ∈ gT := gm_6 (List.mem_of_getElem? (i := 62) rfl) rfl
theorem kw_904 : Cond.selects "SeedBenchModel" ({ cls := "SeedBenchModel", name := "ring", desc := "(II)Z" } : MethodName) ({ cls := "SeedBenchModel", name := "ring", desc := "(II)Z" } : MethodName) ∈ gT := gm_6 (List.mem_of_getElem? (i := 63) rfl) rfl
theorem kw_905 : Cond.code ({ cls := "SeedBench", name := "fence", desc := "(III)I" } : MethodName) prog_1_method_23_code (5 : Nat) (Option.some FieldType.int) ∈ gT := gm_3 (List.mem_of_getElem? (i := 238) rfl) rfl
theorem kw_906 : Cond.methodLink "SeedBenchLaw" (107 : Nat) ({ cls := "SeedBench", name := "fence", desc := "(III)I" } : MethodName) ∈ gT := gm_3 (List.mem_of_getElem? (i := 235) rfl) rfl
theorem kw_907 : Cond.instanceMethod ({ cls := "SeedBench", name := "fence", desc := "(III)I" } : MethodName) ∈ gT := gm_3 (List.mem_of_getElem? (i := 236) rfl) rfl
theorem kw_908 : Cond.selects "SeedBench" ({ cls := "SeedBench", name := "fence", desc := "(III)I" } : MethodName) ({ cls := "SeedBench", name := "fence", desc := "(III)I" } : MethodName) ∈ gT := gm_3 (List.mem_of_getElem? (i := 237) rfl) rfl
theorem kw_909 : Cond.code ({ cls := "SeedBenchModel", name := "fence", desc := "(III)I" } : MethodName) prog_12_method_66_code (7 : Nat) (Option.some FieldType.int) ∈ gT := gm_6 (List.mem_of_getElem? (i := 72) rfl) rfl
theorem kw_910 : Cond.methodLink "SeedBenchLaw" (111 : Nat) ({ cls := "SeedBenchModel", name := "fence", desc := "(III)I" } : MethodName) ∈ gT := gm_6 (List.mem_of_getElem? (i := 69) rfl) rfl
theorem kw_911 : Cond.instanceMethod ({ cls := "SeedBenchModel", name := "fence", desc := "(III)I" } : MethodName) ∈ gT := gm_6 (List.mem_of_getElem? (i := 70) rfl) rfl
theorem kw_912 : Cond.selects "SeedBenchModel" ({ cls := "SeedBenchModel", name := "fence", desc := "(III)I" } : MethodName) ({ cls := "SeedBenchModel", name := "fence", desc := "(III)I" } : MethodName) ∈ gT := gm_6 (List.mem_of_getElem? (i := 71) rfl) rfl
theorem kw_913 : Cond.code ({ cls := "SeedBench", name := "flip", desc := "(III)I" } : MethodName) prog_1_method_24_code (6 : Nat) (Option.some FieldType.int) ∈ gT := gm_4 (List.mem_of_getElem? (i := 35) rfl) rfl
theorem kw_914 : Cond.methodLink "SeedBenchLaw" (112 : Nat) ({ cls := "SeedBench", name := "flip", desc := "(III)I" } : MethodName) ∈ gT := gm_4 (List.mem_of_getElem? (i := 32) rfl) rfl
theorem kw_915 : Cond.instanceMethod ({ cls := "SeedBench", name := "flip", desc := "(III)I" } : MethodName) ∈ gT := gm_4 (List.mem_of_getElem? (i := 33) rfl) rfl
theorem kw_916 : Cond.selects "SeedBench" ({ cls := "SeedBench", name := "flip", desc := "(III)I" } : MethodName) ({ cls := "SeedBench", name := "flip", desc := "(III)I" } : MethodName) ∈ gT := gm_4 (List.mem_of_getElem? (i := 34) rfl) rfl
theorem kw_917 : Cond.code ({ cls := "SeedBenchModel", name := "flip", desc := "(III)I" } : MethodName) prog_12_method_72_code (5 : Nat) (Option.some FieldType.int) ∈ gT := gm_6 (List.mem_of_getElem? (i := 89) rfl) rfl
theorem kw_918 : Cond.methodLink "SeedBenchLaw" (115 : Nat) ({ cls := "SeedBenchModel", name := "flip", desc := "(III)I" } : MethodName) ∈ gT := gm_6 (List.mem_of_getElem? (i := 86) rfl) rfl
theorem kw_919 : Cond.instanceMethod ({ cls := "SeedBenchModel", name := "flip", desc := "(III)I" } : MethodName) ∈ gT := gm_6 (List.mem_of_getElem? (i := 87) rfl) rfl
theorem kw_920 : Cond.selects "SeedBenchModel" ({ cls := "SeedBenchModel", name := "flip", desc := "(III)I" } : MethodName) ({ cls := "SeedBenchModel", name := "flip", desc := "(III)I" } : MethodName) ∈ gT := gm_6 (List.mem_of_getElem? (i := 88) rfl) rfl
theorem kw_921 : Cond.code ({ cls := "SeedBench", name := "ringOf", desc := "(II)I" } : MethodName) prog_1_method_25_code (3 : Nat) (Option.some FieldType.int) ∈ gT := gm_4 (List.mem_of_getElem? (i := 55) rfl) rfl
theorem kw_922 : Cond.methodLink "SeedBenchLaw" (116 : Nat) ({ cls := "SeedBench", name := "ringOf", desc := "(II)I" } : MethodName) ∈ gT := gm_4 (List.mem_of_getElem? (i := 52) rfl) rfl
theorem kw_923 : Cond.instanceMethod ({ cls := "SeedBench", name := "ringOf", desc := "(II)I" } : MethodName) ∈ gT := gm_4 (List.mem_of_getElem? (i := 53) rfl) rfl
theorem kw_924 : Cond.selects "SeedBench" ({ cls := "SeedBench", name := "ringOf", desc := "(II)I" } : MethodName) ({ cls := "SeedBench", name := "ringOf", desc := "(II)I" } : MethodName) ∈ gT := gm_4 (List.mem_of_getElem? (i := 54) rfl) rfl
theorem kw_925 : Cond.code ({ cls := "SeedBenchModel", name := "ringOf", desc := "(II)I" } : MethodName) prog_12_method_75_code (3 : Nat) (Option.some FieldType.int) ∈ gT := gm_6 (List.mem_of_getElem? (i := 112) rfl) rfl
theorem kw_926 : Cond.methodLink "SeedBenchLaw" (119 : Nat) ({ cls := "SeedBenchModel", name := "ringOf", desc := "(II)I" } : MethodName) ∈ gT := gm_6 (List.mem_of_getElem? (i := 109) rfl) rfl
theorem kw_927 : Cond.instanceMethod ({ cls := "SeedBenchModel", name := "ringOf", desc := "(II)I" } : MethodName) ∈ gT := gm_6 (List.mem_of_getElem? (i := 110) rfl) rfl
theorem kw_928 : Cond.selects "SeedBenchModel" ({ cls := "SeedBenchModel", name := "ringOf", desc := "(II)I" } : MethodName) ({ cls := "SeedBenchModel", name := "ringOf", desc := "(II)I" } : MethodName) ∈ gT := gm_6 (List.mem_of_getElem? (i := 111) rfl) rfl
theorem kw_929 : Cond.code ({ cls := "SeedBench", name := "frieze", desc := "(III)J" } : MethodName) prog_1_method_26_code (4 : Nat) (Option.some FieldType.long) ∈ gT := gm_4 (List.mem_of_getElem? (i := 72) rfl) rfl
theorem kw_930 : Cond.methodLink "SeedBenchLaw" (120 : Nat) ({ cls := "SeedBench", name := "frieze", desc := "(III)J" } : MethodName) ∈ gT := gm_4 (List.mem_of_getElem? (i := 69) rfl) rfl
theorem kw_931 : Cond.instanceMethod ({ cls := "SeedBench", name := "frieze", desc := "(III)J" } : MethodName) ∈ gT := gm_4 (List.mem_of_getElem? (i := 70) rfl) rfl
theorem kw_932 : Cond.selects "SeedBench" ({ cls := "SeedBench", name := "frieze", desc := "(III)J" } : MethodName) ({ cls := "SeedBench", name := "frieze", desc := "(III)J" } : MethodName) ∈ gT := gm_4 (List.mem_of_getElem? (i := 71) rfl) rfl
theorem kw_933 : Cond.code ({ cls := "SeedBenchModel", name := "frieze", desc := "(III)J" } : MethodName) prog_12_method_76_code (11 : Nat) (Option.some FieldType.long) ∈ gT := gm_6 (List.mem_of_getElem? (i := 124) rfl) rfl
theorem kw_934 : Cond.methodLink "SeedBenchLaw" (123 : Nat) ({ cls := "SeedBenchModel", name := "frieze", desc := "(III)J" } : MethodName) ∈ gT := gm_6 (List.mem_of_getElem? (i := 121) rfl) rfl
theorem kw_935 : Cond.instanceMethod ({ cls := "SeedBenchModel", name := "frieze", desc := "(III)J" } : MethodName) ∈ gT := gm_6 (List.mem_of_getElem? (i := 122) rfl) rfl
theorem kw_936 : Cond.selects "SeedBenchModel" ({ cls := "SeedBenchModel", name := "frieze", desc := "(III)J" } : MethodName) ({ cls := "SeedBenchModel", name := "frieze", desc := "(III)J" } : MethodName) ∈ gT := gm_6 (List.mem_of_getElem? (i := 123) rfl) rfl
theorem kw_937 : Cond.code ({ cls := "SeedBench", name := "way", desc := "()I" } : MethodName) prog_1_method_27_code (1 : Nat) (Option.some FieldType.int) ∈ gT := gm_4 (List.mem_of_getElem? (i := 80) rfl) rfl
theorem kw_938 : Cond.methodLink "SeedBenchLaw" (124 : Nat) ({ cls := "SeedBench", name := "way", desc := "()I" } : MethodName) ∈ gT := gm_4 (List.mem_of_getElem? (i := 77) rfl) rfl
theorem kw_939 : Cond.instanceMethod ({ cls := "SeedBench", name := "way", desc := "()I" } : MethodName) ∈ gT := gm_4 (List.mem_of_getElem? (i := 78) rfl) rfl
theorem kw_940 : Cond.selects "SeedBench" ({ cls := "SeedBench", name := "way", desc := "()I" } : MethodName) ({ cls := "SeedBench", name := "way", desc := "()I" } : MethodName) ∈ gT := gm_4 (List.mem_of_getElem? (i := 79) rfl) rfl
theorem kw_941 : Cond.code ({ cls := "SeedBenchModel", name := "way", desc := "()I" } : MethodName) prog_12_method_80_code (10 : Nat) (Option.some FieldType.int) ∈ gT := gm_6 (List.mem_of_getElem? (i := 128) rfl) rfl
theorem kw_942 : Cond.methodLink "SeedBenchLaw" (127 : Nat) ({ cls := "SeedBenchModel", name := "way", desc := "()I" } : MethodName) ∈ gT := gm_6 (List.mem_of_getElem? (i := 125) rfl) rfl
theorem kw_943 : Cond.instanceMethod ({ cls := "SeedBenchModel", name := "way", desc := "()I" } : MethodName) ∈ gT := gm_6 (List.mem_of_getElem? (i := 126) rfl) rfl
theorem kw_944 : Cond.selects "SeedBenchModel" ({ cls := "SeedBenchModel", name := "way", desc := "()I" } : MethodName) ({ cls := "SeedBenchModel", name := "way", desc := "()I" } : MethodName) ∈ gT := gm_6 (List.mem_of_getElem? (i := 127) rfl) rfl
theorem kw_945 : Cond.code ({ cls := "SeedBench", name := "goes", desc := "(I)I" } : MethodName) prog_1_method_28_code (2 : Nat) (Option.some FieldType.int) ∈ gT := gm_4 (List.mem_of_getElem? (i := 107) rfl) rfl
theorem kw_946 : Cond.methodLink "SeedBenchLaw" (128 : Nat) ({ cls := "SeedBench", name := "goes", desc := "(I)I" } : MethodName) ∈ gT := gm_4 (List.mem_of_getElem? (i := 104) rfl) rfl
theorem kw_947 : Cond.instanceMethod ({ cls := "SeedBench", name := "goes", desc := "(I)I" } : MethodName) ∈ gT := gm_4 (List.mem_of_getElem? (i := 105) rfl) rfl
theorem kw_948 : Cond.selects "SeedBench" ({ cls := "SeedBench", name := "goes", desc := "(I)I" } : MethodName) ({ cls := "SeedBench", name := "goes", desc := "(I)I" } : MethodName) ∈ gT := gm_4 (List.mem_of_getElem? (i := 106) rfl) rfl
theorem kw_949 : Cond.code ({ cls := "SeedBenchModel", name := "goes", desc := "(I)I" } : MethodName) prog_12_method_81_code (2 : Nat) (Option.some FieldType.int) ∈ gT := gm_6 (List.mem_of_getElem? (i := 144) rfl) rfl
theorem kw_950 : Cond.methodLink "SeedBenchLaw" (131 : Nat) ({ cls := "SeedBenchModel", name := "goes", desc := "(I)I" } : MethodName) ∈ gT := gm_6 (List.mem_of_getElem? (i := 141) rfl) rfl
theorem kw_951 : Cond.instanceMethod ({ cls := "SeedBenchModel", name := "goes", desc := "(I)I" } : MethodName) ∈ gT := gm_6 (List.mem_of_getElem? (i := 142) rfl) rfl
theorem kw_952 : Cond.selects "SeedBenchModel" ({ cls := "SeedBenchModel", name := "goes", desc := "(I)I" } : MethodName) ({ cls := "SeedBenchModel", name := "goes", desc := "(I)I" } : MethodName) ∈ gT := gm_6 (List.mem_of_getElem? (i := 143) rfl) rfl
theorem kw_953 : Cond.code ({ cls := "SeedBench", name := "seed", desc := "(I)Z" } : MethodName) prog_1_method_29_code (2 : Nat) (Option.some FieldType.boolean) ∈ gT := gm_4 (List.mem_of_getElem? (i := 111) rfl) rfl
theorem kw_954 : Cond.methodLink "SeedBenchLaw" (132 : Nat) ({ cls := "SeedBench", name := "seed", desc := "(I)Z" } : MethodName) ∈ gT := gm_4 (List.mem_of_getElem? (i := 108) rfl) rfl
theorem kw_955 : Cond.instanceMethod ({ cls := "SeedBench", name := "seed", desc := "(I)Z" } : MethodName) ∈ gT := gm_4 (List.mem_of_getElem? (i := 109) rfl) rfl
theorem kw_956 : Cond.selects "SeedBench" ({ cls := "SeedBench", name := "seed", desc := "(I)Z" } : MethodName) ({ cls := "SeedBench", name := "seed", desc := "(I)Z" } : MethodName) ∈ gT := gm_4 (List.mem_of_getElem? (i := 110) rfl) rfl
theorem kw_957 : Cond.code ({ cls := "SeedBenchModel", name := "seed", desc := "(I)Z" } : MethodName) prog_12_method_84_code (10 : Nat) (Option.some FieldType.boolean) ∈ gT := gm_6 (List.mem_of_getElem? (i := 148) rfl) rfl
theorem kw_958 : Cond.methodLink "SeedBenchLaw" (135 : Nat) ({ cls := "SeedBenchModel", name := "seed", desc := "(I)Z" } : MethodName) ∈ gT := gm_6 (List.mem_of_getElem? (i := 145) rfl) rfl
theorem kw_959 : Cond.instanceMethod ({ cls := "SeedBenchModel", name := "seed", desc := "(I)Z" } : MethodName) ∈ gT := gm_6 (List.mem_of_getElem? (i := 146) rfl) rfl
theorem kw_960 : Cond.selects "SeedBenchModel" ({ cls := "SeedBenchModel", name := "seed", desc := "(I)Z" } : MethodName) ({ cls := "SeedBenchModel", name := "seed", desc := "(I)Z" } : MethodName) ∈ gT := gm_6 (List.mem_of_getElem? (i := 147) rfl) rfl
theorem kw_961 : Cond.code ({ cls := "SeedBench", name := "count", desc := "(I)I" } : MethodName) prog_1_method_30_code (2 : Nat) (Option.some FieldType.int) ∈ gT := gm_4 (List.mem_of_getElem? (i := 126) rfl) rfl
theorem kw_962 : Cond.methodLink "SeedBenchLaw" (136 : Nat) ({ cls := "SeedBench", name := "count", desc := "(I)I" } : MethodName) ∈ gT := gm_4 (List.mem_of_getElem? (i := 123) rfl) rfl
theorem kw_963 : Cond.instanceMethod ({ cls := "SeedBench", name := "count", desc := "(I)I" } : MethodName) ∈ gT := gm_4 (List.mem_of_getElem? (i := 124) rfl) rfl
theorem kw_964 : Cond.selects "SeedBench" ({ cls := "SeedBench", name := "count", desc := "(I)I" } : MethodName) ({ cls := "SeedBench", name := "count", desc := "(I)I" } : MethodName) ∈ gT := gm_4 (List.mem_of_getElem? (i := 125) rfl) rfl
theorem kw_965 : Cond.code ({ cls := "SeedBenchModel", name := "count", desc := "(I)I" } : MethodName) prog_12_method_85_code (4 : Nat) (Option.some FieldType.int) ∈ gT := gm_6 (List.mem_of_getElem? (i := 162) rfl) rfl
theorem kw_966 : Cond.methodLink "SeedBenchLaw" (139 : Nat) ({ cls := "SeedBenchModel", name := "count", desc := "(I)I" } : MethodName) ∈ gT := gm_6 (List.mem_of_getElem? (i := 159) rfl) rfl
theorem kw_967 : Cond.instanceMethod ({ cls := "SeedBenchModel", name := "count", desc := "(I)I" } : MethodName) ∈ gT := gm_6 (List.mem_of_getElem? (i := 160) rfl) rfl
theorem kw_968 : Cond.selects "SeedBenchModel" ({ cls := "SeedBenchModel", name := "count", desc := "(I)I" } : MethodName) ({ cls := "SeedBenchModel", name := "count", desc := "(I)I" } : MethodName) ∈ gT := gm_6 (List.mem_of_getElem? (i := 161) rfl) rfl
theorem kw_969 : Cond.code ({ cls := "SeedBench", name := "<init>", desc := "()V" } : MethodName) prog_1_method_1_code (2 : Nat) (Option.none : Option FieldType) ∈ gT := gm_1 (List.mem_of_getElem? (i := 21) rfl) rfl
theorem kw_970 : Cond.methodLink "SeedBenchLaw" (9 : Nat) ({ cls := "SeedBench", name := "<init>", desc := "()V" } : MethodName) ∈ gT := gm_1 (List.mem_of_getElem? (i := 19) rfl) rfl
theorem kw_971 : Cond.instanceMethod ({ cls := "SeedBench", name := "<init>", desc := "()V" } : MethodName) ∈ gT := gm_1 (List.mem_of_getElem? (i := 20) rfl) rfl
theorem kw_972 : Cond.code ({ cls := "SeedBenchModel", name := "<init>", desc := "()V" } : MethodName) prog_12_method_2_code (1 : Nat) (Option.none : Option FieldType) ∈ gT := gm_4 (List.mem_of_getElem? (i := 135) rfl) rfl
theorem kw_973 : Cond.methodLink "SeedBenchLaw" (12 : Nat) ({ cls := "SeedBenchModel", name := "<init>", desc := "()V" } : MethodName) ∈ gT := gm_4 (List.mem_of_getElem? (i := 133) rfl) rfl
theorem kw_974 : Cond.instanceMethod ({ cls := "SeedBenchModel", name := "<init>", desc := "()V" } : MethodName) ∈ gT := gm_4 (List.mem_of_getElem? (i := 134) rfl) rfl
theorem hz_111 : (mt 111).2.2.2.2.1.cells = 0 ∧ (mt 111).2.2.2.2.1.slots = 0 := by
  rw [show mt 111 = m_X9_table from rfl]
  exact ⟨rfl, rfl⟩
theorem hz_187 : (mt 187).2.2.2.2.1.cells = 0 ∧ (mt 187).2.2.2.2.1.slots = 0 := by
  rw [show mt 187 = m_X10_table from rfl]
  exact ⟨rfl, rfl⟩
theorem hz_84 : (mt 84).2.2.2.2.1.cells = 0 ∧ (mt 84).2.2.2.2.1.slots = 0 := by
  rw [show mt 84 = m_X9_arrows from rfl]
  exact ⟨rfl, rfl⟩
theorem hz_126 : (mt 126).2.2.2.2.1.cells = 0 ∧ (mt 126).2.2.2.2.1.slots = 0 := by
  rw [show mt 126 = m_X10_arrows from rfl]
  exact ⟨rfl, rfl⟩
theorem hz_87 : (mt 87).2.2.2.2.1.cells = 0 ∧ (mt 87).2.2.2.2.1.slots = 0 := by
  rw [show mt 87 = m_X9_begin from rfl]
  exact ⟨rfl, rfl⟩
theorem hz_129 : (mt 129).2.2.2.2.1.cells = 0 ∧ (mt 129).2.2.2.2.1.slots = 0 := by
  rw [show mt 129 = m_X10_begin from rfl]
  exact ⟨rfl, rfl⟩
theorem hz_108 : (mt 108).2.2.2.2.1.cells = 0 ∧ (mt 108).2.2.2.2.1.slots = 0 := by
  rw [show mt 108 = m_X9_size from rfl]
  exact ⟨rfl, rfl⟩
theorem hz_184 : (mt 184).2.2.2.2.1.cells = 0 ∧ (mt 184).2.2.2.2.1.slots = 0 := by
  rw [show mt 184 = m_X10_size from rfl]
  exact ⟨rfl, rfl⟩
theorem hz_115 : (mt 115).2.2.2.2.1.cells = 0 ∧ (mt 115).2.2.2.2.1.slots = 0 := by
  rw [show mt 115 = m_X9_turn from rfl]
  exact ⟨rfl, rfl⟩
theorem hz_198 : (mt 198).2.2.2.2.1.cells = 0 ∧ (mt 198).2.2.2.2.1.slots = 0 := by
  rw [show mt 198 = m_X10_turn from rfl]
  exact ⟨rfl, rfl⟩
theorem hz_86 : (mt 86).2.2.2.2.1.cells = 0 ∧ (mt 86).2.2.2.2.1.slots = 0 := by
  rw [show mt 86 = m_X9_back from rfl]
  exact ⟨rfl, rfl⟩
theorem hz_128 : (mt 128).2.2.2.2.1.cells = 0 ∧ (mt 128).2.2.2.2.1.slots = 0 := by
  rw [show mt 128 = m_X10_back from rfl]
  exact ⟨rfl, rfl⟩
theorem hz_85 : (mt 85).2.2.2.2.1.cells = 0 ∧ (mt 85).2.2.2.2.1.slots = 0 := by
  rw [show mt 85 = m_X9_b from rfl]
  exact ⟨rfl, rfl⟩
theorem hz_127 : (mt 127).2.2.2.2.1.cells = 0 ∧ (mt 127).2.2.2.2.1.slots = 0 := by
  rw [show mt 127 = m_X10_b from rfl]
  exact ⟨rfl, rfl⟩
theorem hz_114 : (mt 114).2.2.2.2.1.cells = 0 ∧ (mt 114).2.2.2.2.1.slots = 0 := by
  rw [show mt 114 = m_X9_terms from rfl]
  exact ⟨rfl, rfl⟩
theorem hz_194 : (mt 194).2.2.2.2.1.cells = 0 ∧ (mt 194).2.2.2.2.1.slots = 0 := by
  rw [show mt 194 = m_X10_terms from rfl]
  exact ⟨rfl, rfl⟩
theorem hz_113 : (mt 113).2.2.2.2.1.cells = 0 ∧ (mt 113).2.2.2.2.1.slots = 0 := by
  rw [show mt 113 = m_X9_term from rfl]
  exact ⟨rfl, rfl⟩
theorem hz_193 : (mt 193).2.2.2.2.1.cells = 0 ∧ (mt 193).2.2.2.2.1.slots = 0 := by
  rw [show mt 193 = m_X10_term from rfl]
  exact ⟨rfl, rfl⟩
theorem hz_100 : (mt 100).2.2.2.2.1.cells = 0 ∧ (mt 100).2.2.2.2.1.slots = 0 := by
  rw [show mt 100 = m_X9_least from rfl]
  exact ⟨rfl, rfl⟩
theorem hz_162 : (mt 162).2.2.2.2.1.cells = 0 ∧ (mt 162).2.2.2.2.1.slots = 0 := by
  rw [show mt 162 = m_X10_least from rfl]
  exact ⟨rfl, rfl⟩
theorem hz_101 : (mt 101).2.2.2.2.1.cells = 0 ∧ (mt 101).2.2.2.2.1.slots = 0 := by
  rw [show mt 101 = m_X9_ones from rfl]
  exact ⟨rfl, rfl⟩
theorem hz_169 : (mt 169).2.2.2.2.1.cells = 0 ∧ (mt 169).2.2.2.2.1.slots = 0 := by
  rw [show mt 169 = m_X10_ones from rfl]
  exact ⟨rfl, rfl⟩
theorem hz_99 : (mt 99).2.2.2.2.1.cells = 0 ∧ (mt 99).2.2.2.2.1.slots = 0 := by
  rw [show mt 99 = m_X9_keep from rfl]
  exact ⟨rfl, rfl⟩
theorem hz_160 : (mt 160).2.2.2.2.1.cells = 0 ∧ (mt 160).2.2.2.2.1.slots = 0 := by
  rw [show mt 160 = m_X10_keep from rfl]
  exact ⟨rfl, rfl⟩
theorem hz_106 : (mt 106).2.2.2.2.1.cells = 0 ∧ (mt 106).2.2.2.2.1.slots = 0 := by
  rw [show mt 106 = m_X9_same from rfl]
  exact ⟨rfl, rfl⟩
theorem hz_180 : (mt 180).2.2.2.2.1.cells = 0 ∧ (mt 180).2.2.2.2.1.slots = 0 := by
  rw [show mt 180 = m_X10_same from rfl]
  exact ⟨rfl, rfl⟩
theorem hz_83 : (mt 83).2.2.2.2.1.cells = 0 ∧ (mt 83).2.2.2.2.1.slots = 0 := by
  rw [show mt 83 = m_X9_all from rfl]
  exact ⟨rfl, rfl⟩
theorem hz_123 : (mt 123).2.2.2.2.1.cells = 0 ∧ (mt 123).2.2.2.2.1.slots = 0 := by
  rw [show mt 123 = m_X10_all from rfl]
  exact ⟨rfl, rfl⟩
theorem hz_120 : (mt 120).2.2.2.2.1.cells = 0 ∧ (mt 120).2.2.2.2.1.slots = 0 := by
  rw [show mt 120 = m_X9_what from rfl]
  exact ⟨rfl, rfl⟩
theorem hz_203 : (mt 203).2.2.2.2.1.cells = 0 ∧ (mt 203).2.2.2.2.1.slots = 0 := by
  rw [show mt 203 = m_X10_what from rfl]
  exact ⟨rfl, rfl⟩
theorem hz_90 : (mt 90).2.2.2.2.1.cells = 0 ∧ (mt 90).2.2.2.2.1.slots = 0 := by
  rw [show mt 90 = m_X9_finite from rfl]
  exact ⟨rfl, rfl⟩
theorem hz_141 : (mt 141).2.2.2.2.1.cells = 0 ∧ (mt 141).2.2.2.2.1.slots = 0 := by
  rw [show mt 141 = m_X10_finite from rfl]
  exact ⟨rfl, rfl⟩
theorem hz_110 : (mt 110).2.2.2.2.1.cells = 0 ∧ (mt 110).2.2.2.2.1.slots = 0 := by
  rw [show mt 110 = m_X9_step from rfl]
  exact ⟨rfl, rfl⟩
theorem hz_185 : (mt 185).2.2.2.2.1.cells = 0 ∧ (mt 185).2.2.2.2.1.slots = 0 := by
  rw [show mt 185 = m_X10_step from rfl]
  exact ⟨rfl, rfl⟩
theorem hz_112 : (mt 112).2.2.2.2.1.cells = 0 ∧ (mt 112).2.2.2.2.1.slots = 0 := by
  rw [show mt 112 = m_X9_tables from rfl]
  exact ⟨rfl, rfl⟩
theorem hz_189 : (mt 189).2.2.2.2.1.cells = 0 ∧ (mt 189).2.2.2.2.1.slots = 0 := by
  rw [show mt 189 = m_X10_tables from rfl]
  exact ⟨rfl, rfl⟩
theorem hz_105 : (mt 105).2.2.2.2.1.cells = 0 ∧ (mt 105).2.2.2.2.1.slots = 0 := by
  rw [show mt 105 = m_X9_row from rfl]
  exact ⟨rfl, rfl⟩
theorem hz_179 : (mt 179).2.2.2.2.1.cells = 0 ∧ (mt 179).2.2.2.2.1.slots = 0 := by
  rw [show mt 179 = m_X10_row from rfl]
  exact ⟨rfl, rfl⟩
theorem hz_102 : (mt 102).2.2.2.2.1.cells = 0 ∧ (mt 102).2.2.2.2.1.slots = 0 := by
  rw [show mt 102 = m_X9_order from rfl]
  exact ⟨rfl, rfl⟩
theorem hz_170 : (mt 170).2.2.2.2.1.cells = 0 ∧ (mt 170).2.2.2.2.1.slots = 0 := by
  rw [show mt 170 = m_X10_order from rfl]
  exact ⟨rfl, rfl⟩
theorem hz_103 : (mt 103).2.2.2.2.1.cells = 0 ∧ (mt 103).2.2.2.2.1.slots = 0 := by
  rw [show mt 103 = m_X9_ring from rfl]
  exact ⟨rfl, rfl⟩
theorem hz_177 : (mt 177).2.2.2.2.1.cells = 0 ∧ (mt 177).2.2.2.2.1.slots = 0 := by
  rw [show mt 177 = m_X10_ring from rfl]
  exact ⟨rfl, rfl⟩
theorem hz_89 : (mt 89).2.2.2.2.1.cells = 0 ∧ (mt 89).2.2.2.2.1.slots = 0 := by
  rw [show mt 89 = m_X9_fence from rfl]
  exact ⟨rfl, rfl⟩
theorem hz_138 : (mt 138).2.2.2.2.1.cells = 0 ∧ (mt 138).2.2.2.2.1.slots = 0 := by
  rw [show mt 138 = m_X10_fence from rfl]
  exact ⟨rfl, rfl⟩
theorem hz_91 : (mt 91).2.2.2.2.1.cells = 0 ∧ (mt 91).2.2.2.2.1.slots = 0 := by
  rw [show mt 91 = m_X9_flip from rfl]
  exact ⟨rfl, rfl⟩
theorem hz_143 : (mt 143).2.2.2.2.1.cells = 0 ∧ (mt 143).2.2.2.2.1.slots = 0 := by
  rw [show mt 143 = m_X10_flip from rfl]
  exact ⟨rfl, rfl⟩
theorem hz_104 : (mt 104).2.2.2.2.1.cells = 0 ∧ (mt 104).2.2.2.2.1.slots = 0 := by
  rw [show mt 104 = m_X9_ringOf from rfl]
  exact ⟨rfl, rfl⟩
theorem hz_178 : (mt 178).2.2.2.2.1.cells = 0 ∧ (mt 178).2.2.2.2.1.slots = 0 := by
  rw [show mt 178 = m_X10_ringOf from rfl]
  exact ⟨rfl, rfl⟩
theorem hz_92 : (mt 92).2.2.2.2.1.cells = 0 ∧ (mt 92).2.2.2.2.1.slots = 0 := by
  rw [show mt 92 = m_X9_frieze from rfl]
  exact ⟨rfl, rfl⟩
theorem hz_145 : (mt 145).2.2.2.2.1.cells = 0 ∧ (mt 145).2.2.2.2.1.slots = 0 := by
  rw [show mt 145 = m_X10_frieze from rfl]
  exact ⟨rfl, rfl⟩
theorem hz_119 : (mt 119).2.2.2.2.1.cells = 0 ∧ (mt 119).2.2.2.2.1.slots = 0 := by
  rw [show mt 119 = m_X9_way from rfl]
  exact ⟨rfl, rfl⟩
theorem hz_202 : (mt 202).2.2.2.2.1.cells = 0 ∧ (mt 202).2.2.2.2.1.slots = 0 := by
  rw [show mt 202 = m_X10_way from rfl]
  exact ⟨rfl, rfl⟩
theorem hz_93 : (mt 93).2.2.2.2.1.cells = 0 ∧ (mt 93).2.2.2.2.1.slots = 0 := by
  rw [show mt 93 = m_X9_goes from rfl]
  exact ⟨rfl, rfl⟩
theorem hz_146 : (mt 146).2.2.2.2.1.cells = 0 ∧ (mt 146).2.2.2.2.1.slots = 0 := by
  rw [show mt 146 = m_X10_goes from rfl]
  exact ⟨rfl, rfl⟩
theorem hz_107 : (mt 107).2.2.2.2.1.cells = 0 ∧ (mt 107).2.2.2.2.1.slots = 0 := by
  rw [show mt 107 = m_X9_seed from rfl]
  exact ⟨rfl, rfl⟩
theorem hz_183 : (mt 183).2.2.2.2.1.cells = 0 ∧ (mt 183).2.2.2.2.1.slots = 0 := by
  rw [show mt 183 = m_X10_seed from rfl]
  exact ⟨rfl, rfl⟩
theorem hz_88 : (mt 88).2.2.2.2.1.cells = 0 ∧ (mt 88).2.2.2.2.1.slots = 0 := by
  rw [show mt 88 = m_X9_count from rfl]
  exact ⟨rfl, rfl⟩
theorem hz_135 : (mt 135).2.2.2.2.1.cells = 0 ∧ (mt 135).2.2.2.2.1.slots = 0 := by
  rw [show mt 135 = m_X10_count from rfl]
  exact ⟨rfl, rfl⟩
theorem hz_94 : (mt 94).2.2.2.2.1.cells = 513 ∧ (mt 94).2.2.2.2.1.slots = 421477 := by
  rw [show mt 94 = m_X9_init from rfl]
  exact ⟨rfl, rfl⟩
theorem hz_152 : (mt 152).2.2.2.2.1.cells = 38 ∧ (mt 152).2.2.2.2.1.slots = 536755 := by
  rw [show mt 152 = m_X10_init from rfl]
  exact ⟨rfl, rfl⟩
theorem lk_175 {l : Launch} {D : va_G} {cy : Nat → ClassId} {σ : Nat → Int32} {nm : String} : rx_Lk (gG l D cy σ) mt (lwM nm) 175 111 3 9 true := rx_lk_V gok (mid := 111) (ci := 9) (C := (RX9, TX9, 15)) ⟨kw_743, kw_35, hd_X9_table, Nat.le_of_ble_eq_true rfl, Nat.le_of_ble_eq_true rfl⟩ rfl kw_744 kw_745 kw_746 dL_law_175
theorem lk_190 {l : Launch} {D : va_G} {cy : Nat → ClassId} {σ : Nat → Int32} {nm : String} : rx_Lk (gG l D cy σ) mt (lwM nm) 190 187 3 10 true := rx_lk_V gok (mid := 187) (ci := 10) (C := (RX10, TX10, 58)) ⟨kw_687, kw_484, hd_X10_table, Nat.le_of_ble_eq_true rfl, Nat.le_of_ble_eq_true rfl⟩ rfl kw_747 kw_689 kw_690 dL_law_190
theorem lk_213 {l : Launch} {D : va_G} {cy : Nat → ClassId} {σ : Nat → Int32} {nm : String} : rx_Lk (gG l D cy σ) mt (lwM nm) 213 84 4 9 true := rx_lk_V gok (mid := 84) (ci := 9) (C := (RX9, TX9, 15)) ⟨kw_748, kw_35, hd_X9_arrows, Nat.le_of_ble_eq_true rfl, Nat.le_of_ble_eq_true rfl⟩ rfl kw_749 kw_750 kw_751 dL_law_213
theorem lk_233 {l : Launch} {D : va_G} {cy : Nat → ClassId} {σ : Nat → Int32} {nm : String} : rx_Lk (gG l D cy σ) mt (lwM nm) 233 126 4 10 true := rx_lk_V gok (mid := 126) (ci := 10) (C := (RX10, TX10, 58)) ⟨kw_752, kw_484, hd_X10_arrows, Nat.le_of_ble_eq_true rfl, Nat.le_of_ble_eq_true rfl⟩ rfl kw_753 kw_754 kw_755 dL_law_233
theorem lk_241 {l : Launch} {D : va_G} {cy : Nat → ClassId} {σ : Nat → Int32} {nm : String} : rx_Lk (gG l D cy σ) mt (lwM nm) 241 87 1 9 true := rx_lk_V gok (mid := 87) (ci := 9) (C := (RX9, TX9, 15)) ⟨kw_756, kw_35, hd_X9_begin, Nat.le_of_ble_eq_true rfl, Nat.le_of_ble_eq_true rfl⟩ rfl kw_757 kw_758 kw_759 dL_law_241
theorem lk_246 {l : Launch} {D : va_G} {cy : Nat → ClassId} {σ : Nat → Int32} {nm : String} : rx_Lk (gG l D cy σ) mt (lwM nm) 246 129 1 10 true := rx_lk_V gok (mid := 129) (ci := 10) (C := (RX10, TX10, 58)) ⟨kw_699, kw_484, hd_X10_begin, Nat.le_of_ble_eq_true rfl, Nat.le_of_ble_eq_true rfl⟩ rfl kw_760 kw_701 kw_702 dL_law_246
theorem lk_259 {l : Launch} {D : va_G} {cy : Nat → ClassId} {σ : Nat → Int32} {nm : String} : rx_Lk (gG l D cy σ) mt (lwM nm) 259 108 2 9 true := rx_lk_V gok (mid := 108) (ci := 9) (C := (RX9, TX9, 15)) ⟨kw_761, kw_35, hd_X9_size, Nat.le_of_ble_eq_true rfl, Nat.le_of_ble_eq_true rfl⟩ rfl kw_762 kw_763 kw_764 dL_law_259
theorem lk_269 {l : Launch} {D : va_G} {cy : Nat → ClassId} {σ : Nat → Int32} {nm : String} : rx_Lk (gG l D cy σ) mt (lwM nm) 269 184 2 10 true := rx_lk_V gok (mid := 184) (ci := 10) (C := (RX10, TX10, 58)) ⟨kw_765, kw_484, hd_X10_size, Nat.le_of_ble_eq_true rfl, Nat.le_of_ble_eq_true rfl⟩ rfl kw_766 kw_767 kw_768 dL_law_269
theorem lk_282 {l : Launch} {D : va_G} {cy : Nat → ClassId} {σ : Nat → Int32} {nm : String} : rx_Lk (gG l D cy σ) mt (lwM nm) 282 115 2 9 true := rx_lk_V gok (mid := 115) (ci := 9) (C := (RX9, TX9, 15)) ⟨kw_769, kw_35, hd_X9_turn, Nat.le_of_ble_eq_true rfl, Nat.le_of_ble_eq_true rfl⟩ rfl kw_770 kw_771 kw_772 dL_law_282
theorem lk_292 {l : Launch} {D : va_G} {cy : Nat → ClassId} {σ : Nat → Int32} {nm : String} : rx_Lk (gG l D cy σ) mt (lwM nm) 292 198 2 10 true := rx_lk_V gok (mid := 198) (ci := 10) (C := (RX10, TX10, 58)) ⟨kw_773, kw_484, hd_X10_turn, Nat.le_of_ble_eq_true rfl, Nat.le_of_ble_eq_true rfl⟩ rfl kw_774 kw_775 kw_776 dL_law_292
theorem lk_300 {l : Launch} {D : va_G} {cy : Nat → ClassId} {σ : Nat → Int32} {nm : String} : rx_Lk (gG l D cy σ) mt (lwM nm) 300 86 1 9 true := rx_lk_V gok (mid := 86) (ci := 9) (C := (RX9, TX9, 15)) ⟨kw_777, kw_35, hd_X9_back, Nat.le_of_ble_eq_true rfl, Nat.le_of_ble_eq_true rfl⟩ rfl kw_778 kw_779 kw_780 dL_law_300
theorem lk_305 {l : Launch} {D : va_G} {cy : Nat → ClassId} {σ : Nat → Int32} {nm : String} : rx_Lk (gG l D cy σ) mt (lwM nm) 305 128 1 10 true := rx_lk_V gok (mid := 128) (ci := 10) (C := (RX10, TX10, 58)) ⟨kw_781, kw_484, hd_X10_back, Nat.le_of_ble_eq_true rfl, Nat.le_of_ble_eq_true rfl⟩ rfl kw_782 kw_783 kw_784 dL_law_305
theorem lk_323 {l : Launch} {D : va_G} {cy : Nat → ClassId} {σ : Nat → Int32} {nm : String} : rx_Lk (gG l D cy σ) mt (lwM nm) 323 85 3 9 true := rx_lk_V gok (mid := 85) (ci := 9) (C := (RX9, TX9, 15)) ⟨kw_785, kw_35, hd_X9_b, Nat.le_of_ble_eq_true rfl, Nat.le_of_ble_eq_true rfl⟩ rfl kw_786 kw_787 kw_788 dL_law_323
theorem lk_338 {l : Launch} {D : va_G} {cy : Nat → ClassId} {σ : Nat → Int32} {nm : String} : rx_Lk (gG l D cy σ) mt (lwM nm) 338 127 3 10 true := rx_lk_V gok (mid := 127) (ci := 10) (C := (RX10, TX10, 58)) ⟨kw_789, kw_484, hd_X10_b, Nat.le_of_ble_eq_true rfl, Nat.le_of_ble_eq_true rfl⟩ rfl kw_790 kw_791 kw_792 dL_law_338
theorem lk_351 {l : Launch} {D : va_G} {cy : Nat → ClassId} {σ : Nat → Int32} {nm : String} : rx_Lk (gG l D cy σ) mt (lwM nm) 351 114 2 9 true := rx_lk_V gok (mid := 114) (ci := 9) (C := (RX9, TX9, 15)) ⟨kw_793, kw_35, hd_X9_terms, Nat.le_of_ble_eq_true rfl, Nat.le_of_ble_eq_true rfl⟩ rfl kw_794 kw_795 kw_796 dL_law_351
theorem lk_361 {l : Launch} {D : va_G} {cy : Nat → ClassId} {σ : Nat → Int32} {nm : String} : rx_Lk (gG l D cy σ) mt (lwM nm) 361 194 2 10 true := rx_lk_V gok (mid := 194) (ci := 10) (C := (RX10, TX10, 58)) ⟨kw_797, kw_484, hd_X10_terms, Nat.le_of_ble_eq_true rfl, Nat.le_of_ble_eq_true rfl⟩ rfl kw_798 kw_799 kw_800 dL_law_361
theorem lk_384 {l : Launch} {D : va_G} {cy : Nat → ClassId} {σ : Nat → Int32} {nm : String} : rx_Lk (gG l D cy σ) mt (lwM nm) 384 113 4 9 true := rx_lk_V gok (mid := 113) (ci := 9) (C := (RX9, TX9, 15)) ⟨kw_801, kw_35, hd_X9_term, Nat.le_of_ble_eq_true rfl, Nat.le_of_ble_eq_true rfl⟩ rfl kw_802 kw_803 kw_804 dL_law_384
theorem lk_403 {l : Launch} {D : va_G} {cy : Nat → ClassId} {σ : Nat → Int32} {nm : String} : rx_Lk (gG l D cy σ) mt (lwM nm) 403 193 4 10 true := rx_lk_V gok (mid := 193) (ci := 10) (C := (RX10, TX10, 58)) ⟨kw_805, kw_484, hd_X10_term, Nat.le_of_ble_eq_true rfl, Nat.le_of_ble_eq_true rfl⟩ rfl kw_806 kw_807 kw_808 dL_law_403
theorem lk_423 {l : Launch} {D : va_G} {cy : Nat → ClassId} {σ : Nat → Int32} {nm : String} : rx_Lk (gG l D cy σ) mt (lwM nm) 423 100 3 9 true := rx_lk_V gok (mid := 100) (ci := 9) (C := (RX9, TX9, 15)) ⟨kw_809, kw_35, hd_X9_least, Nat.le_of_ble_eq_true rfl, Nat.le_of_ble_eq_true rfl⟩ rfl kw_810 kw_811 kw_812 dL_law_423
theorem lk_438 {l : Launch} {D : va_G} {cy : Nat → ClassId} {σ : Nat → Int32} {nm : String} : rx_Lk (gG l D cy σ) mt (lwM nm) 438 162 3 10 true := rx_lk_V gok (mid := 162) (ci := 10) (C := (RX10, TX10, 58)) ⟨kw_813, kw_484, hd_X10_least, Nat.le_of_ble_eq_true rfl, Nat.le_of_ble_eq_true rfl⟩ rfl kw_814 kw_815 kw_816 dL_law_438
theorem lk_451 {l : Launch} {D : va_G} {cy : Nat → ClassId} {σ : Nat → Int32} {nm : String} : rx_Lk (gG l D cy σ) mt (lwM nm) 451 101 2 9 true := rx_lk_V gok (mid := 101) (ci := 9) (C := (RX9, TX9, 15)) ⟨kw_817, kw_35, hd_X9_ones, Nat.le_of_ble_eq_true rfl, Nat.le_of_ble_eq_true rfl⟩ rfl kw_818 kw_819 kw_820 dL_law_451
theorem lk_461 {l : Launch} {D : va_G} {cy : Nat → ClassId} {σ : Nat → Int32} {nm : String} : rx_Lk (gG l D cy σ) mt (lwM nm) 461 169 2 10 true := rx_lk_V gok (mid := 169) (ci := 10) (C := (RX10, TX10, 58)) ⟨kw_821, kw_484, hd_X10_ones, Nat.le_of_ble_eq_true rfl, Nat.le_of_ble_eq_true rfl⟩ rfl kw_822 kw_823 kw_824 dL_law_461
theorem lk_474 {l : Launch} {D : va_G} {cy : Nat → ClassId} {σ : Nat → Int32} {nm : String} : rx_Lk (gG l D cy σ) mt (lwM nm) 474 99 2 9 true := rx_lk_V gok (mid := 99) (ci := 9) (C := (RX9, TX9, 15)) ⟨kw_825, kw_35, hd_X9_keep, Nat.le_of_ble_eq_true rfl, Nat.le_of_ble_eq_true rfl⟩ rfl kw_826 kw_827 kw_828 dL_law_474
theorem lk_484 {l : Launch} {D : va_G} {cy : Nat → ClassId} {σ : Nat → Int32} {nm : String} : rx_Lk (gG l D cy σ) mt (lwM nm) 484 160 2 10 true := rx_lk_V gok (mid := 160) (ci := 10) (C := (RX10, TX10, 58)) ⟨kw_829, kw_484, hd_X10_keep, Nat.le_of_ble_eq_true rfl, Nat.le_of_ble_eq_true rfl⟩ rfl kw_830 kw_831 kw_832 dL_law_484
theorem lk_497 {l : Launch} {D : va_G} {cy : Nat → ClassId} {σ : Nat → Int32} {nm : String} : rx_Lk (gG l D cy σ) mt (lwM nm) 497 106 2 9 true := rx_lk_V gok (mid := 106) (ci := 9) (C := (RX9, TX9, 15)) ⟨kw_833, kw_35, hd_X9_same, Nat.le_of_ble_eq_true rfl, Nat.le_of_ble_eq_true rfl⟩ rfl kw_834 kw_835 kw_836 dL_law_497
theorem lk_507 {l : Launch} {D : va_G} {cy : Nat → ClassId} {σ : Nat → Int32} {nm : String} : rx_Lk (gG l D cy σ) mt (lwM nm) 507 180 2 10 true := rx_lk_V gok (mid := 180) (ci := 10) (C := (RX10, TX10, 58)) ⟨kw_837, kw_484, hd_X10_same, Nat.le_of_ble_eq_true rfl, Nat.le_of_ble_eq_true rfl⟩ rfl kw_838 kw_839 kw_840 dL_law_507
theorem lk_515 {l : Launch} {D : va_G} {cy : Nat → ClassId} {σ : Nat → Int32} {nm : String} : rx_Lk (gG l D cy σ) mt (lwM nm) 515 83 1 9 true := rx_lk_V gok (mid := 83) (ci := 9) (C := (RX9, TX9, 15)) ⟨kw_841, kw_35, hd_X9_all, Nat.le_of_ble_eq_true rfl, Nat.le_of_ble_eq_true rfl⟩ rfl kw_842 kw_843 kw_844 dL_law_515
theorem lk_520 {l : Launch} {D : va_G} {cy : Nat → ClassId} {σ : Nat → Int32} {nm : String} : rx_Lk (gG l D cy σ) mt (lwM nm) 520 123 1 10 true := rx_lk_V gok (mid := 123) (ci := 10) (C := (RX10, TX10, 58)) ⟨kw_845, kw_484, hd_X10_all, Nat.le_of_ble_eq_true rfl, Nat.le_of_ble_eq_true rfl⟩ rfl kw_846 kw_847 kw_848 dL_law_520
theorem lk_538 {l : Launch} {D : va_G} {cy : Nat → ClassId} {σ : Nat → Int32} {nm : String} : rx_Lk (gG l D cy σ) mt (lwM nm) 538 120 3 9 true := rx_lk_V gok (mid := 120) (ci := 9) (C := (RX9, TX9, 15)) ⟨kw_849, kw_35, hd_X9_what, Nat.le_of_ble_eq_true rfl, Nat.le_of_ble_eq_true rfl⟩ rfl kw_850 kw_851 kw_852 dL_law_538
theorem lk_553 {l : Launch} {D : va_G} {cy : Nat → ClassId} {σ : Nat → Int32} {nm : String} : rx_Lk (gG l D cy σ) mt (lwM nm) 553 203 3 10 true := rx_lk_V gok (mid := 203) (ci := 10) (C := (RX10, TX10, 58)) ⟨kw_853, kw_484, hd_X10_what, Nat.le_of_ble_eq_true rfl, Nat.le_of_ble_eq_true rfl⟩ rfl kw_854 kw_855 kw_856 dL_law_553
theorem lk_561 {l : Launch} {D : va_G} {cy : Nat → ClassId} {σ : Nat → Int32} {nm : String} : rx_Lk (gG l D cy σ) mt (lwM nm) 561 90 1 9 true := rx_lk_V gok (mid := 90) (ci := 9) (C := (RX9, TX9, 15)) ⟨kw_857, kw_35, hd_X9_finite, Nat.le_of_ble_eq_true rfl, Nat.le_of_ble_eq_true rfl⟩ rfl kw_858 kw_859 kw_860 dL_law_561
theorem lk_566 {l : Launch} {D : va_G} {cy : Nat → ClassId} {σ : Nat → Int32} {nm : String} : rx_Lk (gG l D cy σ) mt (lwM nm) 566 141 1 10 true := rx_lk_V gok (mid := 141) (ci := 10) (C := (RX10, TX10, 58)) ⟨kw_861, kw_484, hd_X10_finite, Nat.le_of_ble_eq_true rfl, Nat.le_of_ble_eq_true rfl⟩ rfl kw_862 kw_863 kw_864 dL_law_566
theorem lk_579 {l : Launch} {D : va_G} {cy : Nat → ClassId} {σ : Nat → Int32} {nm : String} : rx_Lk (gG l D cy σ) mt (lwM nm) 579 110 2 9 true := rx_lk_V gok (mid := 110) (ci := 9) (C := (RX9, TX9, 15)) ⟨kw_865, kw_35, hd_X9_step, Nat.le_of_ble_eq_true rfl, Nat.le_of_ble_eq_true rfl⟩ rfl kw_866 kw_867 kw_868 dL_law_579
theorem lk_589 {l : Launch} {D : va_G} {cy : Nat → ClassId} {σ : Nat → Int32} {nm : String} : rx_Lk (gG l D cy σ) mt (lwM nm) 589 185 2 10 true := rx_lk_V gok (mid := 185) (ci := 10) (C := (RX10, TX10, 58)) ⟨kw_869, kw_484, hd_X10_step, Nat.le_of_ble_eq_true rfl, Nat.le_of_ble_eq_true rfl⟩ rfl kw_870 kw_871 kw_872 dL_law_589
theorem lk_597 {l : Launch} {D : va_G} {cy : Nat → ClassId} {σ : Nat → Int32} {nm : String} : rx_Lk (gG l D cy σ) mt (lwM nm) 597 112 1 9 true := rx_lk_V gok (mid := 112) (ci := 9) (C := (RX9, TX9, 15)) ⟨kw_873, kw_35, hd_X9_tables, Nat.le_of_ble_eq_true rfl, Nat.le_of_ble_eq_true rfl⟩ rfl kw_874 kw_875 kw_876 dL_law_597
theorem lk_602 {l : Launch} {D : va_G} {cy : Nat → ClassId} {σ : Nat → Int32} {nm : String} : rx_Lk (gG l D cy σ) mt (lwM nm) 602 189 1 10 true := rx_lk_V gok (mid := 189) (ci := 10) (C := (RX10, TX10, 58)) ⟨kw_877, kw_484, hd_X10_tables, Nat.le_of_ble_eq_true rfl, Nat.le_of_ble_eq_true rfl⟩ rfl kw_878 kw_879 kw_880 dL_law_602
theorem lk_625 {l : Launch} {D : va_G} {cy : Nat → ClassId} {σ : Nat → Int32} {nm : String} : rx_Lk (gG l D cy σ) mt (lwM nm) 625 105 4 9 true := rx_lk_V gok (mid := 105) (ci := 9) (C := (RX9, TX9, 15)) ⟨kw_881, kw_35, hd_X9_row, Nat.le_of_ble_eq_true rfl, Nat.le_of_ble_eq_true rfl⟩ rfl kw_882 kw_883 kw_884 dL_law_625
theorem lk_645 {l : Launch} {D : va_G} {cy : Nat → ClassId} {σ : Nat → Int32} {nm : String} : rx_Lk (gG l D cy σ) mt (lwM nm) 645 179 4 10 true := rx_lk_V gok (mid := 179) (ci := 10) (C := (RX10, TX10, 58)) ⟨kw_885, kw_484, hd_X10_row, Nat.le_of_ble_eq_true rfl, Nat.le_of_ble_eq_true rfl⟩ rfl kw_886 kw_887 kw_888 dL_law_645
theorem lk_653 {l : Launch} {D : va_G} {cy : Nat → ClassId} {σ : Nat → Int32} {nm : String} : rx_Lk (gG l D cy σ) mt (lwM nm) 653 102 1 9 true := rx_lk_V gok (mid := 102) (ci := 9) (C := (RX9, TX9, 15)) ⟨kw_889, kw_35, hd_X9_order, Nat.le_of_ble_eq_true rfl, Nat.le_of_ble_eq_true rfl⟩ rfl kw_890 kw_891 kw_892 dL_law_653
theorem lk_658 {l : Launch} {D : va_G} {cy : Nat → ClassId} {σ : Nat → Int32} {nm : String} : rx_Lk (gG l D cy σ) mt (lwM nm) 658 170 1 10 true := rx_lk_V gok (mid := 170) (ci := 10) (C := (RX10, TX10, 58)) ⟨kw_893, kw_484, hd_X10_order, Nat.le_of_ble_eq_true rfl, Nat.le_of_ble_eq_true rfl⟩ rfl kw_894 kw_895 kw_896 dL_law_658
theorem lk_676 {l : Launch} {D : va_G} {cy : Nat → ClassId} {σ : Nat → Int32} {nm : String} : rx_Lk (gG l D cy σ) mt (lwM nm) 676 103 3 9 true := rx_lk_V gok (mid := 103) (ci := 9) (C := (RX9, TX9, 15)) ⟨kw_897, kw_35, hd_X9_ring, Nat.le_of_ble_eq_true rfl, Nat.le_of_ble_eq_true rfl⟩ rfl kw_898 kw_899 kw_900 dL_law_676
theorem lk_691 {l : Launch} {D : va_G} {cy : Nat → ClassId} {σ : Nat → Int32} {nm : String} : rx_Lk (gG l D cy σ) mt (lwM nm) 691 177 3 10 true := rx_lk_V gok (mid := 177) (ci := 10) (C := (RX10, TX10, 58)) ⟨kw_901, kw_484, hd_X10_ring, Nat.le_of_ble_eq_true rfl, Nat.le_of_ble_eq_true rfl⟩ rfl kw_902 kw_903 kw_904 dL_law_691
theorem lk_714 {l : Launch} {D : va_G} {cy : Nat → ClassId} {σ : Nat → Int32} {nm : String} : rx_Lk (gG l D cy σ) mt (lwM nm) 714 89 4 9 true := rx_lk_V gok (mid := 89) (ci := 9) (C := (RX9, TX9, 15)) ⟨kw_905, kw_35, hd_X9_fence, Nat.le_of_ble_eq_true rfl, Nat.le_of_ble_eq_true rfl⟩ rfl kw_906 kw_907 kw_908 dL_law_714
theorem lk_734 {l : Launch} {D : va_G} {cy : Nat → ClassId} {σ : Nat → Int32} {nm : String} : rx_Lk (gG l D cy σ) mt (lwM nm) 734 138 4 10 true := rx_lk_V gok (mid := 138) (ci := 10) (C := (RX10, TX10, 58)) ⟨kw_909, kw_484, hd_X10_fence, Nat.le_of_ble_eq_true rfl, Nat.le_of_ble_eq_true rfl⟩ rfl kw_910 kw_911 kw_912 dL_law_734
theorem lk_757 {l : Launch} {D : va_G} {cy : Nat → ClassId} {σ : Nat → Int32} {nm : String} : rx_Lk (gG l D cy σ) mt (lwM nm) 757 91 4 9 true := rx_lk_V gok (mid := 91) (ci := 9) (C := (RX9, TX9, 15)) ⟨kw_913, kw_35, hd_X9_flip, Nat.le_of_ble_eq_true rfl, Nat.le_of_ble_eq_true rfl⟩ rfl kw_914 kw_915 kw_916 dL_law_757
theorem lk_777 {l : Launch} {D : va_G} {cy : Nat → ClassId} {σ : Nat → Int32} {nm : String} : rx_Lk (gG l D cy σ) mt (lwM nm) 777 143 4 10 true := rx_lk_V gok (mid := 143) (ci := 10) (C := (RX10, TX10, 58)) ⟨kw_917, kw_484, hd_X10_flip, Nat.le_of_ble_eq_true rfl, Nat.le_of_ble_eq_true rfl⟩ rfl kw_918 kw_919 kw_920 dL_law_777
theorem lk_795 {l : Launch} {D : va_G} {cy : Nat → ClassId} {σ : Nat → Int32} {nm : String} : rx_Lk (gG l D cy σ) mt (lwM nm) 795 104 3 9 true := rx_lk_V gok (mid := 104) (ci := 9) (C := (RX9, TX9, 15)) ⟨kw_921, kw_35, hd_X9_ringOf, Nat.le_of_ble_eq_true rfl, Nat.le_of_ble_eq_true rfl⟩ rfl kw_922 kw_923 kw_924 dL_law_795
theorem lk_810 {l : Launch} {D : va_G} {cy : Nat → ClassId} {σ : Nat → Int32} {nm : String} : rx_Lk (gG l D cy σ) mt (lwM nm) 810 178 3 10 true := rx_lk_V gok (mid := 178) (ci := 10) (C := (RX10, TX10, 58)) ⟨kw_925, kw_484, hd_X10_ringOf, Nat.le_of_ble_eq_true rfl, Nat.le_of_ble_eq_true rfl⟩ rfl kw_926 kw_927 kw_928 dL_law_810
theorem lk_833 {l : Launch} {D : va_G} {cy : Nat → ClassId} {σ : Nat → Int32} {nm : String} : rx_Lk (gG l D cy σ) mt (lwM nm) 833 92 4 9 true := rx_lk_V gok (mid := 92) (ci := 9) (C := (RX9, TX9, 15)) ⟨kw_929, kw_35, hd_X9_frieze, Nat.le_of_ble_eq_true rfl, Nat.le_of_ble_eq_true rfl⟩ rfl kw_930 kw_931 kw_932 dL_law_833
theorem lk_853 {l : Launch} {D : va_G} {cy : Nat → ClassId} {σ : Nat → Int32} {nm : String} : rx_Lk (gG l D cy σ) mt (lwM nm) 853 145 4 10 true := rx_lk_V gok (mid := 145) (ci := 10) (C := (RX10, TX10, 58)) ⟨kw_933, kw_484, hd_X10_frieze, Nat.le_of_ble_eq_true rfl, Nat.le_of_ble_eq_true rfl⟩ rfl kw_934 kw_935 kw_936 dL_law_853
theorem lk_861 {l : Launch} {D : va_G} {cy : Nat → ClassId} {σ : Nat → Int32} {nm : String} : rx_Lk (gG l D cy σ) mt (lwM nm) 861 119 1 9 true := rx_lk_V gok (mid := 119) (ci := 9) (C := (RX9, TX9, 15)) ⟨kw_937, kw_35, hd_X9_way, Nat.le_of_ble_eq_true rfl, Nat.le_of_ble_eq_true rfl⟩ rfl kw_938 kw_939 kw_940 dL_law_861
theorem lk_866 {l : Launch} {D : va_G} {cy : Nat → ClassId} {σ : Nat → Int32} {nm : String} : rx_Lk (gG l D cy σ) mt (lwM nm) 866 202 1 10 true := rx_lk_V gok (mid := 202) (ci := 10) (C := (RX10, TX10, 58)) ⟨kw_941, kw_484, hd_X10_way, Nat.le_of_ble_eq_true rfl, Nat.le_of_ble_eq_true rfl⟩ rfl kw_942 kw_943 kw_944 dL_law_866
theorem lk_879 {l : Launch} {D : va_G} {cy : Nat → ClassId} {σ : Nat → Int32} {nm : String} : rx_Lk (gG l D cy σ) mt (lwM nm) 879 93 2 9 true := rx_lk_V gok (mid := 93) (ci := 9) (C := (RX9, TX9, 15)) ⟨kw_945, kw_35, hd_X9_goes, Nat.le_of_ble_eq_true rfl, Nat.le_of_ble_eq_true rfl⟩ rfl kw_946 kw_947 kw_948 dL_law_879
theorem lk_889 {l : Launch} {D : va_G} {cy : Nat → ClassId} {σ : Nat → Int32} {nm : String} : rx_Lk (gG l D cy σ) mt (lwM nm) 889 146 2 10 true := rx_lk_V gok (mid := 146) (ci := 10) (C := (RX10, TX10, 58)) ⟨kw_949, kw_484, hd_X10_goes, Nat.le_of_ble_eq_true rfl, Nat.le_of_ble_eq_true rfl⟩ rfl kw_950 kw_951 kw_952 dL_law_889
theorem lk_902 {l : Launch} {D : va_G} {cy : Nat → ClassId} {σ : Nat → Int32} {nm : String} : rx_Lk (gG l D cy σ) mt (lwM nm) 902 107 2 9 true := rx_lk_V gok (mid := 107) (ci := 9) (C := (RX9, TX9, 15)) ⟨kw_953, kw_35, hd_X9_seed, Nat.le_of_ble_eq_true rfl, Nat.le_of_ble_eq_true rfl⟩ rfl kw_954 kw_955 kw_956 dL_law_902
theorem lk_912 {l : Launch} {D : va_G} {cy : Nat → ClassId} {σ : Nat → Int32} {nm : String} : rx_Lk (gG l D cy σ) mt (lwM nm) 912 183 2 10 true := rx_lk_V gok (mid := 183) (ci := 10) (C := (RX10, TX10, 58)) ⟨kw_957, kw_484, hd_X10_seed, Nat.le_of_ble_eq_true rfl, Nat.le_of_ble_eq_true rfl⟩ rfl kw_958 kw_959 kw_960 dL_law_912
theorem lk_925 {l : Launch} {D : va_G} {cy : Nat → ClassId} {σ : Nat → Int32} {nm : String} : rx_Lk (gG l D cy σ) mt (lwM nm) 925 88 2 9 true := rx_lk_V gok (mid := 88) (ci := 9) (C := (RX9, TX9, 15)) ⟨kw_961, kw_35, hd_X9_count, Nat.le_of_ble_eq_true rfl, Nat.le_of_ble_eq_true rfl⟩ rfl kw_962 kw_963 kw_964 dL_law_925
theorem lk_935 {l : Launch} {D : va_G} {cy : Nat → ClassId} {σ : Nat → Int32} {nm : String} : rx_Lk (gG l D cy σ) mt (lwM nm) 935 135 2 10 true := rx_lk_V gok (mid := 135) (ci := 10) (C := (RX10, TX10, 58)) ⟨kw_965, kw_484, hd_X10_count, Nat.le_of_ble_eq_true rfl, Nat.le_of_ble_eq_true rfl⟩ rfl kw_966 kw_967 kw_968 dL_law_935
theorem lk_4 {l : Launch} {D : va_G} {cy : Nat → ClassId} {σ : Nat → Int32} {nm : String} : rx_Lk (gG l D cy σ) mt (lwM nm) 4 94 1 9 true := rx_lk_I gok (mid := 94) (ci := 9) (C := (RX9, TX9, 15)) ⟨kw_969, kw_35, hd_X9_init, Nat.le_of_ble_eq_true rfl, Nat.le_of_ble_eq_true rfl⟩ rfl rfl kw_970 kw_971 rfl dL_law_4
theorem lk_12 {l : Launch} {D : va_G} {cy : Nat → ClassId} {σ : Nat → Int32} {nm : String} : rx_Lk (gG l D cy σ) mt (lwM nm) 12 152 1 10 true := rx_lk_I gok (mid := 152) (ci := 10) (C := (RX10, TX10, 58)) ⟨kw_972, kw_484, hd_X10_init, Nat.le_of_ble_eq_true rfl, Nat.le_of_ble_eq_true rfl⟩ rfl rfl kw_973 kw_974 rfl dL_law_12
def lwR (AX AM : pm_A) : Prop := St AX ∧ RI AM ∧ RR AX AM ∧ DT AX AM ∧ XR AX AM ∧ RW AX AM
