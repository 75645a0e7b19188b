theorem kw_621 : Cond.code ({ cls := "SeedBench", name := "table", desc := "(II)Z" } : MethodName) prog_1_method_2_code (3 : Nat) (Option.some FieldType.boolean) ∈ gT := gm_2 (List.mem_of_getElem? (i := 142) rfl) rfl
theorem kw_622 : Cond.methodLink "SeedBenchLaw" (13 : Nat) ({ cls := "SeedBench", name := "table", desc := "(II)Z" } : MethodName) ∈ gT := gm_2 (List.mem_of_getElem? (i := 139) rfl) rfl
theorem kw_623 : Cond.instanceMethod ({ cls := "SeedBench", name := "table", desc := "(II)Z" } : MethodName) ∈ gT := gm_2 (List.mem_of_getElem? (i := 140) rfl) rfl
theorem kw_624 : Cond.selects "SeedBench" ({ cls := "SeedBench", name := "table", desc := "(II)Z" } : MethodName) ({ cls := "SeedBench", name := "table", desc := "(II)Z" } : MethodName) ∈ gT := gm_2 (List.mem_of_getElem? (i := 141) rfl) rfl
theorem kw_625 : Cond.code ({ cls := "SeedBenchModel", name := "table", desc := "(II)Z" } : MethodName) prog_12_method_15_code (4 : Nat) (Option.some FieldType.boolean) ∈ gT := gm_5 (List.mem_of_getElem? (i := 84) rfl) rfl
theorem kw_626 : Cond.methodLink "SeedBenchLaw" (17 : Nat) ({ cls := "SeedBenchModel", name := "table", desc := "(II)Z" } : MethodName) ∈ gT := gm_5 (List.mem_of_getElem? (i := 81) rfl) rfl
theorem kw_627 : Cond.instanceMethod ({ cls := "SeedBenchModel", name := "table", desc := "(II)Z" } : MethodName) ∈ gT := gm_5 (List.mem_of_getElem? (i := 82) rfl) rfl
theorem kw_628 : Cond.selects "SeedBenchModel" ({ cls := "SeedBenchModel", name := "table", desc := "(II)Z" } : MethodName) ({ cls := "SeedBenchModel", name := "table", desc := "(II)Z" } : MethodName) ∈ gT := gm_5 (List.mem_of_getElem? (i := 83) rfl) rfl
theorem kw_629 : Cond.code ({ cls := "SeedBench", name := "arrows", desc := "(III)Z" } : MethodName) prog_1_method_3_code (4 : Nat) (Option.some FieldType.boolean) ∈ gT := gm_2 (List.mem_of_getElem? (i := 153) rfl) rfl
theorem kw_630 : Cond.methodLink "SeedBenchLaw" (18 : Nat) ({ cls := "SeedBench", name := "arrows", desc := "(III)Z" } : MethodName) ∈ gT := gm_2 (List.mem_of_getElem? (i := 150) rfl) rfl
theorem kw_631 : Cond.instanceMethod ({ cls := "SeedBench", name := "arrows", desc := "(III)Z" } : MethodName) ∈ gT := gm_2 (List.mem_of_getElem? (i := 151) rfl) rfl
theorem kw_632 : Cond.selects "SeedBench" ({ cls := "SeedBench", name := "arrows", desc := "(III)Z" } : MethodName) ({ cls := "SeedBench", name := "arrows", desc := "(III)Z" } : MethodName) ∈ gT := gm_2 (List.mem_of_getElem? (i := 152) rfl) rfl
theorem kw_633 : Cond.code ({ cls := "SeedBenchModel", name := "arrows", desc := "(III)Z" } : MethodName) prog_12_method_16_code (4 : Nat) (Option.some FieldType.boolean) ∈ gT := gm_5 (List.mem_of_getElem? (i := 88) rfl) rfl
theorem kw_634 : Cond.methodLink "SeedBenchLaw" (22 : Nat) ({ cls := "SeedBenchModel", name := "arrows", desc := "(III)Z" } : MethodName) ∈ gT := gm_5 (List.mem_of_getElem? (i := 85) rfl) rfl
theorem kw_635 : Cond.instanceMethod ({ cls := "SeedBenchModel", name := "arrows", desc := "(III)Z" } : MethodName) ∈ gT := gm_5 (List.mem_of_getElem? (i := 86) rfl) rfl
theorem kw_636 : Cond.selects "SeedBenchModel" ({ cls := "SeedBenchModel", name := "arrows", desc := "(III)Z" } : MethodName) ({ cls := "SeedBenchModel", name := "arrows", desc := "(III)Z" } : MethodName) ∈ gT := gm_5 (List.mem_of_getElem? (i := 87) rfl) rfl
theorem kw_637 : Cond.code ({ cls := "SeedBench", name := "begin", desc := "()I" } : MethodName) prog_1_method_4_code (2 : Nat) (Option.some FieldType.int) ∈ gT := gm_2 (List.mem_of_getElem? (i := 160) rfl) rfl
theorem kw_638 : Cond.methodLink "SeedBenchLaw" (23 : Nat) ({ cls := "SeedBench", name := "begin", desc := "()I" } : MethodName) ∈ gT := gm_2 (List.mem_of_getElem? (i := 157) rfl) rfl
theorem kw_639 : Cond.instanceMethod ({ cls := "SeedBench", name := "begin", desc := "()I" } : MethodName) ∈ gT := gm_2 (List.mem_of_getElem? (i := 158) rfl) rfl
theorem kw_640 : Cond.selects "SeedBench" ({ cls := "SeedBench", name := "begin", desc := "()I" } : MethodName) ({ cls := "SeedBench", name := "begin", desc := "()I" } : MethodName) ∈ gT := gm_2 (List.mem_of_getElem? (i := 159) rfl) rfl
theorem kw_641 : Cond.code ({ cls := "SeedBenchModel", name := "begin", desc := "()I" } : MethodName) prog_12_method_23_code (5 : Nat) (Option.some FieldType.int) ∈ gT := gm_5 (List.mem_of_getElem? (i := 92) rfl) rfl
theorem kw_642 : Cond.methodLink "SeedBenchLaw" (27 : Nat) ({ cls := "SeedBenchModel", name := "begin", desc := "()I" } : MethodName) ∈ gT := gm_5 (List.mem_of_getElem? (i := 89) rfl) rfl
theorem kw_643 : Cond.instanceMethod ({ cls := "SeedBenchModel", name := "begin", desc := "()I" } : MethodName) ∈ gT := gm_5 (List.mem_of_getElem? (i := 90) rfl) rfl
theorem kw_644 : Cond.selects "SeedBenchModel" ({ cls := "SeedBenchModel", name := "begin", desc := "()I" } : MethodName) ({ cls := "SeedBenchModel", name := "begin", desc := "()I" } : MethodName) ∈ gT := gm_5 (List.mem_of_getElem? (i := 91) rfl) rfl
theorem kw_645 : Cond.code ({ cls := "SeedBench", name := "size", desc := "(I)I" } : MethodName) prog_1_method_5_code (2 : Nat) (Option.some FieldType.int) ∈ gT := gm_2 (List.mem_of_getElem? (i := 196) rfl) rfl
theorem kw_646 : Cond.methodLink "SeedBenchLaw" (28 : Nat) ({ cls := "SeedBench", name := "size", desc := "(I)I" } : MethodName) ∈ gT := gm_2 (List.mem_of_getElem? (i := 193) rfl) rfl
theorem kw_647 : Cond.instanceMethod ({ cls := "SeedBench", name := "size", desc := "(I)I" } : MethodName) ∈ gT := gm_2 (List.mem_of_getElem? (i := 194) rfl) rfl
theorem kw_648 : Cond.selects "SeedBench" ({ cls := "SeedBench", name := "size", desc := "(I)I" } : MethodName) ({ cls := "SeedBench", name := "size", desc := "(I)I" } : MethodName) ∈ gT := gm_2 (List.mem_of_getElem? (i := 195) rfl) rfl
theorem kw_649 : Cond.code ({ cls := "SeedBenchModel", name := "size", desc := "(I)I" } : MethodName) prog_12_method_25_code (2 : Nat) (Option.some FieldType.int) ∈ gT := gm_5 (List.mem_of_getElem? (i := 114) rfl) rfl
theorem kw_650 : Cond.methodLink "SeedBenchLaw" (32 : Nat) ({ cls := "SeedBenchModel", name := "size", desc := "(I)I" } : MethodName) ∈ gT := gm_5 (List.mem_of_getElem? (i := 111) rfl) rfl
theorem kw_651 : Cond.instanceMethod ({ cls := "SeedBenchModel", name := "size", desc := "(I)I" } : MethodName) ∈ gT := gm_5 (List.mem_of_getElem? (i := 112) rfl) rfl
theorem kw_652 : Cond.selects "SeedBenchModel" ({ cls := "SeedBenchModel", name := "size", desc := "(I)I" } : MethodName) ({ cls := "SeedBenchModel", name := "size", desc := "(I)I" } : MethodName) ∈ gT := gm_5 (List.mem_of_getElem? (i := 113) rfl) rfl
theorem kw_653 : Cond.code ({ cls := "SeedBench", name := "turn", desc := "(I)I" } : MethodName) prog_1_method_6_code (2 : Nat) (Option.some FieldType.int) ∈ gT := gm_2 (List.mem_of_getElem? (i := 204) rfl) rfl
theorem kw_654 : Cond.methodLink "SeedBenchLaw" (33 : Nat) ({ cls := "SeedBench", name := "turn", desc := "(I)I" } : MethodName) ∈ gT := gm_2 (List.mem_of_getElem? (i := 201) rfl) rfl
theorem kw_655 : Cond.instanceMethod ({ cls := "SeedBench", name := "turn", desc := "(I)I" } : MethodName) ∈ gT := gm_2 (List.mem_of_getElem? (i := 202) rfl) rfl
theorem kw_656 : Cond.selects "SeedBench" ({ cls := "SeedBench", name := "turn", desc := "(I)I" } : MethodName) ({ cls := "SeedBench", name := "turn", desc := "(I)I" } : MethodName) ∈ gT := gm_2 (List.mem_of_getElem? (i := 203) rfl) rfl
theorem kw_657 : Cond.code ({ cls := "SeedBenchModel", name := "turn", desc := "(I)I" } : MethodName) prog_12_method_30_code (2 : Nat) (Option.some FieldType.int) ∈ gT := gm_5 (List.mem_of_getElem? (i := 118) rfl) rfl
theorem kw_658 : Cond.methodLink "SeedBenchLaw" (36 : Nat) ({ cls := "SeedBenchModel", name := "turn", desc := "(I)I" } : MethodName) ∈ gT := gm_5 (List.mem_of_getElem? (i := 115) rfl) rfl
theorem kw_659 : Cond.instanceMethod ({ cls := "SeedBenchModel", name := "turn", desc := "(I)I" } : MethodName) ∈ gT := gm_5 (List.mem_of_getElem? (i := 116) rfl) rfl
theorem kw_660 : Cond.selects "SeedBenchModel" ({ cls := "SeedBenchModel", name := "turn", desc := "(I)I" } : MethodName) ({ cls := "SeedBenchModel", name := "turn", desc := "(I)I" } : MethodName) ∈ gT := gm_5 (List.mem_of_getElem? (i := 117) rfl) rfl
theorem kw_661 : Cond.code ({ cls := "SeedBench", name := "back", desc := "()Z" } : MethodName) prog_1_method_7_code (2 : Nat) (Option.some FieldType.boolean) ∈ gT := gm_3 (List.mem_of_getElem? (i := 29) rfl) rfl
theorem kw_662 : Cond.methodLink "SeedBenchLaw" (37 : Nat) ({ cls := "SeedBench", name := "back", desc := "()Z" } : MethodName) ∈ gT := gm_3 (List.mem_of_getElem? (i := 26) rfl) rfl
theorem kw_663 : Cond.instanceMethod ({ cls := "SeedBench", name := "back", desc := "()Z" } : MethodName) ∈ gT := gm_3 (List.mem_of_getElem? (i := 27) rfl) rfl
theorem kw_664 : Cond.selects "SeedBench" ({ cls := "SeedBench", name := "back", desc := "()Z" } : MethodName) ({ cls := "SeedBench", name := "back", desc := "()Z" } : MethodName) ∈ gT := gm_3 (List.mem_of_getElem? (i := 28) rfl) rfl
theorem kw_665 : Cond.code ({ cls := "SeedBenchModel", name := "back", desc := "()Z" } : MethodName) prog_12_method_31_code (1 : Nat) (Option.some FieldType.boolean) ∈ gT := gm_5 (List.mem_of_getElem? (i := 176) rfl) rfl
theorem kw_666 : Cond.methodLink "SeedBenchLaw" (41 : Nat) ({ cls := "SeedBenchModel", name := "back", desc := "()Z" } : MethodName) ∈ gT := gm_5 (List.mem_of_getElem? (i := 173) rfl) rfl
theorem kw_667 : Cond.instanceMethod ({ cls := "SeedBenchModel", name := "back", desc := "()Z" } : MethodName) ∈ gT := gm_5 (List.mem_of_getElem? (i := 174) rfl) rfl
theorem kw_668 : Cond.selects "SeedBenchModel" ({ cls := "SeedBenchModel", name := "back", desc := "()Z" } : MethodName) ({ cls := "SeedBenchModel", name := "back", desc := "()Z" } : MethodName) ∈ gT := gm_5 (List.mem_of_getElem? (i := 175) rfl) rfl
theorem kw_669 : Cond.code ({ cls := "SeedBench", name := "b", desc := "(II)I" } : MethodName) prog_1_method_8_code (3 : Nat) (Option.some FieldType.int) ∈ gT := gm_3 (List.mem_of_getElem? (i := 33) rfl) rfl
theorem kw_670 : Cond.methodLink "SeedBenchLaw" (42 : Nat) ({ cls := "SeedBench", name := "b", desc := "(II)I" } : MethodName) ∈ gT := gm_3 (List.mem_of_getElem? (i := 30) rfl) rfl
theorem kw_671 : Cond.instanceMethod ({ cls := "SeedBench", name := "b", desc := "(II)I" } : MethodName) ∈ gT := gm_3 (List.mem_of_getElem? (i := 31) rfl) rfl
theorem kw_672 : Cond.selects "SeedBench" ({ cls := "SeedBench", name := "b", desc := "(II)I" } : MethodName) ({ cls := "SeedBench", name := "b", desc := "(II)I" } : MethodName) ∈ gT := gm_3 (List.mem_of_getElem? (i := 32) rfl) rfl
theorem kw_673 : Cond.code ({ cls := "SeedBenchModel", name := "b", desc := "(II)I" } : MethodName) prog_12_method_32_code (3 : Nat) (Option.some FieldType.int) ∈ gT := gm_5 (List.mem_of_getElem? (i := 180) rfl) rfl
theorem kw_674 : Cond.methodLink "SeedBenchLaw" (46 : Nat) ({ cls := "SeedBenchModel", name := "b", desc := "(II)I" } : MethodName) ∈ gT := gm_5 (List.mem_of_getElem? (i := 177) rfl) rfl
theorem kw_675 : Cond.instanceMethod ({ cls := "SeedBenchModel", name := "b", desc := "(II)I" } : MethodName) ∈ gT := gm_5 (List.mem_of_getElem? (i := 178) rfl) rfl
theorem kw_676 : Cond.selects "SeedBenchModel" ({ cls := "SeedBenchModel", name := "b", desc := "(II)I" } : MethodName) ({ cls := "SeedBenchModel", name := "b", desc := "(II)I" } : MethodName) ∈ gT := gm_5 (List.mem_of_getElem? (i := 179) rfl) rfl
theorem kw_677 : Cond.code ({ cls := "SeedBench", name := "terms", desc := "(I)I" } : MethodName) prog_1_method_9_code (2 : Nat) (Option.some FieldType.int) ∈ gT := gm_3 (List.mem_of_getElem? (i := 37) rfl) rfl
theorem kw_678 : Cond.methodLink "SeedBenchLaw" (47 : Nat) ({ cls := "SeedBench", name := "terms", desc := "(I)I" } : MethodName) ∈ gT := gm_3 (List.mem_of_getElem? (i := 34) rfl) rfl
theorem kw_679 : Cond.instanceMethod ({ cls := "SeedBench", name := "terms", desc := "(I)I" } : MethodName) ∈ gT := gm_3 (List.mem_of_getElem? (i := 35) rfl) rfl
theorem kw_680 : Cond.selects "SeedBench" ({ cls := "SeedBench", name := "terms", desc := "(I)I" } : MethodName) ({ cls := "SeedBench", name := "terms", desc := "(I)I" } : MethodName) ∈ gT := gm_3 (List.mem_of_getElem? (i := 36) rfl) rfl
theorem kw_681 : Cond.code ({ cls := "SeedBenchModel", name := "terms", desc := "(I)I" } : MethodName) prog_12_method_33_code (2 : Nat) (Option.some FieldType.int) ∈ gT := gm_5 (List.mem_of_getElem? (i := 184) rfl) rfl
theorem kw_682 : Cond.methodLink "SeedBenchLaw" (50 : Nat) ({ cls := "SeedBenchModel", name := "terms", desc := "(I)I" } : MethodName) ∈ gT := gm_5 (List.mem_of_getElem? (i := 181) rfl) rfl
theorem kw_683 : Cond.instanceMethod ({ cls := "SeedBenchModel", name := "terms", desc := "(I)I" } : MethodName) ∈ gT := gm_5 (List.mem_of_getElem? (i := 182) rfl) rfl
theorem kw_684 : Cond.selects "SeedBenchModel" ({ cls := "SeedBenchModel", name := "terms", desc := "(I)I" } : MethodName) ({ cls := "SeedBenchModel", name := "terms", desc := "(I)I" } : MethodName) ∈ gT := gm_5 (List.mem_of_getElem? (i := 183) rfl) rfl
theorem kw_685 : Cond.code ({ cls := "SeedBench", name := "term", desc := "(III)J" } : MethodName) prog_1_method_10_code (5 : Nat) (Option.some FieldType.long) ∈ gT := gm_3 (List.mem_of_getElem? (i := 41) rfl) rfl
theorem kw_686 : Cond.methodLink "SeedBenchLaw" (51 : Nat) ({ cls := "SeedBench", name := "term", desc := "(III)J" } : MethodName) ∈ gT := gm_3 (List.mem_of_getElem? (i := 38) rfl) rfl
theorem kw_687 : Cond.instanceMethod ({ cls := "SeedBench", name := "term", desc := "(III)J" } : MethodName) ∈ gT := gm_3 (List.mem_of_getElem? (i := 39) rfl) rfl
theorem kw_688 : Cond.selects "SeedBench" ({ cls := "SeedBench", name := "term", desc := "(III)J" } : MethodName) ({ cls := "SeedBench", name := "term", desc := "(III)J" } : MethodName) ∈ gT := gm_3 (List.mem_of_getElem? (i := 40) rfl) rfl
theorem kw_689 : Cond.code ({ cls := "SeedBenchModel", name := "term", desc := "(III)J" } : MethodName) prog_12_method_34_code (4 : Nat) (Option.some FieldType.long) ∈ gT := gm_5 (List.mem_of_getElem? (i := 188) rfl) rfl
theorem kw_690 : Cond.methodLink "SeedBenchLaw" (55 : Nat) ({ cls := "SeedBenchModel", name := "term", desc := "(III)J" } : MethodName) ∈ gT := gm_5 (List.mem_of_getElem? (i := 185) rfl) rfl
theorem kw_691 : Cond.instanceMethod ({ cls := "SeedBenchModel", name := "term", desc := "(III)J" } : MethodName) ∈ gT := gm_5 (List.mem_of_getElem? (i := 186) rfl) rfl
theorem kw_692 : Cond.selects "SeedBenchModel" ({ cls := "SeedBenchModel", name := "term", desc := "(III)J" } : MethodName) ({ cls := "SeedBenchModel", name := "term", desc := "(III)J" } : MethodName) ∈ gT := gm_5 (List.mem_of_getElem? (i := 187) rfl) rfl
theorem kw_693 : Cond.code ({ cls := "SeedBench", name := "least", desc := "(II)I" } : MethodName) prog_1_method_11_code (3 : Nat) (Option.some FieldType.int) ∈ gT := gm_3 (List.mem_of_getElem? (i := 49) rfl) rfl
theorem kw_694 : Cond.methodLink "SeedBenchLaw" (56 : Nat) ({ cls := "SeedBench", name := "least", desc := "(II)I" } : MethodName) ∈ gT := gm_3 (List.mem_of_getElem? (i := 46) rfl) rfl
theorem kw_695 : Cond.instanceMethod ({ cls := "SeedBench", name := "least", desc := "(II)I" } : MethodName) ∈ gT := gm_3 (List.mem_of_getElem? (i := 47) rfl) rfl
theorem kw_696 : Cond.selects "SeedBench" ({ cls := "SeedBench", name := "least", desc := "(II)I" } : MethodName) ({ cls := "SeedBench", name := "least", desc := "(II)I" } : MethodName) ∈ gT := gm_3 (List.mem_of_getElem? (i := 48) rfl) rfl
theorem kw_697 : Cond.code ({ cls := "SeedBenchModel", name := "least", desc := "(II)I" } : MethodName) prog_12_method_37_code (3 : Nat) (Option.some FieldType.int) ∈ gT := gm_5 (List.mem_of_getElem? (i := 192) rfl) rfl
theorem kw_698 : Cond.methodLink "SeedBenchLaw" (59 : Nat) ({ cls := "SeedBenchModel", name := "least", desc := "(II)I" } : MethodName) ∈ gT := gm_5 (List.mem_of_getElem? (i := 189) rfl) rfl
theorem kw_699 : Cond.instanceMethod ({ cls := "SeedBenchModel", name := "least", desc := "(II)I" } : MethodName) ∈ gT := gm_5 (List.mem_of_getElem? (i := 190) rfl) rfl
theorem kw_700 : Cond.selects "SeedBenchModel" ({ cls := "SeedBenchModel", name := "least", desc := "(II)I" } : MethodName) ({ cls := "SeedBenchModel", name := "least", desc := "(II)I" } : MethodName) ∈ gT := gm_5 (List.mem_of_getElem? (i := 191) rfl) rfl
theorem kw_701 : Cond.code ({ cls := "SeedBench", name := "ones", desc := "(I)J" } : MethodName) prog_1_method_12_code (2 : Nat) (Option.some FieldType.long) ∈ gT := gm_3 (List.mem_of_getElem? (i := 60) rfl) rfl
theorem kw_702 : Cond.methodLink "SeedBenchLaw" (60 : Nat) ({ cls := "SeedBench", name := "ones", desc := "(I)J" } : MethodName) ∈ gT := gm_3 (List.mem_of_getElem? (i := 57) rfl) rfl
theorem kw_703 : Cond.instanceMethod ({ cls := "SeedBench", name := "ones", desc := "(I)J" } : MethodName) ∈ gT := gm_3 (List.mem_of_getElem? (i := 58) rfl) rfl
theorem kw_704 : Cond.selects "SeedBench" ({ cls := "SeedBench", name := "ones", desc := "(I)J" } : MethodName) ({ cls := "SeedBench", name := "ones", desc := "(I)J" } : MethodName) ∈ gT := gm_3 (List.mem_of_getElem? (i := 59) rfl) rfl
theorem kw_705 : Cond.code ({ cls := "SeedBenchModel", name := "ones", desc := "(I)J" } : MethodName) prog_12_method_38_code (2 : Nat) (Option.some FieldType.long) ∈ gT := gm_5 (List.mem_of_getElem? (i := 203) rfl) rfl
theorem kw_706 : Cond.methodLink "SeedBenchLaw" (64 : Nat) ({ cls := "SeedBenchModel", name := "ones", desc := "(I)J" } : MethodName) ∈ gT := gm_5 (List.mem_of_getElem? (i := 200) rfl) rfl
theorem kw_707 : Cond.instanceMethod ({ cls := "SeedBenchModel", name := "ones", desc := "(I)J" } : MethodName) ∈ gT := gm_5 (List.mem_of_getElem? (i := 201) rfl) rfl
theorem kw_708 : Cond.selects "SeedBenchModel" ({ cls := "SeedBenchModel", name := "ones", desc := "(I)J" } : MethodName) ({ cls := "SeedBenchModel", name := "ones", desc := "(I)J" } : MethodName) ∈ gT := gm_5 (List.mem_of_getElem? (i := 202) rfl) rfl
theorem kw_709 : Cond.code ({ cls := "SeedBench", name := "keep", desc := "(I)Z" } : MethodName) prog_1_method_13_code (2 : Nat) (Option.some FieldType.boolean) ∈ gT := gm_3 (List.mem_of_getElem? (i := 68) rfl) rfl
theorem kw_710 : Cond.methodLink "SeedBenchLaw" (65 : Nat) ({ cls := "SeedBench", name := "keep", desc := "(I)Z" } : MethodName) ∈ gT := gm_3 (List.mem_of_getElem? (i := 65) rfl) rfl
theorem kw_711 : Cond.instanceMethod ({ cls := "SeedBench", name := "keep", desc := "(I)Z" } : MethodName) ∈ gT := gm_3 (List.mem_of_getElem? (i := 66) rfl) rfl
theorem kw_712 : Cond.selects "SeedBench" ({ cls := "SeedBench", name := "keep", desc := "(I)Z" } : MethodName) ({ cls := "SeedBench", name := "keep", desc := "(I)Z" } : MethodName) ∈ gT := gm_3 (List.mem_of_getElem? (i := 67) rfl) rfl
theorem kw_713 : Cond.code ({ cls := "SeedBenchModel", name := "keep", desc := "(I)Z" } : MethodName) prog_12_method_39_code (3 : Nat) (Option.some FieldType.boolean) ∈ gT := gm_5 (List.mem_of_getElem? (i := 211) rfl) rfl
theorem kw_714 : Cond.methodLink "SeedBenchLaw" (69 : Nat) ({ cls := "SeedBenchModel", name := "keep", desc := "(I)Z" } : MethodName) ∈ gT := gm_5 (List.mem_of_getElem? (i := 208) rfl) rfl
theorem kw_715 : Cond.instanceMethod ({ cls := "SeedBenchModel", name := "keep", desc := "(I)Z" } : MethodName) ∈ gT := gm_5 (List.mem_of_getElem? (i := 209) rfl) rfl
theorem kw_716 : Cond.selects "SeedBenchModel" ({ cls := "SeedBenchModel", name := "keep", desc := "(I)Z" } : MethodName) ({ cls := "SeedBenchModel", name := "keep", desc := "(I)Z" } : MethodName) ∈ gT := gm_5 (List.mem_of_getElem? (i := 210) rfl) rfl
theorem kw_717 : Cond.code ({ cls := "SeedBench", name := "same", desc := "(I)I" } : MethodName) prog_1_method_14_code (2 : Nat) (Option.some FieldType.int) ∈ gT := gm_3 (List.mem_of_getElem? (i := 80) rfl) rfl
theorem kw_718 : Cond.methodLink "SeedBenchLaw" (70 : Nat) ({ cls := "SeedBench", name := "same", desc := "(I)I" } : MethodName) ∈ gT := gm_3 (List.mem_of_getElem? (i := 77) rfl) rfl
theorem kw_719 : Cond.instanceMethod ({ cls := "SeedBench", name := "same", desc := "(I)I" } : MethodName) ∈ gT := gm_3 (List.mem_of_getElem? (i := 78) rfl) rfl
theorem kw_720 : Cond.selects "SeedBench" ({ cls := "SeedBench", name := "same", desc := "(I)I" } : MethodName) ({ cls := "SeedBench", name := "same", desc := "(I)I" } : MethodName) ∈ gT := gm_3 (List.mem_of_getElem? (i := 79) rfl) rfl
theorem kw_721 : Cond.code ({ cls := "SeedBenchModel", name := "same", desc := "(I)I" } : MethodName) prog_12_method_40_code (5 : Nat) (Option.some FieldType.int) ∈ gT := gm_5 (List.mem_of_getElem? (i := 215) rfl) rfl
theorem kw_722 : Cond.methodLink "SeedBenchLaw" (73 : Nat) ({ cls := "SeedBenchModel", name := "same", desc := "(I)I" } : MethodName) ∈ gT := gm_5 (List.mem_of_getElem? (i := 212) rfl) rfl
theorem kw_723 : Cond.instanceMethod ({ cls := "SeedBenchModel", name := "same", desc := "(I)I" } : MethodName) ∈ gT := gm_5 (List.mem_of_getElem? (i := 213) rfl) rfl
theorem kw_724 : Cond.selects "SeedBenchModel" ({ cls := "SeedBenchModel", name := "same", desc := "(I)I" } : MethodName) ({ cls := "SeedBenchModel", name := "same", desc := "(I)I" } : MethodName) ∈ gT := gm_5 (List.mem_of_getElem? (i := 214) rfl) rfl
theorem kw_725 : Cond.code ({ cls := "SeedBench", name := "all", desc := "()I" } : MethodName) prog_1_method_15_code (2 : Nat) (Option.some FieldType.int) ∈ gT := gm_3 (List.mem_of_getElem? (i := 100) rfl) rfl
theorem kw_726 : Cond.methodLink "SeedBenchLaw" (74 : Nat) ({ cls := "SeedBench", name := "all", desc := "()I" } : MethodName) ∈ gT := gm_3 (List.mem_of_getElem? (i := 97) rfl) rfl
theorem kw_727 : Cond.instanceMethod ({ cls := "SeedBench", name := "all", desc := "()I" } : MethodName) ∈ gT := gm_3 (List.mem_of_getElem? (i := 98) rfl) rfl
theorem kw_728 : Cond.selects "SeedBench" ({ cls := "SeedBench", name := "all", desc := "()I" } : MethodName) ({ cls := "SeedBench", name := "all", desc := "()I" } : MethodName) ∈ gT := gm_3 (List.mem_of_getElem? (i := 99) rfl) rfl
theorem kw_729 : Cond.code ({ cls := "SeedBenchModel", name := "all", desc := "()I" } : MethodName) prog_12_method_48_code (4 : Nat) (Option.some FieldType.int) ∈ gT := gm_5 (List.mem_of_getElem? (i := 223) rfl) rfl
theorem kw_730 : Cond.methodLink "SeedBenchLaw" (77 : Nat) ({ cls := "SeedBenchModel", name := "all", desc := "()I" } : MethodName) ∈ gT := gm_5 (List.mem_of_getElem? (i := 220) rfl) rfl
theorem kw_731 : Cond.instanceMethod ({ cls := "SeedBenchModel", name := "all", desc := "()I" } : MethodName) ∈ gT := gm_5 (List.mem_of_getElem? (i := 221) rfl) rfl
theorem kw_732 : Cond.selects "SeedBenchModel" ({ cls := "SeedBenchModel", name := "all", desc := "()I" } : MethodName) ({ cls := "SeedBenchModel", name := "all", desc := "()I" } : MethodName) ∈ gT := gm_5 (List.mem_of_getElem? (i := 222) rfl) rfl
theorem kw_733 : Cond.code ({ cls := "SeedBench", name := "what", desc := "(II)J" } : MethodName) prog_1_method_16_code (3 : Nat) (Option.some FieldType.long) ∈ gT := gm_3 (List.mem_of_getElem? (i := 155) rfl) rfl
theorem kw_734 : Cond.methodLink "SeedBenchLaw" (78 : Nat) ({ cls := "SeedBench", name := "what", desc := "(II)J" } : MethodName) ∈ gT := gm_3 (List.mem_of_getElem? (i := 152) rfl) rfl
theorem kw_735 : Cond.instanceMethod ({ cls := "SeedBench", name := "what", desc := "(II)J" } : MethodName) ∈ gT := gm_3 (List.mem_of_getElem? (i := 153) rfl) rfl
theorem kw_736 : Cond.selects "SeedBench" ({ cls := "SeedBench", name := "what", desc := "(II)J" } : MethodName) ({ cls := "SeedBench", name := "what", desc := "(II)J" } : MethodName) ∈ gT := gm_3 (List.mem_of_getElem? (i := 154) rfl) rfl
theorem kw_737 : Cond.code ({ cls := "SeedBenchModel", name := "what", desc := "(II)J" } : MethodName) prog_12_method_49_code (3 : Nat) (Option.some FieldType.long) ∈ gT := gm_6 (List.mem_of_getElem? (i := 15) rfl) rfl
theorem kw_738 : Cond.methodLink "SeedBenchLaw" (82 : Nat) ({ cls := "SeedBenchModel", name := "what", desc := "(II)J" } : MethodName) ∈ gT := gm_6 (List.mem_of_getElem? (i := 12) rfl) rfl
theorem kw_739 : Cond.instanceMethod ({ cls := "SeedBenchModel", name := "what", desc := "(II)J" } : MethodName) ∈ gT := gm_6 (List.mem_of_getElem? (i := 13) rfl) rfl
theorem kw_740 : Cond.selects "SeedBenchModel" ({ cls := "SeedBenchModel", name := "what", desc := "(II)J" } : MethodName) ({ cls := "SeedBenchModel", name := "what", desc := "(II)J" } : MethodName) ∈ gT := gm_6 (List.mem_of_getElem? (i := 14) rfl) rfl
theorem kw_741 : Cond.code ({ cls := "SeedBench", name := "finite", desc := "()I" } : MethodName) prog_1_method_17_code (1 : Nat) (Option.some FieldType.int) ∈ gT := gm_3 (List.mem_of_getElem? (i := 164) rfl) rfl
theorem kw_742 : Cond.methodLink "SeedBenchLaw" (83 : Nat) ({ cls := "SeedBench", name := "finite", desc := "()I" } : MethodName) ∈ gT := gm_3 (List.mem_of_getElem? (i := 161) rfl) rfl
theorem kw_743 : Cond.instanceMethod ({ cls := "SeedBench", name := "finite", desc := "()I" } : MethodName) ∈ gT := gm_3 (List.mem_of_getElem? (i := 162) rfl) rfl
theorem kw_744 : Cond.selects "SeedBench" ({ cls := "SeedBench", name := "finite", desc := "()I" } : MethodName) ({ cls := "SeedBench", name := "finite", desc := "()I" } : MethodName) ∈ gT := gm_3 (List.mem_of_getElem? (i := 163) rfl) rfl
theorem kw_745 : Cond.code ({ cls := "SeedBenchModel", name := "finite", desc := "()I" } : MethodName) prog_12_method_54_code (2 : Nat) (Option.some FieldType.int) ∈ gT := gm_6 (List.mem_of_getElem? (i := 20) rfl) rfl
theorem kw_746 : Cond.methodLink "SeedBenchLaw" (86 : Nat) ({ cls := "SeedBenchModel", name := "finite", desc := "()I" } : MethodName) ∈ gT := gm_6 (List.mem_of_getElem? (i := 17) rfl) rfl
theorem kw_747 : Cond.instanceMethod ({ cls := "SeedBenchModel", name := "finite", desc := "()I" } : MethodName) ∈ gT := gm_6 (List.mem_of_getElem? (i := 18) rfl) rfl
theorem kw_748 : Cond.selects "SeedBenchModel" ({ cls := "SeedBenchModel", name := "finite", desc := "()I" } : MethodName) ({ cls := "SeedBenchModel", name := "finite", desc := "()I" } : MethodName) ∈ gT := gm_6 (List.mem_of_getElem? (i := 19) rfl) rfl
theorem kw_749 : Cond.code ({ cls := "SeedBench", name := "step", desc := "(I)I" } : MethodName) prog_1_method_18_code (2 : Nat) (Option.some FieldType.int) ∈ gT := gm_3 (List.mem_of_getElem? (i := 210) rfl) rfl
theorem kw_750 : Cond.methodLink "SeedBenchLaw" (87 : Nat) ({ cls := "SeedBench", name := "step", desc := "(I)I" } : MethodName) ∈ gT := gm_3 (List.mem_of_getElem? (i := 207) rfl) rfl
theorem kw_751 : Cond.instanceMethod ({ cls := "SeedBench", name := "step", desc := "(I)I" } : MethodName) ∈ gT := gm_3 (List.mem_of_getElem? (i := 208) rfl) rfl
theorem kw_752 : Cond.selects "SeedBench" ({ cls := "SeedBench", name := "step", desc := "(I)I" } : MethodName) ({ cls := "SeedBench", name := "step", desc := "(I)I" } : MethodName) ∈ gT := gm_3 (List.mem_of_getElem? (i := 209) rfl) rfl
theorem kw_753 : Cond.code ({ cls := "SeedBenchModel", name := "step", desc := "(I)I" } : MethodName) prog_12_method_56_code (2 : Nat) (Option.some FieldType.int) ∈ gT := gm_6 (List.mem_of_getElem? (i := 44) rfl) rfl
theorem kw_754 : Cond.methodLink "SeedBenchLaw" (90 : Nat) ({ cls := "SeedBenchModel", name := "step", desc := "(I)I" } : MethodName) ∈ gT := gm_6 (List.mem_of_getElem? (i := 41) rfl) rfl
theorem kw_755 : Cond.instanceMethod ({ cls := "SeedBenchModel", name := "step", desc := "(I)I" } : MethodName) ∈ gT := gm_6 (List.mem_of_getElem? (i := 42) rfl) rfl
theorem kw_756 : Cond.selects "SeedBenchModel" ({ cls := "SeedBenchModel", name := "step", desc := "(I)I" } : MethodName) ({ cls := "SeedBenchModel", name := "step", desc := "(I)I" } : MethodName) ∈ gT := gm_6 (List.mem_of_getElem? (i := 43) rfl) rfl
theorem kw_757 : Cond.code ({ cls := "SeedBench", name := "tables", desc := "()I" } : MethodName) prog_1_method_19_code (1 : Nat) (Option.some FieldType.int) ∈ gT := gm_3 (List.mem_of_getElem? (i := 214) rfl) rfl
theorem kw_758 : Cond.methodLink "SeedBenchLaw" (91 : Nat) ({ cls := "SeedBench", name := "tables", desc := "()I" } : MethodName) ∈ gT := gm_3 (List.mem_of_getElem? (i := 211) rfl) rfl
theorem kw_759 : Cond.instanceMethod ({ cls := "SeedBench", name := "tables", desc := "()I" } : MethodName) ∈ gT := gm_3 (List.mem_of_getElem? (i := 212) rfl) rfl
theorem kw_760 : Cond.selects "SeedBench" ({ cls := "SeedBench", name := "tables", desc := "()I" } : MethodName) ({ cls := "SeedBench", name := "tables", desc := "()I" } : MethodName) ∈ gT := gm_3 (List.mem_of_getElem? (i := 213) rfl) rfl
theorem kw_761 : Cond.code ({ cls := "SeedBenchModel", name := "tables", desc := "()I" } : MethodName) prog_12_method_57_code (1 : Nat) (Option.some FieldType.int) ∈ gT := gm_6 (List.mem_of_getElem? (i := 48) rfl) rfl
theorem kw_762 : Cond.methodLink "SeedBenchLaw" (94 : Nat) ({ cls := "SeedBenchModel", name := "tables", desc := "()I" } : MethodName) ∈ gT := gm_6 (List.mem_of_getElem? (i := 45) rfl) rfl
theorem kw_763 : Cond.instanceMethod ({ cls := "SeedBenchModel", name := "tables", desc := "()I" } : MethodName) ∈ gT := gm_6 (List.mem_of_getElem? (i := 46) rfl) rfl
theorem kw_764 : Cond.selects "SeedBenchModel" ({ cls := "SeedBenchModel", name := "tables", desc := "()I" } : MethodName) ({ cls := "SeedBenchModel", name := "tables", desc := "()I" } : MethodName) ∈ gT := gm_6 (List.mem_of_getElem? (i := 47) rfl) rfl
theorem kw_765 : Cond.code ({ cls := "SeedBench", name := "row", desc := "(III)Z" } : MethodName) prog_1_method_20_code (4 : Nat) (Option.some FieldType.boolean) ∈ gT := gm_3 (List.mem_of_getElem? (i := 218) rfl) rfl
theorem kw_766 : Cond.methodLink "SeedBenchLaw" (95 : Nat) ({ cls := "SeedBench", name := "row", desc := "(III)Z" } : MethodName) ∈ gT := gm_3 (List.mem_of_getElem? (i := 215) rfl) rfl
theorem kw_767 : Cond.instanceMethod ({ cls := "SeedBench", name := "row", desc := "(III)Z" } : MethodName) ∈ gT := gm_3 (List.mem_of_getElem? (i := 216) rfl) rfl
theorem kw_768 : Cond.selects "SeedBench" ({ cls := "SeedBench", name := "row", desc := "(III)Z" } : MethodName) ({ cls := "SeedBench", name := "row", desc := "(III)Z" } : MethodName) ∈ gT := gm_3 (List.mem_of_getElem? (i := 217) rfl) rfl
theorem kw_769 : Cond.code ({ cls := "SeedBenchModel", name := "row", desc := "(III)Z" } : MethodName) prog_12_method_58_code (5 : Nat) (Option.some FieldType.boolean) ∈ gT := gm_6 (List.mem_of_getElem? (i := 52) rfl) rfl
theorem kw_770 : Cond.methodLink "SeedBenchLaw" (98 : Nat) ({ cls := "SeedBenchModel", name := "row", desc := "(III)Z" } : MethodName) ∈ gT := gm_6 (List.mem_of_getElem? (i := 49) rfl) rfl
theorem kw_771 : Cond.instanceMethod ({ cls := "SeedBenchModel", name := "row", desc := "(III)Z" } : MethodName) ∈ gT := gm_6 (List.mem_of_getElem? (i := 50) rfl) rfl
theorem kw_772 : Cond.selects "SeedBenchModel" ({ cls := "SeedBenchModel", name := "row", desc := "(III)Z" } : MethodName) ({ cls := "SeedBenchModel", name := "row", desc := "(III)Z" } : MethodName) ∈ gT := gm_6 (List.mem_of_getElem? (i := 51) rfl) rfl
theorem kw_773 : Cond.code ({ cls := "SeedBench", name := "order", desc := "()I" } : MethodName) prog_1_method_21_code (2 : Nat) (Option.some FieldType.int) ∈ gT := gm_3 (List.mem_of_getElem? (i := 223) rfl) rfl
theorem kw_774 : Cond.methodLink "SeedBenchLaw" (99 : Nat) ({ cls := "SeedBench", name := "order", desc := "()I" } : MethodName) ∈ gT := gm_3 (List.mem_of_getElem? (i := 220) rfl) rfl
theorem kw_775 : Cond.instanceMethod ({ cls := "SeedBench", name := "order", desc := "()I" } : MethodName) ∈ gT := gm_3 (List.mem_of_getElem? (i := 221) rfl) rfl
theorem kw_776 : Cond.selects "SeedBench" ({ cls := "SeedBench", name := "order", desc := "()I" } : MethodName) ({ cls := "SeedBench", name := "order", desc := "()I" } : MethodName) ∈ gT := gm_3 (List.mem_of_getElem? (i := 222) rfl) rfl
theorem kw_777 : Cond.code ({ cls := "SeedBenchModel", name := "order", desc := "()I" } : MethodName) prog_12_method_59_code (5 : Nat) (Option.some FieldType.int) ∈ gT := gm_6 (List.mem_of_getElem? (i := 56) rfl) rfl
theorem kw_778 : Cond.methodLink "SeedBenchLaw" (102 : Nat) ({ cls := "SeedBenchModel", name := "order", desc := "()I" } : MethodName) ∈ gT := gm_6 (List.mem_of_getElem? (i := 53) rfl) rfl
theorem kw_779 : Cond.instanceMethod ({ cls := "SeedBenchModel", name := "order", desc := "()I" } : MethodName) ∈ gT := gm_6 (List.mem_of_getElem? (i := 54) rfl) rfl
theorem kw_780 : Cond.selects "SeedBenchModel" ({ cls := "SeedBenchModel", name := "order", desc := "()I" } : MethodName) ({ cls := "SeedBenchModel", name := "order", desc := "()I" } : MethodName) ∈ gT := gm_6 (List.mem_of_getElem? (i := 55) rfl) rfl
theorem kw_781 : Cond.code ({ cls := "SeedBench", name := "ring", desc := "(II)Z" } : MethodName) prog_1_method_22_code (3 : Nat) (Option.some FieldType.boolean) ∈ gT := gm_3 (List.mem_of_getElem? (i := 231) rfl) rfl
theorem kw_782 : Cond.methodLink "SeedBenchLaw" (103 : Nat) ({ cls := "SeedBench", name := "ring", desc := "(II)Z" } : MethodName) ∈ gT := gm_3 (List.mem_of_getElem? (i := 228) rfl) rfl
theorem kw_783 : Cond.instanceMethod ({ cls := "SeedBench", name := "ring", desc := "(II)Z" } : MethodName) ∈ gT := gm_3 (List.mem_of_getElem? (i := 229) rfl) rfl
theorem kw_784 : Cond.selects "SeedBench" ({ cls := "SeedBench", name := "ring", desc := "(II)Z" } : MethodName) ({ cls := "SeedBench", name := "ring", desc := "(II)Z" } : MethodName) ∈ gT := gm_3 (List.mem_of_getElem? (i := 230) rfl) rfl
theorem kw_785 : Cond.code ({ cls := "SeedBenchModel", name := "ring", desc := "(II)Z" } : MethodName) prog_12_method_62_code (4 : Nat) (Option.some FieldType.boolean) ∈ gT := gm_6 (List.mem_of_getElem? (i := 64) rfl) rfl
theorem kw_786 : Cond.methodLink "SeedBenchLaw" (106 : Nat) ({ cls := "SeedBenchModel", name := "ring", desc := "(II)Z" } : MethodName) ∈ gT := gm_6 (List.mem_of_getElem? (i := 61) rfl) rfl
theorem kw_787 : Cond.instanceMethod ({ cls := "SeedBenchModel", name := "ring", desc := "(II)Z" } : MethodName) ∈ gT := gm_6 (List.mem_of_getElem? (i := 62) rfl) rfl
theorem kw_788 : Cond.selects "SeedBenchModel" ({ cls := "SeedBenchModel", name := "ring", desc := "(II)Z" } : MethodName) ({ cls := "SeedBenchModel", name := "ring", desc := "(II)Z" } : MethodName) ∈ gT := gm_6 (List.mem_of_getElem? (i := 63) rfl) rfl
theorem kw_789 : Cond.code ({ cls := "SeedBench", name := "fence", desc := "(III)I" } : MethodName) prog_1_method_23_code (5 : Nat) (Option.some FieldType.int) ∈ gT := gm_3 (List.mem_of_getElem? (i := 238) rfl) rfl
theorem kw_790 : Cond.methodLink "SeedBenchLaw" (107 : Nat) ({ cls := "SeedBench", name := "fence", desc := "(III)I" } : MethodName) ∈ gT := gm_3 (List.mem_of_getElem? (i := 235) rfl) rfl
theorem kw_791 : Cond.instanceMethod ({ cls := "SeedBench", name := "fence", desc := "(III)I" } : MethodName) ∈ gT := gm_3 (List.mem_of_getElem? (i := 236) rfl) rfl
theorem kw_792 : Cond.selects "SeedBench" ({ cls := "SeedBench", name := "fence", desc := "(III)I" } : MethodName) ({ cls := "SeedBench", name := "fence", desc := "(III)I" } : MethodName) ∈ gT := gm_3 (List.mem_of_getElem? (i := 237) rfl) rfl
theorem kw_793 : Cond.code ({ cls := "SeedBenchModel", name := "fence", desc := "(III)I" } : MethodName) prog_12_method_66_code (7 : Nat) (Option.some FieldType.int) ∈ gT := gm_6 (List.mem_of_getElem? (i := 72) rfl) rfl
theorem kw_794 : Cond.methodLink "SeedBenchLaw" (111 : Nat) ({ cls := "SeedBenchModel", name := "fence", desc := "(III)I" } : MethodName) ∈ gT := gm_6 (List.mem_of_getElem? (i := 69) rfl) rfl
theorem kw_795 : Cond.instanceMethod ({ cls := "SeedBenchModel", name := "fence", desc := "(III)I" } : MethodName) ∈ gT := gm_6 (List.mem_of_getElem? (i := 70) rfl) rfl
theorem kw_796 : Cond.selects "SeedBenchModel" ({ cls := "SeedBenchModel", name := "fence", desc := "(III)I" } : MethodName) ({ cls := "SeedBenchModel", name := "fence", desc := "(III)I" } : MethodName) ∈ gT := gm_6 (List.mem_of_getElem? (i := 71) rfl) rfl
theorem kw_797 : Cond.code ({ cls := "SeedBench", name := "flip", desc := "(III)I" } : MethodName) prog_1_method_24_code (6 : Nat) (Option.some FieldType.int) ∈ gT := gm_4 (List.mem_of_getElem? (i := 35) rfl) rfl
theorem kw_798 : Cond.methodLink "SeedBenchLaw" (112 : Nat) ({ cls := "SeedBench", name := "flip", desc := "(III)I" } : MethodName) ∈ gT := gm_4 (List.mem_of_getElem? (i := 32) rfl) rfl
theorem kw_799 : Cond.instanceMethod ({ cls := "SeedBench", name := "flip", desc := "(III)I" } : MethodName) ∈ gT := gm_4 (List.mem_of_getElem? (i := 33) rfl) rfl
theorem kw_800 : Cond.selects "SeedBench" ({ cls := "SeedBench", name := "flip", desc := "(III)I" } : MethodName) ({ cls := "SeedBench", name := "flip", desc := "(III)I" } : MethodName) ∈ gT := gm_4 (List.mem_of_getElem? (i := 34) rfl) rfl
theorem kw_801 : Cond.code ({ cls := "SeedBenchModel", name := "flip", desc := "(III)I" } : MethodName) prog_12_method_72_code (5 : Nat) (Option.some FieldType.int) ∈ gT := gm_6 (List.mem_of_getElem? (i := 89) rfl) rfl
theorem kw_802 : Cond.methodLink "SeedBenchLaw" (115 : Nat) ({ cls := "SeedBenchModel", name := "flip", desc := "(III)I" } : MethodName) ∈ gT := gm_6 (List.mem_of_getElem? (i := 86) rfl) rfl
theorem kw_803 : Cond.instanceMethod ({ cls := "SeedBenchModel", name := "flip", desc := "(III)I" } : MethodName) ∈ gT := gm_6 (List.mem_of_getElem? (i := 87) rfl) rfl
theorem kw_804 : Cond.selects "SeedBenchModel" ({ cls := "SeedBenchModel", name := "flip", desc := "(III)I" } : MethodName) ({ cls := "SeedBenchModel", name := "flip", desc := "(III)I" } : MethodName) ∈ gT := gm_6 (List.mem_of_getElem? (i := 88) rfl) rfl
theorem kw_805 : Cond.code ({ cls := "SeedBench", name := "ringOf", desc := "(II)I" } : MethodName) prog_1_method_25_code (3 : Nat) (Option.some FieldType.int) ∈ gT := gm_4 (List.mem_of_getElem? (i := 55) rfl) rfl
theorem kw_806 : Cond.methodLink "SeedBenchLaw" (116 : Nat) ({ cls := "SeedBench", name := "ringOf", desc := "(II)I" } : MethodName) ∈ gT := gm_4 (List.mem_of_getElem? (i := 52) rfl) rfl
theorem kw_807 : Cond.instanceMethod ({ cls := "SeedBench", name := "ringOf", desc := "(II)I" } : MethodName) ∈ gT := gm_4 (List.mem_of_getElem? (i := 53) rfl) rfl
theorem kw_808 : Cond.selects "SeedBench" ({ cls := "SeedBench", name := "ringOf", desc := "(II)I" } : MethodName) ({ cls := "SeedBench", name := "ringOf", desc := "(II)I" } : MethodName) ∈ gT := gm_4 (List.mem_of_getElem? (i := 54) rfl) rfl
theorem kw_809 : Cond.code ({ cls := "SeedBenchModel", name := "ringOf", desc := "(II)I" } : MethodName) prog_12_method_75_code (3 : Nat) (Option.some FieldType.int) ∈ gT := gm_6 (List.mem_of_getElem? (i := 112) rfl) rfl
theorem kw_810 : Cond.methodLink "SeedBenchLaw" (119 : Nat) ({ cls := "SeedBenchModel", name := "ringOf", desc := "(II)I" } : MethodName) ∈ gT := gm_6 (List.mem_of_getElem? (i := 109) rfl) rfl
theorem kw_811 : Cond.instanceMethod ({ cls := "SeedBenchModel", name := "ringOf", desc := "(II)I" } : MethodName) ∈ gT := gm_6 (List.mem_of_getElem? (i := 110) rfl) rfl
theorem kw_812 : Cond.selects "SeedBenchModel" ({ cls := "SeedBenchModel", name := "ringOf", desc := "(II)I" } : MethodName) ({ cls := "SeedBenchModel", name := "ringOf", desc := "(II)I" } : MethodName) ∈ gT := gm_6 (List.mem_of_getElem? (i := 111) rfl) rfl
theorem kw_813 : Cond.code ({ cls := "SeedBench", name := "frieze", desc := "(III)J" } : MethodName) prog_1_method_26_code (4 : Nat) (Option.some FieldType.long) ∈ gT := gm_4 (List.mem_of_getElem? (i := 72) rfl) rfl
theorem kw_814 : Cond.methodLink "SeedBenchLaw" (120 : Nat) ({ cls := "SeedBench", name := "frieze", desc := "(III)J" } : MethodName) ∈ gT := gm_4 (List.mem_of_getElem? (i := 69) rfl) rfl
theorem kw_815 : Cond.instanceMethod ({ cls := "SeedBench", name := "frieze", desc := "(III)J" } : MethodName) ∈ gT := gm_4 (List.mem_of_getElem? (i := 70) rfl) rfl
theorem kw_816 : Cond.selects "SeedBench" ({ cls := "SeedBench", name := "frieze", desc := "(III)J" } : MethodName) ({ cls := "SeedBench", name := "frieze", desc := "(III)J" } : MethodName) ∈ gT := gm_4 (List.mem_of_getElem? (i := 71) rfl) rfl
theorem kw_817 : Cond.code ({ cls := "SeedBenchModel", name := "frieze", desc := "(III)J" } : MethodName) prog_12_method_76_code (11 : Nat) (Option.some FieldType.long) ∈ gT := gm_6 (List.mem_of_getElem? (i := 124) rfl) rfl
theorem kw_818 : Cond.methodLink "SeedBenchLaw" (123 : Nat) ({ cls := "SeedBenchModel", name := "frieze", desc := "(III)J" } : MethodName) ∈ gT := gm_6 (List.mem_of_getElem? (i := 121) rfl) rfl
theorem kw_819 : Cond.instanceMethod ({ cls := "SeedBenchModel", name := "frieze", desc := "(III)J" } : MethodName) ∈ gT := gm_6 (List.mem_of_getElem? (i := 122) rfl) rfl
theorem kw_820 : Cond.selects "SeedBenchModel" ({ cls := "SeedBenchModel", name := "frieze", desc := "(III)J" } : MethodName) ({ cls := "SeedBenchModel", name := "frieze", desc := "(III)J" } : MethodName) ∈ gT := gm_6 (List.mem_of_getElem? (i := 123) rfl) rfl
theorem kw_821 : Cond.code ({ cls := "SeedBench", name := "way", desc := "()I" } : MethodName) prog_1_method_27_code (1 : Nat) (Option.some FieldType.int) ∈ gT := gm_4 (List.mem_of_getElem? (i := 80) rfl) rfl
theorem kw_822 : Cond.methodLink "SeedBenchLaw" (124 : Nat) ({ cls := "SeedBench", name := "way", desc := "()I" } : MethodName) ∈ gT := gm_4 (List.mem_of_getElem? (i := 77) rfl) rfl
theorem kw_823 : Cond.instanceMethod ({ cls := "SeedBench", name := "way", desc := "()I" } : MethodName) ∈ gT := gm_4 (List.mem_of_getElem? (i := 78) rfl) rfl
theorem kw_824 : Cond.selects "SeedBench" ({ cls := "SeedBench", name := "way", desc := "()I" } : MethodName) ({ cls := "SeedBench", name := "way", desc := "()I" } : MethodName) ∈ gT := gm_4 (List.mem_of_getElem? (i := 79) rfl) rfl
theorem kw_825 : Cond.code ({ cls := "SeedBenchModel", name := "way", desc := "()I" } : MethodName) prog_12_method_80_code (10 : Nat) (Option.some FieldType.int) ∈ gT := gm_6 (List.mem_of_getElem? (i := 128) rfl) rfl
theorem kw_826 : Cond.methodLink "SeedBenchLaw" (127 : Nat) ({ cls := "SeedBenchModel", name := "way", desc := "()I" } : MethodName) ∈ gT := gm_6 (List.mem_of_getElem? (i := 125) rfl) rfl
theorem kw_827 : Cond.instanceMethod ({ cls := "SeedBenchModel", name := "way", desc := "()I" } : MethodName) ∈ gT := gm_6 (List.mem_of_getElem? (i := 126) rfl) rfl
theorem kw_828 : Cond.selects "SeedBenchModel" ({ cls := "SeedBenchModel", name := "way", desc := "()I" } : MethodName) ({ cls := "SeedBenchModel", name := "way", desc := "()I" } : MethodName) ∈ gT := gm_6 (List.mem_of_getElem? (i := 127) rfl) rfl
theorem kw_829 : Cond.code ({ cls := "SeedBench", name := "goes", desc := "(I)I" } : MethodName) prog_1_method_28_code (2 : Nat) (Option.some FieldType.int) ∈ gT := gm_4 (List.mem_of_getElem? (i := 107) rfl) rfl
theorem kw_830 : Cond.methodLink "SeedBenchLaw" (128 : Nat) ({ cls := "SeedBench", name := "goes", desc := "(I)I" } : MethodName) ∈ gT := gm_4 (List.mem_of_getElem? (i := 104) rfl) rfl
theorem kw_831 : Cond.instanceMethod ({ cls := "SeedBench", name := "goes", desc := "(I)I" } : MethodName) ∈ gT := gm_4 (List.mem_of_getElem? (i := 105) rfl) rfl
theorem kw_832 : Cond.selects "SeedBench" ({ cls := "SeedBench", name := "goes", desc := "(I)I" } : MethodName) ({ cls := "SeedBench", name := "goes", desc := "(I)I" } : MethodName) ∈ gT := gm_4 (List.mem_of_getElem? (i := 106) rfl) rfl
theorem kw_833 : Cond.code ({ cls := "SeedBenchModel", name := "goes", desc := "(I)I" } : MethodName) prog_12_method_81_code (2 : Nat) (Option.some FieldType.int) ∈ gT := gm_6 (List.mem_of_getElem? (i := 144) rfl) rfl
theorem kw_834 : Cond.methodLink "SeedBenchLaw" (131 : Nat) ({ cls := "SeedBenchModel", name := "goes", desc := "(I)I" } : MethodName) ∈ gT := gm_6 (List.mem_of_getElem? (i := 141) rfl) rfl
theorem kw_835 : Cond.instanceMethod ({ cls := "SeedBenchModel", name := "goes", desc := "(I)I" } : MethodName) ∈ gT := gm_6 (List.mem_of_getElem? (i := 142) rfl) rfl
theorem kw_836 : Cond.selects "SeedBenchModel" ({ cls := "SeedBenchModel", name := "goes", desc := "(I)I" } : MethodName) ({ cls := "SeedBenchModel", name := "goes", desc := "(I)I" } : MethodName) ∈ gT := gm_6 (List.mem_of_getElem? (i := 143) rfl) rfl
theorem kw_837 : Cond.code ({ cls := "SeedBench", name := "seed", desc := "(I)Z" } : MethodName) prog_1_method_29_code (2 : Nat) (Option.some FieldType.boolean) ∈ gT := gm_4 (List.mem_of_getElem? (i := 111) rfl) rfl
theorem kw_838 : Cond.methodLink "SeedBenchLaw" (132 : Nat) ({ cls := "SeedBench", name := "seed", desc := "(I)Z" } : MethodName) ∈ gT := gm_4 (List.mem_of_getElem? (i := 108) rfl) rfl
theorem kw_839 : Cond.instanceMethod ({ cls := "SeedBench", name := "seed", desc := "(I)Z" } : MethodName) ∈ gT := gm_4 (List.mem_of_getElem? (i := 109) rfl) rfl
theorem kw_840 : Cond.selects "SeedBench" ({ cls := "SeedBench", name := "seed", desc := "(I)Z" } : MethodName) ({ cls := "SeedBench", name := "seed", desc := "(I)Z" } : MethodName) ∈ gT := gm_4 (List.mem_of_getElem? (i := 110) rfl) rfl
theorem kw_841 : Cond.code ({ cls := "SeedBenchModel", name := "seed", desc := "(I)Z" } : MethodName) prog_12_method_84_code (10 : Nat) (Option.some FieldType.boolean) ∈ gT := gm_6 (List.mem_of_getElem? (i := 148) rfl) rfl
theorem kw_842 : Cond.methodLink "SeedBenchLaw" (135 : Nat) ({ cls := "SeedBenchModel", name := "seed", desc := "(I)Z" } : MethodName) ∈ gT := gm_6 (List.mem_of_getElem? (i := 145) rfl) rfl
theorem kw_843 : Cond.instanceMethod ({ cls := "SeedBenchModel", name := "seed", desc := "(I)Z" } : MethodName) ∈ gT := gm_6 (List.mem_of_getElem? (i := 146) rfl) rfl
theorem kw_844 : Cond.selects "SeedBenchModel" ({ cls := "SeedBenchModel", name := "seed", desc := "(I)Z" } : MethodName) ({ cls := "SeedBenchModel", name := "seed", desc := "(I)Z" } : MethodName) ∈ gT := gm_6 (List.mem_of_getElem? (i := 147) rfl) rfl
theorem kw_845 : Cond.code ({ cls := "SeedBench", name := "count", desc := "(I)I" } : MethodName) prog_1_method_30_code (2 : Nat) (Option.some FieldType.int) ∈ gT := gm_4 (List.mem_of_getElem? (i := 126) rfl) rfl
theorem kw_846 : Cond.methodLink "SeedBenchLaw" (136 : Nat) ({ cls := "SeedBench", name := "count", desc := "(I)I" } : MethodName) ∈ gT := gm_4 (List.mem_of_getElem? (i := 123) rfl) rfl
theorem kw_847 : Cond.instanceMethod ({ cls := "SeedBench", name := "count", desc := "(I)I" } : MethodName) ∈ gT := gm_4 (List.mem_of_getElem? (i := 124) rfl) rfl
theorem kw_848 : Cond.selects "SeedBench" ({ cls := "SeedBench", name := "count", desc := "(I)I" } : MethodName) ({ cls := "SeedBench", name := "count", desc := "(I)I" } : MethodName) ∈ gT := gm_4 (List.mem_of_getElem? (i := 125) rfl) rfl
theorem kw_849 : Cond.code ({ cls := "SeedBenchModel", name := "count", desc := "(I)I" } : MethodName) prog_12_method_85_code (4 : Nat) (Option.some FieldType.int) ∈ gT := gm_6 (List.mem_of_getElem? (i := 162) rfl) rfl
theorem kw_850 : Cond.methodLink "SeedBenchLaw" (139 : Nat) ({ cls := "SeedBenchModel", name := "count", desc := "(I)I" } : MethodName) ∈ gT := gm_6 (List.mem_of_getElem? (i := 159) rfl) rfl
theorem kw_851 : Cond.instanceMethod ({ cls := "SeedBenchModel", name := "count", desc := "(I)I" } : MethodName) ∈ gT := gm_6 (List.mem_of_getElem? (i := 160) rfl) rfl
theorem kw_852 : Cond.selects "SeedBenchModel" ({ cls := "SeedBenchModel", name := "count", desc := "(I)I" } : MethodName) ({ cls := "SeedBenchModel", name := "count", desc := "(I)I" } : MethodName) ∈ gT := gm_6 (List.mem_of_getElem? (i := 161) rfl) rfl
theorem kw_853 : Cond.code ({ cls := "SeedBench", name := "<init>", desc := "()V" } : MethodName) prog_1_method_1_code (2 : Nat) (Option.none : Option FieldType) ∈ gT := gm_1 (List.mem_of_getElem? (i := 21) rfl) rfl
theorem kw_854 : Cond.methodLink "SeedBenchLaw" (9 : Nat) ({ cls := "SeedBench", name := "<init>", desc := "()V" } : MethodName) ∈ gT := gm_1 (List.mem_of_getElem? (i := 19) rfl) rfl
theorem kw_855 : Cond.instanceMethod ({ cls := "SeedBench", name := "<init>", desc := "()V" } : MethodName) ∈ gT := gm_1 (List.mem_of_getElem? (i := 20) rfl) rfl
theorem kw_856 : Cond.code ({ cls := "SeedBenchModel", name := "<init>", desc := "()V" } : MethodName) prog_12_method_2_code (1 : Nat) (Option.none : Option FieldType) ∈ gT := gm_4 (List.mem_of_getElem? (i := 135) rfl) rfl
theorem kw_857 : Cond.methodLink "SeedBenchLaw" (12 : Nat) ({ cls := "SeedBenchModel", name := "<init>", desc := "()V" } : MethodName) ∈ gT := gm_4 (List.mem_of_getElem? (i := 133) rfl) rfl
theorem kw_858 : Cond.instanceMethod ({ cls := "SeedBenchModel", name := "<init>", desc := "()V" } : MethodName) ∈ gT := gm_4 (List.mem_of_getElem? (i := 134) rfl) rfl
theorem hz_86 : (mt ([], []) 86).2.2.2.2.1.cells = 0 ∧ (mt ([], []) 86).2.2.2.2.1.slots = 0 := by
  rw [show mt ([], []) 86 = m_X9_table ([], []) from rfl]
  exact ⟨rfl, rfl⟩
theorem hz_144 : (mt ([], []) 144).2.2.2.2.1.cells = 0 ∧ (mt ([], []) 144).2.2.2.2.1.slots = 0 := by
  rw [show mt ([], []) 144 = m_X10_table ([], []) from rfl]
  exact ⟨rfl, rfl⟩
theorem hz_60 : (mt ([], []) 60).2.2.2.2.1.cells = 0 ∧ (mt ([], []) 60).2.2.2.2.1.slots = 0 := by
  rw [show mt ([], []) 60 = m_X9_arrows ([], []) from rfl]
  exact ⟨rfl, rfl⟩
theorem hz_99 : (mt ([], []) 99).2.2.2.2.1.cells = 0 ∧ (mt ([], []) 99).2.2.2.2.1.slots = 0 := by
  rw [show mt ([], []) 99 = m_X10_arrows ([], []) from rfl]
  exact ⟨rfl, rfl⟩
theorem hz_63 : (mt ([], []) 63).2.2.2.2.1.cells = 0 ∧ (mt ([], []) 63).2.2.2.2.1.slots = 0 := by
  rw [show mt ([], []) 63 = m_X9_begin ([], []) from rfl]
  exact ⟨rfl, rfl⟩
theorem hz_102 : (mt ([], []) 102).2.2.2.2.1.cells = 0 ∧ (mt ([], []) 102).2.2.2.2.1.slots = 0 := by
  rw [show mt ([], []) 102 = m_X10_begin ([], []) from rfl]
  exact ⟨rfl, rfl⟩
theorem hz_84 : (mt ([], []) 84).2.2.2.2.1.cells = 0 ∧ (mt ([], []) 84).2.2.2.2.1.slots = 0 := by
  rw [show mt ([], []) 84 = m_X9_size ([], []) from rfl]
  exact ⟨rfl, rfl⟩
theorem hz_141 : (mt ([], []) 141).2.2.2.2.1.cells = 0 ∧ (mt ([], []) 141).2.2.2.2.1.slots = 0 := by
  rw [show mt ([], []) 141 = m_X10_size ([], []) from rfl]
  exact ⟨rfl, rfl⟩
theorem hz_90 : (mt ([], []) 90).2.2.2.2.1.cells = 0 ∧ (mt ([], []) 90).2.2.2.2.1.slots = 0 := by
  rw [show mt ([], []) 90 = m_X9_turn ([], []) from rfl]
  exact ⟨rfl, rfl⟩
theorem hz_152 : (mt ([], []) 152).2.2.2.2.1.cells = 0 ∧ (mt ([], []) 152).2.2.2.2.1.slots = 0 := by
  rw [show mt ([], []) 152 = m_X10_turn ([], []) from rfl]
  exact ⟨rfl, rfl⟩
theorem hz_62 : (mt ([], []) 62).2.2.2.2.1.cells = 0 ∧ (mt ([], []) 62).2.2.2.2.1.slots = 0 := by
  rw [show mt ([], []) 62 = m_X9_back ([], []) from rfl]
  exact ⟨rfl, rfl⟩
theorem hz_101 : (mt ([], []) 101).2.2.2.2.1.cells = 0 ∧ (mt ([], []) 101).2.2.2.2.1.slots = 0 := by
  rw [show mt ([], []) 101 = m_X10_back ([], []) from rfl]
  exact ⟨rfl, rfl⟩
theorem hz_61 : (mt ([], []) 61).2.2.2.2.1.cells = 0 ∧ (mt ([], []) 61).2.2.2.2.1.slots = 0 := by
  rw [show mt ([], []) 61 = m_X9_b ([], []) from rfl]
  exact ⟨rfl, rfl⟩
theorem hz_100 : (mt ([], []) 100).2.2.2.2.1.cells = 0 ∧ (mt ([], []) 100).2.2.2.2.1.slots = 0 := by
  rw [show mt ([], []) 100 = m_X10_b ([], []) from rfl]
  exact ⟨rfl, rfl⟩
theorem hz_89 : (mt ([], []) 89).2.2.2.2.1.cells = 0 ∧ (mt ([], []) 89).2.2.2.2.1.slots = 0 := by
  rw [show mt ([], []) 89 = m_X9_terms ([], []) from rfl]
  exact ⟨rfl, rfl⟩
theorem hz_150 : (mt ([], []) 150).2.2.2.2.1.cells = 0 ∧ (mt ([], []) 150).2.2.2.2.1.slots = 0 := by
  rw [show mt ([], []) 150 = m_X10_terms ([], []) from rfl]
  exact ⟨rfl, rfl⟩
theorem hz_88 : (mt ([], []) 88).2.2.2.2.1.cells = 0 ∧ (mt ([], []) 88).2.2.2.2.1.slots = 0 := by
  rw [show mt ([], []) 88 = m_X9_term ([], []) from rfl]
  exact ⟨rfl, rfl⟩
theorem hz_149 : (mt ([], []) 149).2.2.2.2.1.cells = 0 ∧ (mt ([], []) 149).2.2.2.2.1.slots = 0 := by
  rw [show mt ([], []) 149 = m_X10_term ([], []) from rfl]
  exact ⟨rfl, rfl⟩
theorem hz_76 : (mt ([], []) 76).2.2.2.2.1.cells = 0 ∧ (mt ([], []) 76).2.2.2.2.1.slots = 0 := by
  rw [show mt ([], []) 76 = m_X9_least ([], []) from rfl]
  exact ⟨rfl, rfl⟩
theorem hz_122 : (mt ([], []) 122).2.2.2.2.1.cells = 0 ∧ (mt ([], []) 122).2.2.2.2.1.slots = 0 := by
  rw [show mt ([], []) 122 = m_X10_least ([], []) from rfl]
  exact ⟨rfl, rfl⟩
theorem hz_77 : (mt ([], []) 77).2.2.2.2.1.cells = 0 ∧ (mt ([], []) 77).2.2.2.2.1.slots = 0 := by
  rw [show mt ([], []) 77 = m_X9_ones ([], []) from rfl]
  exact ⟨rfl, rfl⟩
theorem hz_128 : (mt ([], []) 128).2.2.2.2.1.cells = 0 ∧ (mt ([], []) 128).2.2.2.2.1.slots = 0 := by
  rw [show mt ([], []) 128 = m_X10_ones ([], []) from rfl]
  exact ⟨rfl, rfl⟩
theorem hz_75 : (mt ([], []) 75).2.2.2.2.1.cells = 0 ∧ (mt ([], []) 75).2.2.2.2.1.slots = 0 := by
  rw [show mt ([], []) 75 = m_X9_keep ([], []) from rfl]
  exact ⟨rfl, rfl⟩
theorem hz_121 : (mt ([], []) 121).2.2.2.2.1.cells = 0 ∧ (mt ([], []) 121).2.2.2.2.1.slots = 0 := by
  rw [show mt ([], []) 121 = m_X10_keep ([], []) from rfl]
  exact ⟨rfl, rfl⟩
theorem hz_82 : (mt ([], []) 82).2.2.2.2.1.cells = 0 ∧ (mt ([], []) 82).2.2.2.2.1.slots = 0 := by
  rw [show mt ([], []) 82 = m_X9_same ([], []) from rfl]
  exact ⟨rfl, rfl⟩
theorem hz_137 : (mt ([], []) 137).2.2.2.2.1.cells = 0 ∧ (mt ([], []) 137).2.2.2.2.1.slots = 0 := by
  rw [show mt ([], []) 137 = m_X10_same ([], []) from rfl]
  exact ⟨rfl, rfl⟩
theorem hz_59 : (mt ([], []) 59).2.2.2.2.1.cells = 0 ∧ (mt ([], []) 59).2.2.2.2.1.slots = 0 := by
  rw [show mt ([], []) 59 = m_X9_all ([], []) from rfl]
  exact ⟨rfl, rfl⟩
theorem hz_96 : (mt ([], []) 96).2.2.2.2.1.cells = 0 ∧ (mt ([], []) 96).2.2.2.2.1.slots = 0 := by
  rw [show mt ([], []) 96 = m_X10_all ([], []) from rfl]
  exact ⟨rfl, rfl⟩
theorem hz_93 : (mt ([], []) 93).2.2.2.2.1.cells = 0 ∧ (mt ([], []) 93).2.2.2.2.1.slots = 0 := by
  rw [show mt ([], []) 93 = m_X9_what ([], []) from rfl]
  exact ⟨rfl, rfl⟩
theorem hz_157 : (mt ([], []) 157).2.2.2.2.1.cells = 0 ∧ (mt ([], []) 157).2.2.2.2.1.slots = 0 := by
  rw [show mt ([], []) 157 = m_X10_what ([], []) from rfl]
  exact ⟨rfl, rfl⟩
theorem hz_66 : (mt ([], []) 66).2.2.2.2.1.cells = 0 ∧ (mt ([], []) 66).2.2.2.2.1.slots = 0 := by
  rw [show mt ([], []) 66 = m_X9_finite ([], []) from rfl]
  exact ⟨rfl, rfl⟩
theorem hz_108 : (mt ([], []) 108).2.2.2.2.1.cells = 0 ∧ (mt ([], []) 108).2.2.2.2.1.slots = 0 := by
  rw [show mt ([], []) 108 = m_X10_finite ([], []) from rfl]
  exact ⟨rfl, rfl⟩
theorem hz_85 : (mt ([], []) 85).2.2.2.2.1.cells = 0 ∧ (mt ([], []) 85).2.2.2.2.1.slots = 0 := by
  rw [show mt ([], []) 85 = m_X9_step ([], []) from rfl]
  exact ⟨rfl, rfl⟩
theorem hz_142 : (mt ([], []) 142).2.2.2.2.1.cells = 0 ∧ (mt ([], []) 142).2.2.2.2.1.slots = 0 := by
  rw [show mt ([], []) 142 = m_X10_step ([], []) from rfl]
  exact ⟨rfl, rfl⟩
theorem hz_87 : (mt ([], []) 87).2.2.2.2.1.cells = 0 ∧ (mt ([], []) 87).2.2.2.2.1.slots = 0 := by
  rw [show mt ([], []) 87 = m_X9_tables ([], []) from rfl]
  exact ⟨rfl, rfl⟩
theorem hz_146 : (mt ([], []) 146).2.2.2.2.1.cells = 0 ∧ (mt ([], []) 146).2.2.2.2.1.slots = 0 := by
  rw [show mt ([], []) 146 = m_X10_tables ([], []) from rfl]
  exact ⟨rfl, rfl⟩
theorem hz_81 : (mt ([], []) 81).2.2.2.2.1.cells = 0 ∧ (mt ([], []) 81).2.2.2.2.1.slots = 0 := by
  rw [show mt ([], []) 81 = m_X9_row ([], []) from rfl]
  exact ⟨rfl, rfl⟩
theorem hz_136 : (mt ([], []) 136).2.2.2.2.1.cells = 0 ∧ (mt ([], []) 136).2.2.2.2.1.slots = 0 := by
  rw [show mt ([], []) 136 = m_X10_row ([], []) from rfl]
  exact ⟨rfl, rfl⟩
theorem hz_78 : (mt ([], []) 78).2.2.2.2.1.cells = 0 ∧ (mt ([], []) 78).2.2.2.2.1.slots = 0 := by
  rw [show mt ([], []) 78 = m_X9_order ([], []) from rfl]
  exact ⟨rfl, rfl⟩
theorem hz_129 : (mt ([], []) 129).2.2.2.2.1.cells = 0 ∧ (mt ([], []) 129).2.2.2.2.1.slots = 0 := by
  rw [show mt ([], []) 129 = m_X10_order ([], []) from rfl]
  exact ⟨rfl, rfl⟩
theorem hz_79 : (mt ([], []) 79).2.2.2.2.1.cells = 0 ∧ (mt ([], []) 79).2.2.2.2.1.slots = 0 := by
  rw [show mt ([], []) 79 = m_X9_ring ([], []) from rfl]
  exact ⟨rfl, rfl⟩
theorem hz_134 : (mt ([], []) 134).2.2.2.2.1.cells = 0 ∧ (mt ([], []) 134).2.2.2.2.1.slots = 0 := by
  rw [show mt ([], []) 134 = m_X10_ring ([], []) from rfl]
  exact ⟨rfl, rfl⟩
theorem hz_65 : (mt ([], []) 65).2.2.2.2.1.cells = 0 ∧ (mt ([], []) 65).2.2.2.2.1.slots = 0 := by
  rw [show mt ([], []) 65 = m_X9_fence ([], []) from rfl]
  exact ⟨rfl, rfl⟩
theorem hz_106 : (mt ([], []) 106).2.2.2.2.1.cells = 0 ∧ (mt ([], []) 106).2.2.2.2.1.slots = 0 := by
  rw [show mt ([], []) 106 = m_X10_fence ([], []) from rfl]
  exact ⟨rfl, rfl⟩
theorem hz_67 : (mt ([], []) 67).2.2.2.2.1.cells = 0 ∧ (mt ([], []) 67).2.2.2.2.1.slots = 0 := by
  rw [show mt ([], []) 67 = m_X9_flip ([], []) from rfl]
  exact ⟨rfl, rfl⟩
theorem hz_110 : (mt ([], []) 110).2.2.2.2.1.cells = 0 ∧ (mt ([], []) 110).2.2.2.2.1.slots = 0 := by
  rw [show mt ([], []) 110 = m_X10_flip ([], []) from rfl]
  exact ⟨rfl, rfl⟩
theorem hz_80 : (mt ([], []) 80).2.2.2.2.1.cells = 0 ∧ (mt ([], []) 80).2.2.2.2.1.slots = 0 := by
  rw [show mt ([], []) 80 = m_X9_ringOf ([], []) from rfl]
  exact ⟨rfl, rfl⟩
theorem hz_135 : (mt ([], []) 135).2.2.2.2.1.cells = 0 ∧ (mt ([], []) 135).2.2.2.2.1.slots = 0 := by
  rw [show mt ([], []) 135 = m_X10_ringOf ([], []) from rfl]
  exact ⟨rfl, rfl⟩
theorem hz_68 : (mt ([], []) 68).2.2.2.2.1.cells = 0 ∧ (mt ([], []) 68).2.2.2.2.1.slots = 0 := by
  rw [show mt ([], []) 68 = m_X9_frieze ([], []) from rfl]
  exact ⟨rfl, rfl⟩
theorem hz_111 : (mt ([], []) 111).2.2.2.2.1.cells = 0 ∧ (mt ([], []) 111).2.2.2.2.1.slots = 0 := by
  rw [show mt ([], []) 111 = m_X10_frieze ([], []) from rfl]
  exact ⟨rfl, rfl⟩
theorem hz_92 : (mt ([], []) 92).2.2.2.2.1.cells = 0 ∧ (mt ([], []) 92).2.2.2.2.1.slots = 0 := by
  rw [show mt ([], []) 92 = m_X9_way ([], []) from rfl]
  exact ⟨rfl, rfl⟩
theorem hz_156 : (mt ([], []) 156).2.2.2.2.1.cells = 0 ∧ (mt ([], []) 156).2.2.2.2.1.slots = 0 := by
  rw [show mt ([], []) 156 = m_X10_way ([], []) from rfl]
  exact ⟨rfl, rfl⟩
theorem hz_69 : (mt ([], []) 69).2.2.2.2.1.cells = 0 ∧ (mt ([], []) 69).2.2.2.2.1.slots = 0 := by
  rw [show mt ([], []) 69 = m_X9_goes ([], []) from rfl]
  exact ⟨rfl, rfl⟩
theorem hz_112 : (mt ([], []) 112).2.2.2.2.1.cells = 0 ∧ (mt ([], []) 112).2.2.2.2.1.slots = 0 := by
  rw [show mt ([], []) 112 = m_X10_goes ([], []) from rfl]
  exact ⟨rfl, rfl⟩
theorem hz_83 : (mt ([], []) 83).2.2.2.2.1.cells = 0 ∧ (mt ([], []) 83).2.2.2.2.1.slots = 0 := by
  rw [show mt ([], []) 83 = m_X9_seed ([], []) from rfl]
  exact ⟨rfl, rfl⟩
theorem hz_140 : (mt ([], []) 140).2.2.2.2.1.cells = 0 ∧ (mt ([], []) 140).2.2.2.2.1.slots = 0 := by
  rw [show mt ([], []) 140 = m_X10_seed ([], []) from rfl]
  exact ⟨rfl, rfl⟩
theorem hz_64 : (mt ([], []) 64).2.2.2.2.1.cells = 0 ∧ (mt ([], []) 64).2.2.2.2.1.slots = 0 := by
  rw [show mt ([], []) 64 = m_X9_count ([], []) from rfl]
  exact ⟨rfl, rfl⟩
theorem hz_105 : (mt ([], []) 105).2.2.2.2.1.cells = 0 ∧ (mt ([], []) 105).2.2.2.2.1.slots = 0 := by
  rw [show mt ([], []) 105 = m_X10_count ([], []) from rfl]
  exact ⟨rfl, rfl⟩
theorem hz_70 : (mt ([], []) 70).2.2.2.2.1.cells = 513 ∧ (mt ([], []) 70).2.2.2.2.1.slots = 421477 := by
  rw [show mt ([], []) 70 = m_X9_init ([], []) from rfl]
  exact ⟨rfl, rfl⟩
theorem hz_115 : (mt ([], []) 115).2.2.2.2.1.cells = 38 ∧ (mt ([], []) 115).2.2.2.2.1.slots = 536755 := by
  rw [show mt ([], []) 115 = m_X10_init ([], []) from rfl]
  exact ⟨rfl, rfl⟩
theorem lk_175 {l : Launch} {D : va_G} {cy : Nat → ClassId} {σ : Nat → Int32} {nm : String} : rx_Lk (gG l D cy σ) (mt ([], [])) (lwM nm) 175 86 3 9 true := rx_lk_V gok (mid := 86) (ci := 9) (C := (RX9, TX9, 15)) ⟨kw_621, kw_54, hd_X9_table, Nat.le_of_ble_eq_true rfl, Nat.le_of_ble_eq_true rfl⟩ rfl kw_622 kw_623 kw_624 dL_law_175
theorem lk_189 {l : Launch} {D : va_G} {cy : Nat → ClassId} {σ : Nat → Int32} {nm : String} : rx_Lk (gG l D cy σ) (mt ([], [])) (lwM nm) 189 144 3 10 true := rx_lk_V gok (mid := 144) (ci := 10) (C := (RX10, TX10, 58)) ⟨kw_625, kw_427, hd_X10_table, Nat.le_of_ble_eq_true rfl, Nat.le_of_ble_eq_true rfl⟩ rfl kw_626 kw_627 kw_628 dL_law_189
theorem lk_213 {l : Launch} {D : va_G} {cy : Nat → ClassId} {σ : Nat → Int32} {nm : String} : rx_Lk (gG l D cy σ) (mt ([], [])) (lwM nm) 213 60 4 9 true := rx_lk_V gok (mid := 60) (ci := 9) (C := (RX9, TX9, 15)) ⟨kw_629, kw_54, hd_X9_arrows, Nat.le_of_ble_eq_true rfl, Nat.le_of_ble_eq_true rfl⟩ rfl kw_630 kw_631 kw_632 dL_law_213
theorem lk_232 {l : Launch} {D : va_G} {cy : Nat → ClassId} {σ : Nat → Int32} {nm : String} : rx_Lk (gG l D cy σ) (mt ([], [])) (lwM nm) 232 99 4 10 true := rx_lk_V gok (mid := 99) (ci := 10) (C := (RX10, TX10, 58)) ⟨kw_633, kw_427, hd_X10_arrows, Nat.le_of_ble_eq_true rfl, Nat.le_of_ble_eq_true rfl⟩ rfl kw_634 kw_635 kw_636 dL_law_232
theorem lk_241 {l : Launch} {D : va_G} {cy : Nat → ClassId} {σ : Nat → Int32} {nm : String} : rx_Lk (gG l D cy σ) (mt ([], [])) (lwM nm) 241 63 1 9 true := rx_lk_V gok (mid := 63) (ci := 9) (C := (RX9, TX9, 15)) ⟨kw_637, kw_54, hd_X9_begin, Nat.le_of_ble_eq_true rfl, Nat.le_of_ble_eq_true rfl⟩ rfl kw_638 kw_639 kw_640 dL_law_241
theorem lk_245 {l : Launch} {D : va_G} {cy : Nat → ClassId} {σ : Nat → Int32} {nm : String} : rx_Lk (gG l D cy σ) (mt ([], [])) (lwM nm) 245 102 1 10 true := rx_lk_V gok (mid := 102) (ci := 10) (C := (RX10, TX10, 58)) ⟨kw_641, kw_427, hd_X10_begin, Nat.le_of_ble_eq_true rfl, Nat.le_of_ble_eq_true rfl⟩ rfl kw_642 kw_643 kw_644 dL_law_245
theorem lk_259 {l : Launch} {D : va_G} {cy : Nat → ClassId} {σ : Nat → Int32} {nm : String} : rx_Lk (gG l D cy σ) (mt ([], [])) (lwM nm) 259 84 2 9 true := rx_lk_V gok (mid := 84) (ci := 9) (C := (RX9, TX9, 15)) ⟨kw_645, kw_54, hd_X9_size, Nat.le_of_ble_eq_true rfl, Nat.le_of_ble_eq_true rfl⟩ rfl kw_646 kw_647 kw_648 dL_law_259
theorem lk_268 {l : Launch} {D : va_G} {cy : Nat → ClassId} {σ : Nat → Int32} {nm : String} : rx_Lk (gG l D cy σ) (mt ([], [])) (lwM nm) 268 141 2 10 true := rx_lk_V gok (mid := 141) (ci := 10) (C := (RX10, TX10, 58)) ⟨kw_649, kw_427, hd_X10_size, Nat.le_of_ble_eq_true rfl, Nat.le_of_ble_eq_true rfl⟩ rfl kw_650 kw_651 kw_652 dL_law_268
theorem lk_282 {l : Launch} {D : va_G} {cy : Nat → ClassId} {σ : Nat → Int32} {nm : String} : rx_Lk (gG l D cy σ) (mt ([], [])) (lwM nm) 282 90 2 9 true := rx_lk_V gok (mid := 90) (ci := 9) (C := (RX9, TX9, 15)) ⟨kw_653, kw_54, hd_X9_turn, Nat.le_of_ble_eq_true rfl, Nat.le_of_ble_eq_true rfl⟩ rfl kw_654 kw_655 kw_656 dL_law_282
theorem lk_291 {l : Launch} {D : va_G} {cy : Nat → ClassId} {σ : Nat → Int32} {nm : String} : rx_Lk (gG l D cy σ) (mt ([], [])) (lwM nm) 291 152 2 10 true := rx_lk_V gok (mid := 152) (ci := 10) (C := (RX10, TX10, 58)) ⟨kw_657, kw_427, hd_X10_turn, Nat.le_of_ble_eq_true rfl, Nat.le_of_ble_eq_true rfl⟩ rfl kw_658 kw_659 kw_660 dL_law_291
theorem lk_300 {l : Launch} {D : va_G} {cy : Nat → ClassId} {σ : Nat → Int32} {nm : String} : rx_Lk (gG l D cy σ) (mt ([], [])) (lwM nm) 300 62 1 9 true := rx_lk_V gok (mid := 62) (ci := 9) (C := (RX9, TX9, 15)) ⟨kw_661, kw_54, hd_X9_back, Nat.le_of_ble_eq_true rfl, Nat.le_of_ble_eq_true rfl⟩ rfl kw_662 kw_663 kw_664 dL_law_300
theorem lk_304 {l : Launch} {D : va_G} {cy : Nat → ClassId} {σ : Nat → Int32} {nm : String} : rx_Lk (gG l D cy σ) (mt ([], [])) (lwM nm) 304 101 1 10 true := rx_lk_V gok (mid := 101) (ci := 10) (C := (RX10, TX10, 58)) ⟨kw_665, kw_427, hd_X10_back, Nat.le_of_ble_eq_true rfl, Nat.le_of_ble_eq_true rfl⟩ rfl kw_666 kw_667 kw_668 dL_law_304
theorem lk_323 {l : Launch} {D : va_G} {cy : Nat → ClassId} {σ : Nat → Int32} {nm : String} : rx_Lk (gG l D cy σ) (mt ([], [])) (lwM nm) 323 61 3 9 true := rx_lk_V gok (mid := 61) (ci := 9) (C := (RX9, TX9, 15)) ⟨kw_669, kw_54, hd_X9_b, Nat.le_of_ble_eq_true rfl, Nat.le_of_ble_eq_true rfl⟩ rfl kw_670 kw_671 kw_672 dL_law_323
theorem lk_337 {l : Launch} {D : va_G} {cy : Nat → ClassId} {σ : Nat → Int32} {nm : String} : rx_Lk (gG l D cy σ) (mt ([], [])) (lwM nm) 337 100 3 10 true := rx_lk_V gok (mid := 100) (ci := 10) (C := (RX10, TX10, 58)) ⟨kw_673, kw_427, hd_X10_b, Nat.le_of_ble_eq_true rfl, Nat.le_of_ble_eq_true rfl⟩ rfl kw_674 kw_675 kw_676 dL_law_337
theorem lk_351 {l : Launch} {D : va_G} {cy : Nat → ClassId} {σ : Nat → Int32} {nm : String} : rx_Lk (gG l D cy σ) (mt ([], [])) (lwM nm) 351 89 2 9 true := rx_lk_V gok (mid := 89) (ci := 9) (C := (RX9, TX9, 15)) ⟨kw_677, kw_54, hd_X9_terms, Nat.le_of_ble_eq_true rfl, Nat.le_of_ble_eq_true rfl⟩ rfl kw_678 kw_679 kw_680 dL_law_351
theorem lk_360 {l : Launch} {D : va_G} {cy : Nat → ClassId} {σ : Nat → Int32} {nm : String} : rx_Lk (gG l D cy σ) (mt ([], [])) (lwM nm) 360 150 2 10 true := rx_lk_V gok (mid := 150) (ci := 10) (C := (RX10, TX10, 58)) ⟨kw_681, kw_427, hd_X10_terms, Nat.le_of_ble_eq_true rfl, Nat.le_of_ble_eq_true rfl⟩ rfl kw_682 kw_683 kw_684 dL_law_360
theorem lk_384 {l : Launch} {D : va_G} {cy : Nat → ClassId} {σ : Nat → Int32} {nm : String} : rx_Lk (gG l D cy σ) (mt ([], [])) (lwM nm) 384 88 4 9 true := rx_lk_V gok (mid := 88) (ci := 9) (C := (RX9, TX9, 15)) ⟨kw_685, kw_54, hd_X9_term, Nat.le_of_ble_eq_true rfl, Nat.le_of_ble_eq_true rfl⟩ rfl kw_686 kw_687 kw_688 dL_law_384
theorem lk_403 {l : Launch} {D : va_G} {cy : Nat → ClassId} {σ : Nat → Int32} {nm : String} : rx_Lk (gG l D cy σ) (mt ([], [])) (lwM nm) 403 149 4 10 true := rx_lk_V gok (mid := 149) (ci := 10) (C := (RX10, TX10, 58)) ⟨kw_689, kw_427, hd_X10_term, Nat.le_of_ble_eq_true rfl, Nat.le_of_ble_eq_true rfl⟩ rfl kw_690 kw_691 kw_692 dL_law_403
theorem lk_423 {l : Launch} {D : va_G} {cy : Nat → ClassId} {σ : Nat → Int32} {nm : String} : rx_Lk (gG l D cy σ) (mt ([], [])) (lwM nm) 423 76 3 9 true := rx_lk_V gok (mid := 76) (ci := 9) (C := (RX9, TX9, 15)) ⟨kw_693, kw_54, hd_X9_least, Nat.le_of_ble_eq_true rfl, Nat.le_of_ble_eq_true rfl⟩ rfl kw_694 kw_695 kw_696 dL_law_423
theorem lk_437 {l : Launch} {D : va_G} {cy : Nat → ClassId} {σ : Nat → Int32} {nm : String} : rx_Lk (gG l D cy σ) (mt ([], [])) (lwM nm) 437 122 3 10 true := rx_lk_V gok (mid := 122) (ci := 10) (C := (RX10, TX10, 58)) ⟨kw_697, kw_427, hd_X10_least, Nat.le_of_ble_eq_true rfl, Nat.le_of_ble_eq_true rfl⟩ rfl kw_698 kw_699 kw_700 dL_law_437
theorem lk_451 {l : Launch} {D : va_G} {cy : Nat → ClassId} {σ : Nat → Int32} {nm : String} : rx_Lk (gG l D cy σ) (mt ([], [])) (lwM nm) 451 77 2 9 true := rx_lk_V gok (mid := 77) (ci := 9) (C := (RX9, TX9, 15)) ⟨kw_701, kw_54, hd_X9_ones, Nat.le_of_ble_eq_true rfl, Nat.le_of_ble_eq_true rfl⟩ rfl kw_702 kw_703 kw_704 dL_law_451
theorem lk_460 {l : Launch} {D : va_G} {cy : Nat → ClassId} {σ : Nat → Int32} {nm : String} : rx_Lk (gG l D cy σ) (mt ([], [])) (lwM nm) 460 128 2 10 true := rx_lk_V gok (mid := 128) (ci := 10) (C := (RX10, TX10, 58)) ⟨kw_705, kw_427, hd_X10_ones, Nat.le_of_ble_eq_true rfl, Nat.le_of_ble_eq_true rfl⟩ rfl kw_706 kw_707 kw_708 dL_law_460
theorem lk_475 {l : Launch} {D : va_G} {cy : Nat → ClassId} {σ : Nat → Int32} {nm : String} : rx_Lk (gG l D cy σ) (mt ([], [])) (lwM nm) 475 75 2 9 true := rx_lk_V gok (mid := 75) (ci := 9) (C := (RX9, TX9, 15)) ⟨kw_709, kw_54, hd_X9_keep, Nat.le_of_ble_eq_true rfl, Nat.le_of_ble_eq_true rfl⟩ rfl kw_710 kw_711 kw_712 dL_law_475
theorem lk_484 {l : Launch} {D : va_G} {cy : Nat → ClassId} {σ : Nat → Int32} {nm : String} : rx_Lk (gG l D cy σ) (mt ([], [])) (lwM nm) 484 121 2 10 true := rx_lk_V gok (mid := 121) (ci := 10) (C := (RX10, TX10, 58)) ⟨kw_713, kw_427, hd_X10_keep, Nat.le_of_ble_eq_true rfl, Nat.le_of_ble_eq_true rfl⟩ rfl kw_714 kw_715 kw_716 dL_law_484
theorem lk_498 {l : Launch} {D : va_G} {cy : Nat → ClassId} {σ : Nat → Int32} {nm : String} : rx_Lk (gG l D cy σ) (mt ([], [])) (lwM nm) 498 82 2 9 true := rx_lk_V gok (mid := 82) (ci := 9) (C := (RX9, TX9, 15)) ⟨kw_717, kw_54, hd_X9_same, Nat.le_of_ble_eq_true rfl, Nat.le_of_ble_eq_true rfl⟩ rfl kw_718 kw_719 kw_720 dL_law_498
theorem lk_507 {l : Launch} {D : va_G} {cy : Nat → ClassId} {σ : Nat → Int32} {nm : String} : rx_Lk (gG l D cy σ) (mt ([], [])) (lwM nm) 507 137 2 10 true := rx_lk_V gok (mid := 137) (ci := 10) (C := (RX10, TX10, 58)) ⟨kw_721, kw_427, hd_X10_same, Nat.le_of_ble_eq_true rfl, Nat.le_of_ble_eq_true rfl⟩ rfl kw_722 kw_723 kw_724 dL_law_507
theorem lk_516 {l : Launch} {D : va_G} {cy : Nat → ClassId} {σ : Nat → Int32} {nm : String} : rx_Lk (gG l D cy σ) (mt ([], [])) (lwM nm) 516 59 1 9 true := rx_lk_V gok (mid := 59) (ci := 9) (C := (RX9, TX9, 15)) ⟨kw_725, kw_54, hd_X9_all, Nat.le_of_ble_eq_true rfl, Nat.le_of_ble_eq_true rfl⟩ rfl kw_726 kw_727 kw_728 dL_law_516
theorem lk_520 {l : Launch} {D : va_G} {cy : Nat → ClassId} {σ : Nat → Int32} {nm : String} : rx_Lk (gG l D cy σ) (mt ([], [])) (lwM nm) 520 96 1 10 true := rx_lk_V gok (mid := 96) (ci := 10) (C := (RX10, TX10, 58)) ⟨kw_729, kw_427, hd_X10_all, Nat.le_of_ble_eq_true rfl, Nat.le_of_ble_eq_true rfl⟩ rfl kw_730 kw_731 kw_732 dL_law_520
theorem lk_539 {l : Launch} {D : va_G} {cy : Nat → ClassId} {σ : Nat → Int32} {nm : String} : rx_Lk (gG l D cy σ) (mt ([], [])) (lwM nm) 539 93 3 9 true := rx_lk_V gok (mid := 93) (ci := 9) (C := (RX9, TX9, 15)) ⟨kw_733, kw_54, hd_X9_what, Nat.le_of_ble_eq_true rfl, Nat.le_of_ble_eq_true rfl⟩ rfl kw_734 kw_735 kw_736 dL_law_539
theorem lk_553 {l : Launch} {D : va_G} {cy : Nat → ClassId} {σ : Nat → Int32} {nm : String} : rx_Lk (gG l D cy σ) (mt ([], [])) (lwM nm) 553 157 3 10 true := rx_lk_V gok (mid := 157) (ci := 10) (C := (RX10, TX10, 58)) ⟨kw_737, kw_427, hd_X10_what, Nat.le_of_ble_eq_true rfl, Nat.le_of_ble_eq_true rfl⟩ rfl kw_738 kw_739 kw_740 dL_law_553
theorem lk_563 {l : Launch} {D : va_G} {cy : Nat → ClassId} {σ : Nat → Int32} {nm : String} : rx_Lk (gG l D cy σ) (mt ([], [])) (lwM nm) 563 66 1 9 true := rx_lk_V gok (mid := 66) (ci := 9) (C := (RX9, TX9, 15)) ⟨kw_741, kw_54, hd_X9_finite, Nat.le_of_ble_eq_true rfl, Nat.le_of_ble_eq_true rfl⟩ rfl kw_742 kw_743 kw_744 dL_law_563
theorem lk_567 {l : Launch} {D : va_G} {cy : Nat → ClassId} {σ : Nat → Int32} {nm : String} : rx_Lk (gG l D cy σ) (mt ([], [])) (lwM nm) 567 108 1 10 true := rx_lk_V gok (mid := 108) (ci := 10) (C := (RX10, TX10, 58)) ⟨kw_745, kw_427, hd_X10_finite, Nat.le_of_ble_eq_true rfl, Nat.le_of_ble_eq_true rfl⟩ rfl kw_746 kw_747 kw_748 dL_law_567
theorem lk_581 {l : Launch} {D : va_G} {cy : Nat → ClassId} {σ : Nat → Int32} {nm : String} : rx_Lk (gG l D cy σ) (mt ([], [])) (lwM nm) 581 85 2 9 true := rx_lk_V gok (mid := 85) (ci := 9) (C := (RX9, TX9, 15)) ⟨kw_749, kw_54, hd_X9_step, Nat.le_of_ble_eq_true rfl, Nat.le_of_ble_eq_true rfl⟩ rfl kw_750 kw_751 kw_752 dL_law_581
theorem lk_590 {l : Launch} {D : va_G} {cy : Nat → ClassId} {σ : Nat → Int32} {nm : String} : rx_Lk (gG l D cy σ) (mt ([], [])) (lwM nm) 590 142 2 10 true := rx_lk_V gok (mid := 142) (ci := 10) (C := (RX10, TX10, 58)) ⟨kw_753, kw_427, hd_X10_step, Nat.le_of_ble_eq_true rfl, Nat.le_of_ble_eq_true rfl⟩ rfl kw_754 kw_755 kw_756 dL_law_590
theorem lk_599 {l : Launch} {D : va_G} {cy : Nat → ClassId} {σ : Nat → Int32} {nm : String} : rx_Lk (gG l D cy σ) (mt ([], [])) (lwM nm) 599 87 1 9 true := rx_lk_V gok (mid := 87) (ci := 9) (C := (RX9, TX9, 15)) ⟨kw_757, kw_54, hd_X9_tables, Nat.le_of_ble_eq_true rfl, Nat.le_of_ble_eq_true rfl⟩ rfl kw_758 kw_759 kw_760 dL_law_599
theorem lk_603 {l : Launch} {D : va_G} {cy : Nat → ClassId} {σ : Nat → Int32} {nm : String} : rx_Lk (gG l D cy σ) (mt ([], [])) (lwM nm) 603 146 1 10 true := rx_lk_V gok (mid := 146) (ci := 10) (C := (RX10, TX10, 58)) ⟨kw_761, kw_427, hd_X10_tables, Nat.le_of_ble_eq_true rfl, Nat.le_of_ble_eq_true rfl⟩ rfl kw_762 kw_763 kw_764 dL_law_603
theorem lk_627 {l : Launch} {D : va_G} {cy : Nat → ClassId} {σ : Nat → Int32} {nm : String} : rx_Lk (gG l D cy σ) (mt ([], [])) (lwM nm) 627 81 4 9 true := rx_lk_V gok (mid := 81) (ci := 9) (C := (RX9, TX9, 15)) ⟨kw_765, kw_54, hd_X9_row, Nat.le_of_ble_eq_true rfl, Nat.le_of_ble_eq_true rfl⟩ rfl kw_766 kw_767 kw_768 dL_law_627
theorem lk_646 {l : Launch} {D : va_G} {cy : Nat → ClassId} {σ : Nat → Int32} {nm : String} : rx_Lk (gG l D cy σ) (mt ([], [])) (lwM nm) 646 136 4 10 true := rx_lk_V gok (mid := 136) (ci := 10) (C := (RX10, TX10, 58)) ⟨kw_769, kw_427, hd_X10_row, Nat.le_of_ble_eq_true rfl, Nat.le_of_ble_eq_true rfl⟩ rfl kw_770 kw_771 kw_772 dL_law_646
theorem lk_655 {l : Launch} {D : va_G} {cy : Nat → ClassId} {σ : Nat → Int32} {nm : String} : rx_Lk (gG l D cy σ) (mt ([], [])) (lwM nm) 655 78 1 9 true := rx_lk_V gok (mid := 78) (ci := 9) (C := (RX9, TX9, 15)) ⟨kw_773, kw_54, hd_X9_order, Nat.le_of_ble_eq_true rfl, Nat.le_of_ble_eq_true rfl⟩ rfl kw_774 kw_775 kw_776 dL_law_655
theorem lk_659 {l : Launch} {D : va_G} {cy : Nat → ClassId} {σ : Nat → Int32} {nm : String} : rx_Lk (gG l D cy σ) (mt ([], [])) (lwM nm) 659 129 1 10 true := rx_lk_V gok (mid := 129) (ci := 10) (C := (RX10, TX10, 58)) ⟨kw_777, kw_427, hd_X10_order, Nat.le_of_ble_eq_true rfl, Nat.le_of_ble_eq_true rfl⟩ rfl kw_778 kw_779 kw_780 dL_law_659
theorem lk_678 {l : Launch} {D : va_G} {cy : Nat → ClassId} {σ : Nat → Int32} {nm : String} : rx_Lk (gG l D cy σ) (mt ([], [])) (lwM nm) 678 79 3 9 true := rx_lk_V gok (mid := 79) (ci := 9) (C := (RX9, TX9, 15)) ⟨kw_781, kw_54, hd_X9_ring, Nat.le_of_ble_eq_true rfl, Nat.le_of_ble_eq_true rfl⟩ rfl kw_782 kw_783 kw_784 dL_law_678
theorem lk_692 {l : Launch} {D : va_G} {cy : Nat → ClassId} {σ : Nat → Int32} {nm : String} : rx_Lk (gG l D cy σ) (mt ([], [])) (lwM nm) 692 134 3 10 true := rx_lk_V gok (mid := 134) (ci := 10) (C := (RX10, TX10, 58)) ⟨kw_785, kw_427, hd_X10_ring, Nat.le_of_ble_eq_true rfl, Nat.le_of_ble_eq_true rfl⟩ rfl kw_786 kw_787 kw_788 dL_law_692
theorem lk_716 {l : Launch} {D : va_G} {cy : Nat → ClassId} {σ : Nat → Int32} {nm : String} : rx_Lk (gG l D cy σ) (mt ([], [])) (lwM nm) 716 65 4 9 true := rx_lk_V gok (mid := 65) (ci := 9) (C := (RX9, TX9, 15)) ⟨kw_789, kw_54, hd_X9_fence, Nat.le_of_ble_eq_true rfl, Nat.le_of_ble_eq_true rfl⟩ rfl kw_790 kw_791 kw_792 dL_law_716
theorem lk_735 {l : Launch} {D : va_G} {cy : Nat → ClassId} {σ : Nat → Int32} {nm : String} : rx_Lk (gG l D cy σ) (mt ([], [])) (lwM nm) 735 106 4 10 true := rx_lk_V gok (mid := 106) (ci := 10) (C := (RX10, TX10, 58)) ⟨kw_793, kw_427, hd_X10_fence, Nat.le_of_ble_eq_true rfl, Nat.le_of_ble_eq_true rfl⟩ rfl kw_794 kw_795 kw_796 dL_law_735
theorem lk_759 {l : Launch} {D : va_G} {cy : Nat → ClassId} {σ : Nat → Int32} {nm : String} : rx_Lk (gG l D cy σ) (mt ([], [])) (lwM nm) 759 67 4 9 true := rx_lk_V gok (mid := 67) (ci := 9) (C := (RX9, TX9, 15)) ⟨kw_797, kw_54, hd_X9_flip, Nat.le_of_ble_eq_true rfl, Nat.le_of_ble_eq_true rfl⟩ rfl kw_798 kw_799 kw_800 dL_law_759
theorem lk_778 {l : Launch} {D : va_G} {cy : Nat → ClassId} {σ : Nat → Int32} {nm : String} : rx_Lk (gG l D cy σ) (mt ([], [])) (lwM nm) 778 110 4 10 true := rx_lk_V gok (mid := 110) (ci := 10) (C := (RX10, TX10, 58)) ⟨kw_801, kw_427, hd_X10_flip, Nat.le_of_ble_eq_true rfl, Nat.le_of_ble_eq_true rfl⟩ rfl kw_802 kw_803 kw_804 dL_law_778
theorem lk_797 {l : Launch} {D : va_G} {cy : Nat → ClassId} {σ : Nat → Int32} {nm : String} : rx_Lk (gG l D cy σ) (mt ([], [])) (lwM nm) 797 80 3 9 true := rx_lk_V gok (mid := 80) (ci := 9) (C := (RX9, TX9, 15)) ⟨kw_805, kw_54, hd_X9_ringOf, Nat.le_of_ble_eq_true rfl, Nat.le_of_ble_eq_true rfl⟩ rfl kw_806 kw_807 kw_808 dL_law_797
theorem lk_811 {l : Launch} {D : va_G} {cy : Nat → ClassId} {σ : Nat → Int32} {nm : String} : rx_Lk (gG l D cy σ) (mt ([], [])) (lwM nm) 811 135 3 10 true := rx_lk_V gok (mid := 135) (ci := 10) (C := (RX10, TX10, 58)) ⟨kw_809, kw_427, hd_X10_ringOf, Nat.le_of_ble_eq_true rfl, Nat.le_of_ble_eq_true rfl⟩ rfl kw_810 kw_811 kw_812 dL_law_811
theorem lk_835 {l : Launch} {D : va_G} {cy : Nat → ClassId} {σ : Nat → Int32} {nm : String} : rx_Lk (gG l D cy σ) (mt ([], [])) (lwM nm) 835 68 4 9 true := rx_lk_V gok (mid := 68) (ci := 9) (C := (RX9, TX9, 15)) ⟨kw_813, kw_54, hd_X9_frieze, Nat.le_of_ble_eq_true rfl, Nat.le_of_ble_eq_true rfl⟩ rfl kw_814 kw_815 kw_816 dL_law_835
theorem lk_854 {l : Launch} {D : va_G} {cy : Nat → ClassId} {σ : Nat → Int32} {nm : String} : rx_Lk (gG l D cy σ) (mt ([], [])) (lwM nm) 854 111 4 10 true := rx_lk_V gok (mid := 111) (ci := 10) (C := (RX10, TX10, 58)) ⟨kw_817, kw_427, hd_X10_frieze, Nat.le_of_ble_eq_true rfl, Nat.le_of_ble_eq_true rfl⟩ rfl kw_818 kw_819 kw_820 dL_law_854
theorem lk_864 {l : Launch} {D : va_G} {cy : Nat → ClassId} {σ : Nat → Int32} {nm : String} : rx_Lk (gG l D cy σ) (mt ([], [])) (lwM nm) 864 92 1 9 true := rx_lk_V gok (mid := 92) (ci := 9) (C := (RX9, TX9, 15)) ⟨kw_821, kw_54, hd_X9_way, Nat.le_of_ble_eq_true rfl, Nat.le_of_ble_eq_true rfl⟩ rfl kw_822 kw_823 kw_824 dL_law_864
theorem lk_868 {l : Launch} {D : va_G} {cy : Nat → ClassId} {σ : Nat → Int32} {nm : String} : rx_Lk (gG l D cy σ) (mt ([], [])) (lwM nm) 868 156 1 10 true := rx_lk_V gok (mid := 156) (ci := 10) (C := (RX10, TX10, 58)) ⟨kw_825, kw_427, hd_X10_way, Nat.le_of_ble_eq_true rfl, Nat.le_of_ble_eq_true rfl⟩ rfl kw_826 kw_827 kw_828 dL_law_868
theorem lk_882 {l : Launch} {D : va_G} {cy : Nat → ClassId} {σ : Nat → Int32} {nm : String} : rx_Lk (gG l D cy σ) (mt ([], [])) (lwM nm) 882 69 2 9 true := rx_lk_V gok (mid := 69) (ci := 9) (C := (RX9, TX9, 15)) ⟨kw_829, kw_54, hd_X9_goes, Nat.le_of_ble_eq_true rfl, Nat.le_of_ble_eq_true rfl⟩ rfl kw_830 kw_831 kw_832 dL_law_882
theorem lk_891 {l : Launch} {D : va_G} {cy : Nat → ClassId} {σ : Nat → Int32} {nm : String} : rx_Lk (gG l D cy σ) (mt ([], [])) (lwM nm) 891 112 2 10 true := rx_lk_V gok (mid := 112) (ci := 10) (C := (RX10, TX10, 58)) ⟨kw_833, kw_427, hd_X10_goes, Nat.le_of_ble_eq_true rfl, Nat.le_of_ble_eq_true rfl⟩ rfl kw_834 kw_835 kw_836 dL_law_891
theorem lk_905 {l : Launch} {D : va_G} {cy : Nat → ClassId} {σ : Nat → Int32} {nm : String} : rx_Lk (gG l D cy σ) (mt ([], [])) (lwM nm) 905 83 2 9 true := rx_lk_V gok (mid := 83) (ci := 9) (C := (RX9, TX9, 15)) ⟨kw_837, kw_54, hd_X9_seed, Nat.le_of_ble_eq_true rfl, Nat.le_of_ble_eq_true rfl⟩ rfl kw_838 kw_839 kw_840 dL_law_905
theorem lk_914 {l : Launch} {D : va_G} {cy : Nat → ClassId} {σ : Nat → Int32} {nm : String} : rx_Lk (gG l D cy σ) (mt ([], [])) (lwM nm) 914 140 2 10 true := rx_lk_V gok (mid := 140) (ci := 10) (C := (RX10, TX10, 58)) ⟨kw_841, kw_427, hd_X10_seed, Nat.le_of_ble_eq_true rfl, Nat.le_of_ble_eq_true rfl⟩ rfl kw_842 kw_843 kw_844 dL_law_914
theorem lk_928 {l : Launch} {D : va_G} {cy : Nat → ClassId} {σ : Nat → Int32} {nm : String} : rx_Lk (gG l D cy σ) (mt ([], [])) (lwM nm) 928 64 2 9 true := rx_lk_V gok (mid := 64) (ci := 9) (C := (RX9, TX9, 15)) ⟨kw_845, kw_54, hd_X9_count, Nat.le_of_ble_eq_true rfl, Nat.le_of_ble_eq_true rfl⟩ rfl kw_846 kw_847 kw_848 dL_law_928
theorem lk_937 {l : Launch} {D : va_G} {cy : Nat → ClassId} {σ : Nat → Int32} {nm : String} : rx_Lk (gG l D cy σ) (mt ([], [])) (lwM nm) 937 105 2 10 true := rx_lk_V gok (mid := 105) (ci := 10) (C := (RX10, TX10, 58)) ⟨kw_849, kw_427, hd_X10_count, Nat.le_of_ble_eq_true rfl, Nat.le_of_ble_eq_true rfl⟩ rfl kw_850 kw_851 kw_852 dL_law_937
theorem lk_4 {l : Launch} {D : va_G} {cy : Nat → ClassId} {σ : Nat → Int32} {nm : String} : rx_Lk (gG l D cy σ) (mt ([], [])) (lwM nm) 4 70 1 9 true := rx_lk_I gok (mid := 70) (ci := 9) (C := (RX9, TX9, 15)) ⟨kw_853, kw_54, hd_X9_init, Nat.le_of_ble_eq_true rfl, Nat.le_of_ble_eq_true rfl⟩ rfl rfl kw_854 kw_855 rfl dL_law_4
theorem lk_12 {l : Launch} {D : va_G} {cy : Nat → ClassId} {σ : Nat → Int32} {nm : String} : rx_Lk (gG l D cy σ) (mt ([], [])) (lwM nm) 12 115 1 10 true := rx_lk_I gok (mid := 115) (ci := 10) (C := (RX10, TX10, 58)) ⟨kw_856, kw_427, hd_X10_init, Nat.le_of_ble_eq_true rfl, Nat.le_of_ble_eq_true rfl⟩ rfl rfl kw_857 kw_858 rfl dL_law_12
theorem lw_in1 : vp_in ((0 : Int32) + 1) 4 := by unfold vp_in; decide
theorem lw_in2 : vp_in ((0 : Int32) + 2) 4 := by unfold vp_in; decide
theorem lw_in3 : vp_in ((0 : Int32) + 3) 4 := by unfold vp_in; decide
theorem lw_in0 : vp_in (0 : Int32) 4 := by unfold vp_in; decide
theorem lw_in {A : Nat → Prop} {H0 : Heap} {cws : va_W} {H : Heap} {locs : List Loc} (hD : va_D (fun q => H0.size ≤ q) cws) (hS : va_S A H0 H locs) : ∀ q, va_A cws H.size q → H0.size ≤ q := by
  intro q hq
  rcases hq with ⟨k, e, hk⟩ | hq
  · exact hD.2 k (q, e) hk
  · exact Nat.le_trans hS.1 hq
theorem lw_recv {ρ : List Nat} {σ : Nat → Int32} {cy : Nat → ClassId} {W0 : rx_W} {cws : va_W} {b ci : Nat} {fs : List Value} {C : vw_C} {D : va_G} {cl : List vw_C} {TY : List (ClassId × FieldType)} {s : State} {H : Heap} {As : List Value} (hw : rx_w ρ σ cy W0 cws) (hb : ρ[0]? = some b) (h0 : W0[0]? = some (.inl (ci, fs))) (hK : va_K D cl TY s) (hP : va_P D cl cws H) (hc : cl[ci]? = some C) : ∃ (b' : Nat) (As' : List Value) (C' : vw_C) (cell : Cell), (Value.ref b :: As) = .ref b' :: As' ∧ cl[ci]? = some C' ∧ H[b']? = some cell ∧ cell.vm.isStatics = false ∧ s.vm.findClass C'.1 = some cell.cls := by
  obtain ⟨ce, f1, cfs, f2, f3⟩ := hw.at h0 hb
  subst f2
  obtain ⟨cell, q1, q2, q3⟩ := va_recv hK hP hc f1
  exact ⟨b, As, C, cell, rfl, hc, q1, q2, q3⟩
/-- the loop's head, when no call is left -/
theorem lw_18 {p : Program} {l : Launch} {e : Env} {s : State} {m : MethodId} {below : List Frame} {meth : Method} {c : Code} {b L : Nat} {xs : Nat → Int32} (C0 : lw_At p s m meth c b L xs) {H : Heap} {locs : List Loc} (hS : va_S (lA s) s.heap H locs) {ls : Array Slot} {i : Int32} {rest : rx_L} (hl : lv_has ls 4 ((3, .int i) :: (0, .ref b) :: rest)) (hi : Int32.ofNat L - 4 < i) : W p l e room_1 s m #[Value.ref b] below meth c H locs 600000 7302250 (lw_Z below #[Value.ref b] s) (F0 m 18 ls []) := by
  obtain ⟨hx, hb, hr, hml, hown, hts, hX, hbl, hlocks, hgv⟩ := id C0
  have hbA : ¬ lA s b := Nat.not_le.mpr hbl
  refine lv_iload_n hx hb dL_law_18 rfl (lv_at hl 0 rfl) ?_
  refine lv_aload_n hx hb dL_law_19 rfl (lv_at hl 1 rfl) ?_
  refine va_slen hx hb hX hbl hbA hS dL_law_20 ?_
  refine lv_iconst (v := 4) hx hb dL_law_21 (by decide) ?_
  refine lv_isub hx hb dL_law_22 ?_
  refine lv_icmp_gt (tgt := 951) hx hb dL_law_23 (by decide) (fun _ => ?_) (fun h => absurd hi h)
  refine lv_iconst (v := 1) hx hb dL_law_951 (by decide) ?_
  refine va_forget (fun q hq => hS.2.2 q hq) ?_
  exact lw_ret hx hb hr hlocks dL_law_952
theorem lw_945 {p : Program} {l : Launch} {e : Env} {s : State} {m : MethodId} {below : List Frame} {meth : Method} {c : Code} {b L : Nat} {xs : Nat → Int32} (C0 : lw_At p s m meth c b L xs) (hL : L = 4) {H : Heap} {locs : List Loc} (hS : va_S (lA s) s.heap H locs) {ls : Array Slot} {qx qm : Nat} (hl : lv_has ls 4 [(3, .int 0), (2, .ref qm), (1, .ref qx), (0, .ref b)]) : W p l e room_1 s m #[Value.ref b] below meth c H locs 600000 7302250 (lw_Z below #[Value.ref b] s) (F0 m 945 ls []) := by
  obtain ⟨hx, hb, hr, hml, hown, hts, hX, hbl, hlocks, hgv⟩ := id C0
  refine lv_iinc (v := 4) (lv' := [(3, .int 4), (2, .ref qm), (1, .ref qx), (0, .ref b)]) hx hb dL_law_945 hl (k := 0) rfl (by decide) (by decide) rfl (fun ls' hl' => ?_)
  refine lv_goto (tgt := 18) hx hb dL_law_948 (by decide) ?_
  subst hL
  exact lw_18 C0 hS (lv_sub hl' [0, 3] rfl) (by decide)
set_option maxHeartbeats 4000000 in
set_option maxRecDepth 100000 in
theorem lw_c0 {p : Program} {l : Launch} {e : Env} {s : State} {m : MethodId} {below : List Frame} {meth : Method} {c : Code} {b L : Nat} {xs : Nat → Int32} {D : va_G} {cy : Nat → ClassId} (C0 : lw_At p s m meth c b L xs) (hL : L = 4) (hK : rx_K D vwCl (tyl cy) nwl ocl s) {ρx ρm : List Nat} {cX cM : va_W} {H : Heap} {locs : List Loc} {qx qm : Nat} (hwx : rx_w ρx (lwσ xs) cy WX cX) (hwm : rx_w ρm (lwσ xs) cy WM cM) (hqx : ρx[0]? = some qx) (hqm : ρm[0]? = some qm) (hP : va_P D vwCl (cX ++ cM) H) (hD : va_D (lA s) (cX ++ cM)) (hS : va_S (lA s) s.heap H locs) {ls : Array Slot} (hl : lv_has ls 4 [(3, .int 0), (2, .ref qm), (1, .ref qx), (0, .ref b)]) : W p l e room_1 s m #[Value.ref b] below meth c H locs 600000 7302250 (lw_Z below #[Value.ref b] s) (F0 m 164 ls []) := by
  obtain ⟨hx, hb, hr, hml, hown, hts, hX, hbl, hlocks, hgv⟩ := id C0
  subst hL
  have hL : (4 : Nat) = 4 := rfl
  have hbA : ¬ lA s b := Nat.not_le.mpr hbl
  obtain ⟨r, ⟨w1, K1⟩, ⟨w2, K2⟩⟩ := op_table (l := l) (D := D) (cy := cy) (σ := lwσ xs)
  refine lv_aload_n hx hb dL_law_164 rfl (lv_at hl 2 rfl) ?_
  refine lv_aload_n hx hb dL_law_165 rfl (lv_at hl 3 rfl) ?_
  refine lv_iload_n hx hb dL_law_166 rfl (lv_at hl 0 rfl) ?_
  refine lv_iconst (v := 1) hx hb dL_law_167 (by decide) ?_
  refine lv_iadd hx hb dL_law_168 ?_
  refine va_sld hx hb hX hbl hbA hS lw_in1 dL_law_169 ?_
  refine W.eq (g2 := F0 m 170 ls [.int (xs 1), .ref qx]) rfl ?_
  refine lv_aload_n hx hb dL_law_170 rfl (lv_at hl 3 rfl) ?_
  refine lv_iload_n hx hb dL_law_171 rfl (lv_at hl 0 rfl) ?_
  refine lv_iconst (v := 2) hx hb dL_law_172 (by decide) ?_
  refine lv_iadd hx hb dL_law_173 ?_
  refine va_sld hx hb hX hbl hbA hS lw_in2 dL_law_174 ?_
  refine W.eq (g2 := F0 m 175 ls [.int (xs 2), .int (xs 1), .ref qx]) rfl ?_
  have hrun := lk_175 p e s m #[Value.ref b] below meth c (lA s) H locs 600000 7302250 ls [.ref qx, .int (xs 1), .int (xs 2)] [] _ _ _ (lw_X (l := l) C0 hK) hl.1 (K1 ρx cX H.size qx hwx hqx) (rx_Pc.blind _ _ _ _) (fun U hU hW => ⟨rfl, by rw [hU], by rw [hU]; exact lw_left hP, hK.warm hW, (lw_leftD hD).weaken (fun _ _ _ _ => trivial)⟩) rfl (fun _ => lw_recv hwx hqx rfl hK.1 (lw_left hP) rfl) (Nat.zero_le _) (by rw [hz_86.1]; exact Nat.le_refl 600000) (by rw [hz_86.2]; exact Nat.le_refl 7302250)
  refine lw_behind hrun hS (fun q _ hq => lw_in (lw_leftD hD) hS q hq) (lw_in (lw_leftD hD) hS) (fun v t1 cws1 H1 locs1 ho hw1 hP1 hD1 hk1 hS1 => ?_)
  have ho := lw_oI ho
  subst ho
  rw [hz_86.1, hz_86.2]
  show W p l e room_1 s m #[Value.ref b] below meth c H1 locs1 600000 7302250 (lw_Z below #[Value.ref b] s) (F0 m 178 ls [.int r])
  have hPm := lw_keep hP hD hk1
  have hDm := lw_rightD hD
  refine lv_aload_n hx hb dL_law_178 rfl (lv_at hl 1 rfl) ?_
  refine lv_aload_n hx hb dL_law_179 rfl (lv_at hl 3 rfl) ?_
  refine lv_iload_n hx hb dL_law_180 rfl (lv_at hl 0 rfl) ?_
  refine lv_iconst (v := 1) hx hb dL_law_181 (by decide) ?_
  refine lv_iadd hx hb dL_law_182 ?_
  refine va_sld hx hb hX hbl hbA hS1 lw_in1 dL_law_183 ?_
  refine W.eq (g2 := F0 m 184 ls [.int (xs 1), .ref qm, .int r]) rfl ?_
  refine lv_aload_n hx hb dL_law_184 rfl (lv_at hl 3 rfl) ?_
  refine lv_iload_n hx hb dL_law_185 rfl (lv_at hl 0 rfl) ?_
  refine lv_iconst (v := 2) hx hb dL_law_186 (by decide) ?_
  refine lv_iadd hx hb dL_law_187 ?_
  refine va_sld hx hb hX hbl hbA hS1 lw_in2 dL_law_188 ?_
  refine W.eq (g2 := F0 m 189 ls [.int (xs 2), .int (xs 1), .ref qm, .int r]) rfl ?_
  have hrun2 := lk_189 p e s m #[Value.ref b] below meth c (lA s) H1 locs1 600000 7302250 ls [.ref qm, .int (xs 1), .int (xs 2)] [.int r] _ _ _ (lw_X (l := l) C0 hK) hl.1 (K2 ρm cM H1.size qm hwm hqm) (rx_Pc.blind _ _ _ _) (fun U hU hW => ⟨rfl, by rw [hU], by rw [hU]; exact hPm, hK.warm hW, hDm.weaken (fun _ _ _ _ => trivial)⟩) rfl (fun _ => lw_recv hwm hqm rfl hK.1 hPm rfl) (Nat.le_of_ble_eq_true rfl) (by rw [hz_144.1]; exact Nat.le_refl 600000) (by rw [hz_144.2]; exact Nat.le_refl 7302250)
  refine lw_behind hrun2 hS1 (fun q _ hq => lw_in hDm hS1 q hq) (lw_in hDm hS1) (fun v2 t2 cws2 H2 locs2 ho2 hw2 hP2 hD2 hk2 hS2 => ?_)
  have ho2 := lw_oI ho2
  subst ho2
  rw [hz_144.1, hz_144.2]
  show W p l e room_1 s m #[Value.ref b] below meth c H2 locs2 600000 7302250 (lw_Z below #[Value.ref b] s) (F0 m 192 ls [.int r, .int r])
  refine lv_icmp_eq (tgt := 945) hx hb dL_law_192 (by decide) (fun _ => ?_) (fun h => absurd rfl h)
  exact lw_945 C0 hL hS2 hl
set_option maxHeartbeats 4000000 in
set_option maxRecDepth 100000 in
theorem lw_c1 {p : Program} {l : Launch} {e : Env} {s : State} {m : MethodId} {below : List Frame} {meth : Method} {c : Code} {b L : Nat} {xs : Nat → Int32} {D : va_G} {cy : Nat → ClassId} (C0 : lw_At p s m meth c b L xs) (hL : L = 4) (hK : rx_K D vwCl (tyl cy) nwl ocl s) {ρx ρm : List Nat} {cX cM : va_W} {H : Heap} {locs : List Loc} {qx qm : Nat} (hwx : rx_w ρx (lwσ xs) cy WX cX) (hwm : rx_w ρm (lwσ xs) cy WM cM) (hqx : ρx[0]? = some qx) (hqm : ρm[0]? = some qm) (hP : va_P D vwCl (cX ++ cM) H) (hD : va_D (lA s) (cX ++ cM)) (hS : va_S (lA s) s.heap H locs) {ls : Array Slot} (hl : lv_has ls 4 [(3, .int 0), (2, .ref qm), (1, .ref qx), (0, .ref b)]) : W p l e room_1 s m #[Value.ref b] below meth c H locs 600000 7302250 (lw_Z below #[Value.ref b] s) (F0 m 197 ls []) := by
  obtain ⟨hx, hb, hr, hml, hown, hts, hX, hbl, hlocks, hgv⟩ := id C0
  subst hL
  have hL : (4 : Nat) = 4 := rfl
  have hbA : ¬ lA s b := Nat.not_le.mpr hbl
  obtain ⟨r, ⟨w1, K1⟩, ⟨w2, K2⟩⟩ := op_arrows (l := l) (D := D) (cy := cy) (σ := lwσ xs)
  refine lv_aload_n hx hb dL_law_197 rfl (lv_at hl 2 rfl) ?_
  refine lv_aload_n hx hb dL_law_198 rfl (lv_at hl 3 rfl) ?_
  refine lv_iload_n hx hb dL_law_199 rfl (lv_at hl 0 rfl) ?_
  refine lv_iconst (v := 1) hx hb dL_law_200 (by decide) ?_
  refine lv_iadd hx hb dL_law_201 ?_
  refine va_sld hx hb hX hbl hbA hS lw_in1 dL_law_202 ?_
  refine W.eq (g2 := F0 m 203 ls [.int (xs 1), .ref qx]) rfl ?_
  refine lv_aload_n hx hb dL_law_203 rfl (lv_at hl 3 rfl) ?_
  refine lv_iload_n hx hb dL_law_204 rfl (lv_at hl 0 rfl) ?_
  refine lv_iconst (v := 2) hx hb dL_law_205 (by decide) ?_
  refine lv_iadd hx hb dL_law_206 ?_
  refine va_sld hx hb hX hbl hbA hS lw_in2 dL_law_207 ?_
  refine W.eq (g2 := F0 m 208 ls [.int (xs 2), .int (xs 1), .ref qx]) rfl ?_
  refine lv_aload_n hx hb dL_law_208 rfl (lv_at hl 3 rfl) ?_
  refine lv_iload_n hx hb dL_law_209 rfl (lv_at hl 0 rfl) ?_
  refine lv_iconst (v := 3) hx hb dL_law_210 (by decide) ?_
  refine lv_iadd hx hb dL_law_211 ?_
  refine va_sld hx hb hX hbl hbA hS lw_in3 dL_law_212 ?_
  refine W.eq (g2 := F0 m 213 ls [.int (xs 3), .int (xs 2), .int (xs 1), .ref qx]) rfl ?_
  have hrun := lk_213 p e s m #[Value.ref b] below meth c (lA s) H locs 600000 7302250 ls [.ref qx, .int (xs 1), .int (xs 2), .int (xs 3)] [] _ _ _ (lw_X (l := l) C0 hK) hl.1 (K1 ρx cX H.size qx hwx hqx) (rx_Pc.blind _ _ _ _) (fun U hU hW => ⟨rfl, by rw [hU], by rw [hU]; exact lw_left hP, hK.warm hW, (lw_leftD hD).weaken (fun _ _ _ _ => trivial)⟩) rfl (fun _ => lw_recv hwx hqx rfl hK.1 (lw_left hP) rfl) (Nat.zero_le _) (by rw [hz_60.1]; exact Nat.le_refl 600000) (by rw [hz_60.2]; exact Nat.le_refl 7302250)
  refine lw_behind hrun hS (fun q _ hq => lw_in (lw_leftD hD) hS q hq) (lw_in (lw_leftD hD) hS) (fun v t1 cws1 H1 locs1 ho hw1 hP1 hD1 hk1 hS1 => ?_)
  have ho := lw_oI ho
  subst ho
  rw [hz_60.1, hz_60.2]
  show W p l e room_1 s m #[Value.ref b] below meth c H1 locs1 600000 7302250 (lw_Z below #[Value.ref b] s) (F0 m 216 ls [.int r])
  have hPm := lw_keep hP hD hk1
  have hDm := lw_rightD hD
  refine lv_aload_n hx hb dL_law_216 rfl (lv_at hl 1 rfl) ?_
  refine lv_aload_n hx hb dL_law_217 rfl (lv_at hl 3 rfl) ?_
  refine lv_iload_n hx hb dL_law_218 rfl (lv_at hl 0 rfl) ?_
  refine lv_iconst (v := 1) hx hb dL_law_219 (by decide) ?_
  refine lv_iadd hx hb dL_law_220 ?_
  refine va_sld hx hb hX hbl hbA hS1 lw_in1 dL_law_221 ?_
  refine W.eq (g2 := F0 m 222 ls [.int (xs 1), .ref qm, .int r]) rfl ?_
  refine lv_aload_n hx hb dL_law_222 rfl (lv_at hl 3 rfl) ?_
  refine lv_iload_n hx hb dL_law_223 rfl (lv_at hl 0 rfl) ?_
  refine lv_iconst (v := 2) hx hb dL_law_224 (by decide) ?_
  refine lv_iadd hx hb dL_law_225 ?_
  refine va_sld hx hb hX hbl hbA hS1 lw_in2 dL_law_226 ?_
  refine W.eq (g2 := F0 m 227 ls [.int (xs 2), .int (xs 1), .ref qm, .int r]) rfl ?_
  refine lv_aload_n hx hb dL_law_227 rfl (lv_at hl 3 rfl) ?_
  refine lv_iload_n hx hb dL_law_228 rfl (lv_at hl 0 rfl) ?_
  refine lv_iconst (v := 3) hx hb dL_law_229 (by decide) ?_
  refine lv_iadd hx hb dL_law_230 ?_
  refine va_sld hx hb hX hbl hbA hS1 lw_in3 dL_law_231 ?_
  refine W.eq (g2 := F0 m 232 ls [.int (xs 3), .int (xs 2), .int (xs 1), .ref qm, .int r]) rfl ?_
  have hrun2 := lk_232 p e s m #[Value.ref b] below meth c (lA s) H1 locs1 600000 7302250 ls [.ref qm, .int (xs 1), .int (xs 2), .int (xs 3)] [.int r] _ _ _ (lw_X (l := l) C0 hK) hl.1 (K2 ρm cM H1.size qm hwm hqm) (rx_Pc.blind _ _ _ _) (fun U hU hW => ⟨rfl, by rw [hU], by rw [hU]; exact hPm, hK.warm hW, hDm.weaken (fun _ _ _ _ => trivial)⟩) rfl (fun _ => lw_recv hwm hqm rfl hK.1 hPm rfl) (Nat.le_of_ble_eq_true rfl) (by rw [hz_99.1]; exact Nat.le_refl 600000) (by rw [hz_99.2]; exact Nat.le_refl 7302250)
  refine lw_behind hrun2 hS1 (fun q _ hq => lw_in hDm hS1 q hq) (lw_in hDm hS1) (fun v2 t2 cws2 H2 locs2 ho2 hw2 hP2 hD2 hk2 hS2 => ?_)
  have ho2 := lw_oI ho2
  subst ho2
  rw [hz_99.1, hz_99.2]
  show W p l e room_1 s m #[Value.ref b] below meth c H2 locs2 600000 7302250 (lw_Z below #[Value.ref b] s) (F0 m 235 ls [.int r, .int r])
  refine lv_icmp_eq (tgt := 945) hx hb dL_law_235 (by decide) (fun _ => ?_) (fun h => absurd rfl h)
  exact lw_945 C0 hL hS2 hl
set_option maxHeartbeats 4000000 in
set_option maxRecDepth 100000 in
theorem lw_c2 {p : Program} {l : Launch} {e : Env} {s : State} {m : MethodId} {below : List Frame} {meth : Method} {c : Code} {b L : Nat} {xs : Nat → Int32} {D : va_G} {cy : Nat → ClassId} (C0 : lw_At p s m meth c b L xs) (hL : L = 4) (hK : rx_K D vwCl (tyl cy) nwl ocl s) {ρx ρm : List Nat} {cX cM : va_W} {H : Heap} {locs : List Loc} {qx qm : Nat} (hwx : rx_w ρx (lwσ xs) cy WX cX) (hwm : rx_w ρm (lwσ xs) cy WM cM) (hqx : ρx[0]? = some qx) (hqm : ρm[0]? = some qm) (hP : va_P D vwCl (cX ++ cM) H) (hD : va_D (lA s) (cX ++ cM)) (hS : va_S (lA s) s.heap H locs) {ls : Array Slot} (hl : lv_has ls 4 [(3, .int 0), (2, .ref qm), (1, .ref qx), (0, .ref b)]) : W p l e room_1 s m #[Value.ref b] below meth c H locs 600000 7302250 (lw_Z below #[Value.ref b] s) (F0 m 240 ls []) := by
  obtain ⟨hx, hb, hr, hml, hown, hts, hX, hbl, hlocks, hgv⟩ := id C0
  subst hL
  have hL : (4 : Nat) = 4 := rfl
  have hbA : ¬ lA s b := Nat.not_le.mpr hbl
  obtain ⟨r, ⟨w1, K1⟩, ⟨w2, K2⟩⟩ := op_begin (l := l) (D := D) (cy := cy) (σ := lwσ xs)
  refine lv_aload_n hx hb dL_law_240 rfl (lv_at hl 2 rfl) ?_
  have hrun := lk_241 p e s m #[Value.ref b] below meth c (lA s) H locs 600000 7302250 ls [.ref qx] [] _ _ _ (lw_X (l := l) C0 hK) hl.1 (K1 ρx cX H.size qx hwx hqx) (rx_Pc.blind _ _ _ _) (fun U hU hW => ⟨rfl, by rw [hU], by rw [hU]; exact lw_left hP, hK.warm hW, (lw_leftD hD).weaken (fun _ _ _ _ => trivial)⟩) rfl (fun _ => lw_recv hwx hqx rfl hK.1 (lw_left hP) rfl) (Nat.zero_le _) (by rw [hz_63.1]; exact Nat.le_refl 600000) (by rw [hz_63.2]; exact Nat.le_refl 7302250)
  refine lw_behind hrun hS (fun q _ hq => lw_in (lw_leftD hD) hS q hq) (lw_in (lw_leftD hD) hS) (fun v t1 cws1 H1 locs1 ho hw1 hP1 hD1 hk1 hS1 => ?_)
  have ho := lw_oI ho
  subst ho
  rw [hz_63.1, hz_63.2]
  show W p l e room_1 s m #[Value.ref b] below meth c H1 locs1 600000 7302250 (lw_Z below #[Value.ref b] s) (F0 m 244 ls [.int r])
  have hPm := lw_keep hP hD hk1
  have hDm := lw_rightD hD
  refine lv_aload_n hx hb dL_law_244 rfl (lv_at hl 1 rfl) ?_
  have hrun2 := lk_245 p e s m #[Value.ref b] below meth c (lA s) H1 locs1 600000 7302250 ls [.ref qm] [.int r] _ _ _ (lw_X (l := l) C0 hK) hl.1 (K2 ρm cM H1.size qm hwm hqm) (rx_Pc.blind _ _ _ _) (fun U hU hW => ⟨rfl, by rw [hU], by rw [hU]; exact hPm, hK.warm hW, hDm.weaken (fun _ _ _ _ => trivial)⟩) rfl (fun _ => lw_recv hwm hqm rfl hK.1 hPm rfl) (Nat.le_of_ble_eq_true rfl) (by rw [hz_102.1]; exact Nat.le_refl 600000) (by rw [hz_102.2]; exact Nat.le_refl 7302250)
  refine lw_behind hrun2 hS1 (fun q _ hq => lw_in hDm hS1 q hq) (lw_in hDm hS1) (fun v2 t2 cws2 H2 locs2 ho2 hw2 hP2 hD2 hk2 hS2 => ?_)
  have ho2 := lw_oI ho2
  subst ho2
  rw [hz_102.1, hz_102.2]
  show W p l e room_1 s m #[Value.ref b] below meth c H2 locs2 600000 7302250 (lw_Z below #[Value.ref b] s) (F0 m 248 ls [.int r, .int r])
  refine lv_icmp_eq (tgt := 945) hx hb dL_law_248 (by decide) (fun _ => ?_) (fun h => absurd rfl h)
  exact lw_945 C0 hL hS2 hl
set_option maxHeartbeats 4000000 in
set_option maxRecDepth 100000 in
theorem lw_c3 {p : Program} {l : Launch} {e : Env} {s : State} {m : MethodId} {below : List Frame} {meth : Method} {c : Code} {b L : Nat} {xs : Nat → Int32} {D : va_G} {cy : Nat → ClassId} (C0 : lw_At p s m meth c b L xs) (hL : L = 4) (hK : rx_K D vwCl (tyl cy) nwl ocl s) {ρx ρm : List Nat} {cX cM : va_W} {H : Heap} {locs : List Loc} {qx qm : Nat} (hwx : rx_w ρx (lwσ xs) cy WX cX) (hwm : rx_w ρm (lwσ xs) cy WM cM) (hqx : ρx[0]? = some qx) (hqm : ρm[0]? = some qm) (hP : va_P D vwCl (cX ++ cM) H) (hD : va_D (lA s) (cX ++ cM)) (hS : va_S (lA s) s.heap H locs) {ls : Array Slot} (hl : lv_has ls 4 [(3, .int 0), (2, .ref qm), (1, .ref qx), (0, .ref b)]) : W p l e room_1 s m #[Value.ref b] below meth c H locs 600000 7302250 (lw_Z below #[Value.ref b] s) (F0 m 253 ls []) := by
  obtain ⟨hx, hb, hr, hml, hown, hts, hX, hbl, hlocks, hgv⟩ := id C0
  subst hL
  have hL : (4 : Nat) = 4 := rfl
  have hbA : ¬ lA s b := Nat.not_le.mpr hbl
  obtain ⟨r, ⟨w1, K1⟩, ⟨w2, K2⟩⟩ := op_size (l := l) (D := D) (cy := cy) (σ := lwσ xs)
  refine lv_aload_n hx hb dL_law_253 rfl (lv_at hl 2 rfl) ?_
  refine lv_aload_n hx hb dL_law_254 rfl (lv_at hl 3 rfl) ?_
  refine lv_iload_n hx hb dL_law_255 rfl (lv_at hl 0 rfl) ?_
  refine lv_iconst (v := 1) hx hb dL_law_256 (by decide) ?_
  refine lv_iadd hx hb dL_law_257 ?_
  refine va_sld hx hb hX hbl hbA hS lw_in1 dL_law_258 ?_
  refine W.eq (g2 := F0 m 259 ls [.int (xs 1), .ref qx]) rfl ?_
  have hrun := lk_259 p e s m #[Value.ref b] below meth c (lA s) H locs 600000 7302250 ls [.ref qx, .int (xs 1)] [] _ _ _ (lw_X (l := l) C0 hK) hl.1 (K1 ρx cX H.size qx hwx hqx) (rx_Pc.blind _ _ _ _) (fun U hU hW => ⟨rfl, by rw [hU], by rw [hU]; exact lw_left hP, hK.warm hW, (lw_leftD hD).weaken (fun _ _ _ _ => trivial)⟩) rfl (fun _ => lw_recv hwx hqx rfl hK.1 (lw_left hP) rfl) (Nat.zero_le _) (by rw [hz_84.1]; exact Nat.le_refl 600000) (by rw [hz_84.2]; exact Nat.le_refl 7302250)
  refine lw_behind hrun hS (fun q _ hq => lw_in (lw_leftD hD) hS q hq) (lw_in (lw_leftD hD) hS) (fun v t1 cws1 H1 locs1 ho hw1 hP1 hD1 hk1 hS1 => ?_)
  have ho := lw_oI ho
  subst ho
  rw [hz_84.1, hz_84.2]
  show W p l e room_1 s m #[Value.ref b] below meth c H1 locs1 600000 7302250 (lw_Z below #[Value.ref b] s) (F0 m 262 ls [.int r])
  have hPm := lw_keep hP hD hk1
  have hDm := lw_rightD hD
  refine lv_aload_n hx hb dL_law_262 rfl (lv_at hl 1 rfl) ?_
  refine lv_aload_n hx hb dL_law_263 rfl (lv_at hl 3 rfl) ?_
  refine lv_iload_n hx hb dL_law_264 rfl (lv_at hl 0 rfl) ?_
  refine lv_iconst (v := 1) hx hb dL_law_265 (by decide) ?_
  refine lv_iadd hx hb dL_law_266 ?_
  refine va_sld hx hb hX hbl hbA hS1 lw_in1 dL_law_267 ?_
  refine W.eq (g2 := F0 m 268 ls [.int (xs 1), .ref qm, .int r]) rfl ?_
  have hrun2 := lk_268 p e s m #[Value.ref b] below meth c (lA s) H1 locs1 600000 7302250 ls [.ref qm, .int (xs 1)] [.int r] _ _ _ (lw_X (l := l) C0 hK) hl.1 (K2 ρm cM H1.size qm hwm hqm) (rx_Pc.blind _ _ _ _) (fun U hU hW => ⟨rfl, by rw [hU], by rw [hU]; exact hPm, hK.warm hW, hDm.weaken (fun _ _ _ _ => trivial)⟩) rfl (fun _ => lw_recv hwm hqm rfl hK.1 hPm rfl) (Nat.le_of_ble_eq_true rfl) (by rw [hz_141.1]; exact Nat.le_refl 600000) (by rw [hz_141.2]; exact Nat.le_refl 7302250)
  refine lw_behind hrun2 hS1 (fun q _ hq => lw_in hDm hS1 q hq) (lw_in hDm hS1) (fun v2 t2 cws2 H2 locs2 ho2 hw2 hP2 hD2 hk2 hS2 => ?_)
  have ho2 := lw_oI ho2
  subst ho2
  rw [hz_141.1, hz_141.2]
  show W p l e room_1 s m #[Value.ref b] below meth c H2 locs2 600000 7302250 (lw_Z below #[Value.ref b] s) (F0 m 271 ls [.int r, .int r])
  refine lv_icmp_eq (tgt := 945) hx hb dL_law_271 (by decide) (fun _ => ?_) (fun h => absurd rfl h)
  exact lw_945 C0 hL hS2 hl
set_option maxHeartbeats 4000000 in
set_option maxRecDepth 100000 in
theorem lw_c4 {p : Program} {l : Launch} {e : Env} {s : State} {m : MethodId} {below : List Frame} {meth : Method} {c : Code} {b L : Nat} {xs : Nat → Int32} {D : va_G} {cy : Nat → ClassId} (C0 : lw_At p s m meth c b L xs) (hL : L = 4) (hK : rx_K D vwCl (tyl cy) nwl ocl s) {ρx ρm : List Nat} {cX cM : va_W} {H : Heap} {locs : List Loc} {qx qm : Nat} (hwx : rx_w ρx (lwσ xs) cy WX cX) (hwm : rx_w ρm (lwσ xs) cy WM cM) (hqx : ρx[0]? = some qx) (hqm : ρm[0]? = some qm) (hP : va_P D vwCl (cX ++ cM) H) (hD : va_D (lA s) (cX ++ cM)) (hS : va_S (lA s) s.heap H locs) {ls : Array Slot} (hl : lv_has ls 4 [(3, .int 0), (2, .ref qm), (1, .ref qx), (0, .ref b)]) : W p l e room_1 s m #[Value.ref b] below meth c H locs 600000 7302250 (lw_Z below #[Value.ref b] s) (F0 m 276 ls []) := by
  obtain ⟨hx, hb, hr, hml, hown, hts, hX, hbl, hlocks, hgv⟩ := id C0
  subst hL
  have hL : (4 : Nat) = 4 := rfl
  have hbA : ¬ lA s b := Nat.not_le.mpr hbl
  obtain ⟨r, ⟨w1, K1⟩, ⟨w2, K2⟩⟩ := op_turn (l := l) (D := D) (cy := cy) (σ := lwσ xs)
  refine lv_aload_n hx hb dL_law_276 rfl (lv_at hl 2 rfl) ?_
  refine lv_aload_n hx hb dL_law_277 rfl (lv_at hl 3 rfl) ?_
  refine lv_iload_n hx hb dL_law_278 rfl (lv_at hl 0 rfl) ?_
  refine lv_iconst (v := 1) hx hb dL_law_279 (by decide) ?_
  refine lv_iadd hx hb dL_law_280 ?_
  refine va_sld hx hb hX hbl hbA hS lw_in1 dL_law_281 ?_
  refine W.eq (g2 := F0 m 282 ls [.int (xs 1), .ref qx]) rfl ?_
  have hrun := lk_282 p e s m #[Value.ref b] below meth c (lA s) H locs 600000 7302250 ls [.ref qx, .int (xs 1)] [] _ _ _ (lw_X (l := l) C0 hK) hl.1 (K1 ρx cX H.size qx hwx hqx) (rx_Pc.blind _ _ _ _) (fun U hU hW => ⟨rfl, by rw [hU], by rw [hU]; exact lw_left hP, hK.warm hW, (lw_leftD hD).weaken (fun _ _ _ _ => trivial)⟩) rfl (fun _ => lw_recv hwx hqx rfl hK.1 (lw_left hP) rfl) (Nat.zero_le _) (by rw [hz_90.1]; exact Nat.le_refl 600000) (by rw [hz_90.2]; exact Nat.le_refl 7302250)
  refine lw_behind hrun hS (fun q _ hq => lw_in (lw_leftD hD) hS q hq) (lw_in (lw_leftD hD) hS) (fun v t1 cws1 H1 locs1 ho hw1 hP1 hD1 hk1 hS1 => ?_)
  have ho := lw_oI ho
  subst ho
  rw [hz_90.1, hz_90.2]
  show W p l e room_1 s m #[Value.ref b] below meth c H1 locs1 600000 7302250 (lw_Z below #[Value.ref b] s) (F0 m 285 ls [.int r])
  have hPm := lw_keep hP hD hk1
  have hDm := lw_rightD hD
  refine lv_aload_n hx hb dL_law_285 rfl (lv_at hl 1 rfl) ?_
  refine lv_aload_n hx hb dL_law_286 rfl (lv_at hl 3 rfl) ?_
  refine lv_iload_n hx hb dL_law_287 rfl (lv_at hl 0 rfl) ?_
  refine lv_iconst (v := 1) hx hb dL_law_288 (by decide) ?_
  refine lv_iadd hx hb dL_law_289 ?_
  refine va_sld hx hb hX hbl hbA hS1 lw_in1 dL_law_290 ?_
  refine W.eq (g2 := F0 m 291 ls [.int (xs 1), .ref qm, .int r]) rfl ?_
  have hrun2 := lk_291 p e s m #[Value.ref b] below meth c (lA s) H1 locs1 600000 7302250 ls [.ref qm, .int (xs 1)] [.int r] _ _ _ (lw_X (l := l) C0 hK) hl.1 (K2 ρm cM H1.size qm hwm hqm) (rx_Pc.blind _ _ _ _) (fun U hU hW => ⟨rfl, by rw [hU], by rw [hU]; exact hPm, hK.warm hW, hDm.weaken (fun _ _ _ _ => trivial)⟩) rfl (fun _ => lw_recv hwm hqm rfl hK.1 hPm rfl) (Nat.le_of_ble_eq_true rfl) (by rw [hz_152.1]; exact Nat.le_refl 600000) (by rw [hz_152.2]; exact Nat.le_refl 7302250)
  refine lw_behind hrun2 hS1 (fun q _ hq => lw_in hDm hS1 q hq) (lw_in hDm hS1) (fun v2 t2 cws2 H2 locs2 ho2 hw2 hP2 hD2 hk2 hS2 => ?_)
  have ho2 := lw_oI ho2
  subst ho2
  rw [hz_152.1, hz_152.2]
  show W p l e room_1 s m #[Value.ref b] below meth c H2 locs2 600000 7302250 (lw_Z below #[Value.ref b] s) (F0 m 294 ls [.int r, .int r])
  refine lv_icmp_eq (tgt := 945) hx hb dL_law_294 (by decide) (fun _ => ?_) (fun h => absurd rfl h)
  exact lw_945 C0 hL hS2 hl
set_option maxHeartbeats 4000000 in
set_option maxRecDepth 100000 in
theorem lw_c5 {p : Program} {l : Launch} {e : Env} {s : State} {m : MethodId} {below : List Frame} {meth : Method} {c : Code} {b L : Nat} {xs : Nat → Int32} {D : va_G} {cy : Nat → ClassId} (C0 : lw_At p s m meth c b L xs) (hL : L = 4) (hK : rx_K D vwCl (tyl cy) nwl ocl s) {ρx ρm : List Nat} {cX cM : va_W} {H : Heap} {locs : List Loc} {qx qm : Nat} (hwx : rx_w ρx (lwσ xs) cy WX cX) (hwm : rx_w ρm (lwσ xs) cy WM cM) (hqx : ρx[0]? = some qx) (hqm : ρm[0]? = some qm) (hP : va_P D vwCl (cX ++ cM) H) (hD : va_D (lA s) (cX ++ cM)) (hS : va_S (lA s) s.heap H locs) {ls : Array Slot} (hl : lv_has ls 4 [(3, .int 0), (2, .ref qm), (1, .ref qx), (0, .ref b)]) : W p l e room_1 s m #[Value.ref b] below meth c H locs 600000 7302250 (lw_Z below #[Value.ref b] s) (F0 m 299 ls []) := by
  obtain ⟨hx, hb, hr, hml, hown, hts, hX, hbl, hlocks, hgv⟩ := id C0
  subst hL
  have hL : (4 : Nat) = 4 := rfl
  have hbA : ¬ lA s b := Nat.not_le.mpr hbl
  obtain ⟨r, ⟨w1, K1⟩, ⟨w2, K2⟩⟩ := op_back (l := l) (D := D) (cy := cy) (σ := lwσ xs)
  refine lv_aload_n hx hb dL_law_299 rfl (lv_at hl 2 rfl) ?_
  have hrun := lk_300 p e s m #[Value.ref b] below meth c (lA s) H locs 600000 7302250 ls [.ref qx] [] _ _ _ (lw_X (l := l) C0 hK) hl.1 (K1 ρx cX H.size qx hwx hqx) (rx_Pc.blind _ _ _ _) (fun U hU hW => ⟨rfl, by rw [hU], by rw [hU]; exact lw_left hP, hK.warm hW, (lw_leftD hD).weaken (fun _ _ _ _ => trivial)⟩) rfl (fun _ => lw_recv hwx hqx rfl hK.1 (lw_left hP) rfl) (Nat.zero_le _) (by rw [hz_62.1]; exact Nat.le_refl 600000) (by rw [hz_62.2]; exact Nat.le_refl 7302250)
  refine lw_behind hrun hS (fun q _ hq => lw_in (lw_leftD hD) hS q hq) (lw_in (lw_leftD hD) hS) (fun v t1 cws1 H1 locs1 ho hw1 hP1 hD1 hk1 hS1 => ?_)
  have ho := lw_oI ho
  subst ho
  rw [hz_62.1, hz_62.2]
  show W p l e room_1 s m #[Value.ref b] below meth c H1 locs1 600000 7302250 (lw_Z below #[Value.ref b] s) (F0 m 303 ls [.int r])
  have hPm := lw_keep hP hD hk1
  have hDm := lw_rightD hD
  refine lv_aload_n hx hb dL_law_303 rfl (lv_at hl 1 rfl) ?_
  have hrun2 := lk_304 p e s m #[Value.ref b] below meth c (lA s) H1 locs1 600000 7302250 ls [.ref qm] [.int r] _ _ _ (lw_X (l := l) C0 hK) hl.1 (K2 ρm cM H1.size qm hwm hqm) (rx_Pc.blind _ _ _ _) (fun U hU hW => ⟨rfl, by rw [hU], by rw [hU]; exact hPm, hK.warm hW, hDm.weaken (fun _ _ _ _ => trivial)⟩) rfl (fun _ => lw_recv hwm hqm rfl hK.1 hPm rfl) (Nat.le_of_ble_eq_true rfl) (by rw [hz_101.1]; exact Nat.le_refl 600000) (by rw [hz_101.2]; exact Nat.le_refl 7302250)
  refine lw_behind hrun2 hS1 (fun q _ hq => lw_in hDm hS1 q hq) (lw_in hDm hS1) (fun v2 t2 cws2 H2 locs2 ho2 hw2 hP2 hD2 hk2 hS2 => ?_)
  have ho2 := lw_oI ho2
  subst ho2
  rw [hz_101.1, hz_101.2]
  show W p l e room_1 s m #[Value.ref b] below meth c H2 locs2 600000 7302250 (lw_Z below #[Value.ref b] s) (F0 m 307 ls [.int r, .int r])
  refine lv_icmp_eq (tgt := 945) hx hb dL_law_307 (by decide) (fun _ => ?_) (fun h => absurd rfl h)
  exact lw_945 C0 hL hS2 hl
set_option maxHeartbeats 4000000 in
set_option maxRecDepth 100000 in
theorem lw_c6 {p : Program} {l : Launch} {e : Env} {s : State} {m : MethodId} {below : List Frame} {meth : Method} {c : Code} {b L : Nat} {xs : Nat → Int32} {D : va_G} {cy : Nat → ClassId} (C0 : lw_At p s m meth c b L xs) (hL : L = 4) (hK : rx_K D vwCl (tyl cy) nwl ocl s) {ρx ρm : List Nat} {cX cM : va_W} {H : Heap} {locs : List Loc} {qx qm : Nat} (hwx : rx_w ρx (lwσ xs) cy WX cX) (hwm : rx_w ρm (lwσ xs) cy WM cM) (hqx : ρx[0]? = some qx) (hqm : ρm[0]? = some qm) (hP : va_P D vwCl (cX ++ cM) H) (hD : va_D (lA s) (cX ++ cM)) (hS : va_S (lA s) s.heap H locs) {ls : Array Slot} (hl : lv_has ls 4 [(3, .int 0), (2, .ref qm), (1, .ref qx), (0, .ref b)]) : W p l e room_1 s m #[Value.ref b] below meth c H locs 600000 7302250 (lw_Z below #[Value.ref b] s) (F0 m 312 ls []) := by
  obtain ⟨hx, hb, hr, hml, hown, hts, hX, hbl, hlocks, hgv⟩ := id C0
  subst hL
  have hL : (4 : Nat) = 4 := rfl
  have hbA : ¬ lA s b := Nat.not_le.mpr hbl
  obtain ⟨r, ⟨w1, K1⟩, ⟨w2, K2⟩⟩ := op_b (l := l) (D := D) (cy := cy) (σ := lwσ xs)
  refine lv_aload_n hx hb dL_law_312 rfl (lv_at hl 2 rfl) ?_
  refine lv_aload_n hx hb dL_law_313 rfl (lv_at hl 3 rfl) ?_
  refine lv_iload_n hx hb dL_law_314 rfl (lv_at hl 0 rfl) ?_
  refine lv_iconst (v := 1) hx hb dL_law_315 (by decide) ?_
  refine lv_iadd hx hb dL_law_316 ?_
  refine va_sld hx hb hX hbl hbA hS lw_in1 dL_law_317 ?_
  refine W.eq (g2 := F0 m 318 ls [.int (xs 1), .ref qx]) rfl ?_
  refine lv_aload_n hx hb dL_law_318 rfl (lv_at hl 3 rfl) ?_
  refine lv_iload_n hx hb dL_law_319 rfl (lv_at hl 0 rfl) ?_
  refine lv_iconst (v := 2) hx hb dL_law_320 (by decide) ?_
  refine lv_iadd hx hb dL_law_321 ?_
  refine va_sld hx hb hX hbl hbA hS lw_in2 dL_law_322 ?_
  refine W.eq (g2 := F0 m 323 ls [.int (xs 2), .int (xs 1), .ref qx]) rfl ?_
  have hrun := lk_323 p e s m #[Value.ref b] below meth c (lA s) H locs 600000 7302250 ls [.ref qx, .int (xs 1), .int (xs 2)] [] _ _ _ (lw_X (l := l) C0 hK) hl.1 (K1 ρx cX H.size qx hwx hqx) (rx_Pc.blind _ _ _ _) (fun U hU hW => ⟨rfl, by rw [hU], by rw [hU]; exact lw_left hP, hK.warm hW, (lw_leftD hD).weaken (fun _ _ _ _ => trivial)⟩) rfl (fun _ => lw_recv hwx hqx rfl hK.1 (lw_left hP) rfl) (Nat.zero_le _) (by rw [hz_61.1]; exact Nat.le_refl 600000) (by rw [hz_61.2]; exact Nat.le_refl 7302250)
  refine lw_behind hrun hS (fun q _ hq => lw_in (lw_leftD hD) hS q hq) (lw_in (lw_leftD hD) hS) (fun v t1 cws1 H1 locs1 ho hw1 hP1 hD1 hk1 hS1 => ?_)
  have ho := lw_oI ho
  subst ho
  rw [hz_61.1, hz_61.2]
  show W p l e room_1 s m #[Value.ref b] below meth c H1 locs1 600000 7302250 (lw_Z below #[Value.ref b] s) (F0 m 326 ls [.int r])
  have hPm := lw_keep hP hD hk1
  have hDm := lw_rightD hD
  refine lv_aload_n hx hb dL_law_326 rfl (lv_at hl 1 rfl) ?_
  refine lv_aload_n hx hb dL_law_327 rfl (lv_at hl 3 rfl) ?_
  refine lv_iload_n hx hb dL_law_328 rfl (lv_at hl 0 rfl) ?_
  refine lv_iconst (v := 1) hx hb dL_law_329 (by decide) ?_
  refine lv_iadd hx hb dL_law_330 ?_
  refine va_sld hx hb hX hbl hbA hS1 lw_in1 dL_law_331 ?_
  refine W.eq (g2 := F0 m 332 ls [.int (xs 1), .ref qm, .int r]) rfl ?_
  refine lv_aload_n hx hb dL_law_332 rfl (lv_at hl 3 rfl) ?_
  refine lv_iload_n hx hb dL_law_333 rfl (lv_at hl 0 rfl) ?_
  refine lv_iconst (v := 2) hx hb dL_law_334 (by decide) ?_
  refine lv_iadd hx hb dL_law_335 ?_
  refine va_sld hx hb hX hbl hbA hS1 lw_in2 dL_law_336 ?_
  refine W.eq (g2 := F0 m 337 ls [.int (xs 2), .int (xs 1), .ref qm, .int r]) rfl ?_
  have hrun2 := lk_337 p e s m #[Value.ref b] below meth c (lA s) H1 locs1 600000 7302250 ls [.ref qm, .int (xs 1), .int (xs 2)] [.int r] _ _ _ (lw_X (l := l) C0 hK) hl.1 (K2 ρm cM H1.size qm hwm hqm) (rx_Pc.blind _ _ _ _) (fun U hU hW => ⟨rfl, by rw [hU], by rw [hU]; exact hPm, hK.warm hW, hDm.weaken (fun _ _ _ _ => trivial)⟩) rfl (fun _ => lw_recv hwm hqm rfl hK.1 hPm rfl) (Nat.le_of_ble_eq_true rfl) (by rw [hz_100.1]; exact Nat.le_refl 600000) (by rw [hz_100.2]; exact Nat.le_refl 7302250)
  refine lw_behind hrun2 hS1 (fun q _ hq => lw_in hDm hS1 q hq) (lw_in hDm hS1) (fun v2 t2 cws2 H2 locs2 ho2 hw2 hP2 hD2 hk2 hS2 => ?_)
  have ho2 := lw_oI ho2
  subst ho2
  rw [hz_100.1, hz_100.2]
  show W p l e room_1 s m #[Value.ref b] below meth c H2 locs2 600000 7302250 (lw_Z below #[Value.ref b] s) (F0 m 340 ls [.int r, .int r])
  refine lv_icmp_eq (tgt := 945) hx hb dL_law_340 (by decide) (fun _ => ?_) (fun h => absurd rfl h)
  exact lw_945 C0 hL hS2 hl
set_option maxHeartbeats 4000000 in
set_option maxRecDepth 100000 in
theorem lw_c7 {p : Program} {l : Launch} {e : Env} {s : State} {m : MethodId} {below : List Frame} {meth : Method} {c : Code} {b L : Nat} {xs : Nat → Int32} {D : va_G} {cy : Nat → ClassId} (C0 : lw_At p s m meth c b L xs) (hL : L = 4) (hK : rx_K D vwCl (tyl cy) nwl ocl s) {ρx ρm : List Nat} {cX cM : va_W} {H : Heap} {locs : List Loc} {qx qm : Nat} (hwx : rx_w ρx (lwσ xs) cy WX cX) (hwm : rx_w ρm (lwσ xs) cy WM cM) (hqx : ρx[0]? = some qx) (hqm : ρm[0]? = some qm) (hP : va_P D vwCl (cX ++ cM) H) (hD : va_D (lA s) (cX ++ cM)) (hS : va_S (lA s) s.heap H locs) {ls : Array Slot} (hl : lv_has ls 4 [(3, .int 0), (2, .ref qm), (1, .ref qx), (0, .ref b)]) : W p l e room_1 s m #[Value.ref b] below meth c H locs 600000 7302250 (lw_Z below #[Value.ref b] s) (F0 m 345 ls []) := by
  obtain ⟨hx, hb, hr, hml, hown, hts, hX, hbl, hlocks, hgv⟩ := id C0
  subst hL
  have hL : (4 : Nat) = 4 := rfl
  have hbA : ¬ lA s b := Nat.not_le.mpr hbl
  obtain ⟨r, ⟨w1, K1⟩, ⟨w2, K2⟩⟩ := op_terms (l := l) (D := D) (cy := cy) (σ := lwσ xs)
  refine lv_aload_n hx hb dL_law_345 rfl (lv_at hl 2 rfl) ?_
  refine lv_aload_n hx hb dL_law_346 rfl (lv_at hl 3 rfl) ?_
  refine lv_iload_n hx hb dL_law_347 rfl (lv_at hl 0 rfl) ?_
  refine lv_iconst (v := 1) hx hb dL_law_348 (by decide) ?_
  refine lv_iadd hx hb dL_law_349 ?_
  refine va_sld hx hb hX hbl hbA hS lw_in1 dL_law_350 ?_
  refine W.eq (g2 := F0 m 351 ls [.int (xs 1), .ref qx]) rfl ?_
  have hrun := lk_351 p e s m #[Value.ref b] below meth c (lA s) H locs 600000 7302250 ls [.ref qx, .int (xs 1)] [] _ _ _ (lw_X (l := l) C0 hK) hl.1 (K1 ρx cX H.size qx hwx hqx) (rx_Pc.blind _ _ _ _) (fun U hU hW => ⟨rfl, by rw [hU], by rw [hU]; exact lw_left hP, hK.warm hW, (lw_leftD hD).weaken (fun _ _ _ _ => trivial)⟩) rfl (fun _ => lw_recv hwx hqx rfl hK.1 (lw_left hP) rfl) (Nat.zero_le _) (by rw [hz_89.1]; exact Nat.le_refl 600000) (by rw [hz_89.2]; exact Nat.le_refl 7302250)
  refine lw_behind hrun hS (fun q _ hq => lw_in (lw_leftD hD) hS q hq) (lw_in (lw_leftD hD) hS) (fun v t1 cws1 H1 locs1 ho hw1 hP1 hD1 hk1 hS1 => ?_)
  have ho := lw_oI ho
  subst ho
  rw [hz_89.1, hz_89.2]
  show W p l e room_1 s m #[Value.ref b] below meth c H1 locs1 600000 7302250 (lw_Z below #[Value.ref b] s) (F0 m 354 ls [.int r])
  have hPm := lw_keep hP hD hk1
  have hDm := lw_rightD hD
  refine lv_aload_n hx hb dL_law_354 rfl (lv_at hl 1 rfl) ?_
  refine lv_aload_n hx hb dL_law_355 rfl (lv_at hl 3 rfl) ?_
  refine lv_iload_n hx hb dL_law_356 rfl (lv_at hl 0 rfl) ?_
  refine lv_iconst (v := 1) hx hb dL_law_357 (by decide) ?_
  refine lv_iadd hx hb dL_law_358 ?_
  refine va_sld hx hb hX hbl hbA hS1 lw_in1 dL_law_359 ?_
  refine W.eq (g2 := F0 m 360 ls [.int (xs 1), .ref qm, .int r]) rfl ?_
  have hrun2 := lk_360 p e s m #[Value.ref b] below meth c (lA s) H1 locs1 600000 7302250 ls [.ref qm, .int (xs 1)] [.int r] _ _ _ (lw_X (l := l) C0 hK) hl.1 (K2 ρm cM H1.size qm hwm hqm) (rx_Pc.blind _ _ _ _) (fun U hU hW => ⟨rfl, by rw [hU], by rw [hU]; exact hPm, hK.warm hW, hDm.weaken (fun _ _ _ _ => trivial)⟩) rfl (fun _ => lw_recv hwm hqm rfl hK.1 hPm rfl) (Nat.le_of_ble_eq_true rfl) (by rw [hz_150.1]; exact Nat.le_refl 600000) (by rw [hz_150.2]; exact Nat.le_refl 7302250)
  refine lw_behind hrun2 hS1 (fun q _ hq => lw_in hDm hS1 q hq) (lw_in hDm hS1) (fun v2 t2 cws2 H2 locs2 ho2 hw2 hP2 hD2 hk2 hS2 => ?_)
  have ho2 := lw_oI ho2
  subst ho2
  rw [hz_150.1, hz_150.2]
  show W p l e room_1 s m #[Value.ref b] below meth c H2 locs2 600000 7302250 (lw_Z below #[Value.ref b] s) (F0 m 363 ls [.int r, .int r])
  refine lv_icmp_eq (tgt := 945) hx hb dL_law_363 (by decide) (fun _ => ?_) (fun h => absurd rfl h)
  exact lw_945 C0 hL hS2 hl
set_option maxHeartbeats 4000000 in
set_option maxRecDepth 100000 in
theorem lw_c8 {p : Program} {l : Launch} {e : Env} {s : State} {m : MethodId} {below : List Frame} {meth : Method} {c : Code} {b L : Nat} {xs : Nat → Int32} {D : va_G} {cy : Nat → ClassId} (C0 : lw_At p s m meth c b L xs) (hL : L = 4) (hK : rx_K D vwCl (tyl cy) nwl ocl s) {ρx ρm : List Nat} {cX cM : va_W} {H : Heap} {locs : List Loc} {qx qm : Nat} (hwx : rx_w ρx (lwσ xs) cy WX cX) (hwm : rx_w ρm (lwσ xs) cy WM cM) (hqx : ρx[0]? = some qx) (hqm : ρm[0]? = some qm) (hP : va_P D vwCl (cX ++ cM) H) (hD : va_D (lA s) (cX ++ cM)) (hS : va_S (lA s) s.heap H locs) {ls : Array Slot} (hl : lv_has ls 4 [(3, .int 0), (2, .ref qm), (1, .ref qx), (0, .ref b)]) : W p l e room_1 s m #[Value.ref b] below meth c H locs 600000 7302250 (lw_Z below #[Value.ref b] s) (F0 m 368 ls []) := by
  obtain ⟨hx, hb, hr, hml, hown, hts, hX, hbl, hlocks, hgv⟩ := id C0
  subst hL
  have hL : (4 : Nat) = 4 := rfl
  have hbA : ¬ lA s b := Nat.not_le.mpr hbl
  obtain ⟨r, ⟨w1, K1⟩, ⟨w2, K2⟩⟩ := op_term (l := l) (D := D) (cy := cy) (σ := lwσ xs)
  refine lv_aload_n hx hb dL_law_368 rfl (lv_at hl 2 rfl) ?_
  refine lv_aload_n hx hb dL_law_369 rfl (lv_at hl 3 rfl) ?_
  refine lv_iload_n hx hb dL_law_370 rfl (lv_at hl 0 rfl) ?_
  refine lv_iconst (v := 1) hx hb dL_law_371 (by decide) ?_
  refine lv_iadd hx hb dL_law_372 ?_
  refine va_sld hx hb hX hbl hbA hS lw_in1 dL_law_373 ?_
  refine W.eq (g2 := F0 m 374 ls [.int (xs 1), .ref qx]) rfl ?_
  refine lv_aload_n hx hb dL_law_374 rfl (lv_at hl 3 rfl) ?_
  refine lv_iload_n hx hb dL_law_375 rfl (lv_at hl 0 rfl) ?_
  refine lv_iconst (v := 2) hx hb dL_law_376 (by decide) ?_
  refine lv_iadd hx hb dL_law_377 ?_
  refine va_sld hx hb hX hbl hbA hS lw_in2 dL_law_378 ?_
  refine W.eq (g2 := F0 m 379 ls [.int (xs 2), .int (xs 1), .ref qx]) rfl ?_
  refine lv_aload_n hx hb dL_law_379 rfl (lv_at hl 3 rfl) ?_
  refine lv_iload_n hx hb dL_law_380 rfl (lv_at hl 0 rfl) ?_
  refine lv_iconst (v := 3) hx hb dL_law_381 (by decide) ?_
  refine lv_iadd hx hb dL_law_382 ?_
  refine va_sld hx hb hX hbl hbA hS lw_in3 dL_law_383 ?_
  refine W.eq (g2 := F0 m 384 ls [.int (xs 3), .int (xs 2), .int (xs 1), .ref qx]) rfl ?_
  have hrun := lk_384 p e s m #[Value.ref b] below meth c (lA s) H locs 600000 7302250 ls [.ref qx, .int (xs 1), .int (xs 2), .int (xs 3)] [] _ _ _ (lw_X (l := l) C0 hK) hl.1 (K1 ρx cX H.size qx hwx hqx) (rx_Pc.blind _ _ _ _) (fun U hU hW => ⟨rfl, by rw [hU], by rw [hU]; exact lw_left hP, hK.warm hW, (lw_leftD hD).weaken (fun _ _ _ _ => trivial)⟩) rfl (fun _ => lw_recv hwx hqx rfl hK.1 (lw_left hP) rfl) (Nat.zero_le _) (by rw [hz_88.1]; exact Nat.le_refl 600000) (by rw [hz_88.2]; exact Nat.le_refl 7302250)
  refine lw_behind hrun hS (fun q _ hq => lw_in (lw_leftD hD) hS q hq) (lw_in (lw_leftD hD) hS) (fun v t1 cws1 H1 locs1 ho hw1 hP1 hD1 hk1 hS1 => ?_)
  have ho := lw_oL ho
  subst ho
  rw [hz_88.1, hz_88.2]
  show W p l e room_1 s m #[Value.ref b] below meth c H1 locs1 600000 7302250 (lw_Z below #[Value.ref b] s) (F0 m 387 ls [.long r])
  have hPm := lw_keep hP hD hk1
  have hDm := lw_rightD hD
  refine lv_aload_n hx hb dL_law_387 rfl (lv_at hl 1 rfl) ?_
  refine lv_aload_n hx hb dL_law_388 rfl (lv_at hl 3 rfl) ?_
  refine lv_iload_n hx hb dL_law_389 rfl (lv_at hl 0 rfl) ?_
  refine lv_iconst (v := 1) hx hb dL_law_390 (by decide) ?_
  refine lv_iadd hx hb dL_law_391 ?_
  refine va_sld hx hb hX hbl hbA hS1 lw_in1 dL_law_392 ?_
  refine W.eq (g2 := F0 m 393 ls [.int (xs 1), .ref qm, .long r]) rfl ?_
  refine lv_aload_n hx hb dL_law_393 rfl (lv_at hl 3 rfl) ?_
  refine lv_iload_n hx hb dL_law_394 rfl (lv_at hl 0 rfl) ?_
  refine lv_iconst (v := 2) hx hb dL_law_395 (by decide) ?_
  refine lv_iadd hx hb dL_law_396 ?_
  refine va_sld hx hb hX hbl hbA hS1 lw_in2 dL_law_397 ?_
  refine W.eq (g2 := F0 m 398 ls [.int (xs 2), .int (xs 1), .ref qm, .long r]) rfl ?_
  refine lv_aload_n hx hb dL_law_398 rfl (lv_at hl 3 rfl) ?_
  refine lv_iload_n hx hb dL_law_399 rfl (lv_at hl 0 rfl) ?_
  refine lv_iconst (v := 3) hx hb dL_law_400 (by decide) ?_
  refine lv_iadd hx hb dL_law_401 ?_
  refine va_sld hx hb hX hbl hbA hS1 lw_in3 dL_law_402 ?_
  refine W.eq (g2 := F0 m 403 ls [.int (xs 3), .int (xs 2), .int (xs 1), .ref qm, .long r]) rfl ?_
  have hrun2 := lk_403 p e s m #[Value.ref b] below meth c (lA s) H1 locs1 600000 7302250 ls [.ref qm, .int (xs 1), .int (xs 2), .int (xs 3)] [.long r] _ _ _ (lw_X (l := l) C0 hK) hl.1 (K2 ρm cM H1.size qm hwm hqm) (rx_Pc.blind _ _ _ _) (fun U hU hW => ⟨rfl, by rw [hU], by rw [hU]; exact hPm, hK.warm hW, hDm.weaken (fun _ _ _ _ => trivial)⟩) rfl (fun _ => lw_recv hwm hqm rfl hK.1 hPm rfl) (Nat.le_of_ble_eq_true rfl) (by rw [hz_149.1]; exact Nat.le_refl 600000) (by rw [hz_149.2]; exact Nat.le_refl 7302250)
  refine lw_behind hrun2 hS1 (fun q _ hq => lw_in hDm hS1 q hq) (lw_in hDm hS1) (fun v2 t2 cws2 H2 locs2 ho2 hw2 hP2 hD2 hk2 hS2 => ?_)
  have ho2 := lw_oL ho2
  subst ho2
  rw [hz_149.1, hz_149.2]
  show W p l e room_1 s m #[Value.ref b] below meth c H2 locs2 600000 7302250 (lw_Z below #[Value.ref b] s) (F0 m 406 ls [.long r, .long r])
  refine W.lcmp hx hb dL_law_406 ?_
  refine lv_if_eq (tgt := 945) hx hb dL_law_407 (by decide) (fun _ => ?_) (fun h => absurd (lw_cmp0 r) h)
  exact lw_945 C0 hL hS2 hl
set_option maxHeartbeats 4000000 in
set_option maxRecDepth 100000 in
theorem lw_c9 {p : Program} {l : Launch} {e : Env} {s : State} {m : MethodId} {below : List Frame} {meth : Method} {c : Code} {b L : Nat} {xs : Nat → Int32} {D : va_G} {cy : Nat → ClassId} (C0 : lw_At p s m meth c b L xs) (hL : L = 4) (hK : rx_K D vwCl (tyl cy) nwl ocl s) {ρx ρm : List Nat} {cX cM : va_W} {H : Heap} {locs : List Loc} {qx qm : Nat} (hwx : rx_w ρx (lwσ xs) cy WX cX) (hwm : rx_w ρm (lwσ xs) cy WM cM) (hqx : ρx[0]? = some qx) (hqm : ρm[0]? = some qm) (hP : va_P D vwCl (cX ++ cM) H) (hD : va_D (lA s) (cX ++ cM)) (hS : va_S (lA s) s.heap H locs) {ls : Array Slot} (hl : lv_has ls 4 [(3, .int 0), (2, .ref qm), (1, .ref qx), (0, .ref b)]) : W p l e room_1 s m #[Value.ref b] below meth c H locs 600000 7302250 (lw_Z below #[Value.ref b] s) (F0 m 412 ls []) := by
  obtain ⟨hx, hb, hr, hml, hown, hts, hX, hbl, hlocks, hgv⟩ := id C0
  subst hL
  have hL : (4 : Nat) = 4 := rfl
  have hbA : ¬ lA s b := Nat.not_le.mpr hbl
  obtain ⟨r, ⟨w1, K1⟩, ⟨w2, K2⟩⟩ := op_least (l := l) (D := D) (cy := cy) (σ := lwσ xs)
  refine lv_aload_n hx hb dL_law_412 rfl (lv_at hl 2 rfl) ?_
  refine lv_aload_n hx hb dL_law_413 rfl (lv_at hl 3 rfl) ?_
  refine lv_iload_n hx hb dL_law_414 rfl (lv_at hl 0 rfl) ?_
  refine lv_iconst (v := 1) hx hb dL_law_415 (by decide) ?_
  refine lv_iadd hx hb dL_law_416 ?_
  refine va_sld hx hb hX hbl hbA hS lw_in1 dL_law_417 ?_
  refine W.eq (g2 := F0 m 418 ls [.int (xs 1), .ref qx]) rfl ?_
  refine lv_aload_n hx hb dL_law_418 rfl (lv_at hl 3 rfl) ?_
  refine lv_iload_n hx hb dL_law_419 rfl (lv_at hl 0 rfl) ?_
  refine lv_iconst (v := 2) hx hb dL_law_420 (by decide) ?_
  refine lv_iadd hx hb dL_law_421 ?_
  refine va_sld hx hb hX hbl hbA hS lw_in2 dL_law_422 ?_
  refine W.eq (g2 := F0 m 423 ls [.int (xs 2), .int (xs 1), .ref qx]) rfl ?_
  have hrun := lk_423 p e s m #[Value.ref b] below meth c (lA s) H locs 600000 7302250 ls [.ref qx, .int (xs 1), .int (xs 2)] [] _ _ _ (lw_X (l := l) C0 hK) hl.1 (K1 ρx cX H.size qx hwx hqx) (rx_Pc.blind _ _ _ _) (fun U hU hW => ⟨rfl, by rw [hU], by rw [hU]; exact lw_left hP, hK.warm hW, (lw_leftD hD).weaken (fun _ _ _ _ => trivial)⟩) rfl (fun _ => lw_recv hwx hqx rfl hK.1 (lw_left hP) rfl) (Nat.zero_le _) (by rw [hz_76.1]; exact Nat.le_refl 600000) (by rw [hz_76.2]; exact Nat.le_refl 7302250)
  refine lw_behind hrun hS (fun q _ hq => lw_in (lw_leftD hD) hS q hq) (lw_in (lw_leftD hD) hS) (fun v t1 cws1 H1 locs1 ho hw1 hP1 hD1 hk1 hS1 => ?_)
  have ho := lw_oI ho
  subst ho
  rw [hz_76.1, hz_76.2]
  show W p l e room_1 s m #[Value.ref b] below meth c H1 locs1 600000 7302250 (lw_Z below #[Value.ref b] s) (F0 m 426 ls [.int r])
  have hPm := lw_keep hP hD hk1
  have hDm := lw_rightD hD
  refine lv_aload_n hx hb dL_law_426 rfl (lv_at hl 1 rfl) ?_
  refine lv_aload_n hx hb dL_law_427 rfl (lv_at hl 3 rfl) ?_
  refine lv_iload_n hx hb dL_law_428 rfl (lv_at hl 0 rfl) ?_
  refine lv_iconst (v := 1) hx hb dL_law_429 (by decide) ?_
  refine lv_iadd hx hb dL_law_430 ?_
  refine va_sld hx hb hX hbl hbA hS1 lw_in1 dL_law_431 ?_
  refine W.eq (g2 := F0 m 432 ls [.int (xs 1), .ref qm, .int r]) rfl ?_
  refine lv_aload_n hx hb dL_law_432 rfl (lv_at hl 3 rfl) ?_
  refine lv_iload_n hx hb dL_law_433 rfl (lv_at hl 0 rfl) ?_
  refine lv_iconst (v := 2) hx hb dL_law_434 (by decide) ?_
  refine lv_iadd hx hb dL_law_435 ?_
  refine va_sld hx hb hX hbl hbA hS1 lw_in2 dL_law_436 ?_
  refine W.eq (g2 := F0 m 437 ls [.int (xs 2), .int (xs 1), .ref qm, .int r]) rfl ?_
  have hrun2 := lk_437 p e s m #[Value.ref b] below meth c (lA s) H1 locs1 600000 7302250 ls [.ref qm, .int (xs 1), .int (xs 2)] [.int r] _ _ _ (lw_X (l := l) C0 hK) hl.1 (K2 ρm cM H1.size qm hwm hqm) (rx_Pc.blind _ _ _ _) (fun U hU hW => ⟨rfl, by rw [hU], by rw [hU]; exact hPm, hK.warm hW, hDm.weaken (fun _ _ _ _ => trivial)⟩) rfl (fun _ => lw_recv hwm hqm rfl hK.1 hPm rfl) (Nat.le_of_ble_eq_true rfl) (by rw [hz_122.1]; exact Nat.le_refl 600000) (by rw [hz_122.2]; exact Nat.le_refl 7302250)
  refine lw_behind hrun2 hS1 (fun q _ hq => lw_in hDm hS1 q hq) (lw_in hDm hS1) (fun v2 t2 cws2 H2 locs2 ho2 hw2 hP2 hD2 hk2 hS2 => ?_)
  have ho2 := lw_oI ho2
  subst ho2
  rw [hz_122.1, hz_122.2]
  show W p l e room_1 s m #[Value.ref b] below meth c H2 locs2 600000 7302250 (lw_Z below #[Value.ref b] s) (F0 m 440 ls [.int r, .int r])
  refine lv_icmp_eq (tgt := 945) hx hb dL_law_440 (by decide) (fun _ => ?_) (fun h => absurd rfl h)
  exact lw_945 C0 hL hS2 hl
set_option maxHeartbeats 4000000 in
set_option maxRecDepth 100000 in
theorem lw_c10 {p : Program} {l : Launch} {e : Env} {s : State} {m : MethodId} {below : List Frame} {meth : Method} {c : Code} {b L : Nat} {xs : Nat → Int32} {D : va_G} {cy : Nat → ClassId} (C0 : lw_At p s m meth c b L xs) (hL : L = 4) (hK : rx_K D vwCl (tyl cy) nwl ocl s) {ρx ρm : List Nat} {cX cM : va_W} {H : Heap} {locs : List Loc} {qx qm : Nat} (hwx : rx_w ρx (lwσ xs) cy WX cX) (hwm : rx_w ρm (lwσ xs) cy WM cM) (hqx : ρx[0]? = some qx) (hqm : ρm[0]? = some qm) (hP : va_P D vwCl (cX ++ cM) H) (hD : va_D (lA s) (cX ++ cM)) (hS : va_S (lA s) s.heap H locs) {ls : Array Slot} (hl : lv_has ls 4 [(3, .int 0), (2, .ref qm), (1, .ref qx), (0, .ref b)]) : W p l e room_1 s m #[Value.ref b] below meth c H locs 600000 7302250 (lw_Z below #[Value.ref b] s) (F0 m 445 ls []) := by
  obtain ⟨hx, hb, hr, hml, hown, hts, hX, hbl, hlocks, hgv⟩ := id C0
  subst hL
  have hL : (4 : Nat) = 4 := rfl
  have hbA : ¬ lA s b := Nat.not_le.mpr hbl
  obtain ⟨r, ⟨w1, K1⟩, ⟨w2, K2⟩⟩ := op_ones (l := l) (D := D) (cy := cy) (σ := lwσ xs)
  refine lv_aload_n hx hb dL_law_445 rfl (lv_at hl 2 rfl) ?_
  refine lv_aload_n hx hb dL_law_446 rfl (lv_at hl 3 rfl) ?_
  refine lv_iload_n hx hb dL_law_447 rfl (lv_at hl 0 rfl) ?_
  refine lv_iconst (v := 1) hx hb dL_law_448 (by decide) ?_
  refine lv_iadd hx hb dL_law_449 ?_
  refine va_sld hx hb hX hbl hbA hS lw_in1 dL_law_450 ?_
  refine W.eq (g2 := F0 m 451 ls [.int (xs 1), .ref qx]) rfl ?_
  have hrun := lk_451 p e s m #[Value.ref b] below meth c (lA s) H locs 600000 7302250 ls [.ref qx, .int (xs 1)] [] _ _ _ (lw_X (l := l) C0 hK) hl.1 (K1 ρx cX H.size qx hwx hqx) (rx_Pc.blind _ _ _ _) (fun U hU hW => ⟨rfl, by rw [hU], by rw [hU]; exact lw_left hP, hK.warm hW, (lw_leftD hD).weaken (fun _ _ _ _ => trivial)⟩) rfl (fun _ => lw_recv hwx hqx rfl hK.1 (lw_left hP) rfl) (Nat.zero_le _) (by rw [hz_77.1]; exact Nat.le_refl 600000) (by rw [hz_77.2]; exact Nat.le_refl 7302250)
  refine lw_behind hrun hS (fun q _ hq => lw_in (lw_leftD hD) hS q hq) (lw_in (lw_leftD hD) hS) (fun v t1 cws1 H1 locs1 ho hw1 hP1 hD1 hk1 hS1 => ?_)
  have ho := lw_oL ho
  subst ho
  rw [hz_77.1, hz_77.2]
  show W p l e room_1 s m #[Value.ref b] below meth c H1 locs1 600000 7302250 (lw_Z below #[Value.ref b] s) (F0 m 454 ls [.long r])
  have hPm := lw_keep hP hD hk1
  have hDm := lw_rightD hD
  refine lv_aload_n hx hb dL_law_454 rfl (lv_at hl 1 rfl) ?_
  refine lv_aload_n hx hb dL_law_455 rfl (lv_at hl 3 rfl) ?_
  refine lv_iload_n hx hb dL_law_456 rfl (lv_at hl 0 rfl) ?_
  refine lv_iconst (v := 1) hx hb dL_law_457 (by decide) ?_
  refine lv_iadd hx hb dL_law_458 ?_
  refine va_sld hx hb hX hbl hbA hS1 lw_in1 dL_law_459 ?_
  refine W.eq (g2 := F0 m 460 ls [.int (xs 1), .ref qm, .long r]) rfl ?_
  have hrun2 := lk_460 p e s m #[Value.ref b] below meth c (lA s) H1 locs1 600000 7302250 ls [.ref qm, .int (xs 1)] [.long r] _ _ _ (lw_X (l := l) C0 hK) hl.1 (K2 ρm cM H1.size qm hwm hqm) (rx_Pc.blind _ _ _ _) (fun U hU hW => ⟨rfl, by rw [hU], by rw [hU]; exact hPm, hK.warm hW, hDm.weaken (fun _ _ _ _ => trivial)⟩) rfl (fun _ => lw_recv hwm hqm rfl hK.1 hPm rfl) (Nat.le_of_ble_eq_true rfl) (by rw [hz_128.1]; exact Nat.le_refl 600000) (by rw [hz_128.2]; exact Nat.le_refl 7302250)
  refine lw_behind hrun2 hS1 (fun q _ hq => lw_in hDm hS1 q hq) (lw_in hDm hS1) (fun v2 t2 cws2 H2 locs2 ho2 hw2 hP2 hD2 hk2 hS2 => ?_)
  have ho2 := lw_oL ho2
  subst ho2
  rw [hz_128.1, hz_128.2]
  show W p l e room_1 s m #[Value.ref b] below meth c H2 locs2 600000 7302250 (lw_Z below #[Value.ref b] s) (F0 m 463 ls [.long r, .long r])
  refine W.lcmp hx hb dL_law_463 ?_
  refine lv_if_eq (tgt := 945) hx hb dL_law_464 (by decide) (fun _ => ?_) (fun h => absurd (lw_cmp0 r) h)
  exact lw_945 C0 hL hS2 hl
set_option maxHeartbeats 4000000 in
set_option maxRecDepth 100000 in
theorem lw_c11 {p : Program} {l : Launch} {e : Env} {s : State} {m : MethodId} {below : List Frame} {meth : Method} {c : Code} {b L : Nat} {xs : Nat → Int32} {D : va_G} {cy : Nat → ClassId} (C0 : lw_At p s m meth c b L xs) (hL : L = 4) (hK : rx_K D vwCl (tyl cy) nwl ocl s) {ρx ρm : List Nat} {cX cM : va_W} {H : Heap} {locs : List Loc} {qx qm : Nat} (hwx : rx_w ρx (lwσ xs) cy WX cX) (hwm : rx_w ρm (lwσ xs) cy WM cM) (hqx : ρx[0]? = some qx) (hqm : ρm[0]? = some qm) (hP : va_P D vwCl (cX ++ cM) H) (hD : va_D (lA s) (cX ++ cM)) (hS : va_S (lA s) s.heap H locs) {ls : Array Slot} (hl : lv_has ls 4 [(3, .int 0), (2, .ref qm), (1, .ref qx), (0, .ref b)]) : W p l e room_1 s m #[Value.ref b] below meth c H locs 600000 7302250 (lw_Z below #[Value.ref b] s) (F0 m 469 ls []) := by
  obtain ⟨hx, hb, hr, hml, hown, hts, hX, hbl, hlocks, hgv⟩ := id C0
  subst hL
  have hL : (4 : Nat) = 4 := rfl
  have hbA : ¬ lA s b := Nat.not_le.mpr hbl
  obtain ⟨r, ⟨w1, K1⟩, ⟨w2, K2⟩⟩ := op_keep (l := l) (D := D) (cy := cy) (σ := lwσ xs)
  refine lv_aload_n hx hb dL_law_469 rfl (lv_at hl 2 rfl) ?_
  refine lv_aload_n hx hb dL_law_470 rfl (lv_at hl 3 rfl) ?_
  refine lv_iload_n hx hb dL_law_471 rfl (lv_at hl 0 rfl) ?_
  refine lv_iconst (v := 1) hx hb dL_law_472 (by decide) ?_
  refine lv_iadd hx hb dL_law_473 ?_
  refine va_sld hx hb hX hbl hbA hS lw_in1 dL_law_474 ?_
  refine W.eq (g2 := F0 m 475 ls [.int (xs 1), .ref qx]) rfl ?_
  have hrun := lk_475 p e s m #[Value.ref b] below meth c (lA s) H locs 600000 7302250 ls [.ref qx, .int (xs 1)] [] _ _ _ (lw_X (l := l) C0 hK) hl.1 (K1 ρx cX H.size qx hwx hqx) (rx_Pc.blind _ _ _ _) (fun U hU hW => ⟨rfl, by rw [hU], by rw [hU]; exact lw_left hP, hK.warm hW, (lw_leftD hD).weaken (fun _ _ _ _ => trivial)⟩) rfl (fun _ => lw_recv hwx hqx rfl hK.1 (lw_left hP) rfl) (Nat.zero_le _) (by rw [hz_75.1]; exact Nat.le_refl 600000) (by rw [hz_75.2]; exact Nat.le_refl 7302250)
  refine lw_behind hrun hS (fun q _ hq => lw_in (lw_leftD hD) hS q hq) (lw_in (lw_leftD hD) hS) (fun v t1 cws1 H1 locs1 ho hw1 hP1 hD1 hk1 hS1 => ?_)
  have ho := lw_oI ho
  subst ho
  rw [hz_75.1, hz_75.2]
  show W p l e room_1 s m #[Value.ref b] below meth c H1 locs1 600000 7302250 (lw_Z below #[Value.ref b] s) (F0 m 478 ls [.int r])
  have hPm := lw_keep hP hD hk1
  have hDm := lw_rightD hD
  refine lv_aload_n hx hb dL_law_478 rfl (lv_at hl 1 rfl) ?_
  refine lv_aload_n hx hb dL_law_479 rfl (lv_at hl 3 rfl) ?_
  refine lv_iload_n hx hb dL_law_480 rfl (lv_at hl 0 rfl) ?_
  refine lv_iconst (v := 1) hx hb dL_law_481 (by decide) ?_
  refine lv_iadd hx hb dL_law_482 ?_
  refine va_sld hx hb hX hbl hbA hS1 lw_in1 dL_law_483 ?_
  refine W.eq (g2 := F0 m 484 ls [.int (xs 1), .ref qm, .int r]) rfl ?_
  have hrun2 := lk_484 p e s m #[Value.ref b] below meth c (lA s) H1 locs1 600000 7302250 ls [.ref qm, .int (xs 1)] [.int r] _ _ _ (lw_X (l := l) C0 hK) hl.1 (K2 ρm cM H1.size qm hwm hqm) (rx_Pc.blind _ _ _ _) (fun U hU hW => ⟨rfl, by rw [hU], by rw [hU]; exact hPm, hK.warm hW, hDm.weaken (fun _ _ _ _ => trivial)⟩) rfl (fun _ => lw_recv hwm hqm rfl hK.1 hPm rfl) (Nat.le_of_ble_eq_true rfl) (by rw [hz_121.1]; exact Nat.le_refl 600000) (by rw [hz_121.2]; exact Nat.le_refl 7302250)
  refine lw_behind hrun2 hS1 (fun q _ hq => lw_in hDm hS1 q hq) (lw_in hDm hS1) (fun v2 t2 cws2 H2 locs2 ho2 hw2 hP2 hD2 hk2 hS2 => ?_)
  have ho2 := lw_oI ho2
  subst ho2
  rw [hz_121.1, hz_121.2]
  show W p l e room_1 s m #[Value.ref b] below meth c H2 locs2 600000 7302250 (lw_Z below #[Value.ref b] s) (F0 m 487 ls [.int r, .int r])
  refine lv_icmp_eq (tgt := 945) hx hb dL_law_487 (by decide) (fun _ => ?_) (fun h => absurd rfl h)
  exact lw_945 C0 hL hS2 hl
set_option maxHeartbeats 4000000 in
set_option maxRecDepth 100000 in
theorem lw_c12 {p : Program} {l : Launch} {e : Env} {s : State} {m : MethodId} {below : List Frame} {meth : Method} {c : Code} {b L : Nat} {xs : Nat → Int32} {D : va_G} {cy : Nat → ClassId} (C0 : lw_At p s m meth c b L xs) (hL : L = 4) (hK : rx_K D vwCl (tyl cy) nwl ocl s) {ρx ρm : List Nat} {cX cM : va_W} {H : Heap} {locs : List Loc} {qx qm : Nat} (hwx : rx_w ρx (lwσ xs) cy WX cX) (hwm : rx_w ρm (lwσ xs) cy WM cM) (hqx : ρx[0]? = some qx) (hqm : ρm[0]? = some qm) (hP : va_P D vwCl (cX ++ cM) H) (hD : va_D (lA s) (cX ++ cM)) (hS : va_S (lA s) s.heap H locs) {ls : Array Slot} (hl : lv_has ls 4 [(3, .int 0), (2, .ref qm), (1, .ref qx), (0, .ref b)]) : W p l e room_1 s m #[Value.ref b] below meth c H locs 600000 7302250 (lw_Z below #[Value.ref b] s) (F0 m 492 ls []) := by
  obtain ⟨hx, hb, hr, hml, hown, hts, hX, hbl, hlocks, hgv⟩ := id C0
  subst hL
  have hL : (4 : Nat) = 4 := rfl
  have hbA : ¬ lA s b := Nat.not_le.mpr hbl
  obtain ⟨r, ⟨w1, K1⟩, ⟨w2, K2⟩⟩ := op_same (l := l) (D := D) (cy := cy) (σ := lwσ xs)
  refine lv_aload_n hx hb dL_law_492 rfl (lv_at hl 2 rfl) ?_
  refine lv_aload_n hx hb dL_law_493 rfl (lv_at hl 3 rfl) ?_
  refine lv_iload_n hx hb dL_law_494 rfl (lv_at hl 0 rfl) ?_
  refine lv_iconst (v := 1) hx hb dL_law_495 (by decide) ?_
  refine lv_iadd hx hb dL_law_496 ?_
  refine va_sld hx hb hX hbl hbA hS lw_in1 dL_law_497 ?_
  refine W.eq (g2 := F0 m 498 ls [.int (xs 1), .ref qx]) rfl ?_
  have hrun := lk_498 p e s m #[Value.ref b] below meth c (lA s) H locs 600000 7302250 ls [.ref qx, .int (xs 1)] [] _ _ _ (lw_X (l := l) C0 hK) hl.1 (K1 ρx cX H.size qx hwx hqx) (rx_Pc.blind _ _ _ _) (fun U hU hW => ⟨rfl, by rw [hU], by rw [hU]; exact lw_left hP, hK.warm hW, (lw_leftD hD).weaken (fun _ _ _ _ => trivial)⟩) rfl (fun _ => lw_recv hwx hqx rfl hK.1 (lw_left hP) rfl) (Nat.zero_le _) (by rw [hz_82.1]; exact Nat.le_refl 600000) (by rw [hz_82.2]; exact Nat.le_refl 7302250)
  refine lw_behind hrun hS (fun q _ hq => lw_in (lw_leftD hD) hS q hq) (lw_in (lw_leftD hD) hS) (fun v t1 cws1 H1 locs1 ho hw1 hP1 hD1 hk1 hS1 => ?_)
  have ho := lw_oI ho
  subst ho
  rw [hz_82.1, hz_82.2]
  show W p l e room_1 s m #[Value.ref b] below meth c H1 locs1 600000 7302250 (lw_Z below #[Value.ref b] s) (F0 m 501 ls [.int r])
  have hPm := lw_keep hP hD hk1
  have hDm := lw_rightD hD
  refine lv_aload_n hx hb dL_law_501 rfl (lv_at hl 1 rfl) ?_
  refine lv_aload_n hx hb dL_law_502 rfl (lv_at hl 3 rfl) ?_
  refine lv_iload_n hx hb dL_law_503 rfl (lv_at hl 0 rfl) ?_
  refine lv_iconst (v := 1) hx hb dL_law_504 (by decide) ?_
  refine lv_iadd hx hb dL_law_505 ?_
  refine va_sld hx hb hX hbl hbA hS1 lw_in1 dL_law_506 ?_
  refine W.eq (g2 := F0 m 507 ls [.int (xs 1), .ref qm, .int r]) rfl ?_
  have hrun2 := lk_507 p e s m #[Value.ref b] below meth c (lA s) H1 locs1 600000 7302250 ls [.ref qm, .int (xs 1)] [.int r] _ _ _ (lw_X (l := l) C0 hK) hl.1 (K2 ρm cM H1.size qm hwm hqm) (rx_Pc.blind _ _ _ _) (fun U hU hW => ⟨rfl, by rw [hU], by rw [hU]; exact hPm, hK.warm hW, hDm.weaken (fun _ _ _ _ => trivial)⟩) rfl (fun _ => lw_recv hwm hqm rfl hK.1 hPm rfl) (Nat.le_of_ble_eq_true rfl) (by rw [hz_137.1]; exact Nat.le_refl 600000) (by rw [hz_137.2]; exact Nat.le_refl 7302250)
  refine lw_behind hrun2 hS1 (fun q _ hq => lw_in hDm hS1 q hq) (lw_in hDm hS1) (fun v2 t2 cws2 H2 locs2 ho2 hw2 hP2 hD2 hk2 hS2 => ?_)
  have ho2 := lw_oI ho2
  subst ho2
  rw [hz_137.1, hz_137.2]
  show W p l e room_1 s m #[Value.ref b] below meth c H2 locs2 600000 7302250 (lw_Z below #[Value.ref b] s) (F0 m 510 ls [.int r, .int r])
  refine lv_icmp_eq (tgt := 945) hx hb dL_law_510 (by decide) (fun _ => ?_) (fun h => absurd rfl h)
  exact lw_945 C0 hL hS2 hl
set_option maxHeartbeats 4000000 in
set_option maxRecDepth 100000 in
theorem lw_c13 {p : Program} {l : Launch} {e : Env} {s : State} {m : MethodId} {below : List Frame} {meth : Method} {c : Code} {b L : Nat} {xs : Nat → Int32} {D : va_G} {cy : Nat → ClassId} (C0 : lw_At p s m meth c b L xs) (hL : L = 4) (hK : rx_K D vwCl (tyl cy) nwl ocl s) {ρx ρm : List Nat} {cX cM : va_W} {H : Heap} {locs : List Loc} {qx qm : Nat} (hwx : rx_w ρx (lwσ xs) cy WX cX) (hwm : rx_w ρm (lwσ xs) cy WM cM) (hqx : ρx[0]? = some qx) (hqm : ρm[0]? = some qm) (hP : va_P D vwCl (cX ++ cM) H) (hD : va_D (lA s) (cX ++ cM)) (hS : va_S (lA s) s.heap H locs) {ls : Array Slot} (hl : lv_has ls 4 [(3, .int 0), (2, .ref qm), (1, .ref qx), (0, .ref b)]) : W p l e room_1 s m #[Value.ref b] below meth c H locs 600000 7302250 (lw_Z below #[Value.ref b] s) (F0 m 515 ls []) := by
  obtain ⟨hx, hb, hr, hml, hown, hts, hX, hbl, hlocks, hgv⟩ := id C0
  subst hL
  have hL : (4 : Nat) = 4 := rfl
  have hbA : ¬ lA s b := Nat.not_le.mpr hbl
  obtain ⟨r, ⟨w1, K1⟩, ⟨w2, K2⟩⟩ := op_all (l := l) (D := D) (cy := cy) (σ := lwσ xs)
  refine lv_aload_n hx hb dL_law_515 rfl (lv_at hl 2 rfl) ?_
  have hrun := lk_516 p e s m #[Value.ref b] below meth c (lA s) H locs 600000 7302250 ls [.ref qx] [] _ _ _ (lw_X (l := l) C0 hK) hl.1 (K1 ρx cX H.size qx hwx hqx) (rx_Pc.blind _ _ _ _) (fun U hU hW => ⟨rfl, by rw [hU], by rw [hU]; exact lw_left hP, hK.warm hW, (lw_leftD hD).weaken (fun _ _ _ _ => trivial)⟩) rfl (fun _ => lw_recv hwx hqx rfl hK.1 (lw_left hP) rfl) (Nat.zero_le _) (by rw [hz_59.1]; exact Nat.le_refl 600000) (by rw [hz_59.2]; exact Nat.le_refl 7302250)
  refine lw_behind hrun hS (fun q _ hq => lw_in (lw_leftD hD) hS q hq) (lw_in (lw_leftD hD) hS) (fun v t1 cws1 H1 locs1 ho hw1 hP1 hD1 hk1 hS1 => ?_)
  have ho := lw_oI ho
  subst ho
  rw [hz_59.1, hz_59.2]
  show W p l e room_1 s m #[Value.ref b] below meth c H1 locs1 600000 7302250 (lw_Z below #[Value.ref b] s) (F0 m 519 ls [.int r])
  have hPm := lw_keep hP hD hk1
  have hDm := lw_rightD hD
  refine lv_aload_n hx hb dL_law_519 rfl (lv_at hl 1 rfl) ?_
  have hrun2 := lk_520 p e s m #[Value.ref b] below meth c (lA s) H1 locs1 600000 7302250 ls [.ref qm] [.int r] _ _ _ (lw_X (l := l) C0 hK) hl.1 (K2 ρm cM H1.size qm hwm hqm) (rx_Pc.blind _ _ _ _) (fun U hU hW => ⟨rfl, by rw [hU], by rw [hU]; exact hPm, hK.warm hW, hDm.weaken (fun _ _ _ _ => trivial)⟩) rfl (fun _ => lw_recv hwm hqm rfl hK.1 hPm rfl) (Nat.le_of_ble_eq_true rfl) (by rw [hz_96.1]; exact Nat.le_refl 600000) (by rw [hz_96.2]; exact Nat.le_refl 7302250)
  refine lw_behind hrun2 hS1 (fun q _ hq => lw_in hDm hS1 q hq) (lw_in hDm hS1) (fun v2 t2 cws2 H2 locs2 ho2 hw2 hP2 hD2 hk2 hS2 => ?_)
  have ho2 := lw_oI ho2
  subst ho2
  rw [hz_96.1, hz_96.2]
  show W p l e room_1 s m #[Value.ref b] below meth c H2 locs2 600000 7302250 (lw_Z below #[Value.ref b] s) (F0 m 523 ls [.int r, .int r])
  refine lv_icmp_eq (tgt := 945) hx hb dL_law_523 (by decide) (fun _ => ?_) (fun h => absurd rfl h)
  exact lw_945 C0 hL hS2 hl
set_option maxHeartbeats 4000000 in
set_option maxRecDepth 100000 in
theorem lw_c14 {p : Program} {l : Launch} {e : Env} {s : State} {m : MethodId} {below : List Frame} {meth : Method} {c : Code} {b L : Nat} {xs : Nat → Int32} {D : va_G} {cy : Nat → ClassId} (C0 : lw_At p s m meth c b L xs) (hL : L = 4) (hK : rx_K D vwCl (tyl cy) nwl ocl s) {ρx ρm : List Nat} {cX cM : va_W} {H : Heap} {locs : List Loc} {qx qm : Nat} (hwx : rx_w ρx (lwσ xs) cy WX cX) (hwm : rx_w ρm (lwσ xs) cy WM cM) (hqx : ρx[0]? = some qx) (hqm : ρm[0]? = some qm) (hP : va_P D vwCl (cX ++ cM) H) (hD : va_D (lA s) (cX ++ cM)) (hS : va_S (lA s) s.heap H locs) {ls : Array Slot} (hl : lv_has ls 4 [(3, .int 0), (2, .ref qm), (1, .ref qx), (0, .ref b)]) : W p l e room_1 s m #[Value.ref b] below meth c H locs 600000 7302250 (lw_Z below #[Value.ref b] s) (F0 m 528 ls []) := by
  obtain ⟨hx, hb, hr, hml, hown, hts, hX, hbl, hlocks, hgv⟩ := id C0
  subst hL
  have hL : (4 : Nat) = 4 := rfl
  have hbA : ¬ lA s b := Nat.not_le.mpr hbl
  obtain ⟨r, ⟨w1, K1⟩, ⟨w2, K2⟩⟩ := op_what (l := l) (D := D) (cy := cy) (σ := lwσ xs)
  refine lv_aload_n hx hb dL_law_528 rfl (lv_at hl 2 rfl) ?_
  refine lv_aload_n hx hb dL_law_529 rfl (lv_at hl 3 rfl) ?_
  refine lv_iload_n hx hb dL_law_530 rfl (lv_at hl 0 rfl) ?_
  refine lv_iconst (v := 1) hx hb dL_law_531 (by decide) ?_
  refine lv_iadd hx hb dL_law_532 ?_
  refine va_sld hx hb hX hbl hbA hS lw_in1 dL_law_533 ?_
  refine W.eq (g2 := F0 m 534 ls [.int (xs 1), .ref qx]) rfl ?_
  refine lv_aload_n hx hb dL_law_534 rfl (lv_at hl 3 rfl) ?_
  refine lv_iload_n hx hb dL_law_535 rfl (lv_at hl 0 rfl) ?_
  refine lv_iconst (v := 2) hx hb dL_law_536 (by decide) ?_
  refine lv_iadd hx hb dL_law_537 ?_
  refine va_sld hx hb hX hbl hbA hS lw_in2 dL_law_538 ?_
  refine W.eq (g2 := F0 m 539 ls [.int (xs 2), .int (xs 1), .ref qx]) rfl ?_
  have hrun := lk_539 p e s m #[Value.ref b] below meth c (lA s) H locs 600000 7302250 ls [.ref qx, .int (xs 1), .int (xs 2)] [] _ _ _ (lw_X (l := l) C0 hK) hl.1 (K1 ρx cX H.size qx hwx hqx) (rx_Pc.blind _ _ _ _) (fun U hU hW => ⟨rfl, by rw [hU], by rw [hU]; exact lw_left hP, hK.warm hW, (lw_leftD hD).weaken (fun _ _ _ _ => trivial)⟩) rfl (fun _ => lw_recv hwx hqx rfl hK.1 (lw_left hP) rfl) (Nat.zero_le _) (by rw [hz_93.1]; exact Nat.le_refl 600000) (by rw [hz_93.2]; exact Nat.le_refl 7302250)
  refine lw_behind hrun hS (fun q _ hq => lw_in (lw_leftD hD) hS q hq) (lw_in (lw_leftD hD) hS) (fun v t1 cws1 H1 locs1 ho hw1 hP1 hD1 hk1 hS1 => ?_)
  have ho := lw_oL ho
  subst ho
  rw [hz_93.1, hz_93.2]
  show W p l e room_1 s m #[Value.ref b] below meth c H1 locs1 600000 7302250 (lw_Z below #[Value.ref b] s) (F0 m 542 ls [.long r])
  have hPm := lw_keep hP hD hk1
  have hDm := lw_rightD hD
  refine lv_aload_n hx hb dL_law_542 rfl (lv_at hl 1 rfl) ?_
  refine lv_aload_n hx hb dL_law_543 rfl (lv_at hl 3 rfl) ?_
  refine lv_iload_n hx hb dL_law_544 rfl (lv_at hl 0 rfl) ?_
  refine lv_iconst (v := 1) hx hb dL_law_545 (by decide) ?_
  refine lv_iadd hx hb dL_law_546 ?_
  refine va_sld hx hb hX hbl hbA hS1 lw_in1 dL_law_547 ?_
  refine W.eq (g2 := F0 m 548 ls [.int (xs 1), .ref qm, .long r]) rfl ?_
  refine lv_aload_n hx hb dL_law_548 rfl (lv_at hl 3 rfl) ?_
  refine lv_iload_n hx hb dL_law_549 rfl (lv_at hl 0 rfl) ?_
  refine lv_iconst (v := 2) hx hb dL_law_550 (by decide) ?_
  refine lv_iadd hx hb dL_law_551 ?_
  refine va_sld hx hb hX hbl hbA hS1 lw_in2 dL_law_552 ?_
  refine W.eq (g2 := F0 m 553 ls [.int (xs 2), .int (xs 1), .ref qm, .long r]) rfl ?_
  have hrun2 := lk_553 p e s m #[Value.ref b] below meth c (lA s) H1 locs1 600000 7302250 ls [.ref qm, .int (xs 1), .int (xs 2)] [.long r] _ _ _ (lw_X (l := l) C0 hK) hl.1 (K2 ρm cM H1.size qm hwm hqm) (rx_Pc.blind _ _ _ _) (fun U hU hW => ⟨rfl, by rw [hU], by rw [hU]; exact hPm, hK.warm hW, hDm.weaken (fun _ _ _ _ => trivial)⟩) rfl (fun _ => lw_recv hwm hqm rfl hK.1 hPm rfl) (Nat.le_of_ble_eq_true rfl) (by rw [hz_157.1]; exact Nat.le_refl 600000) (by rw [hz_157.2]; exact Nat.le_refl 7302250)
  refine lw_behind hrun2 hS1 (fun q _ hq => lw_in hDm hS1 q hq) (lw_in hDm hS1) (fun v2 t2 cws2 H2 locs2 ho2 hw2 hP2 hD2 hk2 hS2 => ?_)
  have ho2 := lw_oL ho2
  subst ho2
  rw [hz_157.1, hz_157.2]
  show W p l e room_1 s m #[Value.ref b] below meth c H2 locs2 600000 7302250 (lw_Z below #[Value.ref b] s) (F0 m 556 ls [.long r, .long r])
  refine W.lcmp hx hb dL_law_556 ?_
  refine lv_if_eq (tgt := 945) hx hb dL_law_557 (by decide) (fun _ => ?_) (fun h => absurd (lw_cmp0 r) h)
  exact lw_945 C0 hL hS2 hl
set_option maxHeartbeats 4000000 in
set_option maxRecDepth 100000 in
theorem lw_c15 {p : Program} {l : Launch} {e : Env} {s : State} {m : MethodId} {below : List Frame} {meth : Method} {c : Code} {b L : Nat} {xs : Nat → Int32} {D : va_G} {cy : Nat → ClassId} (C0 : lw_At p s m meth c b L xs) (hL : L = 4) (hK : rx_K D vwCl (tyl cy) nwl ocl s) {ρx ρm : List Nat} {cX cM : va_W} {H : Heap} {locs : List Loc} {qx qm : Nat} (hwx : rx_w ρx (lwσ xs) cy WX cX) (hwm : rx_w ρm (lwσ xs) cy WM cM) (hqx : ρx[0]? = some qx) (hqm : ρm[0]? = some qm) (hP : va_P D vwCl (cX ++ cM) H) (hD : va_D (lA s) (cX ++ cM)) (hS : va_S (lA s) s.heap H locs) {ls : Array Slot} (hl : lv_has ls 4 [(3, .int 0), (2, .ref qm), (1, .ref qx), (0, .ref b)]) : W p l e room_1 s m #[Value.ref b] below meth c H locs 600000 7302250 (lw_Z below #[Value.ref b] s) (F0 m 562 ls []) := by
  obtain ⟨hx, hb, hr, hml, hown, hts, hX, hbl, hlocks, hgv⟩ := id C0
  subst hL
  have hL : (4 : Nat) = 4 := rfl
  have hbA : ¬ lA s b := Nat.not_le.mpr hbl
  obtain ⟨r, ⟨w1, K1⟩, ⟨w2, K2⟩⟩ := op_finite (l := l) (D := D) (cy := cy) (σ := lwσ xs)
  refine lv_aload_n hx hb dL_law_562 rfl (lv_at hl 2 rfl) ?_
  have hrun := lk_563 p e s m #[Value.ref b] below meth c (lA s) H locs 600000 7302250 ls [.ref qx] [] _ _ _ (lw_X (l := l) C0 hK) hl.1 (K1 ρx cX H.size qx hwx hqx) (rx_Pc.blind _ _ _ _) (fun U hU hW => ⟨rfl, by rw [hU], by rw [hU]; exact lw_left hP, hK.warm hW, (lw_leftD hD).weaken (fun _ _ _ _ => trivial)⟩) rfl (fun _ => lw_recv hwx hqx rfl hK.1 (lw_left hP) rfl) (Nat.zero_le _) (by rw [hz_66.1]; exact Nat.le_refl 600000) (by rw [hz_66.2]; exact Nat.le_refl 7302250)
  refine lw_behind hrun hS (fun q _ hq => lw_in (lw_leftD hD) hS q hq) (lw_in (lw_leftD hD) hS) (fun v t1 cws1 H1 locs1 ho hw1 hP1 hD1 hk1 hS1 => ?_)
  have ho := lw_oI ho
  subst ho
  rw [hz_66.1, hz_66.2]
  show W p l e room_1 s m #[Value.ref b] below meth c H1 locs1 600000 7302250 (lw_Z below #[Value.ref b] s) (F0 m 566 ls [.int r])
  have hPm := lw_keep hP hD hk1
  have hDm := lw_rightD hD
  refine lv_aload_n hx hb dL_law_566 rfl (lv_at hl 1 rfl) ?_
  have hrun2 := lk_567 p e s m #[Value.ref b] below meth c (lA s) H1 locs1 600000 7302250 ls [.ref qm] [.int r] _ _ _ (lw_X (l := l) C0 hK) hl.1 (K2 ρm cM H1.size qm hwm hqm) (rx_Pc.blind _ _ _ _) (fun U hU hW => ⟨rfl, by rw [hU], by rw [hU]; exact hPm, hK.warm hW, hDm.weaken (fun _ _ _ _ => trivial)⟩) rfl (fun _ => lw_recv hwm hqm rfl hK.1 hPm rfl) (Nat.le_of_ble_eq_true rfl) (by rw [hz_108.1]; exact Nat.le_refl 600000) (by rw [hz_108.2]; exact Nat.le_refl 7302250)
  refine lw_behind hrun2 hS1 (fun q _ hq => lw_in hDm hS1 q hq) (lw_in hDm hS1) (fun v2 t2 cws2 H2 locs2 ho2 hw2 hP2 hD2 hk2 hS2 => ?_)
  have ho2 := lw_oI ho2
  subst ho2
  rw [hz_108.1, hz_108.2]
  show W p l e room_1 s m #[Value.ref b] below meth c H2 locs2 600000 7302250 (lw_Z below #[Value.ref b] s) (F0 m 570 ls [.int r, .int r])
  refine lv_icmp_eq (tgt := 945) hx hb dL_law_570 (by decide) (fun _ => ?_) (fun h => absurd rfl h)
  exact lw_945 C0 hL hS2 hl
set_option maxHeartbeats 4000000 in
set_option maxRecDepth 100000 in
theorem lw_c16 {p : Program} {l : Launch} {e : Env} {s : State} {m : MethodId} {below : List Frame} {meth : Method} {c : Code} {b L : Nat} {xs : Nat → Int32} {D : va_G} {cy : Nat → ClassId} (C0 : lw_At p s m meth c b L xs) (hL : L = 4) (hK : rx_K D vwCl (tyl cy) nwl ocl s) {ρx ρm : List Nat} {cX cM : va_W} {H : Heap} {locs : List Loc} {qx qm : Nat} (hwx : rx_w ρx (lwσ xs) cy WX cX) (hwm : rx_w ρm (lwσ xs) cy WM cM) (hqx : ρx[0]? = some qx) (hqm : ρm[0]? = some qm) (hP : va_P D vwCl (cX ++ cM) H) (hD : va_D (lA s) (cX ++ cM)) (hS : va_S (lA s) s.heap H locs) {ls : Array Slot} (hl : lv_has ls 4 [(3, .int 0), (2, .ref qm), (1, .ref qx), (0, .ref b)]) : W p l e room_1 s m #[Value.ref b] below meth c H locs 600000 7302250 (lw_Z below #[Value.ref b] s) (F0 m 575 ls []) := by
  obtain ⟨hx, hb, hr, hml, hown, hts, hX, hbl, hlocks, hgv⟩ := id C0
  subst hL
  have hL : (4 : Nat) = 4 := rfl
  have hbA : ¬ lA s b := Nat.not_le.mpr hbl
  obtain ⟨r, ⟨w1, K1⟩, ⟨w2, K2⟩⟩ := op_step (l := l) (D := D) (cy := cy) (σ := lwσ xs)
  refine lv_aload_n hx hb dL_law_575 rfl (lv_at hl 2 rfl) ?_
  refine lv_aload_n hx hb dL_law_576 rfl (lv_at hl 3 rfl) ?_
  refine lv_iload_n hx hb dL_law_577 rfl (lv_at hl 0 rfl) ?_
  refine lv_iconst (v := 1) hx hb dL_law_578 (by decide) ?_
  refine lv_iadd hx hb dL_law_579 ?_
  refine va_sld hx hb hX hbl hbA hS lw_in1 dL_law_580 ?_
  refine W.eq (g2 := F0 m 581 ls [.int (xs 1), .ref qx]) rfl ?_
  have hrun := lk_581 p e s m #[Value.ref b] below meth c (lA s) H locs 600000 7302250 ls [.ref qx, .int (xs 1)] [] _ _ _ (lw_X (l := l) C0 hK) hl.1 (K1 ρx cX H.size qx hwx hqx) (rx_Pc.blind _ _ _ _) (fun U hU hW => ⟨rfl, by rw [hU], by rw [hU]; exact lw_left hP, hK.warm hW, (lw_leftD hD).weaken (fun _ _ _ _ => trivial)⟩) rfl (fun _ => lw_recv hwx hqx rfl hK.1 (lw_left hP) rfl) (Nat.zero_le _) (by rw [hz_85.1]; exact Nat.le_refl 600000) (by rw [hz_85.2]; exact Nat.le_refl 7302250)
  refine lw_behind hrun hS (fun q _ hq => lw_in (lw_leftD hD) hS q hq) (lw_in (lw_leftD hD) hS) (fun v t1 cws1 H1 locs1 ho hw1 hP1 hD1 hk1 hS1 => ?_)
  have ho := lw_oI ho
  subst ho
  rw [hz_85.1, hz_85.2]
  show W p l e room_1 s m #[Value.ref b] below meth c H1 locs1 600000 7302250 (lw_Z below #[Value.ref b] s) (F0 m 584 ls [.int r])
  have hPm := lw_keep hP hD hk1
  have hDm := lw_rightD hD
  refine lv_aload_n hx hb dL_law_584 rfl (lv_at hl 1 rfl) ?_
  refine lv_aload_n hx hb dL_law_585 rfl (lv_at hl 3 rfl) ?_
  refine lv_iload_n hx hb dL_law_586 rfl (lv_at hl 0 rfl) ?_
  refine lv_iconst (v := 1) hx hb dL_law_587 (by decide) ?_
  refine lv_iadd hx hb dL_law_588 ?_
  refine va_sld hx hb hX hbl hbA hS1 lw_in1 dL_law_589 ?_
  refine W.eq (g2 := F0 m 590 ls [.int (xs 1), .ref qm, .int r]) rfl ?_
  have hrun2 := lk_590 p e s m #[Value.ref b] below meth c (lA s) H1 locs1 600000 7302250 ls [.ref qm, .int (xs 1)] [.int r] _ _ _ (lw_X (l := l) C0 hK) hl.1 (K2 ρm cM H1.size qm hwm hqm) (rx_Pc.blind _ _ _ _) (fun U hU hW => ⟨rfl, by rw [hU], by rw [hU]; exact hPm, hK.warm hW, hDm.weaken (fun _ _ _ _ => trivial)⟩) rfl (fun _ => lw_recv hwm hqm rfl hK.1 hPm rfl) (Nat.le_of_ble_eq_true rfl) (by rw [hz_142.1]; exact Nat.le_refl 600000) (by rw [hz_142.2]; exact Nat.le_refl 7302250)
  refine lw_behind hrun2 hS1 (fun q _ hq => lw_in hDm hS1 q hq) (lw_in hDm hS1) (fun v2 t2 cws2 H2 locs2 ho2 hw2 hP2 hD2 hk2 hS2 => ?_)
  have ho2 := lw_oI ho2
  subst ho2
  rw [hz_142.1, hz_142.2]
  show W p l e room_1 s m #[Value.ref b] below meth c H2 locs2 600000 7302250 (lw_Z below #[Value.ref b] s) (F0 m 593 ls [.int r, .int r])
  refine lv_icmp_eq (tgt := 945) hx hb dL_law_593 (by decide) (fun _ => ?_) (fun h => absurd rfl h)
  exact lw_945 C0 hL hS2 hl
set_option maxHeartbeats 4000000 in
set_option maxRecDepth 100000 in
theorem lw_c17 {p : Program} {l : Launch} {e : Env} {s : State} {m : MethodId} {below : List Frame} {meth : Method} {c : Code} {b L : Nat} {xs : Nat → Int32} {D : va_G} {cy : Nat → ClassId} (C0 : lw_At p s m meth c b L xs) (hL : L = 4) (hK : rx_K D vwCl (tyl cy) nwl ocl s) {ρx ρm : List Nat} {cX cM : va_W} {H : Heap} {locs : List Loc} {qx qm : Nat} (hwx : rx_w ρx (lwσ xs) cy WX cX) (hwm : rx_w ρm (lwσ xs) cy WM cM) (hqx : ρx[0]? = some qx) (hqm : ρm[0]? = some qm) (hP : va_P D vwCl (cX ++ cM) H) (hD : va_D (lA s) (cX ++ cM)) (hS : va_S (lA s) s.heap H locs) {ls : Array Slot} (hl : lv_has ls 4 [(3, .int 0), (2, .ref qm), (1, .ref qx), (0, .ref b)]) : W p l e room_1 s m #[Value.ref b] below meth c H locs 600000 7302250 (lw_Z below #[Value.ref b] s) (F0 m 598 ls []) := by
  obtain ⟨hx, hb, hr, hml, hown, hts, hX, hbl, hlocks, hgv⟩ := id C0
  subst hL
  have hL : (4 : Nat) = 4 := rfl
  have hbA : ¬ lA s b := Nat.not_le.mpr hbl
  obtain ⟨r, ⟨w1, K1⟩, ⟨w2, K2⟩⟩ := op_tables (l := l) (D := D) (cy := cy) (σ := lwσ xs)
  refine lv_aload_n hx hb dL_law_598 rfl (lv_at hl 2 rfl) ?_
  have hrun := lk_599 p e s m #[Value.ref b] below meth c (lA s) H locs 600000 7302250 ls [.ref qx] [] _ _ _ (lw_X (l := l) C0 hK) hl.1 (K1 ρx cX H.size qx hwx hqx) (rx_Pc.blind _ _ _ _) (fun U hU hW => ⟨rfl, by rw [hU], by rw [hU]; exact lw_left hP, hK.warm hW, (lw_leftD hD).weaken (fun _ _ _ _ => trivial)⟩) rfl (fun _ => lw_recv hwx hqx rfl hK.1 (lw_left hP) rfl) (Nat.zero_le _) (by rw [hz_87.1]; exact Nat.le_refl 600000) (by rw [hz_87.2]; exact Nat.le_refl 7302250)
  refine lw_behind hrun hS (fun q _ hq => lw_in (lw_leftD hD) hS q hq) (lw_in (lw_leftD hD) hS) (fun v t1 cws1 H1 locs1 ho hw1 hP1 hD1 hk1 hS1 => ?_)
  have ho := lw_oI ho
  subst ho
  rw [hz_87.1, hz_87.2]
  show W p l e room_1 s m #[Value.ref b] below meth c H1 locs1 600000 7302250 (lw_Z below #[Value.ref b] s) (F0 m 602 ls [.int r])
  have hPm := lw_keep hP hD hk1
  have hDm := lw_rightD hD
  refine lv_aload_n hx hb dL_law_602 rfl (lv_at hl 1 rfl) ?_
  have hrun2 := lk_603 p e s m #[Value.ref b] below meth c (lA s) H1 locs1 600000 7302250 ls [.ref qm] [.int r] _ _ _ (lw_X (l := l) C0 hK) hl.1 (K2 ρm cM H1.size qm hwm hqm) (rx_Pc.blind _ _ _ _) (fun U hU hW => ⟨rfl, by rw [hU], by rw [hU]; exact hPm, hK.warm hW, hDm.weaken (fun _ _ _ _ => trivial)⟩) rfl (fun _ => lw_recv hwm hqm rfl hK.1 hPm rfl) (Nat.le_of_ble_eq_true rfl) (by rw [hz_146.1]; exact Nat.le_refl 600000) (by rw [hz_146.2]; exact Nat.le_refl 7302250)
  refine lw_behind hrun2 hS1 (fun q _ hq => lw_in hDm hS1 q hq) (lw_in hDm hS1) (fun v2 t2 cws2 H2 locs2 ho2 hw2 hP2 hD2 hk2 hS2 => ?_)
  have ho2 := lw_oI ho2
  subst ho2
  rw [hz_146.1, hz_146.2]
  show W p l e room_1 s m #[Value.ref b] below meth c H2 locs2 600000 7302250 (lw_Z below #[Value.ref b] s) (F0 m 606 ls [.int r, .int r])
  refine lv_icmp_eq (tgt := 945) hx hb dL_law_606 (by decide) (fun _ => ?_) (fun h => absurd rfl h)
  exact lw_945 C0 hL hS2 hl
set_option maxHeartbeats 4000000 in
set_option maxRecDepth 100000 in
theorem lw_c18 {p : Program} {l : Launch} {e : Env} {s : State} {m : MethodId} {below : List Frame} {meth : Method} {c : Code} {b L : Nat} {xs : Nat → Int32} {D : va_G} {cy : Nat → ClassId} (C0 : lw_At p s m meth c b L xs) (hL : L = 4) (hK : rx_K D vwCl (tyl cy) nwl ocl s) {ρx ρm : List Nat} {cX cM : va_W} {H : Heap} {locs : List Loc} {qx qm : Nat} (hwx : rx_w ρx (lwσ xs) cy WX cX) (hwm : rx_w ρm (lwσ xs) cy WM cM) (hqx : ρx[0]? = some qx) (hqm : ρm[0]? = some qm) (hP : va_P D vwCl (cX ++ cM) H) (hD : va_D (lA s) (cX ++ cM)) (hS : va_S (lA s) s.heap H locs) {ls : Array Slot} (hl : lv_has ls 4 [(3, .int 0), (2, .ref qm), (1, .ref qx), (0, .ref b)]) : W p l e room_1 s m #[Value.ref b] below meth c H locs 600000 7302250 (lw_Z below #[Value.ref b] s) (F0 m 611 ls []) := by
  obtain ⟨hx, hb, hr, hml, hown, hts, hX, hbl, hlocks, hgv⟩ := id C0
  subst hL
  have hL : (4 : Nat) = 4 := rfl
  have hbA : ¬ lA s b := Nat.not_le.mpr hbl
  obtain ⟨r, ⟨w1, K1⟩, ⟨w2, K2⟩⟩ := op_row (l := l) (D := D) (cy := cy) (σ := lwσ xs)
  refine lv_aload_n hx hb dL_law_611 rfl (lv_at hl 2 rfl) ?_
  refine lv_aload_n hx hb dL_law_612 rfl (lv_at hl 3 rfl) ?_
  refine lv_iload_n hx hb dL_law_613 rfl (lv_at hl 0 rfl) ?_
  refine lv_iconst (v := 1) hx hb dL_law_614 (by decide) ?_
  refine lv_iadd hx hb dL_law_615 ?_
  refine va_sld hx hb hX hbl hbA hS lw_in1 dL_law_616 ?_
  refine W.eq (g2 := F0 m 617 ls [.int (xs 1), .ref qx]) rfl ?_
  refine lv_aload_n hx hb dL_law_617 rfl (lv_at hl 3 rfl) ?_
  refine lv_iload_n hx hb dL_law_618 rfl (lv_at hl 0 rfl) ?_
  refine lv_iconst (v := 2) hx hb dL_law_619 (by decide) ?_
  refine lv_iadd hx hb dL_law_620 ?_
  refine va_sld hx hb hX hbl hbA hS lw_in2 dL_law_621 ?_
  refine W.eq (g2 := F0 m 622 ls [.int (xs 2), .int (xs 1), .ref qx]) rfl ?_
  refine lv_aload_n hx hb dL_law_622 rfl (lv_at hl 3 rfl) ?_
  refine lv_iload_n hx hb dL_law_623 rfl (lv_at hl 0 rfl) ?_
  refine lv_iconst (v := 3) hx hb dL_law_624 (by decide) ?_
  refine lv_iadd hx hb dL_law_625 ?_
  refine va_sld hx hb hX hbl hbA hS lw_in3 dL_law_626 ?_
  refine W.eq (g2 := F0 m 627 ls [.int (xs 3), .int (xs 2), .int (xs 1), .ref qx]) rfl ?_
  have hrun := lk_627 p e s m #[Value.ref b] below meth c (lA s) H locs 600000 7302250 ls [.ref qx, .int (xs 1), .int (xs 2), .int (xs 3)] [] _ _ _ (lw_X (l := l) C0 hK) hl.1 (K1 ρx cX H.size qx hwx hqx) (rx_Pc.blind _ _ _ _) (fun U hU hW => ⟨rfl, by rw [hU], by rw [hU]; exact lw_left hP, hK.warm hW, (lw_leftD hD).weaken (fun _ _ _ _ => trivial)⟩) rfl (fun _ => lw_recv hwx hqx rfl hK.1 (lw_left hP) rfl) (Nat.zero_le _) (by rw [hz_81.1]; exact Nat.le_refl 600000) (by rw [hz_81.2]; exact Nat.le_refl 7302250)
  refine lw_behind hrun hS (fun q _ hq => lw_in (lw_leftD hD) hS q hq) (lw_in (lw_leftD hD) hS) (fun v t1 cws1 H1 locs1 ho hw1 hP1 hD1 hk1 hS1 => ?_)
  have ho := lw_oI ho
  subst ho
  rw [hz_81.1, hz_81.2]
  show W p l e room_1 s m #[Value.ref b] below meth c H1 locs1 600000 7302250 (lw_Z below #[Value.ref b] s) (F0 m 630 ls [.int r])
  have hPm := lw_keep hP hD hk1
  have hDm := lw_rightD hD
  refine lv_aload_n hx hb dL_law_630 rfl (lv_at hl 1 rfl) ?_
  refine lv_aload_n hx hb dL_law_631 rfl (lv_at hl 3 rfl) ?_
  refine lv_iload_n hx hb dL_law_632 rfl (lv_at hl 0 rfl) ?_
  refine lv_iconst (v := 1) hx hb dL_law_633 (by decide) ?_
  refine lv_iadd hx hb dL_law_634 ?_
  refine va_sld hx hb hX hbl hbA hS1 lw_in1 dL_law_635 ?_
  refine W.eq (g2 := F0 m 636 ls [.int (xs 1), .ref qm, .int r]) rfl ?_
  refine lv_aload_n hx hb dL_law_636 rfl (lv_at hl 3 rfl) ?_
  refine lv_iload_n hx hb dL_law_637 rfl (lv_at hl 0 rfl) ?_
  refine lv_iconst (v := 2) hx hb dL_law_638 (by decide) ?_
  refine lv_iadd hx hb dL_law_639 ?_
  refine va_sld hx hb hX hbl hbA hS1 lw_in2 dL_law_640 ?_
  refine W.eq (g2 := F0 m 641 ls [.int (xs 2), .int (xs 1), .ref qm, .int r]) rfl ?_
  refine lv_aload_n hx hb dL_law_641 rfl (lv_at hl 3 rfl) ?_
  refine lv_iload_n hx hb dL_law_642 rfl (lv_at hl 0 rfl) ?_
  refine lv_iconst (v := 3) hx hb dL_law_643 (by decide) ?_
  refine lv_iadd hx hb dL_law_644 ?_
  refine va_sld hx hb hX hbl hbA hS1 lw_in3 dL_law_645 ?_
  refine W.eq (g2 := F0 m 646 ls [.int (xs 3), .int (xs 2), .int (xs 1), .ref qm, .int r]) rfl ?_
  have hrun2 := lk_646 p e s m #[Value.ref b] below meth c (lA s) H1 locs1 600000 7302250 ls [.ref qm, .int (xs 1), .int (xs 2), .int (xs 3)] [.int r] _ _ _ (lw_X (l := l) C0 hK) hl.1 (K2 ρm cM H1.size qm hwm hqm) (rx_Pc.blind _ _ _ _) (fun U hU hW => ⟨rfl, by rw [hU], by rw [hU]; exact hPm, hK.warm hW, hDm.weaken (fun _ _ _ _ => trivial)⟩) rfl (fun _ => lw_recv hwm hqm rfl hK.1 hPm rfl) (Nat.le_of_ble_eq_true rfl) (by rw [hz_136.1]; exact Nat.le_refl 600000) (by rw [hz_136.2]; exact Nat.le_refl 7302250)
  refine lw_behind hrun2 hS1 (fun q _ hq => lw_in hDm hS1 q hq) (lw_in hDm hS1) (fun v2 t2 cws2 H2 locs2 ho2 hw2 hP2 hD2 hk2 hS2 => ?_)
  have ho2 := lw_oI ho2
  subst ho2
  rw [hz_136.1, hz_136.2]
  show W p l e room_1 s m #[Value.ref b] below meth c H2 locs2 600000 7302250 (lw_Z below #[Value.ref b] s) (F0 m 649 ls [.int r, .int r])
  refine lv_icmp_eq (tgt := 945) hx hb dL_law_649 (by decide) (fun _ => ?_) (fun h => absurd rfl h)
  exact lw_945 C0 hL hS2 hl
set_option maxHeartbeats 4000000 in
set_option maxRecDepth 100000 in
theorem lw_c19 {p : Program} {l : Launch} {e : Env} {s : State} {m : MethodId} {below : List Frame} {meth : Method} {c : Code} {b L : Nat} {xs : Nat → Int32} {D : va_G} {cy : Nat → ClassId} (C0 : lw_At p s m meth c b L xs) (hL : L = 4) (hK : rx_K D vwCl (tyl cy) nwl ocl s) {ρx ρm : List Nat} {cX cM : va_W} {H : Heap} {locs : List Loc} {qx qm : Nat} (hwx : rx_w ρx (lwσ xs) cy WX cX) (hwm : rx_w ρm (lwσ xs) cy WM cM) (hqx : ρx[0]? = some qx) (hqm : ρm[0]? = some qm) (hP : va_P D vwCl (cX ++ cM) H) (hD : va_D (lA s) (cX ++ cM)) (hS : va_S (lA s) s.heap H locs) {ls : Array Slot} (hl : lv_has ls 4 [(3, .int 0), (2, .ref qm), (1, .ref qx), (0, .ref b)]) : W p l e room_1 s m #[Value.ref b] below meth c H locs 600000 7302250 (lw_Z below #[Value.ref b] s) (F0 m 654 ls []) := by
  obtain ⟨hx, hb, hr, hml, hown, hts, hX, hbl, hlocks, hgv⟩ := id C0
  subst hL
  have hL : (4 : Nat) = 4 := rfl
  have hbA : ¬ lA s b := Nat.not_le.mpr hbl
  obtain ⟨r, ⟨w1, K1⟩, ⟨w2, K2⟩⟩ := op_order (l := l) (D := D) (cy := cy) (σ := lwσ xs)
  refine lv_aload_n hx hb dL_law_654 rfl (lv_at hl 2 rfl) ?_
  have hrun := lk_655 p e s m #[Value.ref b] below meth c (lA s) H locs 600000 7302250 ls [.ref qx] [] _ _ _ (lw_X (l := l) C0 hK) hl.1 (K1 ρx cX H.size qx hwx hqx) (rx_Pc.blind _ _ _ _) (fun U hU hW => ⟨rfl, by rw [hU], by rw [hU]; exact lw_left hP, hK.warm hW, (lw_leftD hD).weaken (fun _ _ _ _ => trivial)⟩) rfl (fun _ => lw_recv hwx hqx rfl hK.1 (lw_left hP) rfl) (Nat.zero_le _) (by rw [hz_78.1]; exact Nat.le_refl 600000) (by rw [hz_78.2]; exact Nat.le_refl 7302250)
  refine lw_behind hrun hS (fun q _ hq => lw_in (lw_leftD hD) hS q hq) (lw_in (lw_leftD hD) hS) (fun v t1 cws1 H1 locs1 ho hw1 hP1 hD1 hk1 hS1 => ?_)
  have ho := lw_oI ho
  subst ho
  rw [hz_78.1, hz_78.2]
  show W p l e room_1 s m #[Value.ref b] below meth c H1 locs1 600000 7302250 (lw_Z below #[Value.ref b] s) (F0 m 658 ls [.int r])
  have hPm := lw_keep hP hD hk1
  have hDm := lw_rightD hD
  refine lv_aload_n hx hb dL_law_658 rfl (lv_at hl 1 rfl) ?_
  have hrun2 := lk_659 p e s m #[Value.ref b] below meth c (lA s) H1 locs1 600000 7302250 ls [.ref qm] [.int r] _ _ _ (lw_X (l := l) C0 hK) hl.1 (K2 ρm cM H1.size qm hwm hqm) (rx_Pc.blind _ _ _ _) (fun U hU hW => ⟨rfl, by rw [hU], by rw [hU]; exact hPm, hK.warm hW, hDm.weaken (fun _ _ _ _ => trivial)⟩) rfl (fun _ => lw_recv hwm hqm rfl hK.1 hPm rfl) (Nat.le_of_ble_eq_true rfl) (by rw [hz_129.1]; exact Nat.le_refl 600000) (by rw [hz_129.2]; exact Nat.le_refl 7302250)
  refine lw_behind hrun2 hS1 (fun q _ hq => lw_in hDm hS1 q hq) (lw_in hDm hS1) (fun v2 t2 cws2 H2 locs2 ho2 hw2 hP2 hD2 hk2 hS2 => ?_)
  have ho2 := lw_oI ho2
  subst ho2
  rw [hz_129.1, hz_129.2]
  show W p l e room_1 s m #[Value.ref b] below meth c H2 locs2 600000 7302250 (lw_Z below #[Value.ref b] s) (F0 m 662 ls [.int r, .int r])
  refine lv_icmp_eq (tgt := 945) hx hb dL_law_662 (by decide) (fun _ => ?_) (fun h => absurd rfl h)
  exact lw_945 C0 hL hS2 hl
set_option maxHeartbeats 4000000 in
set_option maxRecDepth 100000 in
theorem lw_c20 {p : Program} {l : Launch} {e : Env} {s : State} {m : MethodId} {below : List Frame} {meth : Method} {c : Code} {b L : Nat} {xs : Nat → Int32} {D : va_G} {cy : Nat → ClassId} (C0 : lw_At p s m meth c b L xs) (hL : L = 4) (hK : rx_K D vwCl (tyl cy) nwl ocl s) {ρx ρm : List Nat} {cX cM : va_W} {H : Heap} {locs : List Loc} {qx qm : Nat} (hwx : rx_w ρx (lwσ xs) cy WX cX) (hwm : rx_w ρm (lwσ xs) cy WM cM) (hqx : ρx[0]? = some qx) (hqm : ρm[0]? = some qm) (hP : va_P D vwCl (cX ++ cM) H) (hD : va_D (lA s) (cX ++ cM)) (hS : va_S (lA s) s.heap H locs) {ls : Array Slot} (hl : lv_has ls 4 [(3, .int 0), (2, .ref qm), (1, .ref qx), (0, .ref b)]) : W p l e room_1 s m #[Value.ref b] below meth c H locs 600000 7302250 (lw_Z below #[Value.ref b] s) (F0 m 667 ls []) := by
  obtain ⟨hx, hb, hr, hml, hown, hts, hX, hbl, hlocks, hgv⟩ := id C0
  subst hL
  have hL : (4 : Nat) = 4 := rfl
  have hbA : ¬ lA s b := Nat.not_le.mpr hbl
  obtain ⟨r, ⟨w1, K1⟩, ⟨w2, K2⟩⟩ := op_ring (l := l) (D := D) (cy := cy) (σ := lwσ xs)
  refine lv_aload_n hx hb dL_law_667 rfl (lv_at hl 2 rfl) ?_
  refine lv_aload_n hx hb dL_law_668 rfl (lv_at hl 3 rfl) ?_
  refine lv_iload_n hx hb dL_law_669 rfl (lv_at hl 0 rfl) ?_
  refine lv_iconst (v := 1) hx hb dL_law_670 (by decide) ?_
  refine lv_iadd hx hb dL_law_671 ?_
  refine va_sld hx hb hX hbl hbA hS lw_in1 dL_law_672 ?_
  refine W.eq (g2 := F0 m 673 ls [.int (xs 1), .ref qx]) rfl ?_
  refine lv_aload_n hx hb dL_law_673 rfl (lv_at hl 3 rfl) ?_
  refine lv_iload_n hx hb dL_law_674 rfl (lv_at hl 0 rfl) ?_
  refine lv_iconst (v := 2) hx hb dL_law_675 (by decide) ?_
  refine lv_iadd hx hb dL_law_676 ?_
  refine va_sld hx hb hX hbl hbA hS lw_in2 dL_law_677 ?_
  refine W.eq (g2 := F0 m 678 ls [.int (xs 2), .int (xs 1), .ref qx]) rfl ?_
  have hrun := lk_678 p e s m #[Value.ref b] below meth c (lA s) H locs 600000 7302250 ls [.ref qx, .int (xs 1), .int (xs 2)] [] _ _ _ (lw_X (l := l) C0 hK) hl.1 (K1 ρx cX H.size qx hwx hqx) (rx_Pc.blind _ _ _ _) (fun U hU hW => ⟨rfl, by rw [hU], by rw [hU]; exact lw_left hP, hK.warm hW, (lw_leftD hD).weaken (fun _ _ _ _ => trivial)⟩) rfl (fun _ => lw_recv hwx hqx rfl hK.1 (lw_left hP) rfl) (Nat.zero_le _) (by rw [hz_79.1]; exact Nat.le_refl 600000) (by rw [hz_79.2]; exact Nat.le_refl 7302250)
  refine lw_behind hrun hS (fun q _ hq => lw_in (lw_leftD hD) hS q hq) (lw_in (lw_leftD hD) hS) (fun v t1 cws1 H1 locs1 ho hw1 hP1 hD1 hk1 hS1 => ?_)
  have ho := lw_oI ho
  subst ho
  rw [hz_79.1, hz_79.2]
  show W p l e room_1 s m #[Value.ref b] below meth c H1 locs1 600000 7302250 (lw_Z below #[Value.ref b] s) (F0 m 681 ls [.int r])
  have hPm := lw_keep hP hD hk1
  have hDm := lw_rightD hD
  refine lv_aload_n hx hb dL_law_681 rfl (lv_at hl 1 rfl) ?_
  refine lv_aload_n hx hb dL_law_682 rfl (lv_at hl 3 rfl) ?_
  refine lv_iload_n hx hb dL_law_683 rfl (lv_at hl 0 rfl) ?_
  refine lv_iconst (v := 1) hx hb dL_law_684 (by decide) ?_
  refine lv_iadd hx hb dL_law_685 ?_
  refine va_sld hx hb hX hbl hbA hS1 lw_in1 dL_law_686 ?_
  refine W.eq (g2 := F0 m 687 ls [.int (xs 1), .ref qm, .int r]) rfl ?_
  refine lv_aload_n hx hb dL_law_687 rfl (lv_at hl 3 rfl) ?_
  refine lv_iload_n hx hb dL_law_688 rfl (lv_at hl 0 rfl) ?_
  refine lv_iconst (v := 2) hx hb dL_law_689 (by decide) ?_
  refine lv_iadd hx hb dL_law_690 ?_
  refine va_sld hx hb hX hbl hbA hS1 lw_in2 dL_law_691 ?_
  refine W.eq (g2 := F0 m 692 ls [.int (xs 2), .int (xs 1), .ref qm, .int r]) rfl ?_
  have hrun2 := lk_692 p e s m #[Value.ref b] below meth c (lA s) H1 locs1 600000 7302250 ls [.ref qm, .int (xs 1), .int (xs 2)] [.int r] _ _ _ (lw_X (l := l) C0 hK) hl.1 (K2 ρm cM H1.size qm hwm hqm) (rx_Pc.blind _ _ _ _) (fun U hU hW => ⟨rfl, by rw [hU], by rw [hU]; exact hPm, hK.warm hW, hDm.weaken (fun _ _ _ _ => trivial)⟩) rfl (fun _ => lw_recv hwm hqm rfl hK.1 hPm rfl) (Nat.le_of_ble_eq_true rfl) (by rw [hz_134.1]; exact Nat.le_refl 600000) (by rw [hz_134.2]; exact Nat.le_refl 7302250)
  refine lw_behind hrun2 hS1 (fun q _ hq => lw_in hDm hS1 q hq) (lw_in hDm hS1) (fun v2 t2 cws2 H2 locs2 ho2 hw2 hP2 hD2 hk2 hS2 => ?_)
  have ho2 := lw_oI ho2
  subst ho2
  rw [hz_134.1, hz_134.2]
  show W p l e room_1 s m #[Value.ref b] below meth c H2 locs2 600000 7302250 (lw_Z below #[Value.ref b] s) (F0 m 695 ls [.int r, .int r])
  refine lv_icmp_eq (tgt := 945) hx hb dL_law_695 (by decide) (fun _ => ?_) (fun h => absurd rfl h)
  exact lw_945 C0 hL hS2 hl
set_option maxHeartbeats 4000000 in
set_option maxRecDepth 100000 in
theorem lw_c21 {p : Program} {l : Launch} {e : Env} {s : State} {m : MethodId} {below : List Frame} {meth : Method} {c : Code} {b L : Nat} {xs : Nat → Int32} {D : va_G} {cy : Nat → ClassId} (C0 : lw_At p s m meth c b L xs) (hL : L = 4) (hK : rx_K D vwCl (tyl cy) nwl ocl s) {ρx ρm : List Nat} {cX cM : va_W} {H : Heap} {locs : List Loc} {qx qm : Nat} (hwx : rx_w ρx (lwσ xs) cy WX cX) (hwm : rx_w ρm (lwσ xs) cy WM cM) (hqx : ρx[0]? = some qx) (hqm : ρm[0]? = some qm) (hP : va_P D vwCl (cX ++ cM) H) (hD : va_D (lA s) (cX ++ cM)) (hS : va_S (lA s) s.heap H locs) {ls : Array Slot} (hl : lv_has ls 4 [(3, .int 0), (2, .ref qm), (1, .ref qx), (0, .ref b)]) : W p l e room_1 s m #[Value.ref b] below meth c H locs 600000 7302250 (lw_Z below #[Value.ref b] s) (F0 m 700 ls []) := by
  obtain ⟨hx, hb, hr, hml, hown, hts, hX, hbl, hlocks, hgv⟩ := id C0
  subst hL
  have hL : (4 : Nat) = 4 := rfl
  have hbA : ¬ lA s b := Nat.not_le.mpr hbl
  obtain ⟨r, ⟨w1, K1⟩, ⟨w2, K2⟩⟩ := op_fence (l := l) (D := D) (cy := cy) (σ := lwσ xs)
  refine lv_aload_n hx hb dL_law_700 rfl (lv_at hl 2 rfl) ?_
  refine lv_aload_n hx hb dL_law_701 rfl (lv_at hl 3 rfl) ?_
  refine lv_iload_n hx hb dL_law_702 rfl (lv_at hl 0 rfl) ?_
  refine lv_iconst (v := 1) hx hb dL_law_703 (by decide) ?_
  refine lv_iadd hx hb dL_law_704 ?_
  refine va_sld hx hb hX hbl hbA hS lw_in1 dL_law_705 ?_
  refine W.eq (g2 := F0 m 706 ls [.int (xs 1), .ref qx]) rfl ?_
  refine lv_aload_n hx hb dL_law_706 rfl (lv_at hl 3 rfl) ?_
  refine lv_iload_n hx hb dL_law_707 rfl (lv_at hl 0 rfl) ?_
  refine lv_iconst (v := 2) hx hb dL_law_708 (by decide) ?_
  refine lv_iadd hx hb dL_law_709 ?_
  refine va_sld hx hb hX hbl hbA hS lw_in2 dL_law_710 ?_
  refine W.eq (g2 := F0 m 711 ls [.int (xs 2), .int (xs 1), .ref qx]) rfl ?_
  refine lv_aload_n hx hb dL_law_711 rfl (lv_at hl 3 rfl) ?_
  refine lv_iload_n hx hb dL_law_712 rfl (lv_at hl 0 rfl) ?_
  refine lv_iconst (v := 3) hx hb dL_law_713 (by decide) ?_
  refine lv_iadd hx hb dL_law_714 ?_
  refine va_sld hx hb hX hbl hbA hS lw_in3 dL_law_715 ?_
  refine W.eq (g2 := F0 m 716 ls [.int (xs 3), .int (xs 2), .int (xs 1), .ref qx]) rfl ?_
  have hrun := lk_716 p e s m #[Value.ref b] below meth c (lA s) H locs 600000 7302250 ls [.ref qx, .int (xs 1), .int (xs 2), .int (xs 3)] [] _ _ _ (lw_X (l := l) C0 hK) hl.1 (K1 ρx cX H.size qx hwx hqx) (rx_Pc.blind _ _ _ _) (fun U hU hW => ⟨rfl, by rw [hU], by rw [hU]; exact lw_left hP, hK.warm hW, (lw_leftD hD).weaken (fun _ _ _ _ => trivial)⟩) rfl (fun _ => lw_recv hwx hqx rfl hK.1 (lw_left hP) rfl) (Nat.zero_le _) (by rw [hz_65.1]; exact Nat.le_refl 600000) (by rw [hz_65.2]; exact Nat.le_refl 7302250)
  refine lw_behind hrun hS (fun q _ hq => lw_in (lw_leftD hD) hS q hq) (lw_in (lw_leftD hD) hS) (fun v t1 cws1 H1 locs1 ho hw1 hP1 hD1 hk1 hS1 => ?_)
  have ho := lw_oI ho
  subst ho
  rw [hz_65.1, hz_65.2]
  show W p l e room_1 s m #[Value.ref b] below meth c H1 locs1 600000 7302250 (lw_Z below #[Value.ref b] s) (F0 m 719 ls [.int r])
  have hPm := lw_keep hP hD hk1
  have hDm := lw_rightD hD
  refine lv_aload_n hx hb dL_law_719 rfl (lv_at hl 1 rfl) ?_
  refine lv_aload_n hx hb dL_law_720 rfl (lv_at hl 3 rfl) ?_
  refine lv_iload_n hx hb dL_law_721 rfl (lv_at hl 0 rfl) ?_
  refine lv_iconst (v := 1) hx hb dL_law_722 (by decide) ?_
  refine lv_iadd hx hb dL_law_723 ?_
  refine va_sld hx hb hX hbl hbA hS1 lw_in1 dL_law_724 ?_
  refine W.eq (g2 := F0 m 725 ls [.int (xs 1), .ref qm, .int r]) rfl ?_
  refine lv_aload_n hx hb dL_law_725 rfl (lv_at hl 3 rfl) ?_
  refine lv_iload_n hx hb dL_law_726 rfl (lv_at hl 0 rfl) ?_
  refine lv_iconst (v := 2) hx hb dL_law_727 (by decide) ?_
  refine lv_iadd hx hb dL_law_728 ?_
  refine va_sld hx hb hX hbl hbA hS1 lw_in2 dL_law_729 ?_
  refine W.eq (g2 := F0 m 730 ls [.int (xs 2), .int (xs 1), .ref qm, .int r]) rfl ?_
  refine lv_aload_n hx hb dL_law_730 rfl (lv_at hl 3 rfl) ?_
  refine lv_iload_n hx hb dL_law_731 rfl (lv_at hl 0 rfl) ?_
  refine lv_iconst (v := 3) hx hb dL_law_732 (by decide) ?_
  refine lv_iadd hx hb dL_law_733 ?_
  refine va_sld hx hb hX hbl hbA hS1 lw_in3 dL_law_734 ?_
  refine W.eq (g2 := F0 m 735 ls [.int (xs 3), .int (xs 2), .int (xs 1), .ref qm, .int r]) rfl ?_
  have hrun2 := lk_735 p e s m #[Value.ref b] below meth c (lA s) H1 locs1 600000 7302250 ls [.ref qm, .int (xs 1), .int (xs 2), .int (xs 3)] [.int r] _ _ _ (lw_X (l := l) C0 hK) hl.1 (K2 ρm cM H1.size qm hwm hqm) (rx_Pc.blind _ _ _ _) (fun U hU hW => ⟨rfl, by rw [hU], by rw [hU]; exact hPm, hK.warm hW, hDm.weaken (fun _ _ _ _ => trivial)⟩) rfl (fun _ => lw_recv hwm hqm rfl hK.1 hPm rfl) (Nat.le_of_ble_eq_true rfl) (by rw [hz_106.1]; exact Nat.le_refl 600000) (by rw [hz_106.2]; exact Nat.le_refl 7302250)
  refine lw_behind hrun2 hS1 (fun q _ hq => lw_in hDm hS1 q hq) (lw_in hDm hS1) (fun v2 t2 cws2 H2 locs2 ho2 hw2 hP2 hD2 hk2 hS2 => ?_)
  have ho2 := lw_oI ho2
  subst ho2
  rw [hz_106.1, hz_106.2]
  show W p l e room_1 s m #[Value.ref b] below meth c H2 locs2 600000 7302250 (lw_Z below #[Value.ref b] s) (F0 m 738 ls [.int r, .int r])
  refine lv_icmp_eq (tgt := 945) hx hb dL_law_738 (by decide) (fun _ => ?_) (fun h => absurd rfl h)
  exact lw_945 C0 hL hS2 hl
set_option maxHeartbeats 4000000 in
set_option maxRecDepth 100000 in
theorem lw_c22 {p : Program} {l : Launch} {e : Env} {s : State} {m : MethodId} {below : List Frame} {meth : Method} {c : Code} {b L : Nat} {xs : Nat → Int32} {D : va_G} {cy : Nat → ClassId} (C0 : lw_At p s m meth c b L xs) (hL : L = 4) (hK : rx_K D vwCl (tyl cy) nwl ocl s) {ρx ρm : List Nat} {cX cM : va_W} {H : Heap} {locs : List Loc} {qx qm : Nat} (hwx : rx_w ρx (lwσ xs) cy WX cX) (hwm : rx_w ρm (lwσ xs) cy WM cM) (hqx : ρx[0]? = some qx) (hqm : ρm[0]? = some qm) (hP : va_P D vwCl (cX ++ cM) H) (hD : va_D (lA s) (cX ++ cM)) (hS : va_S (lA s) s.heap H locs) {ls : Array Slot} (hl : lv_has ls 4 [(3, .int 0), (2, .ref qm), (1, .ref qx), (0, .ref b)]) : W p l e room_1 s m #[Value.ref b] below meth c H locs 600000 7302250 (lw_Z below #[Value.ref b] s) (F0 m 743 ls []) := by
  obtain ⟨hx, hb, hr, hml, hown, hts, hX, hbl, hlocks, hgv⟩ := id C0
  subst hL
  have hL : (4 : Nat) = 4 := rfl
  have hbA : ¬ lA s b := Nat.not_le.mpr hbl
  obtain ⟨r, ⟨w1, K1⟩, ⟨w2, K2⟩⟩ := op_flip (l := l) (D := D) (cy := cy) (σ := lwσ xs)
  refine lv_aload_n hx hb dL_law_743 rfl (lv_at hl 2 rfl) ?_
  refine lv_aload_n hx hb dL_law_744 rfl (lv_at hl 3 rfl) ?_
  refine lv_iload_n hx hb dL_law_745 rfl (lv_at hl 0 rfl) ?_
  refine lv_iconst (v := 1) hx hb dL_law_746 (by decide) ?_
  refine lv_iadd hx hb dL_law_747 ?_
  refine va_sld hx hb hX hbl hbA hS lw_in1 dL_law_748 ?_
  refine W.eq (g2 := F0 m 749 ls [.int (xs 1), .ref qx]) rfl ?_
  refine lv_aload_n hx hb dL_law_749 rfl (lv_at hl 3 rfl) ?_
  refine lv_iload_n hx hb dL_law_750 rfl (lv_at hl 0 rfl) ?_
  refine lv_iconst (v := 2) hx hb dL_law_751 (by decide) ?_
  refine lv_iadd hx hb dL_law_752 ?_
  refine va_sld hx hb hX hbl hbA hS lw_in2 dL_law_753 ?_
  refine W.eq (g2 := F0 m 754 ls [.int (xs 2), .int (xs 1), .ref qx]) rfl ?_
  refine lv_aload_n hx hb dL_law_754 rfl (lv_at hl 3 rfl) ?_
  refine lv_iload_n hx hb dL_law_755 rfl (lv_at hl 0 rfl) ?_
  refine lv_iconst (v := 3) hx hb dL_law_756 (by decide) ?_
  refine lv_iadd hx hb dL_law_757 ?_
  refine va_sld hx hb hX hbl hbA hS lw_in3 dL_law_758 ?_
  refine W.eq (g2 := F0 m 759 ls [.int (xs 3), .int (xs 2), .int (xs 1), .ref qx]) rfl ?_
  have hrun := lk_759 p e s m #[Value.ref b] below meth c (lA s) H locs 600000 7302250 ls [.ref qx, .int (xs 1), .int (xs 2), .int (xs 3)] [] _ _ _ (lw_X (l := l) C0 hK) hl.1 (K1 ρx cX H.size qx hwx hqx) (rx_Pc.blind _ _ _ _) (fun U hU hW => ⟨rfl, by rw [hU], by rw [hU]; exact lw_left hP, hK.warm hW, (lw_leftD hD).weaken (fun _ _ _ _ => trivial)⟩) rfl (fun _ => lw_recv hwx hqx rfl hK.1 (lw_left hP) rfl) (Nat.zero_le _) (by rw [hz_67.1]; exact Nat.le_refl 600000) (by rw [hz_67.2]; exact Nat.le_refl 7302250)
  refine lw_behind hrun hS (fun q _ hq => lw_in (lw_leftD hD) hS q hq) (lw_in (lw_leftD hD) hS) (fun v t1 cws1 H1 locs1 ho hw1 hP1 hD1 hk1 hS1 => ?_)
  have ho := lw_oI ho
  subst ho
  rw [hz_67.1, hz_67.2]
  show W p l e room_1 s m #[Value.ref b] below meth c H1 locs1 600000 7302250 (lw_Z below #[Value.ref b] s) (F0 m 762 ls [.int r])
  have hPm := lw_keep hP hD hk1
  have hDm := lw_rightD hD
  refine lv_aload_n hx hb dL_law_762 rfl (lv_at hl 1 rfl) ?_
  refine lv_aload_n hx hb dL_law_763 rfl (lv_at hl 3 rfl) ?_
  refine lv_iload_n hx hb dL_law_764 rfl (lv_at hl 0 rfl) ?_
  refine lv_iconst (v := 1) hx hb dL_law_765 (by decide) ?_
  refine lv_iadd hx hb dL_law_766 ?_
  refine va_sld hx hb hX hbl hbA hS1 lw_in1 dL_law_767 ?_
  refine W.eq (g2 := F0 m 768 ls [.int (xs 1), .ref qm, .int r]) rfl ?_
  refine lv_aload_n hx hb dL_law_768 rfl (lv_at hl 3 rfl) ?_
  refine lv_iload_n hx hb dL_law_769 rfl (lv_at hl 0 rfl) ?_
  refine lv_iconst (v := 2) hx hb dL_law_770 (by decide) ?_
  refine lv_iadd hx hb dL_law_771 ?_
  refine va_sld hx hb hX hbl hbA hS1 lw_in2 dL_law_772 ?_
  refine W.eq (g2 := F0 m 773 ls [.int (xs 2), .int (xs 1), .ref qm, .int r]) rfl ?_
  refine lv_aload_n hx hb dL_law_773 rfl (lv_at hl 3 rfl) ?_
  refine lv_iload_n hx hb dL_law_774 rfl (lv_at hl 0 rfl) ?_
  refine lv_iconst (v := 3) hx hb dL_law_775 (by decide) ?_
  refine lv_iadd hx hb dL_law_776 ?_
  refine va_sld hx hb hX hbl hbA hS1 lw_in3 dL_law_777 ?_
  refine W.eq (g2 := F0 m 778 ls [.int (xs 3), .int (xs 2), .int (xs 1), .ref qm, .int r]) rfl ?_
  have hrun2 := lk_778 p e s m #[Value.ref b] below meth c (lA s) H1 locs1 600000 7302250 ls [.ref qm, .int (xs 1), .int (xs 2), .int (xs 3)] [.int r] _ _ _ (lw_X (l := l) C0 hK) hl.1 (K2 ρm cM H1.size qm hwm hqm) (rx_Pc.blind _ _ _ _) (fun U hU hW => ⟨rfl, by rw [hU], by rw [hU]; exact hPm, hK.warm hW, hDm.weaken (fun _ _ _ _ => trivial)⟩) rfl (fun _ => lw_recv hwm hqm rfl hK.1 hPm rfl) (Nat.le_of_ble_eq_true rfl) (by rw [hz_110.1]; exact Nat.le_refl 600000) (by rw [hz_110.2]; exact Nat.le_refl 7302250)
  refine lw_behind hrun2 hS1 (fun q _ hq => lw_in hDm hS1 q hq) (lw_in hDm hS1) (fun v2 t2 cws2 H2 locs2 ho2 hw2 hP2 hD2 hk2 hS2 => ?_)
  have ho2 := lw_oI ho2
  subst ho2
  rw [hz_110.1, hz_110.2]
  show W p l e room_1 s m #[Value.ref b] below meth c H2 locs2 600000 7302250 (lw_Z below #[Value.ref b] s) (F0 m 781 ls [.int r, .int r])
  refine lv_icmp_eq (tgt := 945) hx hb dL_law_781 (by decide) (fun _ => ?_) (fun h => absurd rfl h)
  exact lw_945 C0 hL hS2 hl
set_option maxHeartbeats 4000000 in
set_option maxRecDepth 100000 in
theorem lw_c23 {p : Program} {l : Launch} {e : Env} {s : State} {m : MethodId} {below : List Frame} {meth : Method} {c : Code} {b L : Nat} {xs : Nat → Int32} {D : va_G} {cy : Nat → ClassId} (C0 : lw_At p s m meth c b L xs) (hL : L = 4) (hK : rx_K D vwCl (tyl cy) nwl ocl s) {ρx ρm : List Nat} {cX cM : va_W} {H : Heap} {locs : List Loc} {qx qm : Nat} (hwx : rx_w ρx (lwσ xs) cy WX cX) (hwm : rx_w ρm (lwσ xs) cy WM cM) (hqx : ρx[0]? = some qx) (hqm : ρm[0]? = some qm) (hP : va_P D vwCl (cX ++ cM) H) (hD : va_D (lA s) (cX ++ cM)) (hS : va_S (lA s) s.heap H locs) {ls : Array Slot} (hl : lv_has ls 4 [(3, .int 0), (2, .ref qm), (1, .ref qx), (0, .ref b)]) : W p l e room_1 s m #[Value.ref b] below meth c H locs 600000 7302250 (lw_Z below #[Value.ref b] s) (F0 m 786 ls []) := by
  obtain ⟨hx, hb, hr, hml, hown, hts, hX, hbl, hlocks, hgv⟩ := id C0
  subst hL
  have hL : (4 : Nat) = 4 := rfl
  have hbA : ¬ lA s b := Nat.not_le.mpr hbl
  obtain ⟨r, ⟨w1, K1⟩, ⟨w2, K2⟩⟩ := op_ringOf (l := l) (D := D) (cy := cy) (σ := lwσ xs)
  refine lv_aload_n hx hb dL_law_786 rfl (lv_at hl 2 rfl) ?_
  refine lv_aload_n hx hb dL_law_787 rfl (lv_at hl 3 rfl) ?_
  refine lv_iload_n hx hb dL_law_788 rfl (lv_at hl 0 rfl) ?_
  refine lv_iconst (v := 1) hx hb dL_law_789 (by decide) ?_
  refine lv_iadd hx hb dL_law_790 ?_
  refine va_sld hx hb hX hbl hbA hS lw_in1 dL_law_791 ?_
  refine W.eq (g2 := F0 m 792 ls [.int (xs 1), .ref qx]) rfl ?_
  refine lv_aload_n hx hb dL_law_792 rfl (lv_at hl 3 rfl) ?_
  refine lv_iload_n hx hb dL_law_793 rfl (lv_at hl 0 rfl) ?_
  refine lv_iconst (v := 2) hx hb dL_law_794 (by decide) ?_
  refine lv_iadd hx hb dL_law_795 ?_
  refine va_sld hx hb hX hbl hbA hS lw_in2 dL_law_796 ?_
  refine W.eq (g2 := F0 m 797 ls [.int (xs 2), .int (xs 1), .ref qx]) rfl ?_
  have hrun := lk_797 p e s m #[Value.ref b] below meth c (lA s) H locs 600000 7302250 ls [.ref qx, .int (xs 1), .int (xs 2)] [] _ _ _ (lw_X (l := l) C0 hK) hl.1 (K1 ρx cX H.size qx hwx hqx) (rx_Pc.blind _ _ _ _) (fun U hU hW => ⟨rfl, by rw [hU], by rw [hU]; exact lw_left hP, hK.warm hW, (lw_leftD hD).weaken (fun _ _ _ _ => trivial)⟩) rfl (fun _ => lw_recv hwx hqx rfl hK.1 (lw_left hP) rfl) (Nat.zero_le _) (by rw [hz_80.1]; exact Nat.le_refl 600000) (by rw [hz_80.2]; exact Nat.le_refl 7302250)
  refine lw_behind hrun hS (fun q _ hq => lw_in (lw_leftD hD) hS q hq) (lw_in (lw_leftD hD) hS) (fun v t1 cws1 H1 locs1 ho hw1 hP1 hD1 hk1 hS1 => ?_)
  have ho := lw_oI ho
  subst ho
  rw [hz_80.1, hz_80.2]
  show W p l e room_1 s m #[Value.ref b] below meth c H1 locs1 600000 7302250 (lw_Z below #[Value.ref b] s) (F0 m 800 ls [.int r])
  have hPm := lw_keep hP hD hk1
  have hDm := lw_rightD hD
  refine lv_aload_n hx hb dL_law_800 rfl (lv_at hl 1 rfl) ?_
  refine lv_aload_n hx hb dL_law_801 rfl (lv_at hl 3 rfl) ?_
  refine lv_iload_n hx hb dL_law_802 rfl (lv_at hl 0 rfl) ?_
  refine lv_iconst (v := 1) hx hb dL_law_803 (by decide) ?_
  refine lv_iadd hx hb dL_law_804 ?_
  refine va_sld hx hb hX hbl hbA hS1 lw_in1 dL_law_805 ?_
  refine W.eq (g2 := F0 m 806 ls [.int (xs 1), .ref qm, .int r]) rfl ?_
  refine lv_aload_n hx hb dL_law_806 rfl (lv_at hl 3 rfl) ?_
  refine lv_iload_n hx hb dL_law_807 rfl (lv_at hl 0 rfl) ?_
  refine lv_iconst (v := 2) hx hb dL_law_808 (by decide) ?_
  refine lv_iadd hx hb dL_law_809 ?_
  refine va_sld hx hb hX hbl hbA hS1 lw_in2 dL_law_810 ?_
  refine W.eq (g2 := F0 m 811 ls [.int (xs 2), .int (xs 1), .ref qm, .int r]) rfl ?_
  have hrun2 := lk_811 p e s m #[Value.ref b] below meth c (lA s) H1 locs1 600000 7302250 ls [.ref qm, .int (xs 1), .int (xs 2)] [.int r] _ _ _ (lw_X (l := l) C0 hK) hl.1 (K2 ρm cM H1.size qm hwm hqm) (rx_Pc.blind _ _ _ _) (fun U hU hW => ⟨rfl, by rw [hU], by rw [hU]; exact hPm, hK.warm hW, hDm.weaken (fun _ _ _ _ => trivial)⟩) rfl (fun _ => lw_recv hwm hqm rfl hK.1 hPm rfl) (Nat.le_of_ble_eq_true rfl) (by rw [hz_135.1]; exact Nat.le_refl 600000) (by rw [hz_135.2]; exact Nat.le_refl 7302250)
  refine lw_behind hrun2 hS1 (fun q _ hq => lw_in hDm hS1 q hq) (lw_in hDm hS1) (fun v2 t2 cws2 H2 locs2 ho2 hw2 hP2 hD2 hk2 hS2 => ?_)
  have ho2 := lw_oI ho2
  subst ho2
  rw [hz_135.1, hz_135.2]
  show W p l e room_1 s m #[Value.ref b] below meth c H2 locs2 600000 7302250 (lw_Z below #[Value.ref b] s) (F0 m 814 ls [.int r, .int r])
  refine lv_icmp_eq (tgt := 945) hx hb dL_law_814 (by decide) (fun _ => ?_) (fun h => absurd rfl h)
  exact lw_945 C0 hL hS2 hl
set_option maxHeartbeats 4000000 in
set_option maxRecDepth 100000 in
theorem lw_c24 {p : Program} {l : Launch} {e : Env} {s : State} {m : MethodId} {below : List Frame} {meth : Method} {c : Code} {b L : Nat} {xs : Nat → Int32} {D : va_G} {cy : Nat → ClassId} (C0 : lw_At p s m meth c b L xs) (hL : L = 4) (hK : rx_K D vwCl (tyl cy) nwl ocl s) {ρx ρm : List Nat} {cX cM : va_W} {H : Heap} {locs : List Loc} {qx qm : Nat} (hwx : rx_w ρx (lwσ xs) cy WX cX) (hwm : rx_w ρm (lwσ xs) cy WM cM) (hqx : ρx[0]? = some qx) (hqm : ρm[0]? = some qm) (hP : va_P D vwCl (cX ++ cM) H) (hD : va_D (lA s) (cX ++ cM)) (hS : va_S (lA s) s.heap H locs) {ls : Array Slot} (hl : lv_has ls 4 [(3, .int 0), (2, .ref qm), (1, .ref qx), (0, .ref b)]) : W p l e room_1 s m #[Value.ref b] below meth c H locs 600000 7302250 (lw_Z below #[Value.ref b] s) (F0 m 819 ls []) := by
  obtain ⟨hx, hb, hr, hml, hown, hts, hX, hbl, hlocks, hgv⟩ := id C0
  subst hL
  have hL : (4 : Nat) = 4 := rfl
  have hbA : ¬ lA s b := Nat.not_le.mpr hbl
  obtain ⟨r, ⟨w1, K1⟩, ⟨w2, K2⟩⟩ := op_frieze (l := l) (D := D) (cy := cy) (σ := lwσ xs)
  refine lv_aload_n hx hb dL_law_819 rfl (lv_at hl 2 rfl) ?_
  refine lv_aload_n hx hb dL_law_820 rfl (lv_at hl 3 rfl) ?_
  refine lv_iload_n hx hb dL_law_821 rfl (lv_at hl 0 rfl) ?_
  refine lv_iconst (v := 1) hx hb dL_law_822 (by decide) ?_
  refine lv_iadd hx hb dL_law_823 ?_
  refine va_sld hx hb hX hbl hbA hS lw_in1 dL_law_824 ?_
  refine W.eq (g2 := F0 m 825 ls [.int (xs 1), .ref qx]) rfl ?_
  refine lv_aload_n hx hb dL_law_825 rfl (lv_at hl 3 rfl) ?_
  refine lv_iload_n hx hb dL_law_826 rfl (lv_at hl 0 rfl) ?_
  refine lv_iconst (v := 2) hx hb dL_law_827 (by decide) ?_
  refine lv_iadd hx hb dL_law_828 ?_
  refine va_sld hx hb hX hbl hbA hS lw_in2 dL_law_829 ?_
  refine W.eq (g2 := F0 m 830 ls [.int (xs 2), .int (xs 1), .ref qx]) rfl ?_
  refine lv_aload_n hx hb dL_law_830 rfl (lv_at hl 3 rfl) ?_
  refine lv_iload_n hx hb dL_law_831 rfl (lv_at hl 0 rfl) ?_
  refine lv_iconst (v := 3) hx hb dL_law_832 (by decide) ?_
  refine lv_iadd hx hb dL_law_833 ?_
  refine va_sld hx hb hX hbl hbA hS lw_in3 dL_law_834 ?_
  refine W.eq (g2 := F0 m 835 ls [.int (xs 3), .int (xs 2), .int (xs 1), .ref qx]) rfl ?_
  have hrun := lk_835 p e s m #[Value.ref b] below meth c (lA s) H locs 600000 7302250 ls [.ref qx, .int (xs 1), .int (xs 2), .int (xs 3)] [] _ _ _ (lw_X (l := l) C0 hK) hl.1 (K1 ρx cX H.size qx hwx hqx) (rx_Pc.blind _ _ _ _) (fun U hU hW => ⟨rfl, by rw [hU], by rw [hU]; exact lw_left hP, hK.warm hW, (lw_leftD hD).weaken (fun _ _ _ _ => trivial)⟩) rfl (fun _ => lw_recv hwx hqx rfl hK.1 (lw_left hP) rfl) (Nat.zero_le _) (by rw [hz_68.1]; exact Nat.le_refl 600000) (by rw [hz_68.2]; exact Nat.le_refl 7302250)
  refine lw_behind hrun hS (fun q _ hq => lw_in (lw_leftD hD) hS q hq) (lw_in (lw_leftD hD) hS) (fun v t1 cws1 H1 locs1 ho hw1 hP1 hD1 hk1 hS1 => ?_)
  have ho := lw_oL ho
  subst ho
  rw [hz_68.1, hz_68.2]
  show W p l e room_1 s m #[Value.ref b] below meth c H1 locs1 600000 7302250 (lw_Z below #[Value.ref b] s) (F0 m 838 ls [.long r])
  have hPm := lw_keep hP hD hk1
  have hDm := lw_rightD hD
  refine lv_aload_n hx hb dL_law_838 rfl (lv_at hl 1 rfl) ?_
  refine lv_aload_n hx hb dL_law_839 rfl (lv_at hl 3 rfl) ?_
  refine lv_iload_n hx hb dL_law_840 rfl (lv_at hl 0 rfl) ?_
  refine lv_iconst (v := 1) hx hb dL_law_841 (by decide) ?_
  refine lv_iadd hx hb dL_law_842 ?_
  refine va_sld hx hb hX hbl hbA hS1 lw_in1 dL_law_843 ?_
  refine W.eq (g2 := F0 m 844 ls [.int (xs 1), .ref qm, .long r]) rfl ?_
  refine lv_aload_n hx hb dL_law_844 rfl (lv_at hl 3 rfl) ?_
  refine lv_iload_n hx hb dL_law_845 rfl (lv_at hl 0 rfl) ?_
  refine lv_iconst (v := 2) hx hb dL_law_846 (by decide) ?_
  refine lv_iadd hx hb dL_law_847 ?_
  refine va_sld hx hb hX hbl hbA hS1 lw_in2 dL_law_848 ?_
  refine W.eq (g2 := F0 m 849 ls [.int (xs 2), .int (xs 1), .ref qm, .long r]) rfl ?_
  refine lv_aload_n hx hb dL_law_849 rfl (lv_at hl 3 rfl) ?_
  refine lv_iload_n hx hb dL_law_850 rfl (lv_at hl 0 rfl) ?_
  refine lv_iconst (v := 3) hx hb dL_law_851 (by decide) ?_
  refine lv_iadd hx hb dL_law_852 ?_
  refine va_sld hx hb hX hbl hbA hS1 lw_in3 dL_law_853 ?_
  refine W.eq (g2 := F0 m 854 ls [.int (xs 3), .int (xs 2), .int (xs 1), .ref qm, .long r]) rfl ?_
  have hrun2 := lk_854 p e s m #[Value.ref b] below meth c (lA s) H1 locs1 600000 7302250 ls [.ref qm, .int (xs 1), .int (xs 2), .int (xs 3)] [.long r] _ _ _ (lw_X (l := l) C0 hK) hl.1 (K2 ρm cM H1.size qm hwm hqm) (rx_Pc.blind _ _ _ _) (fun U hU hW => ⟨rfl, by rw [hU], by rw [hU]; exact hPm, hK.warm hW, hDm.weaken (fun _ _ _ _ => trivial)⟩) rfl (fun _ => lw_recv hwm hqm rfl hK.1 hPm rfl) (Nat.le_of_ble_eq_true rfl) (by rw [hz_111.1]; exact Nat.le_refl 600000) (by rw [hz_111.2]; exact Nat.le_refl 7302250)
  refine lw_behind hrun2 hS1 (fun q _ hq => lw_in hDm hS1 q hq) (lw_in hDm hS1) (fun v2 t2 cws2 H2 locs2 ho2 hw2 hP2 hD2 hk2 hS2 => ?_)
  have ho2 := lw_oL ho2
  subst ho2
  rw [hz_111.1, hz_111.2]
  show W p l e room_1 s m #[Value.ref b] below meth c H2 locs2 600000 7302250 (lw_Z below #[Value.ref b] s) (F0 m 857 ls [.long r, .long r])
  refine W.lcmp hx hb dL_law_857 ?_
  refine lv_if_eq (tgt := 945) hx hb dL_law_858 (by decide) (fun _ => ?_) (fun h => absurd (lw_cmp0 r) h)
  exact lw_945 C0 hL hS2 hl
set_option maxHeartbeats 4000000 in
set_option maxRecDepth 100000 in
theorem lw_c25 {p : Program} {l : Launch} {e : Env} {s : State} {m : MethodId} {below : List Frame} {meth : Method} {c : Code} {b L : Nat} {xs : Nat → Int32} {D : va_G} {cy : Nat → ClassId} (C0 : lw_At p s m meth c b L xs) (hL : L = 4) (hK : rx_K D vwCl (tyl cy) nwl ocl s) {ρx ρm : List Nat} {cX cM : va_W} {H : Heap} {locs : List Loc} {qx qm : Nat} (hwx : rx_w ρx (lwσ xs) cy WX cX) (hwm : rx_w ρm (lwσ xs) cy WM cM) (hqx : ρx[0]? = some qx) (hqm : ρm[0]? = some qm) (hP : va_P D vwCl (cX ++ cM) H) (hD : va_D (lA s) (cX ++ cM)) (hS : va_S (lA s) s.heap H locs) {ls : Array Slot} (hl : lv_has ls 4 [(3, .int 0), (2, .ref qm), (1, .ref qx), (0, .ref b)]) : W p l e room_1 s m #[Value.ref b] below meth c H locs 600000 7302250 (lw_Z below #[Value.ref b] s) (F0 m 863 ls []) := by
  obtain ⟨hx, hb, hr, hml, hown, hts, hX, hbl, hlocks, hgv⟩ := id C0
  subst hL
  have hL : (4 : Nat) = 4 := rfl
  have hbA : ¬ lA s b := Nat.not_le.mpr hbl
  obtain ⟨r, ⟨w1, K1⟩, ⟨w2, K2⟩⟩ := op_way (l := l) (D := D) (cy := cy) (σ := lwσ xs)
  refine lv_aload_n hx hb dL_law_863 rfl (lv_at hl 2 rfl) ?_
  have hrun := lk_864 p e s m #[Value.ref b] below meth c (lA s) H locs 600000 7302250 ls [.ref qx] [] _ _ _ (lw_X (l := l) C0 hK) hl.1 (K1 ρx cX H.size qx hwx hqx) (rx_Pc.blind _ _ _ _) (fun U hU hW => ⟨rfl, by rw [hU], by rw [hU]; exact lw_left hP, hK.warm hW, (lw_leftD hD).weaken (fun _ _ _ _ => trivial)⟩) rfl (fun _ => lw_recv hwx hqx rfl hK.1 (lw_left hP) rfl) (Nat.zero_le _) (by rw [hz_92.1]; exact Nat.le_refl 600000) (by rw [hz_92.2]; exact Nat.le_refl 7302250)
  refine lw_behind hrun hS (fun q _ hq => lw_in (lw_leftD hD) hS q hq) (lw_in (lw_leftD hD) hS) (fun v t1 cws1 H1 locs1 ho hw1 hP1 hD1 hk1 hS1 => ?_)
  have ho := lw_oI ho
  subst ho
  rw [hz_92.1, hz_92.2]
  show W p l e room_1 s m #[Value.ref b] below meth c H1 locs1 600000 7302250 (lw_Z below #[Value.ref b] s) (F0 m 867 ls [.int r])
  have hPm := lw_keep hP hD hk1
  have hDm := lw_rightD hD
  refine lv_aload_n hx hb dL_law_867 rfl (lv_at hl 1 rfl) ?_
  have hrun2 := lk_868 p e s m #[Value.ref b] below meth c (lA s) H1 locs1 600000 7302250 ls [.ref qm] [.int r] _ _ _ (lw_X (l := l) C0 hK) hl.1 (K2 ρm cM H1.size qm hwm hqm) (rx_Pc.blind _ _ _ _) (fun U hU hW => ⟨rfl, by rw [hU], by rw [hU]; exact hPm, hK.warm hW, hDm.weaken (fun _ _ _ _ => trivial)⟩) rfl (fun _ => lw_recv hwm hqm rfl hK.1 hPm rfl) (Nat.le_of_ble_eq_true rfl) (by rw [hz_156.1]; exact Nat.le_refl 600000) (by rw [hz_156.2]; exact Nat.le_refl 7302250)
  refine lw_behind hrun2 hS1 (fun q _ hq => lw_in hDm hS1 q hq) (lw_in hDm hS1) (fun v2 t2 cws2 H2 locs2 ho2 hw2 hP2 hD2 hk2 hS2 => ?_)
  have ho2 := lw_oI ho2
  subst ho2
  rw [hz_156.1, hz_156.2]
  show W p l e room_1 s m #[Value.ref b] below meth c H2 locs2 600000 7302250 (lw_Z below #[Value.ref b] s) (F0 m 871 ls [.int r, .int r])
  refine lv_icmp_eq (tgt := 945) hx hb dL_law_871 (by decide) (fun _ => ?_) (fun h => absurd rfl h)
  exact lw_945 C0 hL hS2 hl
set_option maxHeartbeats 4000000 in
set_option maxRecDepth 100000 in
theorem lw_c26 {p : Program} {l : Launch} {e : Env} {s : State} {m : MethodId} {below : List Frame} {meth : Method} {c : Code} {b L : Nat} {xs : Nat → Int32} {D : va_G} {cy : Nat → ClassId} (C0 : lw_At p s m meth c b L xs) (hL : L = 4) (hK : rx_K D vwCl (tyl cy) nwl ocl s) {ρx ρm : List Nat} {cX cM : va_W} {H : Heap} {locs : List Loc} {qx qm : Nat} (hwx : rx_w ρx (lwσ xs) cy WX cX) (hwm : rx_w ρm (lwσ xs) cy WM cM) (hqx : ρx[0]? = some qx) (hqm : ρm[0]? = some qm) (hP : va_P D vwCl (cX ++ cM) H) (hD : va_D (lA s) (cX ++ cM)) (hS : va_S (lA s) s.heap H locs) {ls : Array Slot} (hl : lv_has ls 4 [(3, .int 0), (2, .ref qm), (1, .ref qx), (0, .ref b)]) : W p l e room_1 s m #[Value.ref b] below meth c H locs 600000 7302250 (lw_Z below #[Value.ref b] s) (F0 m 876 ls []) := by
  obtain ⟨hx, hb, hr, hml, hown, hts, hX, hbl, hlocks, hgv⟩ := id C0
  subst hL
  have hL : (4 : Nat) = 4 := rfl
  have hbA : ¬ lA s b := Nat.not_le.mpr hbl
  obtain ⟨r, ⟨w1, K1⟩, ⟨w2, K2⟩⟩ := op_goes (l := l) (D := D) (cy := cy) (σ := lwσ xs)
  refine lv_aload_n hx hb dL_law_876 rfl (lv_at hl 2 rfl) ?_
  refine lv_aload_n hx hb dL_law_877 rfl (lv_at hl 3 rfl) ?_
  refine lv_iload_n hx hb dL_law_878 rfl (lv_at hl 0 rfl) ?_
  refine lv_iconst (v := 1) hx hb dL_law_879 (by decide) ?_
  refine lv_iadd hx hb dL_law_880 ?_
  refine va_sld hx hb hX hbl hbA hS lw_in1 dL_law_881 ?_
  refine W.eq (g2 := F0 m 882 ls [.int (xs 1), .ref qx]) rfl ?_
  have hrun := lk_882 p e s m #[Value.ref b] below meth c (lA s) H locs 600000 7302250 ls [.ref qx, .int (xs 1)] [] _ _ _ (lw_X (l := l) C0 hK) hl.1 (K1 ρx cX H.size qx hwx hqx) (rx_Pc.blind _ _ _ _) (fun U hU hW => ⟨rfl, by rw [hU], by rw [hU]; exact lw_left hP, hK.warm hW, (lw_leftD hD).weaken (fun _ _ _ _ => trivial)⟩) rfl (fun _ => lw_recv hwx hqx rfl hK.1 (lw_left hP) rfl) (Nat.zero_le _) (by rw [hz_69.1]; exact Nat.le_refl 600000) (by rw [hz_69.2]; exact Nat.le_refl 7302250)
  refine lw_behind hrun hS (fun q _ hq => lw_in (lw_leftD hD) hS q hq) (lw_in (lw_leftD hD) hS) (fun v t1 cws1 H1 locs1 ho hw1 hP1 hD1 hk1 hS1 => ?_)
  have ho := lw_oI ho
  subst ho
  rw [hz_69.1, hz_69.2]
  show W p l e room_1 s m #[Value.ref b] below meth c H1 locs1 600000 7302250 (lw_Z below #[Value.ref b] s) (F0 m 885 ls [.int r])
  have hPm := lw_keep hP hD hk1
  have hDm := lw_rightD hD
  refine lv_aload_n hx hb dL_law_885 rfl (lv_at hl 1 rfl) ?_
  refine lv_aload_n hx hb dL_law_886 rfl (lv_at hl 3 rfl) ?_
  refine lv_iload_n hx hb dL_law_887 rfl (lv_at hl 0 rfl) ?_
  refine lv_iconst (v := 1) hx hb dL_law_888 (by decide) ?_
  refine lv_iadd hx hb dL_law_889 ?_
  refine va_sld hx hb hX hbl hbA hS1 lw_in1 dL_law_890 ?_
  refine W.eq (g2 := F0 m 891 ls [.int (xs 1), .ref qm, .int r]) rfl ?_
  have hrun2 := lk_891 p e s m #[Value.ref b] below meth c (lA s) H1 locs1 600000 7302250 ls [.ref qm, .int (xs 1)] [.int r] _ _ _ (lw_X (l := l) C0 hK) hl.1 (K2 ρm cM H1.size qm hwm hqm) (rx_Pc.blind _ _ _ _) (fun U hU hW => ⟨rfl, by rw [hU], by rw [hU]; exact hPm, hK.warm hW, hDm.weaken (fun _ _ _ _ => trivial)⟩) rfl (fun _ => lw_recv hwm hqm rfl hK.1 hPm rfl) (Nat.le_of_ble_eq_true rfl) (by rw [hz_112.1]; exact Nat.le_refl 600000) (by rw [hz_112.2]; exact Nat.le_refl 7302250)
  refine lw_behind hrun2 hS1 (fun q _ hq => lw_in hDm hS1 q hq) (lw_in hDm hS1) (fun v2 t2 cws2 H2 locs2 ho2 hw2 hP2 hD2 hk2 hS2 => ?_)
  have ho2 := lw_oI ho2
  subst ho2
  rw [hz_112.1, hz_112.2]
  show W p l e room_1 s m #[Value.ref b] below meth c H2 locs2 600000 7302250 (lw_Z below #[Value.ref b] s) (F0 m 894 ls [.int r, .int r])
  refine lv_icmp_eq (tgt := 945) hx hb dL_law_894 (by decide) (fun _ => ?_) (fun h => absurd rfl h)
  exact lw_945 C0 hL hS2 hl
set_option maxHeartbeats 4000000 in
set_option maxRecDepth 100000 in
theorem lw_c27 {p : Program} {l : Launch} {e : Env} {s : State} {m : MethodId} {below : List Frame} {meth : Method} {c : Code} {b L : Nat} {xs : Nat → Int32} {D : va_G} {cy : Nat → ClassId} (C0 : lw_At p s m meth c b L xs) (hL : L = 4) (hK : rx_K D vwCl (tyl cy) nwl ocl s) {ρx ρm : List Nat} {cX cM : va_W} {H : Heap} {locs : List Loc} {qx qm : Nat} (hwx : rx_w ρx (lwσ xs) cy WX cX) (hwm : rx_w ρm (lwσ xs) cy WM cM) (hqx : ρx[0]? = some qx) (hqm : ρm[0]? = some qm) (hP : va_P D vwCl (cX ++ cM) H) (hD : va_D (lA s) (cX ++ cM)) (hS : va_S (lA s) s.heap H locs) {ls : Array Slot} (hl : lv_has ls 4 [(3, .int 0), (2, .ref qm), (1, .ref qx), (0, .ref b)]) : W p l e room_1 s m #[Value.ref b] below meth c H locs 600000 7302250 (lw_Z below #[Value.ref b] s) (F0 m 899 ls []) := by
  obtain ⟨hx, hb, hr, hml, hown, hts, hX, hbl, hlocks, hgv⟩ := id C0
  subst hL
  have hL : (4 : Nat) = 4 := rfl
  have hbA : ¬ lA s b := Nat.not_le.mpr hbl
  obtain ⟨r, ⟨w1, K1⟩, ⟨w2, K2⟩⟩ := op_seed (l := l) (D := D) (cy := cy) (σ := lwσ xs)
  refine lv_aload_n hx hb dL_law_899 rfl (lv_at hl 2 rfl) ?_
  refine lv_aload_n hx hb dL_law_900 rfl (lv_at hl 3 rfl) ?_
  refine lv_iload_n hx hb dL_law_901 rfl (lv_at hl 0 rfl) ?_
  refine lv_iconst (v := 1) hx hb dL_law_902 (by decide) ?_
  refine lv_iadd hx hb dL_law_903 ?_
  refine va_sld hx hb hX hbl hbA hS lw_in1 dL_law_904 ?_
  refine W.eq (g2 := F0 m 905 ls [.int (xs 1), .ref qx]) rfl ?_
  have hrun := lk_905 p e s m #[Value.ref b] below meth c (lA s) H locs 600000 7302250 ls [.ref qx, .int (xs 1)] [] _ _ _ (lw_X (l := l) C0 hK) hl.1 (K1 ρx cX H.size qx hwx hqx) (rx_Pc.blind _ _ _ _) (fun U hU hW => ⟨rfl, by rw [hU], by rw [hU]; exact lw_left hP, hK.warm hW, (lw_leftD hD).weaken (fun _ _ _ _ => trivial)⟩) rfl (fun _ => lw_recv hwx hqx rfl hK.1 (lw_left hP) rfl) (Nat.zero_le _) (by rw [hz_83.1]; exact Nat.le_refl 600000) (by rw [hz_83.2]; exact Nat.le_refl 7302250)
  refine lw_behind hrun hS (fun q _ hq => lw_in (lw_leftD hD) hS q hq) (lw_in (lw_leftD hD) hS) (fun v t1 cws1 H1 locs1 ho hw1 hP1 hD1 hk1 hS1 => ?_)
  have ho := lw_oI ho
  subst ho
  rw [hz_83.1, hz_83.2]
  show W p l e room_1 s m #[Value.ref b] below meth c H1 locs1 600000 7302250 (lw_Z below #[Value.ref b] s) (F0 m 908 ls [.int r])
  have hPm := lw_keep hP hD hk1
  have hDm := lw_rightD hD
  refine lv_aload_n hx hb dL_law_908 rfl (lv_at hl 1 rfl) ?_
  refine lv_aload_n hx hb dL_law_909 rfl (lv_at hl 3 rfl) ?_
  refine lv_iload_n hx hb dL_law_910 rfl (lv_at hl 0 rfl) ?_
  refine lv_iconst (v := 1) hx hb dL_law_911 (by decide) ?_
  refine lv_iadd hx hb dL_law_912 ?_
  refine va_sld hx hb hX hbl hbA hS1 lw_in1 dL_law_913 ?_
  refine W.eq (g2 := F0 m 914 ls [.int (xs 1), .ref qm, .int r]) rfl ?_
  have hrun2 := lk_914 p e s m #[Value.ref b] below meth c (lA s) H1 locs1 600000 7302250 ls [.ref qm, .int (xs 1)] [.int r] _ _ _ (lw_X (l := l) C0 hK) hl.1 (K2 ρm cM H1.size qm hwm hqm) (rx_Pc.blind _ _ _ _) (fun U hU hW => ⟨rfl, by rw [hU], by rw [hU]; exact hPm, hK.warm hW, hDm.weaken (fun _ _ _ _ => trivial)⟩) rfl (fun _ => lw_recv hwm hqm rfl hK.1 hPm rfl) (Nat.le_of_ble_eq_true rfl) (by rw [hz_140.1]; exact Nat.le_refl 600000) (by rw [hz_140.2]; exact Nat.le_refl 7302250)
  refine lw_behind hrun2 hS1 (fun q _ hq => lw_in hDm hS1 q hq) (lw_in hDm hS1) (fun v2 t2 cws2 H2 locs2 ho2 hw2 hP2 hD2 hk2 hS2 => ?_)
  have ho2 := lw_oI ho2
  subst ho2
  rw [hz_140.1, hz_140.2]
  show W p l e room_1 s m #[Value.ref b] below meth c H2 locs2 600000 7302250 (lw_Z below #[Value.ref b] s) (F0 m 917 ls [.int r, .int r])
  refine lv_icmp_eq (tgt := 945) hx hb dL_law_917 (by decide) (fun _ => ?_) (fun h => absurd rfl h)
  exact lw_945 C0 hL hS2 hl
set_option maxHeartbeats 4000000 in
set_option maxRecDepth 100000 in
theorem lw_c28 {p : Program} {l : Launch} {e : Env} {s : State} {m : MethodId} {below : List Frame} {meth : Method} {c : Code} {b L : Nat} {xs : Nat → Int32} {D : va_G} {cy : Nat → ClassId} (C0 : lw_At p s m meth c b L xs) (hL : L = 4) (hK : rx_K D vwCl (tyl cy) nwl ocl s) {ρx ρm : List Nat} {cX cM : va_W} {H : Heap} {locs : List Loc} {qx qm : Nat} (hwx : rx_w ρx (lwσ xs) cy WX cX) (hwm : rx_w ρm (lwσ xs) cy WM cM) (hqx : ρx[0]? = some qx) (hqm : ρm[0]? = some qm) (hP : va_P D vwCl (cX ++ cM) H) (hD : va_D (lA s) (cX ++ cM)) (hS : va_S (lA s) s.heap H locs) {ls : Array Slot} (hl : lv_has ls 4 [(3, .int 0), (2, .ref qm), (1, .ref qx), (0, .ref b)]) : W p l e room_1 s m #[Value.ref b] below meth c H locs 600000 7302250 (lw_Z below #[Value.ref b] s) (F0 m 922 ls []) := by
  obtain ⟨hx, hb, hr, hml, hown, hts, hX, hbl, hlocks, hgv⟩ := id C0
  subst hL
  have hL : (4 : Nat) = 4 := rfl
  have hbA : ¬ lA s b := Nat.not_le.mpr hbl
  obtain ⟨r, ⟨w1, K1⟩, ⟨w2, K2⟩⟩ := op_count (l := l) (D := D) (cy := cy) (σ := lwσ xs)
  refine lv_aload_n hx hb dL_law_922 rfl (lv_at hl 2 rfl) ?_
  refine lv_aload_n hx hb dL_law_923 rfl (lv_at hl 3 rfl) ?_
  refine lv_iload_n hx hb dL_law_924 rfl (lv_at hl 0 rfl) ?_
  refine lv_iconst (v := 1) hx hb dL_law_925 (by decide) ?_
  refine lv_iadd hx hb dL_law_926 ?_
  refine va_sld hx hb hX hbl hbA hS lw_in1 dL_law_927 ?_
  refine W.eq (g2 := F0 m 928 ls [.int (xs 1), .ref qx]) rfl ?_
  have hrun := lk_928 p e s m #[Value.ref b] below meth c (lA s) H locs 600000 7302250 ls [.ref qx, .int (xs 1)] [] _ _ _ (lw_X (l := l) C0 hK) hl.1 (K1 ρx cX H.size qx hwx hqx) (rx_Pc.blind _ _ _ _) (fun U hU hW => ⟨rfl, by rw [hU], by rw [hU]; exact lw_left hP, hK.warm hW, (lw_leftD hD).weaken (fun _ _ _ _ => trivial)⟩) rfl (fun _ => lw_recv hwx hqx rfl hK.1 (lw_left hP) rfl) (Nat.zero_le _) (by rw [hz_64.1]; exact Nat.le_refl 600000) (by rw [hz_64.2]; exact Nat.le_refl 7302250)
  refine lw_behind hrun hS (fun q _ hq => lw_in (lw_leftD hD) hS q hq) (lw_in (lw_leftD hD) hS) (fun v t1 cws1 H1 locs1 ho hw1 hP1 hD1 hk1 hS1 => ?_)
  have ho := lw_oI ho
  subst ho
  rw [hz_64.1, hz_64.2]
  show W p l e room_1 s m #[Value.ref b] below meth c H1 locs1 600000 7302250 (lw_Z below #[Value.ref b] s) (F0 m 931 ls [.int r])
  have hPm := lw_keep hP hD hk1
  have hDm := lw_rightD hD
  refine lv_aload_n hx hb dL_law_931 rfl (lv_at hl 1 rfl) ?_
  refine lv_aload_n hx hb dL_law_932 rfl (lv_at hl 3 rfl) ?_
  refine lv_iload_n hx hb dL_law_933 rfl (lv_at hl 0 rfl) ?_
  refine lv_iconst (v := 1) hx hb dL_law_934 (by decide) ?_
  refine lv_iadd hx hb dL_law_935 ?_
  refine va_sld hx hb hX hbl hbA hS1 lw_in1 dL_law_936 ?_
  refine W.eq (g2 := F0 m 937 ls [.int (xs 1), .ref qm, .int r]) rfl ?_
  have hrun2 := lk_937 p e s m #[Value.ref b] below meth c (lA s) H1 locs1 600000 7302250 ls [.ref qm, .int (xs 1)] [.int r] _ _ _ (lw_X (l := l) C0 hK) hl.1 (K2 ρm cM H1.size qm hwm hqm) (rx_Pc.blind _ _ _ _) (fun U hU hW => ⟨rfl, by rw [hU], by rw [hU]; exact hPm, hK.warm hW, hDm.weaken (fun _ _ _ _ => trivial)⟩) rfl (fun _ => lw_recv hwm hqm rfl hK.1 hPm rfl) (Nat.le_of_ble_eq_true rfl) (by rw [hz_105.1]; exact Nat.le_refl 600000) (by rw [hz_105.2]; exact Nat.le_refl 7302250)
  refine lw_behind hrun2 hS1 (fun q _ hq => lw_in hDm hS1 q hq) (lw_in hDm hS1) (fun v2 t2 cws2 H2 locs2 ho2 hw2 hP2 hD2 hk2 hS2 => ?_)
  have ho2 := lw_oI ho2
  subst ho2
  rw [hz_105.1, hz_105.2]
  show W p l e room_1 s m #[Value.ref b] below meth c H2 locs2 600000 7302250 (lw_Z below #[Value.ref b] s) (F0 m 940 ls [.int r, .int r])
  refine lv_icmp_eq (tgt := 945) hx hb dL_law_940 (by decide) (fun _ => ?_) (fun h => absurd rfl h)
  exact lw_945 C0 hL hS2 hl
