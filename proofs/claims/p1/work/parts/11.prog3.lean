abbrev cX10_against : ByteArray := prog_12_method_5_code
def yX10_against : MethodName := ⟨"SeedBenchModel", "against", "(II)I"⟩
theorem dX10_against_0 : decode cX10_against 0 = .ok (.iconst 0, 1) := by decide +kernel
theorem dX10_against_1 : decode cX10_against 1 = .ok (.istore_n 3, 1) := by decide +kernel
theorem dX10_against_2 : decode cX10_against 2 = .ok (.iload_n 3, 1) := by decide +kernel
theorem dX10_against_3 : decode cX10_against 3 = .ok (.bipush 12, 2) := by decide +kernel
theorem dX10_against_5 : decode cX10_against 5 = .ok (.if_icmp .ge 56, 3) := by decide +kernel
theorem dX10_against_8 : decode cX10_against 8 = .ok (.aload_n 0, 1) := by decide +kernel
theorem dX10_against_9 : decode cX10_against 9 = .ok (.getfield 22, 3) := by decide +kernel
theorem dX10_against_12 : decode cX10_against 12 = .ok (.bipush 12, 2) := by decide +kernel
theorem dX10_against_14 : decode cX10_against 14 = .ok (.sipush 200, 3) := by decide +kernel
theorem dX10_against_17 : decode cX10_against 17 = .ok (.iload_n 1, 1) := by decide +kernel
theorem dX10_against_18 : decode cX10_against 18 = .ok (.imul, 1) := by decide +kernel
theorem dX10_against_19 : decode cX10_against 19 = .ok (.iload_n 2, 1) := by decide +kernel
theorem dX10_against_20 : decode cX10_against 20 = .ok (.iadd, 1) := by decide +kernel
theorem dX10_against_21 : decode cX10_against 21 = .ok (.imul, 1) := by decide +kernel
theorem dX10_against_22 : decode cX10_against 22 = .ok (.iload_n 3, 1) := by decide +kernel
theorem dX10_against_23 : decode cX10_against 23 = .ok (.iadd, 1) := by decide +kernel
theorem dX10_against_24 : decode cX10_against 24 = .ok (.iaload, 1) := by decide +kernel
theorem dX10_against_25 : decode cX10_against 25 = .ok (.istore 4, 2) := by decide +kernel
theorem dX10_against_27 : decode cX10_against 27 = .ok (.iload 4, 2) := by decide +kernel
theorem dX10_against_29 : decode cX10_against 29 = .ok (.aload_n 0, 1) := by decide +kernel
theorem dX10_against_30 : decode cX10_against 30 = .ok (.getfield 25, 3) := by decide +kernel
theorem dX10_against_33 : decode cX10_against 33 = .ok (.iload_n 3, 1) := by decide +kernel
theorem dX10_against_34 : decode cX10_against 34 = .ok (.iaload, 1) := by decide +kernel
theorem dX10_against_35 : decode cX10_against 35 = .ok (.if_icmp .eq 20, 3) := by decide +kernel
theorem dX10_against_55 : decode cX10_against 55 = .ok (.iinc 3 1, 3) := by decide +kernel
theorem dX10_against_58 : decode cX10_against 58 = .ok (.goto (-56), 3) := by decide +kernel
theorem dX10_against_61 : decode cX10_against 61 = .ok (.iconst 0, 1) := by decide +kernel
theorem dX10_against_62 : decode cX10_against 62 = .ok (.ireturn, 1) := by decide +kernel
noncomputable def p_X10_against (Y : rx_Y) : rx_P := [(0, rx_pure (rx_push (.int 0)) 1), (1, rx_st 0 3 2 5), (2, rx_ld 0 3 3), (3, rx_pure (rx_push (.int 12)) 5), (5, rx_br (rx_cmp Y 1) 61 8), (8, rx_ld 2 0 9), (9, rx_get 10 3 12), (12, rx_pure (rx_push (.int 12)) 14), (14, rx_pure (rx_push (.int 200)) 17), (17, rx_ld 0 1 18), (18, rx_pure (rx_bi (fun x y => x * y)) 19), (19, rx_ld 0 2 20), (20, rx_pure (rx_bi (fun x y => x + y)) 21), (21, rx_pure (rx_bi (fun x y => x * y)) 22), (22, rx_ld 0 3 23), (23, rx_pure (rx_bi (fun x y => x + y)) 24), (24, rx_ald 0 0 25), (25, rx_st 0 4 27 5), (27, rx_ld 0 4 29), (29, rx_ld 2 0 30), (30, rx_get 10 6 33), (33, rx_ld 0 3 34), (34, rx_ald 0 0 35), (35, rx_br (rx_cmp Y 4) 55 38), (55, rx_inc 3 1 58 5), (58, rx_br rx_goto 2 61), (61, rx_pure (rx_push (.int 0)) 62), (62, rx_retv .int 0 0)]
noncomputable def m_X10_against (Y : rx_Y) : rx_M := (yX10_against, cX10_against, 5, (some .int), { frames := 0, cells := 0, slots := 0, locals := 0 }, p_X10_against Y)
theorem hd_X10_against : yX10_against.cls ≠ "java/lang/invoke/MethodHandle" ∧ yX10_against.cls ≠ "java/lang/invoke/VarHandle" ∧ (parseMethodDescriptor yX10_against.desc).map (fun d => d.parameters.length) = some 2 := by decide +kernel
abbrev cX10_all : ByteArray := prog_12_method_48_code
def yX10_all : MethodName := ⟨"SeedBenchModel", "all", "()I"⟩
theorem dX10_all_0 : decode cX10_all 0 = .ok (.aload_n 0, 1) := by decide +kernel
theorem dX10_all_1 : decode cX10_all 1 = .ok (.bipush 30, 2) := by decide +kernel
theorem dX10_all_3 : decode cX10_all 3 = .ok (.invokevirtual 260, 3) := by decide +kernel
theorem dX10_all_6 : decode cX10_all 6 = .ok (.aload_n 0, 1) := by decide +kernel
theorem dX10_all_7 : decode cX10_all 7 = .ok (.invokevirtual 263, 3) := by decide +kernel
theorem dX10_all_10 : decode cX10_all 10 = .ok (.istore_n 1, 1) := by decide +kernel
theorem dX10_all_11 : decode cX10_all 11 = .ok (.aload_n 0, 1) := by decide +kernel
theorem dX10_all_12 : decode cX10_all 12 = .ok (.bipush 30, 2) := by decide +kernel
theorem dX10_all_14 : decode cX10_all 14 = .ok (.invokevirtual 266, 3) := by decide +kernel
theorem dX10_all_17 : decode cX10_all 17 = .ok (.aload_n 0, 1) := by decide +kernel
theorem dX10_all_18 : decode cX10_all 18 = .ok (.iload_n 1, 1) := by decide +kernel
theorem dX10_all_19 : decode cX10_all 19 = .ok (.ifCond .eq 10, 3) := by decide +kernel
theorem dX10_all_22 : decode cX10_all 22 = .ok (.aload_n 0, 1) := by decide +kernel
theorem dX10_all_23 : decode cX10_all 23 = .ok (.getfield 245, 3) := by decide +kernel
theorem dX10_all_26 : decode cX10_all 26 = .ok (.goto 4, 3) := by decide +kernel
theorem dX10_all_30 : decode cX10_all 30 = .ok (.putfield 269, 3) := by decide +kernel
theorem dX10_all_33 : decode cX10_all 33 = .ok (.iload_n 1, 1) := by decide +kernel
theorem dX10_all_34 : decode cX10_all 34 = .ok (.ifCond .ne 6, 3) := by decide +kernel
theorem dX10_all_40 : decode cX10_all 40 = .ok (.aload_n 0, 1) := by decide +kernel
theorem dX10_all_41 : decode cX10_all 41 = .ok (.iconst 1, 1) := by decide +kernel
theorem dX10_all_42 : decode cX10_all 42 = .ok (.putfield 272, 3) := by decide +kernel
theorem dX10_all_45 : decode cX10_all 45 = .ok (.aload_n 0, 1) := by decide +kernel
theorem dX10_all_46 : decode cX10_all 46 = .ok (.aload_n 0, 1) := by decide +kernel
theorem dX10_all_47 : decode cX10_all 47 = .ok (.getfield 242, 3) := by decide +kernel
theorem dX10_all_50 : decode cX10_all 50 = .ok (.putfield 275, 3) := by decide +kernel
theorem dX10_all_53 : decode cX10_all 53 = .ok (.iconst 0, 1) := by decide +kernel
theorem dX10_all_54 : decode cX10_all 54 = .ok (.istore_n 2, 1) := by decide +kernel
theorem dX10_all_55 : decode cX10_all 55 = .ok (.iload_n 2, 1) := by decide +kernel
theorem dX10_all_56 : decode cX10_all 56 = .ok (.aload_n 0, 1) := by decide +kernel
theorem dX10_all_57 : decode cX10_all 57 = .ok (.getfield 242, 3) := by decide +kernel
theorem dX10_all_60 : decode cX10_all 60 = .ok (.if_icmp .ge 72, 3) := by decide +kernel
theorem dX10_all_63 : decode cX10_all 63 = .ok (.aload_n 0, 1) := by decide +kernel
theorem dX10_all_64 : decode cX10_all 64 = .ok (.getfield 71, 3) := by decide +kernel
theorem dX10_all_67 : decode cX10_all 67 = .ok (.iload_n 2, 1) := by decide +kernel
theorem dX10_all_68 : decode cX10_all 68 = .ok (.aload_n 0, 1) := by decide +kernel
theorem dX10_all_69 : decode cX10_all 69 = .ok (.getfield 13, 3) := by decide +kernel
theorem dX10_all_72 : decode cX10_all 72 = .ok (.bipush 50, 2) := by decide +kernel
theorem dX10_all_74 : decode cX10_all 74 = .ok (.iload_n 2, 1) := by decide +kernel
theorem dX10_all_75 : decode cX10_all 75 = .ok (.iadd, 1) := by decide +kernel
theorem dX10_all_76 : decode cX10_all 76 = .ok (.iaload, 1) := by decide +kernel
theorem dX10_all_77 : decode cX10_all 77 = .ok (.iastore, 1) := by decide +kernel
theorem dX10_all_78 : decode cX10_all 78 = .ok (.aload_n 0, 1) := by decide +kernel
theorem dX10_all_79 : decode cX10_all 79 = .ok (.getfield 74, 3) := by decide +kernel
theorem dX10_all_82 : decode cX10_all 82 = .ok (.iload_n 2, 1) := by decide +kernel
theorem dX10_all_83 : decode cX10_all 83 = .ok (.aload_n 0, 1) := by decide +kernel
theorem dX10_all_84 : decode cX10_all 84 = .ok (.bipush 50, 2) := by decide +kernel
theorem dX10_all_86 : decode cX10_all 86 = .ok (.iload_n 2, 1) := by decide +kernel
theorem dX10_all_87 : decode cX10_all 87 = .ok (.iadd, 1) := by decide +kernel
theorem dX10_all_88 : decode cX10_all 88 = .ok (.invokevirtual 234, 3) := by decide +kernel
theorem dX10_all_91 : decode cX10_all 91 = .ok (.lastore, 1) := by decide +kernel
theorem dX10_all_92 : decode cX10_all 92 = .ok (.iconst 0, 1) := by decide +kernel
theorem dX10_all_93 : decode cX10_all 93 = .ok (.istore_n 3, 1) := by decide +kernel
theorem dX10_all_94 : decode cX10_all 94 = .ok (.iload_n 3, 1) := by decide +kernel
theorem dX10_all_95 : decode cX10_all 95 = .ok (.bipush 12, 2) := by decide +kernel
theorem dX10_all_97 : decode cX10_all 97 = .ok (.if_icmp .ge 29, 3) := by decide +kernel
theorem dX10_all_100 : decode cX10_all 100 = .ok (.aload_n 0, 1) := by decide +kernel
theorem dX10_all_101 : decode cX10_all 101 = .ok (.getfield 77, 3) := by decide +kernel
theorem dX10_all_104 : decode cX10_all 104 = .ok (.bipush 12, 2) := by decide +kernel
theorem dX10_all_106 : decode cX10_all 106 = .ok (.iload_n 2, 1) := by decide +kernel
theorem dX10_all_107 : decode cX10_all 107 = .ok (.imul, 1) := by decide +kernel
theorem dX10_all_108 : decode cX10_all 108 = .ok (.iload_n 3, 1) := by decide +kernel
theorem dX10_all_109 : decode cX10_all 109 = .ok (.iadd, 1) := by decide +kernel
theorem dX10_all_110 : decode cX10_all 110 = .ok (.aload_n 0, 1) := by decide +kernel
theorem dX10_all_111 : decode cX10_all 111 = .ok (.bipush 50, 2) := by decide +kernel
theorem dX10_all_113 : decode cX10_all 113 = .ok (.iload_n 2, 1) := by decide +kernel
theorem dX10_all_114 : decode cX10_all 114 = .ok (.iadd, 1) := by decide +kernel
theorem dX10_all_115 : decode cX10_all 115 = .ok (.iload_n 3, 1) := by decide +kernel
theorem dX10_all_116 : decode cX10_all 116 = .ok (.invokevirtual 231, 3) := by decide +kernel
theorem dX10_all_119 : decode cX10_all 119 = .ok (.iastore, 1) := by decide +kernel
theorem dX10_all_120 : decode cX10_all 120 = .ok (.iinc 3 1, 3) := by decide +kernel
theorem dX10_all_123 : decode cX10_all 123 = .ok (.goto (-29), 3) := by decide +kernel
theorem dX10_all_126 : decode cX10_all 126 = .ok (.iinc 2 1, 3) := by decide +kernel
theorem dX10_all_129 : decode cX10_all 129 = .ok (.goto (-74), 3) := by decide +kernel
theorem dX10_all_132 : decode cX10_all 132 = .ok (.aload_n 0, 1) := by decide +kernel
theorem dX10_all_133 : decode cX10_all 133 = .ok (.aload_n 0, 1) := by decide +kernel
theorem dX10_all_134 : decode cX10_all 134 = .ok (.getfield 132, 3) := by decide +kernel
theorem dX10_all_137 : decode cX10_all 137 = .ok (.aload_n 0, 1) := by decide +kernel
theorem dX10_all_138 : decode cX10_all 138 = .ok (.getfield 204, 3) := by decide +kernel
theorem dX10_all_141 : decode cX10_all 141 = .ok (.iadd, 1) := by decide +kernel
theorem dX10_all_142 : decode cX10_all 142 = .ok (.putfield 278, 3) := by decide +kernel
theorem dX10_all_145 : decode cX10_all 145 = .ok (.aload_n 0, 1) := by decide +kernel
theorem dX10_all_146 : decode cX10_all 146 = .ok (.getfield 245, 3) := by decide +kernel
theorem dX10_all_149 : decode cX10_all 149 = .ok (.ireturn, 1) := by decide +kernel
noncomputable def p_X10_all (Y : rx_Y) : rx_P := [(0, rx_ld 2 0 1), (1, rx_pure (rx_push (.int 30)) 3), (3, rx_cl 138 2 10 true 0 0 0 0 6), (6, rx_ld 2 0 7), (7, rx_cl 113 1 10 true 0 0 0 0 10), (10, rx_st 0 1 11 4), (11, rx_ld 2 0 12), (12, rx_pure (rx_push (.int 30)) 14), (14, rx_cl 133 2 10 true 0 0 0 0 17), (17, rx_ld 2 0 18), (18, rx_ld 0 1 19), (19, rx_br (rx_cm0 Y 4) 29 22), (22, rx_ld 2 0 23), (23, rx_get 10 24 26), (26, rx_br rx_goto 30 29), (30, rx_putf 10 25 .int 33), (33, rx_ld 0 1 34), (34, rx_br (rx_cm0 Y 5) 40 37), (40, rx_ld 2 0 41), (41, rx_pure (rx_push (.int 1)) 42), (42, rx_putf 10 29 .boolean 45), (45, rx_ld 2 0 46), (46, rx_ld 2 0 47), (47, rx_get 10 26 50), (50, rx_putf 10 30 .int 53), (53, rx_pure (rx_push (.int 0)) 54), (54, rx_st 0 2 55 4), (55, rx_ld 0 2 56), (56, rx_ld 2 0 57), (57, rx_get 10 26 60), (60, rx_br (rx_cmp Y 1) 132 63), (63, rx_ld 2 0 64), (64, rx_get 10 31 67), (67, rx_ld 0 2 68), (68, rx_ld 2 0 69), (69, rx_get 10 1 72), (72, rx_pure (rx_push (.int 50)) 74), (74, rx_ld 0 2 75), (75, rx_pure (rx_bi (fun x y => x + y)) 76), (76, rx_ald 0 0 77), (77, rx_ast Y 0 .int 78), (78, rx_ld 2 0 79), (79, rx_get 10 32 82), (82, rx_ld 0 2 83), (83, rx_ld 2 0 84), (84, rx_pure (rx_push (.int 50)) 86), (86, rx_ld 0 2 87), (87, rx_pure (rx_bi (fun x y => x + y)) 88), (88, rx_cl 143 2 10 true 0 0 0 0 91), (91, rx_ast Y 1 .long 92), (92, rx_pure (rx_push (.int 0)) 93), (93, rx_st 0 3 94 4), (94, rx_ld 0 3 95), (95, rx_pure (rx_push (.int 12)) 97), (97, rx_br (rx_cmp Y 1) 126 100), (100, rx_ld 2 0 101), (101, rx_get 10 33 104), (104, rx_pure (rx_push (.int 12)) 106), (106, rx_ld 0 2 107), (107, rx_pure (rx_bi (fun x y => x * y)) 108), (108, rx_ld 0 3 109), (109, rx_pure (rx_bi (fun x y => x + y)) 110), (110, rx_ld 2 0 111), (111, rx_pure (rx_push (.int 50)) 113), (113, rx_ld 0 2 114), (114, rx_pure (rx_bi (fun x y => x + y)) 115), (115, rx_ld 0 3 116), (116, rx_cl 123 3 10 true 0 0 0 0 119), (119, rx_ast Y 0 .int 120), (120, rx_inc 3 1 123 4), (123, rx_br rx_goto 94 126), (126, rx_inc 2 1 129 4), (129, rx_br rx_goto 55 132), (132, rx_ld 2 0 133), (133, rx_ld 2 0 134), (134, rx_get 10 7 137), (137, rx_ld 2 0 138), (138, rx_get 10 8 141), (141, rx_pure (rx_bi (fun x y => x + y)) 142), (142, rx_putf 10 36 .int 145), (145, rx_ld 2 0 146), (146, rx_get 10 24 149), (149, rx_retv .int 0 0)]
noncomputable def m_X10_all (Y : rx_Y) : rx_M := (yX10_all, cX10_all, 4, (some .int), { frames := 5, cells := 0, slots := 0, locals := 125 }, p_X10_all Y)
theorem hd_X10_all : yX10_all.cls ≠ "java/lang/invoke/MethodHandle" ∧ yX10_all.cls ≠ "java/lang/invoke/VarHandle" ∧ (parseMethodDescriptor yX10_all.desc).map (fun d => d.parameters.length) = some 0 := by decide +kernel
abbrev cX10_areAlike : ByteArray := prog_12_method_4_code
def yX10_areAlike : MethodName := ⟨"SeedBenchModel", "areAlike", "(II)Z"⟩
theorem dX10_areAlike_0 : decode cX10_areAlike 0 = .ok (.aload_n 0, 1) := by decide +kernel
theorem dX10_areAlike_1 : decode cX10_areAlike 1 = .ok (.getfield 13, 3) := by decide +kernel
theorem dX10_areAlike_4 : decode cX10_areAlike 4 = .ok (.iload_n 1, 1) := by decide +kernel
theorem dX10_areAlike_5 : decode cX10_areAlike 5 = .ok (.iaload, 1) := by decide +kernel
theorem dX10_areAlike_6 : decode cX10_areAlike 6 = .ok (.aload_n 0, 1) := by decide +kernel
theorem dX10_areAlike_7 : decode cX10_areAlike 7 = .ok (.getfield 13, 3) := by decide +kernel
theorem dX10_areAlike_10 : decode cX10_areAlike 10 = .ok (.iload_n 2, 1) := by decide +kernel
theorem dX10_areAlike_11 : decode cX10_areAlike 11 = .ok (.iaload, 1) := by decide +kernel
theorem dX10_areAlike_12 : decode cX10_areAlike 12 = .ok (.if_icmp .eq 5, 3) := by decide +kernel
theorem dX10_areAlike_17 : decode cX10_areAlike 17 = .ok (.iconst 0, 1) := by decide +kernel
theorem dX10_areAlike_18 : decode cX10_areAlike 18 = .ok (.istore_n 3, 1) := by decide +kernel
theorem dX10_areAlike_19 : decode cX10_areAlike 19 = .ok (.iload_n 3, 1) := by decide +kernel
theorem dX10_areAlike_20 : decode cX10_areAlike 20 = .ok (.aload_n 0, 1) := by decide +kernel
theorem dX10_areAlike_21 : decode cX10_areAlike 21 = .ok (.getfield 13, 3) := by decide +kernel
theorem dX10_areAlike_24 : decode cX10_areAlike 24 = .ok (.iload_n 1, 1) := by decide +kernel
theorem dX10_areAlike_25 : decode cX10_areAlike 25 = .ok (.iaload, 1) := by decide +kernel
theorem dX10_areAlike_26 : decode cX10_areAlike 26 = .ok (.if_icmp .ge 96, 3) := by decide +kernel
theorem dX10_areAlike_29 : decode cX10_areAlike 29 = .ok (.aload_n 0, 1) := by decide +kernel
theorem dX10_areAlike_30 : decode cX10_areAlike 30 = .ok (.getfield 17, 3) := by decide +kernel
theorem dX10_areAlike_33 : decode cX10_areAlike 33 = .ok (.sipush 200, 3) := by decide +kernel
theorem dX10_areAlike_36 : decode cX10_areAlike 36 = .ok (.iload_n 1, 1) := by decide +kernel
theorem dX10_areAlike_37 : decode cX10_areAlike 37 = .ok (.imul, 1) := by decide +kernel
theorem dX10_areAlike_38 : decode cX10_areAlike 38 = .ok (.iload_n 3, 1) := by decide +kernel
theorem dX10_areAlike_39 : decode cX10_areAlike 39 = .ok (.iadd, 1) := by decide +kernel
theorem dX10_areAlike_40 : decode cX10_areAlike 40 = .ok (.laload, 1) := by decide +kernel
theorem dX10_areAlike_41 : decode cX10_areAlike 41 = .ok (.aload_n 0, 1) := by decide +kernel
theorem dX10_areAlike_42 : decode cX10_areAlike 42 = .ok (.getfield 17, 3) := by decide +kernel
theorem dX10_areAlike_45 : decode cX10_areAlike 45 = .ok (.sipush 200, 3) := by decide +kernel
theorem dX10_areAlike_48 : decode cX10_areAlike 48 = .ok (.iload_n 2, 1) := by decide +kernel
theorem dX10_areAlike_49 : decode cX10_areAlike 49 = .ok (.imul, 1) := by decide +kernel
theorem dX10_areAlike_50 : decode cX10_areAlike 50 = .ok (.iload_n 3, 1) := by decide +kernel
theorem dX10_areAlike_51 : decode cX10_areAlike 51 = .ok (.iadd, 1) := by decide +kernel
theorem dX10_areAlike_52 : decode cX10_areAlike 52 = .ok (.laload, 1) := by decide +kernel
theorem dX10_areAlike_53 : decode cX10_areAlike 53 = .ok (.lcmp, 1) := by decide +kernel
theorem dX10_areAlike_54 : decode cX10_areAlike 54 = .ok (.ifCond .eq 5, 3) := by decide +kernel
theorem dX10_areAlike_57 : decode cX10_areAlike 57 = .ok (.iconst 0, 1) := by decide +kernel
theorem dX10_areAlike_58 : decode cX10_areAlike 58 = .ok (.ireturn, 1) := by decide +kernel
theorem dX10_areAlike_59 : decode cX10_areAlike 59 = .ok (.iconst 0, 1) := by decide +kernel
theorem dX10_areAlike_60 : decode cX10_areAlike 60 = .ok (.istore 4, 2) := by decide +kernel
theorem dX10_areAlike_62 : decode cX10_areAlike 62 = .ok (.iload 4, 2) := by decide +kernel
theorem dX10_areAlike_64 : decode cX10_areAlike 64 = .ok (.bipush 12, 2) := by decide +kernel
theorem dX10_areAlike_66 : decode cX10_areAlike 66 = .ok (.if_icmp .ge 50, 3) := by decide +kernel
theorem dX10_areAlike_69 : decode cX10_areAlike 69 = .ok (.aload_n 0, 1) := by decide +kernel
theorem dX10_areAlike_70 : decode cX10_areAlike 70 = .ok (.getfield 22, 3) := by decide +kernel
theorem dX10_areAlike_73 : decode cX10_areAlike 73 = .ok (.bipush 12, 2) := by decide +kernel
theorem dX10_areAlike_75 : decode cX10_areAlike 75 = .ok (.sipush 200, 3) := by decide +kernel
theorem dX10_areAlike_78 : decode cX10_areAlike 78 = .ok (.iload_n 1, 1) := by decide +kernel
theorem dX10_areAlike_79 : decode cX10_areAlike 79 = .ok (.imul, 1) := by decide +kernel
theorem dX10_areAlike_80 : decode cX10_areAlike 80 = .ok (.iload_n 3, 1) := by decide +kernel
theorem dX10_areAlike_81 : decode cX10_areAlike 81 = .ok (.iadd, 1) := by decide +kernel
theorem dX10_areAlike_82 : decode cX10_areAlike 82 = .ok (.imul, 1) := by decide +kernel
theorem dX10_areAlike_83 : decode cX10_areAlike 83 = .ok (.iload 4, 2) := by decide +kernel
theorem dX10_areAlike_85 : decode cX10_areAlike 85 = .ok (.iadd, 1) := by decide +kernel
theorem dX10_areAlike_86 : decode cX10_areAlike 86 = .ok (.iaload, 1) := by decide +kernel
theorem dX10_areAlike_87 : decode cX10_areAlike 87 = .ok (.aload_n 0, 1) := by decide +kernel
theorem dX10_areAlike_88 : decode cX10_areAlike 88 = .ok (.getfield 22, 3) := by decide +kernel
theorem dX10_areAlike_91 : decode cX10_areAlike 91 = .ok (.bipush 12, 2) := by decide +kernel
theorem dX10_areAlike_93 : decode cX10_areAlike 93 = .ok (.sipush 200, 3) := by decide +kernel
theorem dX10_areAlike_96 : decode cX10_areAlike 96 = .ok (.iload_n 2, 1) := by decide +kernel
theorem dX10_areAlike_97 : decode cX10_areAlike 97 = .ok (.imul, 1) := by decide +kernel
theorem dX10_areAlike_98 : decode cX10_areAlike 98 = .ok (.iload_n 3, 1) := by decide +kernel
theorem dX10_areAlike_99 : decode cX10_areAlike 99 = .ok (.iadd, 1) := by decide +kernel
theorem dX10_areAlike_100 : decode cX10_areAlike 100 = .ok (.imul, 1) := by decide +kernel
theorem dX10_areAlike_101 : decode cX10_areAlike 101 = .ok (.iload 4, 2) := by decide +kernel
theorem dX10_areAlike_103 : decode cX10_areAlike 103 = .ok (.iadd, 1) := by decide +kernel
theorem dX10_areAlike_104 : decode cX10_areAlike 104 = .ok (.iaload, 1) := by decide +kernel
theorem dX10_areAlike_105 : decode cX10_areAlike 105 = .ok (.if_icmp .eq 5, 3) := by decide +kernel
theorem dX10_areAlike_110 : decode cX10_areAlike 110 = .ok (.iinc 4 1, 3) := by decide +kernel
theorem dX10_areAlike_113 : decode cX10_areAlike 113 = .ok (.goto (-51), 3) := by decide +kernel
theorem dX10_areAlike_116 : decode cX10_areAlike 116 = .ok (.iinc 3 1, 3) := by decide +kernel
theorem dX10_areAlike_119 : decode cX10_areAlike 119 = .ok (.goto (-100), 3) := by decide +kernel
theorem dX10_areAlike_122 : decode cX10_areAlike 122 = .ok (.iconst 1, 1) := by decide +kernel
theorem dX10_areAlike_123 : decode cX10_areAlike 123 = .ok (.ireturn, 1) := by decide +kernel
noncomputable def p_X10_areAlike (Y : rx_Y) : rx_P := [(0, rx_ld 2 0 1), (1, rx_get 10 1 4), (4, rx_ld 0 1 5), (5, rx_ald 0 0 6), (6, rx_ld 2 0 7), (7, rx_get 10 1 10), (10, rx_ld 0 2 11), (11, rx_ald 0 0 12), (12, rx_br (rx_cmp Y 4) 17 15), (17, rx_pure (rx_push (.int 0)) 18), (18, rx_st 0 3 19 5), (19, rx_ld 0 3 20), (20, rx_ld 2 0 21), (21, rx_get 10 1 24), (24, rx_ld 0 1 25), (25, rx_ald 0 0 26), (26, rx_br (rx_cmp Y 1) 122 29), (29, rx_ld 2 0 30), (30, rx_get 10 2 33), (33, rx_pure (rx_push (.int 200)) 36), (36, rx_ld 0 1 37), (37, rx_pure (rx_bi (fun x y => x * y)) 38), (38, rx_ld 0 3 39), (39, rx_pure (rx_bi (fun x y => x + y)) 40), (40, rx_ald 1 1 41), (41, rx_ld 2 0 42), (42, rx_get 10 2 45), (45, rx_pure (rx_push (.int 200)) 48), (48, rx_ld 0 2 49), (49, rx_pure (rx_bi (fun x y => x * y)) 50), (50, rx_ld 0 3 51), (51, rx_pure (rx_bi (fun x y => x + y)) 52), (52, rx_ald 1 1 53), (53, rx_pure rx_lcmp 54), (54, rx_br (rx_cm0 Y 4) 59 57), (57, rx_pure (rx_push (.int 0)) 58), (58, rx_retv .boolean 0 0), (59, rx_pure (rx_push (.int 0)) 60), (60, rx_st 0 4 62 5), (62, rx_ld 0 4 64), (64, rx_pure (rx_push (.int 12)) 66), (66, rx_br (rx_cmp Y 1) 116 69), (69, rx_ld 2 0 70), (70, rx_get 10 3 73), (73, rx_pure (rx_push (.int 12)) 75), (75, rx_pure (rx_push (.int 200)) 78), (78, rx_ld 0 1 79), (79, rx_pure (rx_bi (fun x y => x * y)) 80), (80, rx_ld 0 3 81), (81, rx_pure (rx_bi (fun x y => x + y)) 82), (82, rx_pure (rx_bi (fun x y => x * y)) 83), (83, rx_ld 0 4 85), (85, rx_pure (rx_bi (fun x y => x + y)) 86), (86, rx_ald 0 0 87), (87, rx_ld 2 0 88), (88, rx_get 10 3 91), (91, rx_pure (rx_push (.int 12)) 93), (93, rx_pure (rx_push (.int 200)) 96), (96, rx_ld 0 2 97), (97, rx_pure (rx_bi (fun x y => x * y)) 98), (98, rx_ld 0 3 99), (99, rx_pure (rx_bi (fun x y => x + y)) 100), (100, rx_pure (rx_bi (fun x y => x * y)) 101), (101, rx_ld 0 4 103), (103, rx_pure (rx_bi (fun x y => x + y)) 104), (104, rx_ald 0 0 105), (105, rx_br (rx_cmp Y 4) 110 108), (110, rx_inc 4 1 113 5), (113, rx_br rx_goto 62 116), (116, rx_inc 3 1 119 5), (119, rx_br rx_goto 19 122), (122, rx_pure (rx_push (.int 1)) 123), (123, rx_retv .boolean 0 0)]
noncomputable def m_X10_areAlike (Y : rx_Y) : rx_M := (yX10_areAlike, cX10_areAlike, 5, (some .boolean), { frames := 0, cells := 0, slots := 0, locals := 0 }, p_X10_areAlike Y)
theorem hd_X10_areAlike : yX10_areAlike.cls ≠ "java/lang/invoke/MethodHandle" ∧ yX10_areAlike.cls ≠ "java/lang/invoke/VarHandle" ∧ (parseMethodDescriptor yX10_areAlike.desc).map (fun d => d.parameters.length) = some 2 := by decide +kernel
abbrev cX10_areNeighbours : ByteArray := prog_12_method_63_code
def yX10_areNeighbours : MethodName := ⟨"SeedBenchModel", "areNeighbours", "(III)Z"⟩
theorem dX10_areNeighbours_0 : decode cX10_areNeighbours 0 = .ok (.iload_n 2, 1) := by decide +kernel
theorem dX10_areNeighbours_1 : decode cX10_areNeighbours 1 = .ok (.iload_n 1, 1) := by decide +kernel
theorem dX10_areNeighbours_2 : decode cX10_areNeighbours 2 = .ok (.iconst 1, 1) := by decide +kernel
theorem dX10_areNeighbours_3 : decode cX10_areNeighbours 3 = .ok (.iadd, 1) := by decide +kernel
theorem dX10_areNeighbours_4 : decode cX10_areNeighbours 4 = .ok (.if_icmp .eq 32, 3) := by decide +kernel
theorem dX10_areNeighbours_7 : decode cX10_areNeighbours 7 = .ok (.iload_n 1, 1) := by decide +kernel
theorem dX10_areNeighbours_8 : decode cX10_areNeighbours 8 = .ok (.iload_n 2, 1) := by decide +kernel
theorem dX10_areNeighbours_9 : decode cX10_areNeighbours 9 = .ok (.iconst 1, 1) := by decide +kernel
theorem dX10_areNeighbours_10 : decode cX10_areNeighbours 10 = .ok (.iadd, 1) := by decide +kernel
theorem dX10_areNeighbours_11 : decode cX10_areNeighbours 11 = .ok (.if_icmp .eq 25, 3) := by decide +kernel
theorem dX10_areNeighbours_14 : decode cX10_areNeighbours 14 = .ok (.iload_n 1, 1) := by decide +kernel
theorem dX10_areNeighbours_15 : decode cX10_areNeighbours 15 = .ok (.ifCond .ne 10, 3) := by decide +kernel
theorem dX10_areNeighbours_18 : decode cX10_areNeighbours 18 = .ok (.iload_n 2, 1) := by decide +kernel
theorem dX10_areNeighbours_19 : decode cX10_areNeighbours 19 = .ok (.iload_n 0, 1) := by decide +kernel
theorem dX10_areNeighbours_20 : decode cX10_areNeighbours 20 = .ok (.iconst 1, 1) := by decide +kernel
theorem dX10_areNeighbours_21 : decode cX10_areNeighbours 21 = .ok (.isub, 1) := by decide +kernel
theorem dX10_areNeighbours_22 : decode cX10_areNeighbours 22 = .ok (.if_icmp .eq 14, 3) := by decide +kernel
theorem dX10_areNeighbours_25 : decode cX10_areNeighbours 25 = .ok (.iload_n 2, 1) := by decide +kernel
theorem dX10_areNeighbours_26 : decode cX10_areNeighbours 26 = .ok (.ifCond .ne 14, 3) := by decide +kernel
theorem dX10_areNeighbours_29 : decode cX10_areNeighbours 29 = .ok (.iload_n 1, 1) := by decide +kernel
theorem dX10_areNeighbours_30 : decode cX10_areNeighbours 30 = .ok (.iload_n 0, 1) := by decide +kernel
theorem dX10_areNeighbours_31 : decode cX10_areNeighbours 31 = .ok (.iconst 1, 1) := by decide +kernel
theorem dX10_areNeighbours_32 : decode cX10_areNeighbours 32 = .ok (.isub, 1) := by decide +kernel
theorem dX10_areNeighbours_33 : decode cX10_areNeighbours 33 = .ok (.if_icmp .ne 7, 3) := by decide +kernel
theorem dX10_areNeighbours_36 : decode cX10_areNeighbours 36 = .ok (.iconst 1, 1) := by decide +kernel
theorem dX10_areNeighbours_37 : decode cX10_areNeighbours 37 = .ok (.goto 4, 3) := by decide +kernel
theorem dX10_areNeighbours_40 : decode cX10_areNeighbours 40 = .ok (.iconst 0, 1) := by decide +kernel
theorem dX10_areNeighbours_41 : decode cX10_areNeighbours 41 = .ok (.ireturn, 1) := by decide +kernel
noncomputable def p_X10_areNeighbours (Y : rx_Y) : rx_P := [(0, rx_ld 0 2 1), (1, rx_ld 0 1 2), (2, rx_pure (rx_push (.int 1)) 3), (3, rx_pure (rx_bi (fun x y => x + y)) 4), (4, rx_br (rx_cmp Y 4) 36 7), (7, rx_ld 0 1 8), (8, rx_ld 0 2 9), (9, rx_pure (rx_push (.int 1)) 10), (10, rx_pure (rx_bi (fun x y => x + y)) 11), (11, rx_br (rx_cmp Y 4) 36 14), (14, rx_ld 0 1 15), (15, rx_br (rx_cm0 Y 5) 25 18), (18, rx_ld 0 2 19), (19, rx_ld 0 0 20), (20, rx_pure (rx_push (.int 1)) 21), (21, rx_pure (rx_bi (fun x y => x - y)) 22), (22, rx_br (rx_cmp Y 4) 36 25), (25, rx_ld 0 2 26), (26, rx_br (rx_cm0 Y 5) 40 29), (29, rx_ld 0 1 30), (30, rx_ld 0 0 31), (31, rx_pure (rx_push (.int 1)) 32), (32, rx_pure (rx_bi (fun x y => x - y)) 33), (33, rx_br (rx_cmp Y 5) 40 36), (36, rx_pure (rx_push (.int 1)) 37), (37, rx_br rx_goto 41 40), (40, rx_pure (rx_push (.int 0)) 41), (41, rx_retv .boolean 0 0)]
noncomputable def m_X10_areNeighbours (Y : rx_Y) : rx_M := (yX10_areNeighbours, cX10_areNeighbours, 3, (some .boolean), { frames := 0, cells := 0, slots := 0, locals := 0 }, p_X10_areNeighbours Y)
theorem hd_X10_areNeighbours : yX10_areNeighbours.cls ≠ "java/lang/invoke/MethodHandle" ∧ yX10_areNeighbours.cls ≠ "java/lang/invoke/VarHandle" ∧ (parseMethodDescriptor yX10_areNeighbours.desc).map (fun d => d.parameters.length) = some 3 := by decide +kernel
abbrev cX10_arrows : ByteArray := prog_12_method_16_code
def yX10_arrows : MethodName := ⟨"SeedBenchModel", "arrows", "(III)Z"⟩
theorem dX10_arrows_0 : decode cX10_arrows 0 = .ok (.aload_n 0, 1) := by decide +kernel
theorem dX10_arrows_1 : decode cX10_arrows 1 = .ok (.getfield 181, 3) := by decide +kernel
theorem dX10_arrows_4 : decode cX10_arrows 4 = .ok (.ifCond .eq 44, 3) := by decide +kernel
theorem dX10_arrows_48 : decode cX10_arrows 48 = .ok (.iconst 0, 1) := by decide +kernel
theorem dX10_arrows_49 : decode cX10_arrows 49 = .ok (.ireturn, 1) := by decide +kernel
noncomputable def p_X10_arrows (Y : rx_Y) : rx_P := [(0, rx_ld 2 0 1), (1, rx_get 10 12 4), (4, rx_br (rx_cm0 Y 4) 48 7), (48, rx_pure (rx_push (.int 0)) 49), (49, rx_retv .boolean 0 0)]
noncomputable def m_X10_arrows (Y : rx_Y) : rx_M := (yX10_arrows, cX10_arrows, 4, (some .boolean), { frames := 0, cells := 0, slots := 0, locals := 0 }, p_X10_arrows Y)
theorem hd_X10_arrows : yX10_arrows.cls ≠ "java/lang/invoke/MethodHandle" ∧ yX10_arrows.cls ≠ "java/lang/invoke/VarHandle" ∧ (parseMethodDescriptor yX10_arrows.desc).map (fun d => d.parameters.length) = some 3 := by decide +kernel
abbrev cX10_b : ByteArray := prog_12_method_32_code
def yX10_b : MethodName := ⟨"SeedBenchModel", "b", "(II)I"⟩
theorem dX10_b_0 : decode cX10_b 0 = .ok (.iload_n 1, 1) := by decide +kernel
theorem dX10_b_1 : decode cX10_b 1 = .ok (.ifCond .lt 28, 3) := by decide +kernel
theorem dX10_b_4 : decode cX10_b 4 = .ok (.iload_n 1, 1) := by decide +kernel
theorem dX10_b_5 : decode cX10_b 5 = .ok (.aload_n 0, 1) := by decide +kernel
theorem dX10_b_6 : decode cX10_b 6 = .ok (.getfield 132, 3) := by decide +kernel
theorem dX10_b_9 : decode cX10_b 9 = .ok (.aload_n 0, 1) := by decide +kernel
theorem dX10_b_10 : decode cX10_b 10 = .ok (.getfield 204, 3) := by decide +kernel
theorem dX10_b_13 : decode cX10_b 13 = .ok (.iadd, 1) := by decide +kernel
theorem dX10_b_14 : decode cX10_b 14 = .ok (.if_icmp .ge 15, 3) := by decide +kernel
theorem dX10_b_17 : decode cX10_b 17 = .ok (.iload_n 2, 1) := by decide +kernel
theorem dX10_b_18 : decode cX10_b 18 = .ok (.ifCond .lt 11, 3) := by decide +kernel
theorem dX10_b_21 : decode cX10_b 21 = .ok (.iload_n 2, 1) := by decide +kernel
theorem dX10_b_22 : decode cX10_b 22 = .ok (.aload_n 0, 1) := by decide +kernel
theorem dX10_b_23 : decode cX10_b 23 = .ok (.getfield 132, 3) := by decide +kernel
theorem dX10_b_26 : decode cX10_b 26 = .ok (.if_icmp .lt 7, 3) := by decide +kernel
theorem dX10_b_29 : decode cX10_b 29 = .ok (.iconst 0, 1) := by decide +kernel
theorem dX10_b_30 : decode cX10_b 30 = .ok (.goto 14, 3) := by decide +kernel
theorem dX10_b_33 : decode cX10_b 33 = .ok (.aload_n 0, 1) := by decide +kernel
theorem dX10_b_34 : decode cX10_b 34 = .ok (.getfield 28, 3) := by decide +kernel
theorem dX10_b_37 : decode cX10_b 37 = .ok (.bipush 6, 2) := by decide +kernel
theorem dX10_b_39 : decode cX10_b 39 = .ok (.iload_n 1, 1) := by decide +kernel
theorem dX10_b_40 : decode cX10_b 40 = .ok (.imul, 1) := by decide +kernel
theorem dX10_b_41 : decode cX10_b 41 = .ok (.iload_n 2, 1) := by decide +kernel
theorem dX10_b_42 : decode cX10_b 42 = .ok (.iadd, 1) := by decide +kernel
theorem dX10_b_43 : decode cX10_b 43 = .ok (.iaload, 1) := by decide +kernel
theorem dX10_b_44 : decode cX10_b 44 = .ok (.ireturn, 1) := by decide +kernel
noncomputable def p_X10_b (Y : rx_Y) : rx_P := [(0, rx_ld 0 1 1), (1, rx_br (rx_cm0 Y 0) 29 4), (4, rx_ld 0 1 5), (5, rx_ld 2 0 6), (6, rx_get 10 7 9), (9, rx_ld 2 0 10), (10, rx_get 10 8 13), (13, rx_pure (rx_bi (fun x y => x + y)) 14), (14, rx_br (rx_cmp Y 1) 29 17), (17, rx_ld 0 2 18), (18, rx_br (rx_cm0 Y 0) 29 21), (21, rx_ld 0 2 22), (22, rx_ld 2 0 23), (23, rx_get 10 7 26), (26, rx_br (rx_cmp Y 0) 33 29), (29, rx_pure (rx_push (.int 0)) 30), (30, rx_br rx_goto 44 33), (33, rx_ld 2 0 34), (34, rx_get 10 9 37), (37, rx_pure (rx_push (.int 6)) 39), (39, rx_ld 0 1 40), (40, rx_pure (rx_bi (fun x y => x * y)) 41), (41, rx_ld 0 2 42), (42, rx_pure (rx_bi (fun x y => x + y)) 43), (43, rx_ald 0 0 44), (44, rx_retv .int 0 0)]
noncomputable def m_X10_b (Y : rx_Y) : rx_M := (yX10_b, cX10_b, 3, (some .int), { frames := 0, cells := 0, slots := 0, locals := 0 }, p_X10_b Y)
theorem hd_X10_b : yX10_b.cls ≠ "java/lang/invoke/MethodHandle" ∧ yX10_b.cls ≠ "java/lang/invoke/VarHandle" ∧ (parseMethodDescriptor yX10_b.desc).map (fun d => d.parameters.length) = some 2 := by decide +kernel
abbrev cX10_back : ByteArray := prog_12_method_31_code
def yX10_back : MethodName := ⟨"SeedBenchModel", "back", "()Z"⟩
theorem dX10_back_0 : decode cX10_back 0 = .ok (.aload_n 0, 1) := by decide +kernel
theorem dX10_back_1 : decode cX10_back 1 = .ok (.getfield 178, 3) := by decide +kernel
theorem dX10_back_4 : decode cX10_back 4 = .ok (.ifCond .ne 5, 3) := by decide +kernel
theorem dX10_back_7 : decode cX10_back 7 = .ok (.iconst 0, 1) := by decide +kernel
theorem dX10_back_8 : decode cX10_back 8 = .ok (.ireturn, 1) := by decide +kernel
noncomputable def p_X10_back (Y : rx_Y) : rx_P := [(0, rx_ld 2 0 1), (1, rx_get 10 10 4), (4, rx_br (rx_cm0 Y 5) 9 7), (7, rx_pure (rx_push (.int 0)) 8), (8, rx_retv .boolean 0 0)]
noncomputable def m_X10_back (Y : rx_Y) : rx_M := (yX10_back, cX10_back, 1, (some .boolean), { frames := 0, cells := 0, slots := 0, locals := 0 }, p_X10_back Y)
theorem hd_X10_back : yX10_back.cls ≠ "java/lang/invoke/MethodHandle" ∧ yX10_back.cls ≠ "java/lang/invoke/VarHandle" ∧ (parseMethodDescriptor yX10_back.desc).map (fun d => d.parameters.length) = some 0 := by decide +kernel
abbrev cX10_begin : ByteArray := prog_12_method_23_code
def yX10_begin : MethodName := ⟨"SeedBenchModel", "begin", "()I"⟩
theorem dX10_begin_0 : decode cX10_begin 0 = .ok (.aload_n 0, 1) := by decide +kernel
theorem dX10_begin_1 : decode cX10_begin 1 = .ok (.getfield 181, 3) := by decide +kernel
theorem dX10_begin_4 : decode cX10_begin 4 = .ok (.ifCond .ne 5, 3) := by decide +kernel
theorem dX10_begin_7 : decode cX10_begin 7 = .ok (.iconst (-1), 1) := by decide +kernel
theorem dX10_begin_8 : decode cX10_begin 8 = .ok (.ireturn, 1) := by decide +kernel
noncomputable def p_X10_begin (Y : rx_Y) : rx_P := [(0, rx_ld 2 0 1), (1, rx_get 10 12 4), (4, rx_br (rx_cm0 Y 5) 9 7), (7, rx_pure (rx_push (.int (-1))) 8), (8, rx_retv .int 0 0)]
noncomputable def m_X10_begin (Y : rx_Y) : rx_M := (yX10_begin, cX10_begin, 5, (some .int), { frames := 0, cells := 0, slots := 0, locals := 0 }, p_X10_begin Y)
theorem hd_X10_begin : yX10_begin.cls ≠ "java/lang/invoke/MethodHandle" ∧ yX10_begin.cls ≠ "java/lang/invoke/VarHandle" ∧ (parseMethodDescriptor yX10_begin.desc).map (fun d => d.parameters.length) = some 0 := by decide +kernel
abbrev cX10_comes : ByteArray := prog_12_method_45_code
def yX10_comes : MethodName := ⟨"SeedBenchModel", "comes", "()Z"⟩
theorem dX10_comes_0 : decode cX10_comes 0 = .ok (.aload_n 0, 1) := by decide +kernel
theorem dX10_comes_1 : decode cX10_comes 1 = .ok (.getfield 245, 3) := by decide +kernel
theorem dX10_comes_4 : decode cX10_comes 4 = .ok (.sipush 150, 3) := by decide +kernel
theorem dX10_comes_7 : decode cX10_comes 7 = .ok (.if_icmp .ne 5, 3) := by decide +kernel
theorem dX10_comes_12 : decode cX10_comes 12 = .ok (.iconst 0, 1) := by decide +kernel
theorem dX10_comes_13 : decode cX10_comes 13 = .ok (.istore_n 1, 1) := by decide +kernel
theorem dX10_comes_14 : decode cX10_comes 14 = .ok (.iload_n 1, 1) := by decide +kernel
theorem dX10_comes_15 : decode cX10_comes 15 = .ok (.aload_n 0, 1) := by decide +kernel
theorem dX10_comes_16 : decode cX10_comes 16 = .ok (.getfield 132, 3) := by decide +kernel
theorem dX10_comes_19 : decode cX10_comes 19 = .ok (.if_icmp .ge 29, 3) := by decide +kernel
theorem dX10_comes_22 : decode cX10_comes 22 = .ok (.aload_n 0, 1) := by decide +kernel
theorem dX10_comes_23 : decode cX10_comes 23 = .ok (.getfield 65, 3) := by decide +kernel
theorem dX10_comes_26 : decode cX10_comes 26 = .ok (.bipush 6, 2) := by decide +kernel
theorem dX10_comes_28 : decode cX10_comes 28 = .ok (.aload_n 0, 1) := by decide +kernel
theorem dX10_comes_29 : decode cX10_comes 29 = .ok (.getfield 245, 3) := by decide +kernel
theorem dX10_comes_32 : decode cX10_comes 32 = .ok (.imul, 1) := by decide +kernel
theorem dX10_comes_33 : decode cX10_comes 33 = .ok (.iload_n 1, 1) := by decide +kernel
theorem dX10_comes_34 : decode cX10_comes 34 = .ok (.iadd, 1) := by decide +kernel
theorem dX10_comes_35 : decode cX10_comes 35 = .ok (.aload_n 0, 1) := by decide +kernel
theorem dX10_comes_36 : decode cX10_comes 36 = .ok (.getfield 83, 3) := by decide +kernel
theorem dX10_comes_39 : decode cX10_comes 39 = .ok (.iload_n 1, 1) := by decide +kernel
theorem dX10_comes_40 : decode cX10_comes 40 = .ok (.iaload, 1) := by decide +kernel
theorem dX10_comes_41 : decode cX10_comes 41 = .ok (.iastore, 1) := by decide +kernel
theorem dX10_comes_42 : decode cX10_comes 42 = .ok (.iinc 1 1, 3) := by decide +kernel
theorem dX10_comes_45 : decode cX10_comes 45 = .ok (.goto (-31), 3) := by decide +kernel
theorem dX10_comes_48 : decode cX10_comes 48 = .ok (.iconst 0, 1) := by decide +kernel
theorem dX10_comes_49 : decode cX10_comes 49 = .ok (.istore_n 1, 1) := by decide +kernel
theorem dX10_comes_50 : decode cX10_comes 50 = .ok (.iload_n 1, 1) := by decide +kernel
theorem dX10_comes_51 : decode cX10_comes 51 = .ok (.bipush 72, 2) := by decide +kernel
theorem dX10_comes_53 : decode cX10_comes 53 = .ok (.if_icmp .ge 29, 3) := by decide +kernel
theorem dX10_comes_56 : decode cX10_comes 56 = .ok (.aload_n 0, 1) := by decide +kernel
theorem dX10_comes_57 : decode cX10_comes 57 = .ok (.getfield 68, 3) := by decide +kernel
theorem dX10_comes_60 : decode cX10_comes 60 = .ok (.bipush 72, 2) := by decide +kernel
theorem dX10_comes_62 : decode cX10_comes 62 = .ok (.aload_n 0, 1) := by decide +kernel
theorem dX10_comes_63 : decode cX10_comes 63 = .ok (.getfield 245, 3) := by decide +kernel
theorem dX10_comes_66 : decode cX10_comes 66 = .ok (.imul, 1) := by decide +kernel
theorem dX10_comes_67 : decode cX10_comes 67 = .ok (.iload_n 1, 1) := by decide +kernel
theorem dX10_comes_68 : decode cX10_comes 68 = .ok (.iadd, 1) := by decide +kernel
theorem dX10_comes_69 : decode cX10_comes 69 = .ok (.aload_n 0, 1) := by decide +kernel
theorem dX10_comes_70 : decode cX10_comes 70 = .ok (.getfield 28, 3) := by decide +kernel
theorem dX10_comes_73 : decode cX10_comes 73 = .ok (.iload_n 1, 1) := by decide +kernel
theorem dX10_comes_74 : decode cX10_comes 74 = .ok (.iaload, 1) := by decide +kernel
theorem dX10_comes_75 : decode cX10_comes 75 = .ok (.iastore, 1) := by decide +kernel
theorem dX10_comes_76 : decode cX10_comes 76 = .ok (.iinc 1 1, 3) := by decide +kernel
theorem dX10_comes_79 : decode cX10_comes 79 = .ok (.goto (-29), 3) := by decide +kernel
theorem dX10_comes_82 : decode cX10_comes 82 = .ok (.aload_n 0, 1) := by decide +kernel
theorem dX10_comes_83 : decode cX10_comes 83 = .ok (.dup, 1) := by decide +kernel
theorem dX10_comes_84 : decode cX10_comes 84 = .ok (.getfield 245, 3) := by decide +kernel
theorem dX10_comes_87 : decode cX10_comes 87 = .ok (.iconst 1, 1) := by decide +kernel
theorem dX10_comes_88 : decode cX10_comes 88 = .ok (.iadd, 1) := by decide +kernel
theorem dX10_comes_89 : decode cX10_comes 89 = .ok (.putfield 245, 3) := by decide +kernel
theorem dX10_comes_92 : decode cX10_comes 92 = .ok (.aload_n 0, 1) := by decide +kernel
theorem dX10_comes_93 : decode cX10_comes 93 = .ok (.getfield 242, 3) := by decide +kernel
theorem dX10_comes_96 : decode cX10_comes 96 = .ok (.bipush 100, 2) := by decide +kernel
theorem dX10_comes_98 : decode cX10_comes 98 = .ok (.if_icmp .gt 7, 3) := by decide +kernel
theorem dX10_comes_101 : decode cX10_comes 101 = .ok (.iconst 1, 1) := by decide +kernel
theorem dX10_comes_102 : decode cX10_comes 102 = .ok (.goto 4, 3) := by decide +kernel
theorem dX10_comes_106 : decode cX10_comes 106 = .ok (.ireturn, 1) := by decide +kernel
noncomputable def p_X10_comes (Y : rx_Y) : rx_P := [(0, rx_ld 2 0 1), (1, rx_get 10 24 4), (4, rx_pure (rx_push (.int 150)) 7), (7, rx_br (rx_cmp Y 5) 12 10), (12, rx_pure (rx_push (.int 0)) 13), (13, rx_st 0 1 14 2), (14, rx_ld 0 1 15), (15, rx_ld 2 0 16), (16, rx_get 10 7 19), (19, rx_br (rx_cmp Y 1) 48 22), (22, rx_ld 2 0 23), (23, rx_get 10 27 26), (26, rx_pure (rx_push (.int 6)) 28), (28, rx_ld 2 0 29), (29, rx_get 10 24 32), (32, rx_pure (rx_bi (fun x y => x * y)) 33), (33, rx_ld 0 1 34), (34, rx_pure (rx_bi (fun x y => x + y)) 35), (35, rx_ld 2 0 36), (36, rx_get 10 35 39), (39, rx_ld 0 1 40), (40, rx_ald 0 0 41), (41, rx_ast Y 0 .int 42), (42, rx_inc 1 1 45 2), (45, rx_br rx_goto 14 48), (48, rx_pure (rx_push (.int 0)) 49), (49, rx_st 0 1 50 2), (50, rx_ld 0 1 51), (51, rx_pure (rx_push (.int 72)) 53), (53, rx_br (rx_cmp Y 1) 82 56), (56, rx_ld 2 0 57), (57, rx_get 10 28 60), (60, rx_pure (rx_push (.int 72)) 62), (62, rx_ld 2 0 63), (63, rx_get 10 24 66), (66, rx_pure (rx_bi (fun x y => x * y)) 67), (67, rx_ld 0 1 68), (68, rx_pure (rx_bi (fun x y => x + y)) 69), (69, rx_ld 2 0 70), (70, rx_get 10 9 73), (73, rx_ld 0 1 74), (74, rx_ald 0 0 75), (75, rx_ast Y 0 .int 76), (76, rx_inc 1 1 79 2), (79, rx_br rx_goto 50 82), (82, rx_ld 2 0 83), (83, rx_pure rx_dup 84), (84, rx_get 10 24 87), (87, rx_pure (rx_push (.int 1)) 88), (88, rx_pure (rx_bi (fun x y => x + y)) 89), (89, rx_putf 10 24 .int 92), (92, rx_ld 2 0 93), (93, rx_get 10 26 96), (96, rx_pure (rx_push (.int 100)) 98), (98, rx_br (rx_cmp Y 2) 105 101), (101, rx_pure (rx_push (.int 1)) 102), (102, rx_br rx_goto 106 105), (106, rx_retv .boolean 0 0)]
noncomputable def m_X10_comes (Y : rx_Y) : rx_M := (yX10_comes, cX10_comes, 2, (some .boolean), { frames := 0, cells := 0, slots := 0, locals := 0 }, p_X10_comes Y)
theorem hd_X10_comes : yX10_comes.cls ≠ "java/lang/invoke/MethodHandle" ∧ yX10_comes.cls ≠ "java/lang/invoke/VarHandle" ∧ (parseMethodDescriptor yX10_comes.desc).map (fun d => d.parameters.length) = some 0 := by decide +kernel
abbrev cX10_copy : ByteArray := prog_12_method_3_code
def yX10_copy : MethodName := ⟨"SeedBenchModel", "copy", "(II)V"⟩
theorem dX10_copy_0 : decode cX10_copy 0 = .ok (.aload_n 0, 1) := by decide +kernel
theorem dX10_copy_1 : decode cX10_copy 1 = .ok (.getfield 13, 3) := by decide +kernel
theorem dX10_copy_4 : decode cX10_copy 4 = .ok (.iload_n 1, 1) := by decide +kernel
theorem dX10_copy_5 : decode cX10_copy 5 = .ok (.aload_n 0, 1) := by decide +kernel
theorem dX10_copy_6 : decode cX10_copy 6 = .ok (.getfield 13, 3) := by decide +kernel
theorem dX10_copy_9 : decode cX10_copy 9 = .ok (.iload_n 2, 1) := by decide +kernel
theorem dX10_copy_10 : decode cX10_copy 10 = .ok (.iaload, 1) := by decide +kernel
theorem dX10_copy_11 : decode cX10_copy 11 = .ok (.iastore, 1) := by decide +kernel
theorem dX10_copy_12 : decode cX10_copy 12 = .ok (.iconst 0, 1) := by decide +kernel
theorem dX10_copy_13 : decode cX10_copy 13 = .ok (.istore_n 3, 1) := by decide +kernel
theorem dX10_copy_14 : decode cX10_copy 14 = .ok (.iload_n 3, 1) := by decide +kernel
theorem dX10_copy_15 : decode cX10_copy 15 = .ok (.aload_n 0, 1) := by decide +kernel
theorem dX10_copy_16 : decode cX10_copy 16 = .ok (.getfield 13, 3) := by decide +kernel
theorem dX10_copy_19 : decode cX10_copy 19 = .ok (.iload_n 2, 1) := by decide +kernel
theorem dX10_copy_20 : decode cX10_copy 20 = .ok (.iaload, 1) := by decide +kernel
theorem dX10_copy_21 : decode cX10_copy 21 = .ok (.if_icmp .ge 85, 3) := by decide +kernel
theorem dX10_copy_24 : decode cX10_copy 24 = .ok (.aload_n 0, 1) := by decide +kernel
theorem dX10_copy_25 : decode cX10_copy 25 = .ok (.getfield 17, 3) := by decide +kernel
theorem dX10_copy_28 : decode cX10_copy 28 = .ok (.sipush 200, 3) := by decide +kernel
theorem dX10_copy_31 : decode cX10_copy 31 = .ok (.iload_n 1, 1) := by decide +kernel
theorem dX10_copy_32 : decode cX10_copy 32 = .ok (.imul, 1) := by decide +kernel
theorem dX10_copy_33 : decode cX10_copy 33 = .ok (.iload_n 3, 1) := by decide +kernel
theorem dX10_copy_34 : decode cX10_copy 34 = .ok (.iadd, 1) := by decide +kernel
theorem dX10_copy_35 : decode cX10_copy 35 = .ok (.aload_n 0, 1) := by decide +kernel
theorem dX10_copy_36 : decode cX10_copy 36 = .ok (.getfield 17, 3) := by decide +kernel
theorem dX10_copy_39 : decode cX10_copy 39 = .ok (.sipush 200, 3) := by decide +kernel
theorem dX10_copy_42 : decode cX10_copy 42 = .ok (.iload_n 2, 1) := by decide +kernel
theorem dX10_copy_43 : decode cX10_copy 43 = .ok (.imul, 1) := by decide +kernel
theorem dX10_copy_44 : decode cX10_copy 44 = .ok (.iload_n 3, 1) := by decide +kernel
theorem dX10_copy_45 : decode cX10_copy 45 = .ok (.iadd, 1) := by decide +kernel
theorem dX10_copy_46 : decode cX10_copy 46 = .ok (.laload, 1) := by decide +kernel
theorem dX10_copy_47 : decode cX10_copy 47 = .ok (.lastore, 1) := by decide +kernel
theorem dX10_copy_48 : decode cX10_copy 48 = .ok (.iconst 0, 1) := by decide +kernel
theorem dX10_copy_49 : decode cX10_copy 49 = .ok (.istore 4, 2) := by decide +kernel
theorem dX10_copy_51 : decode cX10_copy 51 = .ok (.iload 4, 2) := by decide +kernel
theorem dX10_copy_53 : decode cX10_copy 53 = .ok (.bipush 12, 2) := by decide +kernel
theorem dX10_copy_55 : decode cX10_copy 55 = .ok (.if_icmp .ge 45, 3) := by decide +kernel
theorem dX10_copy_58 : decode cX10_copy 58 = .ok (.aload_n 0, 1) := by decide +kernel
theorem dX10_copy_59 : decode cX10_copy 59 = .ok (.getfield 22, 3) := by decide +kernel
theorem dX10_copy_62 : decode cX10_copy 62 = .ok (.bipush 12, 2) := by decide +kernel
theorem dX10_copy_64 : decode cX10_copy 64 = .ok (.sipush 200, 3) := by decide +kernel
theorem dX10_copy_67 : decode cX10_copy 67 = .ok (.iload_n 1, 1) := by decide +kernel
theorem dX10_copy_68 : decode cX10_copy 68 = .ok (.imul, 1) := by decide +kernel
theorem dX10_copy_69 : decode cX10_copy 69 = .ok (.iload_n 3, 1) := by decide +kernel
theorem dX10_copy_70 : decode cX10_copy 70 = .ok (.iadd, 1) := by decide +kernel
theorem dX10_copy_71 : decode cX10_copy 71 = .ok (.imul, 1) := by decide +kernel
theorem dX10_copy_72 : decode cX10_copy 72 = .ok (.iload 4, 2) := by decide +kernel
theorem dX10_copy_74 : decode cX10_copy 74 = .ok (.iadd, 1) := by decide +kernel
theorem dX10_copy_75 : decode cX10_copy 75 = .ok (.aload_n 0, 1) := by decide +kernel
theorem dX10_copy_76 : decode cX10_copy 76 = .ok (.getfield 22, 3) := by decide +kernel
theorem dX10_copy_79 : decode cX10_copy 79 = .ok (.bipush 12, 2) := by decide +kernel
theorem dX10_copy_81 : decode cX10_copy 81 = .ok (.sipush 200, 3) := by decide +kernel
theorem dX10_copy_84 : decode cX10_copy 84 = .ok (.iload_n 2, 1) := by decide +kernel
theorem dX10_copy_85 : decode cX10_copy 85 = .ok (.imul, 1) := by decide +kernel
theorem dX10_copy_86 : decode cX10_copy 86 = .ok (.iload_n 3, 1) := by decide +kernel
theorem dX10_copy_87 : decode cX10_copy 87 = .ok (.iadd, 1) := by decide +kernel
theorem dX10_copy_88 : decode cX10_copy 88 = .ok (.imul, 1) := by decide +kernel
theorem dX10_copy_89 : decode cX10_copy 89 = .ok (.iload 4, 2) := by decide +kernel
theorem dX10_copy_91 : decode cX10_copy 91 = .ok (.iadd, 1) := by decide +kernel
theorem dX10_copy_92 : decode cX10_copy 92 = .ok (.iaload, 1) := by decide +kernel
theorem dX10_copy_93 : decode cX10_copy 93 = .ok (.iastore, 1) := by decide +kernel
theorem dX10_copy_94 : decode cX10_copy 94 = .ok (.iinc 4 1, 3) := by decide +kernel
theorem dX10_copy_97 : decode cX10_copy 97 = .ok (.goto (-46), 3) := by decide +kernel
theorem dX10_copy_100 : decode cX10_copy 100 = .ok (.iinc 3 1, 3) := by decide +kernel
theorem dX10_copy_103 : decode cX10_copy 103 = .ok (.goto (-89), 3) := by decide +kernel
theorem dX10_copy_106 : decode cX10_copy 106 = .ok (.return_, 1) := by decide +kernel
noncomputable def p_X10_copy (Y : rx_Y) : rx_P := [(0, rx_ld 2 0 1), (1, rx_get 10 1 4), (4, rx_ld 0 1 5), (5, rx_ld 2 0 6), (6, rx_get 10 1 9), (9, rx_ld 0 2 10), (10, rx_ald 0 0 11), (11, rx_ast Y 0 .int 12), (12, rx_pure (rx_push (.int 0)) 13), (13, rx_st 0 3 14 5), (14, rx_ld 0 3 15), (15, rx_ld 2 0 16), (16, rx_get 10 1 19), (19, rx_ld 0 2 20), (20, rx_ald 0 0 21), (21, rx_br (rx_cmp Y 1) 106 24), (24, rx_ld 2 0 25), (25, rx_get 10 2 28), (28, rx_pure (rx_push (.int 200)) 31), (31, rx_ld 0 1 32), (32, rx_pure (rx_bi (fun x y => x * y)) 33), (33, rx_ld 0 3 34), (34, rx_pure (rx_bi (fun x y => x + y)) 35), (35, rx_ld 2 0 36), (36, rx_get 10 2 39), (39, rx_pure (rx_push (.int 200)) 42), (42, rx_ld 0 2 43), (43, rx_pure (rx_bi (fun x y => x * y)) 44), (44, rx_ld 0 3 45), (45, rx_pure (rx_bi (fun x y => x + y)) 46), (46, rx_ald 1 1 47), (47, rx_ast Y 1 .long 48), (48, rx_pure (rx_push (.int 0)) 49), (49, rx_st 0 4 51 5), (51, rx_ld 0 4 53), (53, rx_pure (rx_push (.int 12)) 55), (55, rx_br (rx_cmp Y 1) 100 58), (58, rx_ld 2 0 59), (59, rx_get 10 3 62), (62, rx_pure (rx_push (.int 12)) 64), (64, rx_pure (rx_push (.int 200)) 67), (67, rx_ld 0 1 68), (68, rx_pure (rx_bi (fun x y => x * y)) 69), (69, rx_ld 0 3 70), (70, rx_pure (rx_bi (fun x y => x + y)) 71), (71, rx_pure (rx_bi (fun x y => x * y)) 72), (72, rx_ld 0 4 74), (74, rx_pure (rx_bi (fun x y => x + y)) 75), (75, rx_ld 2 0 76), (76, rx_get 10 3 79), (79, rx_pure (rx_push (.int 12)) 81), (81, rx_pure (rx_push (.int 200)) 84), (84, rx_ld 0 2 85), (85, rx_pure (rx_bi (fun x y => x * y)) 86), (86, rx_ld 0 3 87), (87, rx_pure (rx_bi (fun x y => x + y)) 88), (88, rx_pure (rx_bi (fun x y => x * y)) 89), (89, rx_ld 0 4 91), (91, rx_pure (rx_bi (fun x y => x + y)) 92), (92, rx_ald 0 0 93), (93, rx_ast Y 0 .int 94), (94, rx_inc 4 1 97 5), (97, rx_br rx_goto 51 100), (100, rx_inc 3 1 103 5), (103, rx_br rx_goto 14 106), (106, rx_ret0 0 0)]
noncomputable def m_X10_copy (Y : rx_Y) : rx_M := (yX10_copy, cX10_copy, 5, none, { frames := 0, cells := 0, slots := 0, locals := 0 }, p_X10_copy Y)
theorem hd_X10_copy : yX10_copy.cls ≠ "java/lang/invoke/MethodHandle" ∧ yX10_copy.cls ≠ "java/lang/invoke/VarHandle" ∧ (parseMethodDescriptor yX10_copy.desc).map (fun d => d.parameters.length) = some 2 := by decide +kernel
abbrev cX10_count : ByteArray := prog_12_method_85_code
def yX10_count : MethodName := ⟨"SeedBenchModel", "count", "(I)I"⟩
theorem dX10_count_0 : decode cX10_count 0 = .ok (.iload_n 1, 1) := by decide +kernel
theorem dX10_count_1 : decode cX10_count 1 = .ok (.tableswitch 84 0 4 #[35, 40, 45, 50, 79], 35) := by decide +kernel
theorem dX10_count_36 : decode cX10_count 36 = .ok (.aload_n 0, 1) := by decide +kernel
theorem dX10_count_37 : decode cX10_count 37 = .ok (.getfield 132, 3) := by decide +kernel
theorem dX10_count_40 : decode cX10_count 40 = .ok (.ireturn, 1) := by decide +kernel
theorem dX10_count_41 : decode cX10_count 41 = .ok (.aload_n 0, 1) := by decide +kernel
theorem dX10_count_42 : decode cX10_count 42 = .ok (.getfield 204, 3) := by decide +kernel
theorem dX10_count_45 : decode cX10_count 45 = .ok (.ireturn, 1) := by decide +kernel
theorem dX10_count_46 : decode cX10_count 46 = .ok (.aload_n 0, 1) := by decide +kernel
theorem dX10_count_47 : decode cX10_count 47 = .ok (.getfield 178, 3) := by decide +kernel
theorem dX10_count_50 : decode cX10_count 50 = .ok (.ireturn, 1) := by decide +kernel
theorem dX10_count_51 : decode cX10_count 51 = .ok (.iconst 0, 1) := by decide +kernel
theorem dX10_count_52 : decode cX10_count 52 = .ok (.istore_n 2, 1) := by decide +kernel
theorem dX10_count_53 : decode cX10_count 53 = .ok (.iconst 0, 1) := by decide +kernel
theorem dX10_count_54 : decode cX10_count 54 = .ok (.istore_n 3, 1) := by decide +kernel
theorem dX10_count_55 : decode cX10_count 55 = .ok (.iload_n 3, 1) := by decide +kernel
theorem dX10_count_56 : decode cX10_count 56 = .ok (.aload_n 0, 1) := by decide +kernel
theorem dX10_count_57 : decode cX10_count 57 = .ok (.getfield 132, 3) := by decide +kernel
theorem dX10_count_60 : decode cX10_count 60 = .ok (.if_icmp .ge 18, 3) := by decide +kernel
theorem dX10_count_63 : decode cX10_count 63 = .ok (.iload_n 2, 1) := by decide +kernel
theorem dX10_count_64 : decode cX10_count 64 = .ok (.aload_n 0, 1) := by decide +kernel
theorem dX10_count_65 : decode cX10_count 65 = .ok (.getfield 13, 3) := by decide +kernel
theorem dX10_count_68 : decode cX10_count 68 = .ok (.iload_n 3, 1) := by decide +kernel
theorem dX10_count_69 : decode cX10_count 69 = .ok (.iaload, 1) := by decide +kernel
theorem dX10_count_70 : decode cX10_count 70 = .ok (.iadd, 1) := by decide +kernel
theorem dX10_count_71 : decode cX10_count 71 = .ok (.istore_n 2, 1) := by decide +kernel
theorem dX10_count_72 : decode cX10_count 72 = .ok (.iinc 3 1, 3) := by decide +kernel
theorem dX10_count_75 : decode cX10_count 75 = .ok (.goto (-20), 3) := by decide +kernel
theorem dX10_count_78 : decode cX10_count 78 = .ok (.iload_n 2, 1) := by decide +kernel
theorem dX10_count_79 : decode cX10_count 79 = .ok (.ireturn, 1) := by decide +kernel
theorem dX10_count_80 : decode cX10_count 80 = .ok (.aload_n 0, 1) := by decide +kernel
theorem dX10_count_81 : decode cX10_count 81 = .ok (.getfield 269, 3) := by decide +kernel
theorem dX10_count_84 : decode cX10_count 84 = .ok (.ireturn, 1) := by decide +kernel
theorem dX10_count_85 : decode cX10_count 85 = .ok (.iconst (-1), 1) := by decide +kernel
theorem dX10_count_86 : decode cX10_count 86 = .ok (.ireturn, 1) := by decide +kernel
noncomputable def p_X10_count (Y : rx_Y) : rx_P := [(0, rx_ld 0 1 1), (1, rx_sw Y 0 4 [36, 41, 46, 51, 80] 85), (36, rx_ld 2 0 37), (37, rx_get 10 7 40), (40, rx_retv .int 0 0), (41, rx_ld 2 0 42), (42, rx_get 10 8 45), (45, rx_retv .int 0 0), (46, rx_ld 2 0 47), (47, rx_get 10 10 50), (50, rx_retv .int 0 0), (51, rx_pure (rx_push (.int 0)) 52), (52, rx_st 0 2 53 4), (53, rx_pure (rx_push (.int 0)) 54), (54, rx_st 0 3 55 4), (55, rx_ld 0 3 56), (56, rx_ld 2 0 57), (57, rx_get 10 7 60), (60, rx_br (rx_cmp Y 1) 78 63), (63, rx_ld 0 2 64), (64, rx_ld 2 0 65), (65, rx_get 10 1 68), (68, rx_ld 0 3 69), (69, rx_ald 0 0 70), (70, rx_pure (rx_bi (fun x y => x + y)) 71), (71, rx_st 0 2 72 4), (72, rx_inc 3 1 75 4), (75, rx_br rx_goto 55 78), (78, rx_ld 0 2 79), (79, rx_retv .int 0 0), (80, rx_ld 2 0 81), (81, rx_get 10 25 84), (84, rx_retv .int 0 0), (85, rx_pure (rx_push (.int (-1))) 86), (86, rx_retv .int 0 0)]
noncomputable def m_X10_count (Y : rx_Y) : rx_M := (yX10_count, cX10_count, 4, (some .int), { frames := 0, cells := 0, slots := 0, locals := 0 }, p_X10_count Y)
theorem hd_X10_count : yX10_count.cls ≠ "java/lang/invoke/MethodHandle" ∧ yX10_count.cls ≠ "java/lang/invoke/VarHandle" ∧ (parseMethodDescriptor yX10_count.desc).map (fun d => d.parameters.length) = some 1 := by decide +kernel
abbrev cX10_fence : ByteArray := prog_12_method_66_code
def yX10_fence : MethodName := ⟨"SeedBenchModel", "fence", "(III)I"⟩
theorem dX10_fence_0 : decode cX10_fence 0 = .ok (.aload_n 0, 1) := by decide +kernel
theorem dX10_fence_1 : decode cX10_fence 1 = .ok (.iload_n 1, 1) := by decide +kernel
theorem dX10_fence_2 : decode cX10_fence 2 = .ok (.invokevirtual 314, 3) := by decide +kernel
theorem dX10_fence_5 : decode cX10_fence 5 = .ok (.ifCond .eq 50, 3) := by decide +kernel
theorem dX10_fence_8 : decode cX10_fence 8 = .ok (.iload_n 2, 1) := by decide +kernel
theorem dX10_fence_9 : decode cX10_fence 9 = .ok (.ifCond .lt 46, 3) := by decide +kernel
theorem dX10_fence_12 : decode cX10_fence 12 = .ok (.iload_n 2, 1) := by decide +kernel
theorem dX10_fence_13 : decode cX10_fence 13 = .ok (.aload_n 0, 1) := by decide +kernel
theorem dX10_fence_14 : decode cX10_fence 14 = .ok (.getfield 108, 3) := by decide +kernel
theorem dX10_fence_17 : decode cX10_fence 17 = .ok (.iload_n 1, 1) := by decide +kernel
theorem dX10_fence_18 : decode cX10_fence 18 = .ok (.iaload, 1) := by decide +kernel
theorem dX10_fence_19 : decode cX10_fence 19 = .ok (.if_icmp .ge 36, 3) := by decide +kernel
theorem dX10_fence_22 : decode cX10_fence 22 = .ok (.iload_n 3, 1) := by decide +kernel
theorem dX10_fence_23 : decode cX10_fence 23 = .ok (.ifCond .lt 32, 3) := by decide +kernel
theorem dX10_fence_26 : decode cX10_fence 26 = .ok (.iload_n 3, 1) := by decide +kernel
theorem dX10_fence_27 : decode cX10_fence 27 = .ok (.aload_n 0, 1) := by decide +kernel
theorem dX10_fence_28 : decode cX10_fence 28 = .ok (.getfield 108, 3) := by decide +kernel
theorem dX10_fence_31 : decode cX10_fence 31 = .ok (.iload_n 1, 1) := by decide +kernel
theorem dX10_fence_32 : decode cX10_fence 32 = .ok (.iaload, 1) := by decide +kernel
theorem dX10_fence_33 : decode cX10_fence 33 = .ok (.if_icmp .ge 22, 3) := by decide +kernel
theorem dX10_fence_36 : decode cX10_fence 36 = .ok (.iload_n 2, 1) := by decide +kernel
theorem dX10_fence_37 : decode cX10_fence 37 = .ok (.iload_n 3, 1) := by decide +kernel
theorem dX10_fence_38 : decode cX10_fence 38 = .ok (.if_icmp .eq 17, 3) := by decide +kernel
theorem dX10_fence_41 : decode cX10_fence 41 = .ok (.aload_n 0, 1) := by decide +kernel
theorem dX10_fence_42 : decode cX10_fence 42 = .ok (.getfield 108, 3) := by decide +kernel
theorem dX10_fence_45 : decode cX10_fence 45 = .ok (.iload_n 1, 1) := by decide +kernel
theorem dX10_fence_46 : decode cX10_fence 46 = .ok (.iaload, 1) := by decide +kernel
theorem dX10_fence_47 : decode cX10_fence 47 = .ok (.iload_n 2, 1) := by decide +kernel
theorem dX10_fence_48 : decode cX10_fence 48 = .ok (.iload_n 3, 1) := by decide +kernel
theorem dX10_fence_49 : decode cX10_fence 49 = .ok (.invokestatic 317, 3) := by decide +kernel
theorem dX10_fence_52 : decode cX10_fence 52 = .ok (.ifCond .eq 5, 3) := by decide +kernel
theorem dX10_fence_55 : decode cX10_fence 55 = .ok (.iconst (-1), 1) := by decide +kernel
theorem dX10_fence_56 : decode cX10_fence 56 = .ok (.ireturn, 1) := by decide +kernel
theorem dX10_fence_57 : decode cX10_fence 57 = .ok (.iload_n 2, 1) := by decide +kernel
theorem dX10_fence_58 : decode cX10_fence 58 = .ok (.iload_n 3, 1) := by decide +kernel
theorem dX10_fence_59 : decode cX10_fence 59 = .ok (.invokestatic 228, 3) := by decide +kernel
theorem dX10_fence_62 : decode cX10_fence 62 = .ok (.istore 4, 2) := by decide +kernel
theorem dX10_fence_64 : decode cX10_fence 64 = .ok (.iload_n 2, 1) := by decide +kernel
theorem dX10_fence_65 : decode cX10_fence 65 = .ok (.iload_n 3, 1) := by decide +kernel
theorem dX10_fence_66 : decode cX10_fence 66 = .ok (.invokestatic 321, 3) := by decide +kernel
theorem dX10_fence_69 : decode cX10_fence 69 = .ok (.istore 5, 2) := by decide +kernel
theorem dX10_fence_71 : decode cX10_fence 71 = .ok (.aload_n 0, 1) := by decide +kernel
theorem dX10_fence_72 : decode cX10_fence 72 = .ok (.getfield 111, 3) := by decide +kernel
theorem dX10_fence_75 : decode cX10_fence 75 = .ok (.bipush 100, 2) := by decide +kernel
theorem dX10_fence_77 : decode cX10_fence 77 = .ok (.iload_n 1, 1) := by decide +kernel
theorem dX10_fence_78 : decode cX10_fence 78 = .ok (.imul, 1) := by decide +kernel
theorem dX10_fence_79 : decode cX10_fence 79 = .ok (.bipush 10, 2) := by decide +kernel
theorem dX10_fence_81 : decode cX10_fence 81 = .ok (.iload 4, 2) := by decide +kernel
theorem dX10_fence_83 : decode cX10_fence 83 = .ok (.imul, 1) := by decide +kernel
theorem dX10_fence_84 : decode cX10_fence 84 = .ok (.iadd, 1) := by decide +kernel
theorem dX10_fence_85 : decode cX10_fence 85 = .ok (.iload 5, 2) := by decide +kernel
theorem dX10_fence_87 : decode cX10_fence 87 = .ok (.iadd, 1) := by decide +kernel
theorem dX10_fence_88 : decode cX10_fence 88 = .ok (.baload, 1) := by decide +kernel
theorem dX10_fence_89 : decode cX10_fence 89 = .ok (.ifCond .eq 5, 3) := by decide +kernel
theorem dX10_fence_94 : decode cX10_fence 94 = .ok (.iconst 0, 1) := by decide +kernel
theorem dX10_fence_95 : decode cX10_fence 95 = .ok (.istore 6, 2) := by decide +kernel
theorem dX10_fence_97 : decode cX10_fence 97 = .ok (.iload 6, 2) := by decide +kernel
theorem dX10_fence_99 : decode cX10_fence 99 = .ok (.bipush 100, 2) := by decide +kernel
theorem dX10_fence_101 : decode cX10_fence 101 = .ok (.if_icmp .ge 46, 3) := by decide +kernel
theorem dX10_fence_104 : decode cX10_fence 104 = .ok (.aload_n 0, 1) := by decide +kernel
theorem dX10_fence_105 : decode cX10_fence 105 = .ok (.getfield 111, 3) := by decide +kernel
theorem dX10_fence_108 : decode cX10_fence 108 = .ok (.bipush 100, 2) := by decide +kernel
theorem dX10_fence_110 : decode cX10_fence 110 = .ok (.iload_n 1, 1) := by decide +kernel
theorem dX10_fence_111 : decode cX10_fence 111 = .ok (.imul, 1) := by decide +kernel
theorem dX10_fence_112 : decode cX10_fence 112 = .ok (.iload 6, 2) := by decide +kernel
theorem dX10_fence_114 : decode cX10_fence 114 = .ok (.iadd, 1) := by decide +kernel
theorem dX10_fence_115 : decode cX10_fence 115 = .ok (.baload, 1) := by decide +kernel
theorem dX10_fence_116 : decode cX10_fence 116 = .ok (.ifCond .eq 25, 3) := by decide +kernel
theorem dX10_fence_141 : decode cX10_fence 141 = .ok (.iinc 6 1, 3) := by decide +kernel
theorem dX10_fence_144 : decode cX10_fence 144 = .ok (.goto (-47), 3) := by decide +kernel
theorem dX10_fence_147 : decode cX10_fence 147 = .ok (.aload_n 0, 1) := by decide +kernel
theorem dX10_fence_148 : decode cX10_fence 148 = .ok (.getfield 111, 3) := by decide +kernel
theorem dX10_fence_151 : decode cX10_fence 151 = .ok (.bipush 100, 2) := by decide +kernel
theorem dX10_fence_153 : decode cX10_fence 153 = .ok (.iload_n 1, 1) := by decide +kernel
theorem dX10_fence_154 : decode cX10_fence 154 = .ok (.imul, 1) := by decide +kernel
theorem dX10_fence_155 : decode cX10_fence 155 = .ok (.bipush 10, 2) := by decide +kernel
theorem dX10_fence_157 : decode cX10_fence 157 = .ok (.iload 4, 2) := by decide +kernel
theorem dX10_fence_159 : decode cX10_fence 159 = .ok (.imul, 1) := by decide +kernel
theorem dX10_fence_160 : decode cX10_fence 160 = .ok (.iadd, 1) := by decide +kernel
theorem dX10_fence_161 : decode cX10_fence 161 = .ok (.iload 5, 2) := by decide +kernel
theorem dX10_fence_163 : decode cX10_fence 163 = .ok (.iadd, 1) := by decide +kernel
theorem dX10_fence_164 : decode cX10_fence 164 = .ok (.iconst 1, 1) := by decide +kernel
theorem dX10_fence_165 : decode cX10_fence 165 = .ok (.bastore, 1) := by decide +kernel
theorem dX10_fence_166 : decode cX10_fence 166 = .ok (.aload_n 0, 1) := by decide +kernel
theorem dX10_fence_167 : decode cX10_fence 167 = .ok (.iload_n 1, 1) := by decide +kernel
theorem dX10_fence_168 : decode cX10_fence 168 = .ok (.invokevirtual 328, 3) := by decide +kernel
theorem dX10_fence_171 : decode cX10_fence 171 = .ok (.ireturn, 1) := by decide +kernel
noncomputable def p_X10_fence (Y : rx_Y) : rx_P := [(0, rx_ld 2 0 1), (1, rx_ld 0 1 2), (2, rx_cl 117 2 10 true 0 0 0 0 5), (5, rx_br (rx_cm0 Y 4) 55 8), (8, rx_ld 0 2 9), (9, rx_br (rx_cm0 Y 0) 55 12), (12, rx_ld 0 2 13), (13, rx_ld 2 0 14), (14, rx_get 10 48 17), (17, rx_ld 0 1 18), (18, rx_ald 0 0 19), (19, rx_br (rx_cmp Y 1) 55 22), (22, rx_ld 0 3 23), (23, rx_br (rx_cm0 Y 0) 55 26), (26, rx_ld 0 3 27), (27, rx_ld 2 0 28), (28, rx_get 10 48 31), (31, rx_ld 0 1 32), (32, rx_ald 0 0 33), (33, rx_br (rx_cmp Y 1) 55 36), (36, rx_ld 0 2 37), (37, rx_ld 0 3 38), (38, rx_br (rx_cmp Y 4) 55 41), (41, rx_ld 2 0 42), (42, rx_get 10 48 45), (45, rx_ld 0 1 46), (46, rx_ald 0 0 47), (47, rx_ld 0 2 48), (48, rx_ld 0 3 49), (49, rx_cl 98 3 0 false 0 0 0 0 52), (52, rx_br (rx_cm0 Y 4) 57 55), (55, rx_pure (rx_push (.int (-1))) 56), (56, rx_retv .int 0 0), (57, rx_ld 0 2 58), (58, rx_ld 0 3 59), (59, rx_cl 125 2 0 false 0 0 0 0 62), (62, rx_st 0 4 64 7), (64, rx_ld 0 2 65), (65, rx_ld 0 3 66), (66, rx_cl 114 2 0 false 0 0 0 0 69), (69, rx_st 0 5 71 7), (71, rx_ld 2 0 72), (72, rx_get 10 49 75), (75, rx_pure (rx_push (.int 100)) 77), (77, rx_ld 0 1 78), (78, rx_pure (rx_bi (fun x y => x * y)) 79), (79, rx_pure (rx_push (.int 10)) 81), (81, rx_ld 0 4 83), (83, rx_pure (rx_bi (fun x y => x * y)) 84), (84, rx_pure (rx_bi (fun x y => x + y)) 85), (85, rx_ld 0 5 87), (87, rx_pure (rx_bi (fun x y => x + y)) 88), (88, rx_ald 2 0 89), (89, rx_br (rx_cm0 Y 4) 94 92), (94, rx_pure (rx_push (.int 0)) 95), (95, rx_st 0 6 97 7), (97, rx_ld 0 6 99), (99, rx_pure (rx_push (.int 100)) 101), (101, rx_br (rx_cmp Y 1) 147 104), (104, rx_ld 2 0 105), (105, rx_get 10 49 108), (108, rx_pure (rx_push (.int 100)) 110), (110, rx_ld 0 1 111), (111, rx_pure (rx_bi (fun x y => x * y)) 112), (112, rx_ld 0 6 114), (114, rx_pure (rx_bi (fun x y => x + y)) 115), (115, rx_ald 2 0 116), (116, rx_br (rx_cm0 Y 4) 141 119), (141, rx_inc 6 1 144 7), (144, rx_br rx_goto 97 147), (147, rx_ld 2 0 148), (148, rx_get 10 49 151), (151, rx_pure (rx_push (.int 100)) 153), (153, rx_ld 0 1 154), (154, rx_pure (rx_bi (fun x y => x * y)) 155), (155, rx_pure (rx_push (.int 10)) 157), (157, rx_ld 0 4 159), (159, rx_pure (rx_bi (fun x y => x * y)) 160), (160, rx_pure (rx_bi (fun x y => x + y)) 161), (161, rx_ld 0 5 163), (163, rx_pure (rx_bi (fun x y => x + y)) 164), (164, rx_pure (rx_push (.int 1)) 165), (165, rx_ast Y 2 .boolean 166), (166, rx_ld 2 0 167), (167, rx_ld 0 1 168), (168, rx_cl 107 2 10 true 0 0 0 0 171), (171, rx_retv .int 0 0)]
noncomputable def m_X10_fence (Y : rx_Y) : rx_M := (yX10_fence, cX10_fence, 7, (some .int), { frames := 1, cells := 0, slots := 0, locals := 23 }, p_X10_fence Y)
theorem hd_X10_fence : yX10_fence.cls ≠ "java/lang/invoke/MethodHandle" ∧ yX10_fence.cls ≠ "java/lang/invoke/VarHandle" ∧ (parseMethodDescriptor yX10_fence.desc).map (fun d => d.parameters.length) = some 3 := by decide +kernel
abbrev cX10_fences : ByteArray := prog_12_method_65_code
def yX10_fences : MethodName := ⟨"SeedBenchModel", "fences", "(I)I"⟩
theorem dX10_fences_0 : decode cX10_fences 0 = .ok (.iconst 0, 1) := by decide +kernel
theorem dX10_fences_1 : decode cX10_fences 1 = .ok (.istore_n 2, 1) := by decide +kernel
theorem dX10_fences_2 : decode cX10_fences 2 = .ok (.iconst 0, 1) := by decide +kernel
theorem dX10_fences_3 : decode cX10_fences 3 = .ok (.istore_n 3, 1) := by decide +kernel
theorem dX10_fences_4 : decode cX10_fences 4 = .ok (.iload_n 3, 1) := by decide +kernel
theorem dX10_fences_5 : decode cX10_fences 5 = .ok (.bipush 100, 2) := by decide +kernel
theorem dX10_fences_7 : decode cX10_fences 7 = .ok (.if_icmp .ge 26, 3) := by decide +kernel
theorem dX10_fences_10 : decode cX10_fences 10 = .ok (.aload_n 0, 1) := by decide +kernel
theorem dX10_fences_11 : decode cX10_fences 11 = .ok (.getfield 111, 3) := by decide +kernel
theorem dX10_fences_14 : decode cX10_fences 14 = .ok (.bipush 100, 2) := by decide +kernel
theorem dX10_fences_16 : decode cX10_fences 16 = .ok (.iload_n 1, 1) := by decide +kernel
theorem dX10_fences_17 : decode cX10_fences 17 = .ok (.imul, 1) := by decide +kernel
theorem dX10_fences_18 : decode cX10_fences 18 = .ok (.iload_n 3, 1) := by decide +kernel
theorem dX10_fences_19 : decode cX10_fences 19 = .ok (.iadd, 1) := by decide +kernel
theorem dX10_fences_20 : decode cX10_fences 20 = .ok (.baload, 1) := by decide +kernel
theorem dX10_fences_21 : decode cX10_fences 21 = .ok (.ifCond .eq 6, 3) := by decide +kernel
theorem dX10_fences_24 : decode cX10_fences 24 = .ok (.iinc 2 1, 3) := by decide +kernel
theorem dX10_fences_27 : decode cX10_fences 27 = .ok (.iinc 3 1, 3) := by decide +kernel
theorem dX10_fences_30 : decode cX10_fences 30 = .ok (.goto (-26), 3) := by decide +kernel
theorem dX10_fences_33 : decode cX10_fences 33 = .ok (.iload_n 2, 1) := by decide +kernel
theorem dX10_fences_34 : decode cX10_fences 34 = .ok (.ireturn, 1) := by decide +kernel
noncomputable def p_X10_fences (Y : rx_Y) : rx_P := [(0, rx_pure (rx_push (.int 0)) 1), (1, rx_st 0 2 2 4), (2, rx_pure (rx_push (.int 0)) 3), (3, rx_st 0 3 4 4), (4, rx_ld 0 3 5), (5, rx_pure (rx_push (.int 100)) 7), (7, rx_br (rx_cmp Y 1) 33 10), (10, rx_ld 2 0 11), (11, rx_get 10 49 14), (14, rx_pure (rx_push (.int 100)) 16), (16, rx_ld 0 1 17), (17, rx_pure (rx_bi (fun x y => x * y)) 18), (18, rx_ld 0 3 19), (19, rx_pure (rx_bi (fun x y => x + y)) 20), (20, rx_ald 2 0 21), (21, rx_br (rx_cm0 Y 4) 27 24), (24, rx_inc 2 1 27 4), (27, rx_inc 3 1 30 4), (30, rx_br rx_goto 4 33), (33, rx_ld 0 2 34), (34, rx_retv .int 0 0)]
noncomputable def m_X10_fences (Y : rx_Y) : rx_M := (yX10_fences, cX10_fences, 4, (some .int), { frames := 0, cells := 0, slots := 0, locals := 0 }, p_X10_fences Y)
theorem hd_X10_fences : yX10_fences.cls ≠ "java/lang/invoke/MethodHandle" ∧ yX10_fences.cls ≠ "java/lang/invoke/VarHandle" ∧ (parseMethodDescriptor yX10_fences.desc).map (fun d => d.parameters.length) = some 1 := by decide +kernel
abbrev cX10_finite : ByteArray := prog_12_method_54_code
def yX10_finite : MethodName := ⟨"SeedBenchModel", "finite", "()I"⟩
theorem dX10_finite_0 : decode cX10_finite 0 = .ok (.aload_n 0, 1) := by decide +kernel
theorem dX10_finite_1 : decode cX10_finite 1 = .ok (.bipush 30, 2) := by decide +kernel
theorem dX10_finite_3 : decode cX10_finite 3 = .ok (.invokevirtual 260, 3) := by decide +kernel
theorem dX10_finite_6 : decode cX10_finite 6 = .ok (.aload_n 0, 1) := by decide +kernel
theorem dX10_finite_7 : decode cX10_finite 7 = .ok (.invokevirtual 296, 3) := by decide +kernel
theorem dX10_finite_10 : decode cX10_finite 10 = .ok (.istore_n 1, 1) := by decide +kernel
theorem dX10_finite_11 : decode cX10_finite 11 = .ok (.aload_n 0, 1) := by decide +kernel
theorem dX10_finite_12 : decode cX10_finite 12 = .ok (.bipush 30, 2) := by decide +kernel
theorem dX10_finite_14 : decode cX10_finite 14 = .ok (.invokevirtual 266, 3) := by decide +kernel
theorem dX10_finite_17 : decode cX10_finite 17 = .ok (.iload_n 1, 1) := by decide +kernel
theorem dX10_finite_18 : decode cX10_finite 18 = .ok (.ireturn, 1) := by decide +kernel
noncomputable def p_X10_finite (Y : rx_Y) : rx_P := [(0, rx_ld 2 0 1), (1, rx_pure (rx_push (.int 30)) 3), (3, rx_cl 138 2 10 true 0 0 0 0 6), (6, rx_ld 2 0 7), (7, rx_cl 139 1 10 true 0 0 0 0 10), (10, rx_st 0 1 11 2), (11, rx_ld 2 0 12), (12, rx_pure (rx_push (.int 30)) 14), (14, rx_cl 133 2 10 true 0 0 0 0 17), (17, rx_ld 0 1 18), (18, rx_retv .int 0 0)]
noncomputable def m_X10_finite (Y : rx_Y) : rx_M := (yX10_finite, cX10_finite, 2, (some .int), { frames := 3, cells := 0, slots := 0, locals := 73 }, p_X10_finite Y)
theorem hd_X10_finite : yX10_finite.cls ≠ "java/lang/invoke/MethodHandle" ∧ yX10_finite.cls ≠ "java/lang/invoke/VarHandle" ∧ (parseMethodDescriptor yX10_finite.desc).map (fun d => d.parameters.length) = some 0 := by decide +kernel
abbrev cX10_firsts : ByteArray := prog_12_method_14_code
def yX10_firsts : MethodName := ⟨"SeedBenchModel", "firsts", "()V"⟩
theorem dX10_firsts_0 : decode cX10_firsts 0 = .ok (.iconst 0, 1) := by decide +kernel
theorem dX10_firsts_1 : decode cX10_firsts 1 = .ok (.istore_n 1, 1) := by decide +kernel
theorem dX10_firsts_2 : decode cX10_firsts 2 = .ok (.iload_n 1, 1) := by decide +kernel
theorem dX10_firsts_3 : decode cX10_firsts 3 = .ok (.aload_n 0, 1) := by decide +kernel
theorem dX10_firsts_4 : decode cX10_firsts 4 = .ok (.getfield 132, 3) := by decide +kernel
theorem dX10_firsts_7 : decode cX10_firsts 7 = .ok (.if_icmp .ge 27, 3) := by decide +kernel
theorem dX10_firsts_10 : decode cX10_firsts 10 = .ok (.aload_n 0, 1) := by decide +kernel
theorem dX10_firsts_11 : decode cX10_firsts 11 = .ok (.iload_n 1, 1) := by decide +kernel
theorem dX10_firsts_12 : decode cX10_firsts 12 = .ok (.invokevirtual 175, 3) := by decide +kernel
theorem dX10_firsts_15 : decode cX10_firsts 15 = .ok (.aload_n 0, 1) := by decide +kernel
theorem dX10_firsts_16 : decode cX10_firsts 16 = .ok (.getfield 22, 3) := by decide +kernel
theorem dX10_firsts_19 : decode cX10_firsts 19 = .ok (.sipush 2400, 3) := by decide +kernel
theorem dX10_firsts_22 : decode cX10_firsts 22 = .ok (.iload_n 1, 1) := by decide +kernel
theorem dX10_firsts_23 : decode cX10_firsts 23 = .ok (.imul, 1) := by decide +kernel
theorem dX10_firsts_24 : decode cX10_firsts 24 = .ok (.iload_n 1, 1) := by decide +kernel
theorem dX10_firsts_25 : decode cX10_firsts 25 = .ok (.iadd, 1) := by decide +kernel
theorem dX10_firsts_26 : decode cX10_firsts 26 = .ok (.iconst 1, 1) := by decide +kernel
theorem dX10_firsts_27 : decode cX10_firsts 27 = .ok (.iastore, 1) := by decide +kernel
theorem dX10_firsts_28 : decode cX10_firsts 28 = .ok (.iinc 1 1, 3) := by decide +kernel
theorem dX10_firsts_31 : decode cX10_firsts 31 = .ok (.goto (-29), 3) := by decide +kernel
theorem dX10_firsts_34 : decode cX10_firsts 34 = .ok (.aload_n 0, 1) := by decide +kernel
theorem dX10_firsts_35 : decode cX10_firsts 35 = .ok (.iconst 0, 1) := by decide +kernel
theorem dX10_firsts_36 : decode cX10_firsts 36 = .ok (.putfield 178, 3) := by decide +kernel
theorem dX10_firsts_39 : decode cX10_firsts 39 = .ok (.aload_n 0, 1) := by decide +kernel
theorem dX10_firsts_40 : decode cX10_firsts 40 = .ok (.getfield 43, 3) := by decide +kernel
theorem dX10_firsts_43 : decode cX10_firsts 43 = .ok (.iconst 0, 1) := by decide +kernel
theorem dX10_firsts_44 : decode cX10_firsts 44 = .ok (.iconst 1, 1) := by decide +kernel
theorem dX10_firsts_45 : decode cX10_firsts 45 = .ok (.iastore, 1) := by decide +kernel
theorem dX10_firsts_46 : decode cX10_firsts 46 = .ok (.return_, 1) := by decide +kernel
noncomputable def p_X10_firsts (Y : rx_Y) : rx_P := [(0, rx_pure (rx_push (.int 0)) 1), (1, rx_st 0 1 2 2), (2, rx_ld 0 1 3), (3, rx_ld 2 0 4), (4, rx_get 10 7 7), (7, rx_br (rx_cmp Y 1) 34 10), (10, rx_ld 2 0 11), (11, rx_ld 0 1 12), (12, rx_cl 127 2 10 true 0 0 0 0 15), (15, rx_ld 2 0 16), (16, rx_get 10 3 19), (19, rx_pure (rx_push (.int 2400)) 22), (22, rx_ld 0 1 23), (23, rx_pure (rx_bi (fun x y => x * y)) 24), (24, rx_ld 0 1 25), (25, rx_pure (rx_bi (fun x y => x + y)) 26), (26, rx_pure (rx_push (.int 1)) 27), (27, rx_ast Y 0 .int 28), (28, rx_inc 1 1 31 2), (31, rx_br rx_goto 2 34), (34, rx_ld 2 0 35), (35, rx_pure (rx_push (.int 0)) 36), (36, rx_putf 10 10 .int 39), (39, rx_ld 2 0 40), (40, rx_get 10 17 43), (43, rx_pure (rx_push (.int 0)) 44), (44, rx_pure (rx_push (.int 1)) 45), (45, rx_ast Y 0 .int 46), (46, rx_ret0 0 0)]
noncomputable def m_X10_firsts (Y : rx_Y) : rx_M := (yX10_firsts, cX10_firsts, 2, none, { frames := 1, cells := 0, slots := 0, locals := 22 }, p_X10_firsts Y)
theorem hd_X10_firsts : yX10_firsts.cls ≠ "java/lang/invoke/MethodHandle" ∧ yX10_firsts.cls ≠ "java/lang/invoke/VarHandle" ∧ (parseMethodDescriptor yX10_firsts.desc).map (fun d => d.parameters.length) = some 0 := by decide +kernel
abbrev cX10_flip : ByteArray := prog_12_method_72_code
def yX10_flip : MethodName := ⟨"SeedBenchModel", "flip", "(III)I"⟩
theorem dX10_flip_0 : decode cX10_flip 0 = .ok (.aload_n 0, 1) := by decide +kernel
theorem dX10_flip_1 : decode cX10_flip 1 = .ok (.iload_n 1, 1) := by decide +kernel
theorem dX10_flip_2 : decode cX10_flip 2 = .ok (.invokevirtual 314, 3) := by decide +kernel
theorem dX10_flip_5 : decode cX10_flip 5 = .ok (.ifCond .eq 44, 3) := by decide +kernel
theorem dX10_flip_8 : decode cX10_flip 8 = .ok (.aload_n 0, 1) := by decide +kernel
theorem dX10_flip_9 : decode cX10_flip 9 = .ok (.iload_n 1, 1) := by decide +kernel
theorem dX10_flip_10 : decode cX10_flip 10 = .ok (.invokevirtual 338, 3) := by decide +kernel
theorem dX10_flip_13 : decode cX10_flip 13 = .ok (.ifCond .eq 36, 3) := by decide +kernel
theorem dX10_flip_49 : decode cX10_flip 49 = .ok (.iconst (-1), 1) := by decide +kernel
theorem dX10_flip_50 : decode cX10_flip 50 = .ok (.ireturn, 1) := by decide +kernel
noncomputable def p_X10_flip (Y : rx_Y) : rx_P := [(0, rx_ld 2 0 1), (1, rx_ld 0 1 2), (2, rx_cl 117 2 10 true 0 0 0 0 5), (5, rx_br (rx_cm0 Y 4) 49 8), (8, rx_ld 2 0 9), (9, rx_ld 0 1 10), (10, rx_cl 116 2 10 true 0 0 0 0 13), (13, rx_br (rx_cm0 Y 4) 49 16), (49, rx_pure (rx_push (.int (-1))) 50), (50, rx_retv .int 0 0)]
noncomputable def m_X10_flip (Y : rx_Y) : rx_M := (yX10_flip, cX10_flip, 5, (some .int), { frames := 2, cells := 0, slots := 0, locals := 44 }, p_X10_flip Y)
theorem hd_X10_flip : yX10_flip.cls ≠ "java/lang/invoke/MethodHandle" ∧ yX10_flip.cls ≠ "java/lang/invoke/VarHandle" ∧ (parseMethodDescriptor yX10_flip.desc).map (fun d => d.parameters.length) = some 3 := by decide +kernel
abbrev cX10_frieze : ByteArray := prog_12_method_76_code
def yX10_frieze : MethodName := ⟨"SeedBenchModel", "frieze", "(III)J"⟩
theorem dX10_frieze_0 : decode cX10_frieze 0 = .ok (.aload_n 0, 1) := by decide +kernel
theorem dX10_frieze_1 : decode cX10_frieze 1 = .ok (.iload_n 1, 1) := by decide +kernel
theorem dX10_frieze_2 : decode cX10_frieze 2 = .ok (.invokevirtual 314, 3) := by decide +kernel
theorem dX10_frieze_5 : decode cX10_frieze 5 = .ok (.ifCond .eq 42, 3) := by decide +kernel
theorem dX10_frieze_8 : decode cX10_frieze 8 = .ok (.aload_n 0, 1) := by decide +kernel
theorem dX10_frieze_9 : decode cX10_frieze 9 = .ok (.iload_n 1, 1) := by decide +kernel
theorem dX10_frieze_10 : decode cX10_frieze 10 = .ok (.invokevirtual 338, 3) := by decide +kernel
theorem dX10_frieze_13 : decode cX10_frieze 13 = .ok (.ifCond .eq 34, 3) := by decide +kernel
theorem dX10_frieze_47 : decode cX10_frieze 47 = .ok (.lconst 0, 1) := by decide +kernel
theorem dX10_frieze_48 : decode cX10_frieze 48 = .ok (.lreturn, 1) := by decide +kernel
noncomputable def p_X10_frieze (Y : rx_Y) : rx_P := [(0, rx_ld 2 0 1), (1, rx_ld 0 1 2), (2, rx_cl 117 2 10 true 0 0 0 0 5), (5, rx_br (rx_cm0 Y 4) 47 8), (8, rx_ld 2 0 9), (9, rx_ld 0 1 10), (10, rx_cl 116 2 10 true 0 0 0 0 13), (13, rx_br (rx_cm0 Y 4) 47 16), (47, rx_pure (rx_push (.long 0)) 48), (48, rx_retv .long 0 0)]
noncomputable def m_X10_frieze (Y : rx_Y) : rx_M := (yX10_frieze, cX10_frieze, 11, (some .long), { frames := 2, cells := 0, slots := 0, locals := 44 }, p_X10_frieze Y)
theorem hd_X10_frieze : yX10_frieze.cls ≠ "java/lang/invoke/MethodHandle" ∧ yX10_frieze.cls ≠ "java/lang/invoke/VarHandle" ∧ (parseMethodDescriptor yX10_frieze.desc).map (fun d => d.parameters.length) = some 3 := by decide +kernel
abbrev cX10_goes : ByteArray := prog_12_method_81_code
def yX10_goes : MethodName := ⟨"SeedBenchModel", "goes", "(I)I"⟩
theorem dX10_goes_0 : decode cX10_goes 0 = .ok (.iload_n 1, 1) := by decide +kernel
theorem dX10_goes_1 : decode cX10_goes 1 = .ok (.ifCond .lt 11, 3) := by decide +kernel
theorem dX10_goes_4 : decode cX10_goes 4 = .ok (.iload_n 1, 1) := by decide +kernel
theorem dX10_goes_5 : decode cX10_goes 5 = .ok (.aload_n 0, 1) := by decide +kernel
theorem dX10_goes_6 : decode cX10_goes 6 = .ok (.getfield 367, 3) := by decide +kernel
theorem dX10_goes_9 : decode cX10_goes 9 = .ok (.if_icmp .lt 7, 3) := by decide +kernel
theorem dX10_goes_12 : decode cX10_goes 12 = .ok (.iconst (-1), 1) := by decide +kernel
theorem dX10_goes_13 : decode cX10_goes 13 = .ok (.goto 9, 3) := by decide +kernel
theorem dX10_goes_22 : decode cX10_goes 22 = .ok (.ireturn, 1) := by decide +kernel
noncomputable def p_X10_goes (Y : rx_Y) : rx_P := [(0, rx_ld 0 1 1), (1, rx_br (rx_cm0 Y 0) 12 4), (4, rx_ld 0 1 5), (5, rx_ld 2 0 6), (6, rx_get 10 55 9), (9, rx_br (rx_cmp Y 0) 16 12), (12, rx_pure (rx_push (.int (-1))) 13), (13, rx_br rx_goto 22 16), (22, rx_retv .int 0 0)]
noncomputable def m_X10_goes (Y : rx_Y) : rx_M := (yX10_goes, cX10_goes, 2, (some .int), { frames := 0, cells := 0, slots := 0, locals := 0 }, p_X10_goes Y)
theorem hd_X10_goes : yX10_goes.cls ≠ "java/lang/invoke/MethodHandle" ∧ yX10_goes.cls ≠ "java/lang/invoke/VarHandle" ∧ (parseMethodDescriptor yX10_goes.desc).map (fun d => d.parameters.length) = some 1 := by decide +kernel
abbrev cX10_goesThrough : ByteArray := prog_12_method_47_code
def yX10_goesThrough : MethodName := ⟨"SeedBenchModel", "goesThrough", "()Z"⟩
theorem dX10_goesThrough_0 : decode cX10_goesThrough 0 = .ok (.aload_n 0, 1) := by decide +kernel
theorem dX10_goesThrough_1 : decode cX10_goesThrough 1 = .ok (.iconst 0, 1) := by decide +kernel
theorem dX10_goesThrough_2 : decode cX10_goesThrough 2 = .ok (.putfield 245, 3) := by decide +kernel
theorem dX10_goesThrough_5 : decode cX10_goesThrough 5 = .ok (.aload_n 0, 1) := by decide +kernel
theorem dX10_goesThrough_6 : decode cX10_goesThrough 6 = .ok (.iconst 0, 1) := by decide +kernel
theorem dX10_goesThrough_7 : decode cX10_goesThrough 7 = .ok (.putfield 242, 3) := by decide +kernel
theorem dX10_goesThrough_10 : decode cX10_goesThrough 10 = .ok (.iconst 0, 1) := by decide +kernel
theorem dX10_goesThrough_11 : decode cX10_goesThrough 11 = .ok (.istore_n 1, 1) := by decide +kernel
theorem dX10_goesThrough_12 : decode cX10_goesThrough 12 = .ok (.iload_n 1, 1) := by decide +kernel
theorem dX10_goesThrough_13 : decode cX10_goesThrough 13 = .ok (.aload_n 0, 1) := by decide +kernel
theorem dX10_goesThrough_14 : decode cX10_goesThrough 14 = .ok (.getfield 132, 3) := by decide +kernel
theorem dX10_goesThrough_17 : decode cX10_goesThrough 17 = .ok (.if_icmp .ge 20, 3) := by decide +kernel
theorem dX10_goesThrough_20 : decode cX10_goesThrough 20 = .ok (.aload_n 0, 1) := by decide +kernel
theorem dX10_goesThrough_21 : decode cX10_goesThrough 21 = .ok (.getfield 83, 3) := by decide +kernel
theorem dX10_goesThrough_24 : decode cX10_goesThrough 24 = .ok (.iload_n 1, 1) := by decide +kernel
theorem dX10_goesThrough_25 : decode cX10_goesThrough 25 = .ok (.aload_n 0, 1) := by decide +kernel
theorem dX10_goesThrough_26 : decode cX10_goesThrough 26 = .ok (.iload_n 1, 1) := by decide +kernel
theorem dX10_goesThrough_27 : decode cX10_goesThrough 27 = .ok (.invokevirtual 248, 3) := by decide +kernel
theorem dX10_goesThrough_30 : decode cX10_goesThrough 30 = .ok (.iastore, 1) := by decide +kernel
theorem dX10_goesThrough_31 : decode cX10_goesThrough 31 = .ok (.iinc 1 1, 3) := by decide +kernel
theorem dX10_goesThrough_34 : decode cX10_goesThrough 34 = .ok (.goto (-22), 3) := by decide +kernel
theorem dX10_goesThrough_37 : decode cX10_goesThrough 37 = .ok (.aload_n 0, 1) := by decide +kernel
theorem dX10_goesThrough_38 : decode cX10_goesThrough 38 = .ok (.invokevirtual 251, 3) := by decide +kernel
theorem dX10_goesThrough_41 : decode cX10_goesThrough 41 = .ok (.ifCond .ne 5, 3) := by decide +kernel
theorem dX10_goesThrough_46 : decode cX10_goesThrough 46 = .ok (.iconst 0, 1) := by decide +kernel
theorem dX10_goesThrough_47 : decode cX10_goesThrough 47 = .ok (.istore_n 1, 1) := by decide +kernel
theorem dX10_goesThrough_48 : decode cX10_goesThrough 48 = .ok (.iload_n 1, 1) := by decide +kernel
theorem dX10_goesThrough_49 : decode cX10_goesThrough 49 = .ok (.aload_n 0, 1) := by decide +kernel
theorem dX10_goesThrough_50 : decode cX10_goesThrough 50 = .ok (.getfield 245, 3) := by decide +kernel
theorem dX10_goesThrough_53 : decode cX10_goesThrough 53 = .ok (.if_icmp .ge 123, 3) := by decide +kernel
theorem dX10_goesThrough_56 : decode cX10_goesThrough 56 = .ok (.iconst 0, 1) := by decide +kernel
theorem dX10_goesThrough_57 : decode cX10_goesThrough 57 = .ok (.istore_n 2, 1) := by decide +kernel
theorem dX10_goesThrough_58 : decode cX10_goesThrough 58 = .ok (.iload_n 2, 1) := by decide +kernel
theorem dX10_goesThrough_59 : decode cX10_goesThrough 59 = .ok (.aload_n 0, 1) := by decide +kernel
theorem dX10_goesThrough_60 : decode cX10_goesThrough 60 = .ok (.getfield 132, 3) := by decide +kernel
theorem dX10_goesThrough_63 : decode cX10_goesThrough 63 = .ok (.if_icmp .ge 107, 3) := by decide +kernel
theorem dX10_goesThrough_66 : decode cX10_goesThrough 66 = .ok (.aload_n 0, 1) := by decide +kernel
theorem dX10_goesThrough_67 : decode cX10_goesThrough 67 = .ok (.iload_n 1, 1) := by decide +kernel
theorem dX10_goesThrough_68 : decode cX10_goesThrough 68 = .ok (.invokevirtual 254, 3) := by decide +kernel
theorem dX10_goesThrough_71 : decode cX10_goesThrough 71 = .ok (.aload_n 0, 1) := by decide +kernel
theorem dX10_goesThrough_72 : decode cX10_goesThrough 72 = .ok (.iload_n 2, 1) := by decide +kernel
theorem dX10_goesThrough_73 : decode cX10_goesThrough 73 = .ok (.invokevirtual 225, 3) := by decide +kernel
theorem dX10_goesThrough_76 : decode cX10_goesThrough 76 = .ok (.ifCond .ne 5, 3) := by decide +kernel
theorem dX10_goesThrough_81 : decode cX10_goesThrough 81 = .ok (.aload_n 0, 1) := by decide +kernel
theorem dX10_goesThrough_82 : decode cX10_goesThrough 82 = .ok (.getfield 242, 3) := by decide +kernel
theorem dX10_goesThrough_85 : decode cX10_goesThrough 85 = .ok (.istore_n 3, 1) := by decide +kernel
theorem dX10_goesThrough_86 : decode cX10_goesThrough 86 = .ok (.iconst 0, 1) := by decide +kernel
theorem dX10_goesThrough_87 : decode cX10_goesThrough 87 = .ok (.istore 4, 2) := by decide +kernel
theorem dX10_goesThrough_89 : decode cX10_goesThrough 89 = .ok (.iload 4, 2) := by decide +kernel
theorem dX10_goesThrough_91 : decode cX10_goesThrough 91 = .ok (.aload_n 0, 1) := by decide +kernel
theorem dX10_goesThrough_92 : decode cX10_goesThrough 92 = .ok (.getfield 132, 3) := by decide +kernel
theorem dX10_goesThrough_95 : decode cX10_goesThrough 95 = .ok (.if_icmp .ge 42, 3) := by decide +kernel
theorem dX10_goesThrough_98 : decode cX10_goesThrough 98 = .ok (.aload_n 0, 1) := by decide +kernel
theorem dX10_goesThrough_99 : decode cX10_goesThrough 99 = .ok (.getfield 83, 3) := by decide +kernel
theorem dX10_goesThrough_102 : decode cX10_goesThrough 102 = .ok (.iload 4, 2) := by decide +kernel
theorem dX10_goesThrough_104 : decode cX10_goesThrough 104 = .ok (.iload 4, 2) := by decide +kernel
theorem dX10_goesThrough_106 : decode cX10_goesThrough 106 = .ok (.iload_n 2, 1) := by decide +kernel
theorem dX10_goesThrough_107 : decode cX10_goesThrough 107 = .ok (.if_icmp .ne 11, 3) := by decide +kernel
theorem dX10_goesThrough_110 : decode cX10_goesThrough 110 = .ok (.aload_n 0, 1) := by decide +kernel
theorem dX10_goesThrough_111 : decode cX10_goesThrough 111 = .ok (.iload_n 2, 1) := by decide +kernel
theorem dX10_goesThrough_112 : decode cX10_goesThrough 112 = .ok (.invokevirtual 248, 3) := by decide +kernel
theorem dX10_goesThrough_115 : decode cX10_goesThrough 115 = .ok (.goto 15, 3) := by decide +kernel
theorem dX10_goesThrough_130 : decode cX10_goesThrough 130 = .ok (.iastore, 1) := by decide +kernel
theorem dX10_goesThrough_131 : decode cX10_goesThrough 131 = .ok (.iinc 4 1, 3) := by decide +kernel
theorem dX10_goesThrough_134 : decode cX10_goesThrough 134 = .ok (.goto (-45), 3) := by decide +kernel
theorem dX10_goesThrough_137 : decode cX10_goesThrough 137 = .ok (.aload_n 0, 1) := by decide +kernel
theorem dX10_goesThrough_138 : decode cX10_goesThrough 138 = .ok (.getfield 242, 3) := by decide +kernel
theorem dX10_goesThrough_141 : decode cX10_goesThrough 141 = .ok (.iload_n 3, 1) := by decide +kernel
theorem dX10_goesThrough_142 : decode cX10_goesThrough 142 = .ok (.if_icmp .ne 13, 3) := by decide +kernel
theorem dX10_goesThrough_145 : decode cX10_goesThrough 145 = .ok (.aload_n 0, 1) := by decide +kernel
theorem dX10_goesThrough_146 : decode cX10_goesThrough 146 = .ok (.invokevirtual 257, 3) := by decide +kernel
theorem dX10_goesThrough_149 : decode cX10_goesThrough 149 = .ok (.ifCond .eq 6, 3) := by decide +kernel
theorem dX10_goesThrough_152 : decode cX10_goesThrough 152 = .ok (.goto 12, 3) := by decide +kernel
theorem dX10_goesThrough_155 : decode cX10_goesThrough 155 = .ok (.aload_n 0, 1) := by decide +kernel
theorem dX10_goesThrough_156 : decode cX10_goesThrough 156 = .ok (.invokevirtual 251, 3) := by decide +kernel
theorem dX10_goesThrough_159 : decode cX10_goesThrough 159 = .ok (.ifCond .ne 5, 3) := by decide +kernel
theorem dX10_goesThrough_164 : decode cX10_goesThrough 164 = .ok (.iinc 2 1, 3) := by decide +kernel
theorem dX10_goesThrough_167 : decode cX10_goesThrough 167 = .ok (.goto (-109), 3) := by decide +kernel
theorem dX10_goesThrough_170 : decode cX10_goesThrough 170 = .ok (.iinc 1 1, 3) := by decide +kernel
theorem dX10_goesThrough_173 : decode cX10_goesThrough 173 = .ok (.goto (-125), 3) := by decide +kernel
theorem dX10_goesThrough_176 : decode cX10_goesThrough 176 = .ok (.iconst 1, 1) := by decide +kernel
theorem dX10_goesThrough_177 : decode cX10_goesThrough 177 = .ok (.ireturn, 1) := by decide +kernel
noncomputable def p_X10_goesThrough (Y : rx_Y) : rx_P := [(0, rx_ld 2 0 1), (1, rx_pure (rx_push (.int 0)) 2), (2, rx_putf 10 24 .int 5), (5, rx_ld 2 0 6), (6, rx_pure (rx_push (.int 0)) 7), (7, rx_putf 10 26 .int 10), (10, rx_pure (rx_push (.int 0)) 11), (11, rx_st 0 1 12 5), (12, rx_ld 0 1 13), (13, rx_ld 2 0 14), (14, rx_get 10 7 17), (17, rx_br (rx_cmp Y 1) 37 20), (20, rx_ld 2 0 21), (21, rx_get 10 35 24), (24, rx_ld 0 1 25), (25, rx_ld 2 0 26), (26, rx_ld 0 1 27), (27, rx_cl 126 2 10 true 0 0 0 0 30), (30, rx_ast Y 0 .int 31), (31, rx_inc 1 1 34 5), (34, rx_br rx_goto 12 37), (37, rx_ld 2 0 38), (38, rx_cl 103 1 10 true 0 0 0 0 41), (41, rx_br (rx_cm0 Y 5) 46 44), (46, rx_pure (rx_push (.int 0)) 47), (47, rx_st 0 1 48 5), (48, rx_ld 0 1 49), (49, rx_ld 2 0 50), (50, rx_get 10 24 53), (53, rx_br (rx_cmp Y 1) 176 56), (56, rx_pure (rx_push (.int 0)) 57), (57, rx_st 0 2 58 5), (58, rx_ld 0 2 59), (59, rx_ld 2 0 60), (60, rx_get 10 7 63), (63, rx_br (rx_cmp Y 1) 170 66), (66, rx_ld 2 0 67), (67, rx_ld 0 1 68), (68, rx_cl 147 2 10 true 0 0 0 0 71), (71, rx_ld 2 0 72), (72, rx_ld 0 2 73), (73, rx_cl 154 2 10 true 0 0 0 0 76), (76, rx_br (rx_cm0 Y 5) 81 79), (81, rx_ld 2 0 82), (82, rx_get 10 26 85), (85, rx_st 0 3 86 5), (86, rx_pure (rx_push (.int 0)) 87), (87, rx_st 0 4 89 5), (89, rx_ld 0 4 91), (91, rx_ld 2 0 92), (92, rx_get 10 7 95), (95, rx_br (rx_cmp Y 1) 137 98), (98, rx_ld 2 0 99), (99, rx_get 10 35 102), (102, rx_ld 0 4 104), (104, rx_ld 0 4 106), (106, rx_ld 0 2 107), (107, rx_br (rx_cmp Y 5) 118 110), (110, rx_ld 2 0 111), (111, rx_ld 0 2 112), (112, rx_cl 126 2 10 true 0 0 0 0 115), (115, rx_br rx_goto 130 118), (130, rx_ast Y 0 .int 131), (131, rx_inc 4 1 134 5), (134, rx_br rx_goto 89 137), (137, rx_ld 2 0 138), (138, rx_get 10 26 141), (141, rx_ld 0 3 142), (142, rx_br (rx_cmp Y 5) 155 145), (145, rx_ld 2 0 146), (146, rx_cl 119 1 10 true 0 0 0 0 149), (149, rx_br (rx_cm0 Y 4) 155 152), (152, rx_br rx_goto 164 155), (155, rx_ld 2 0 156), (156, rx_cl 103 1 10 true 0 0 0 0 159), (159, rx_br (rx_cm0 Y 5) 164 162), (164, rx_inc 2 1 167 5), (167, rx_br rx_goto 58 170), (170, rx_inc 1 1 173 5), (173, rx_br rx_goto 48 176), (176, rx_pure (rx_push (.int 1)) 177), (177, rx_retv .boolean 0 0)]
noncomputable def m_X10_goesThrough (Y : rx_Y) : rx_M := (yX10_goesThrough, cX10_goesThrough, 5, (some .boolean), { frames := 4, cells := 0, slots := 0, locals := 101 }, p_X10_goesThrough Y)
theorem hd_X10_goesThrough : yX10_goesThrough.cls ≠ "java/lang/invoke/MethodHandle" ∧ yX10_goesThrough.cls ≠ "java/lang/invoke/VarHandle" ∧ (parseMethodDescriptor yX10_goesThrough.desc).map (fun d => d.parameters.length) = some 0 := by decide +kernel
abbrev cX10_greater : ByteArray := prog_12_method_19_code
def yX10_greater : MethodName := ⟨"SeedBenchModel", "greater", "(II)I"⟩
theorem dX10_greater_0 : decode cX10_greater 0 = .ok (.iload_n 0, 1) := by decide +kernel
theorem dX10_greater_1 : decode cX10_greater 1 = .ok (.iload_n 1, 1) := by decide +kernel
theorem dX10_greater_2 : decode cX10_greater 2 = .ok (.if_icmp .le 7, 3) := by decide +kernel
theorem dX10_greater_5 : decode cX10_greater 5 = .ok (.iload_n 0, 1) := by decide +kernel
theorem dX10_greater_6 : decode cX10_greater 6 = .ok (.goto 4, 3) := by decide +kernel
theorem dX10_greater_9 : decode cX10_greater 9 = .ok (.iload_n 1, 1) := by decide +kernel
theorem dX10_greater_10 : decode cX10_greater 10 = .ok (.ireturn, 1) := by decide +kernel
noncomputable def p_X10_greater (Y : rx_Y) : rx_P := [(0, rx_ld 0 0 1), (1, rx_ld 0 1 2), (2, rx_br (rx_cmp Y 3) 9 5), (5, rx_ld 0 0 6), (6, rx_br rx_goto 10 9), (9, rx_ld 0 1 10), (10, rx_retv .int 0 0)]
noncomputable def m_X10_greater (Y : rx_Y) : rx_M := (yX10_greater, cX10_greater, 2, (some .int), { frames := 0, cells := 0, slots := 0, locals := 0 }, p_X10_greater Y)
theorem hd_X10_greater : yX10_greater.cls ≠ "java/lang/invoke/MethodHandle" ∧ yX10_greater.cls ≠ "java/lang/invoke/VarHandle" ∧ (parseMethodDescriptor yX10_greater.desc).map (fun d => d.parameters.length) = some 2 := by decide +kernel
abbrev cX10_init : ByteArray := prog_12_method_2_code
def yX10_init : MethodName := ⟨"SeedBenchModel", "<init>", "()V"⟩
theorem dX10_init_0 : decode cX10_init 0 = .ok (.aload_n 0, 1) := by decide +kernel
theorem dX10_init_1 : decode cX10_init 1 = .ok (.invokespecial 7, 3) := by decide +kernel
theorem dX10_init_4 : decode cX10_init 4 = .ok (.aload_n 0, 1) := by decide +kernel
theorem dX10_init_5 : decode cX10_init 5 = .ok (.sipush 152, 3) := by decide +kernel
theorem dX10_init_8 : decode cX10_init 8 = .ok (.newarray .int, 2) := by decide +kernel
theorem dX10_init_10 : decode cX10_init 10 = .ok (.putfield 13, 3) := by decide +kernel
theorem dX10_init_13 : decode cX10_init 13 = .ok (.aload_n 0, 1) := by decide +kernel
theorem dX10_init_14 : decode cX10_init 14 = .ok (.sipush 30400, 3) := by decide +kernel
theorem dX10_init_17 : decode cX10_init 17 = .ok (.newarray .long, 2) := by decide +kernel
theorem dX10_init_19 : decode cX10_init 19 = .ok (.putfield 17, 3) := by decide +kernel
theorem dX10_init_22 : decode cX10_init 22 = .ok (.aload_n 0, 1) := by decide +kernel
theorem dX10_init_23 : decode cX10_init 23 = .ok (.ldc 21, 2) := by decide +kernel
theorem dX10_init_25 : decode cX10_init 25 = .ok (.newarray .int, 2) := by decide +kernel
theorem dX10_init_27 : decode cX10_init 27 = .ok (.putfield 22, 3) := by decide +kernel
theorem dX10_init_30 : decode cX10_init 30 = .ok (.aload_n 0, 1) := by decide +kernel
theorem dX10_init_31 : decode cX10_init 31 = .ok (.bipush 12, 2) := by decide +kernel
theorem dX10_init_33 : decode cX10_init 33 = .ok (.newarray .int, 2) := by decide +kernel
theorem dX10_init_35 : decode cX10_init 35 = .ok (.putfield 25, 3) := by decide +kernel
theorem dX10_init_38 : decode cX10_init 38 = .ok (.aload_n 0, 1) := by decide +kernel
theorem dX10_init_39 : decode cX10_init 39 = .ok (.bipush 72, 2) := by decide +kernel
theorem dX10_init_41 : decode cX10_init 41 = .ok (.newarray .int, 2) := by decide +kernel
theorem dX10_init_43 : decode cX10_init 43 = .ok (.putfield 28, 3) := by decide +kernel
theorem dX10_init_46 : decode cX10_init 46 = .ok (.aload_n 0, 1) := by decide +kernel
theorem dX10_init_47 : decode cX10_init 47 = .ok (.bipush 101, 2) := by decide +kernel
theorem dX10_init_49 : decode cX10_init 49 = .ok (.newarray .int, 2) := by decide +kernel
theorem dX10_init_51 : decode cX10_init 51 = .ok (.putfield 31, 3) := by decide +kernel
theorem dX10_init_54 : decode cX10_init 54 = .ok (.aload_n 0, 1) := by decide +kernel
theorem dX10_init_55 : decode cX10_init 55 = .ok (.bipush 72, 2) := by decide +kernel
theorem dX10_init_57 : decode cX10_init 57 = .ok (.newarray .int, 2) := by decide +kernel
theorem dX10_init_59 : decode cX10_init 59 = .ok (.putfield 34, 3) := by decide +kernel
theorem dX10_init_62 : decode cX10_init 62 = .ok (.aload_n 0, 1) := by decide +kernel
theorem dX10_init_63 : decode cX10_init 63 = .ok (.bipush 6, 2) := by decide +kernel
theorem dX10_init_65 : decode cX10_init 65 = .ok (.newarray .long, 2) := by decide +kernel
theorem dX10_init_67 : decode cX10_init 67 = .ok (.putfield 37, 3) := by decide +kernel
theorem dX10_init_70 : decode cX10_init 70 = .ok (.aload_n 0, 1) := by decide +kernel
theorem dX10_init_71 : decode cX10_init 71 = .ok (.bipush 6, 2) := by decide +kernel
theorem dX10_init_73 : decode cX10_init 73 = .ok (.newarray .long, 2) := by decide +kernel
theorem dX10_init_75 : decode cX10_init 75 = .ok (.putfield 40, 3) := by decide +kernel
theorem dX10_init_78 : decode cX10_init 78 = .ok (.aload_n 0, 1) := by decide +kernel
theorem dX10_init_79 : decode cX10_init 79 = .ok (.bipush 6, 2) := by decide +kernel
theorem dX10_init_81 : decode cX10_init 81 = .ok (.newarray .int, 2) := by decide +kernel
theorem dX10_init_83 : decode cX10_init 83 = .ok (.putfield 43, 3) := by decide +kernel
theorem dX10_init_86 : decode cX10_init 86 = .ok (.aload_n 0, 1) := by decide +kernel
theorem dX10_init_87 : decode cX10_init 87 = .ok (.bipush 6, 2) := by decide +kernel
theorem dX10_init_89 : decode cX10_init 89 = .ok (.newarray .boolean, 2) := by decide +kernel
theorem dX10_init_91 : decode cX10_init 91 = .ok (.putfield 46, 3) := by decide +kernel
theorem dX10_init_94 : decode cX10_init 94 = .ok (.aload_n 0, 1) := by decide +kernel
theorem dX10_init_95 : decode cX10_init 95 = .ok (.bipush 72, 2) := by decide +kernel
theorem dX10_init_97 : decode cX10_init 97 = .ok (.newarray .int, 2) := by decide +kernel
theorem dX10_init_99 : decode cX10_init 99 = .ok (.putfield 50, 3) := by decide +kernel
theorem dX10_init_102 : decode cX10_init 102 = .ok (.aload_n 0, 1) := by decide +kernel
theorem dX10_init_103 : decode cX10_init 103 = .ok (.iconst 4, 1) := by decide +kernel
theorem dX10_init_104 : decode cX10_init 104 = .ok (.newarray .int, 2) := by decide +kernel
theorem dX10_init_106 : decode cX10_init 106 = .ok (.putfield 53, 3) := by decide +kernel
theorem dX10_init_109 : decode cX10_init 109 = .ok (.aload_n 0, 1) := by decide +kernel
theorem dX10_init_110 : decode cX10_init 110 = .ok (.iconst 4, 1) := by decide +kernel
theorem dX10_init_111 : decode cX10_init 111 = .ok (.newarray .int, 2) := by decide +kernel
theorem dX10_init_113 : decode cX10_init 113 = .ok (.putfield 56, 3) := by decide +kernel
theorem dX10_init_116 : decode cX10_init 116 = .ok (.aload_n 0, 1) := by decide +kernel
theorem dX10_init_117 : decode cX10_init 117 = .ok (.sipush 288, 3) := by decide +kernel
theorem dX10_init_120 : decode cX10_init 120 = .ok (.newarray .int, 2) := by decide +kernel
theorem dX10_init_122 : decode cX10_init 122 = .ok (.putfield 59, 3) := by decide +kernel
theorem dX10_init_125 : decode cX10_init 125 = .ok (.aload_n 0, 1) := by decide +kernel
theorem dX10_init_126 : decode cX10_init 126 = .ok (.bipush 6, 2) := by decide +kernel
theorem dX10_init_128 : decode cX10_init 128 = .ok (.newarray .int, 2) := by decide +kernel
theorem dX10_init_130 : decode cX10_init 130 = .ok (.putfield 62, 3) := by decide +kernel
theorem dX10_init_133 : decode cX10_init 133 = .ok (.aload_n 0, 1) := by decide +kernel
theorem dX10_init_134 : decode cX10_init 134 = .ok (.sipush 900, 3) := by decide +kernel
theorem dX10_init_137 : decode cX10_init 137 = .ok (.newarray .int, 2) := by decide +kernel
theorem dX10_init_139 : decode cX10_init 139 = .ok (.putfield 65, 3) := by decide +kernel
theorem dX10_init_142 : decode cX10_init 142 = .ok (.aload_n 0, 1) := by decide +kernel
theorem dX10_init_143 : decode cX10_init 143 = .ok (.sipush 10800, 3) := by decide +kernel
theorem dX10_init_146 : decode cX10_init 146 = .ok (.newarray .int, 2) := by decide +kernel
theorem dX10_init_148 : decode cX10_init 148 = .ok (.putfield 68, 3) := by decide +kernel
theorem dX10_init_151 : decode cX10_init 151 = .ok (.aload_n 0, 1) := by decide +kernel
theorem dX10_init_152 : decode cX10_init 152 = .ok (.bipush 100, 2) := by decide +kernel
theorem dX10_init_154 : decode cX10_init 154 = .ok (.newarray .int, 2) := by decide +kernel
theorem dX10_init_156 : decode cX10_init 156 = .ok (.putfield 71, 3) := by decide +kernel
theorem dX10_init_159 : decode cX10_init 159 = .ok (.aload_n 0, 1) := by decide +kernel
theorem dX10_init_160 : decode cX10_init 160 = .ok (.bipush 100, 2) := by decide +kernel
theorem dX10_init_162 : decode cX10_init 162 = .ok (.newarray .long, 2) := by decide +kernel
theorem dX10_init_164 : decode cX10_init 164 = .ok (.putfield 74, 3) := by decide +kernel
theorem dX10_init_167 : decode cX10_init 167 = .ok (.aload_n 0, 1) := by decide +kernel
theorem dX10_init_168 : decode cX10_init 168 = .ok (.sipush 1200, 3) := by decide +kernel
theorem dX10_init_171 : decode cX10_init 171 = .ok (.newarray .int, 2) := by decide +kernel
theorem dX10_init_173 : decode cX10_init 173 = .ok (.putfield 77, 3) := by decide +kernel
theorem dX10_init_176 : decode cX10_init 176 = .ok (.aload_n 0, 1) := by decide +kernel
theorem dX10_init_177 : decode cX10_init 177 = .ok (.bipush 72, 2) := by decide +kernel
theorem dX10_init_179 : decode cX10_init 179 = .ok (.newarray .int, 2) := by decide +kernel
theorem dX10_init_181 : decode cX10_init 181 = .ok (.putfield 80, 3) := by decide +kernel
theorem dX10_init_184 : decode cX10_init 184 = .ok (.aload_n 0, 1) := by decide +kernel
theorem dX10_init_185 : decode cX10_init 185 = .ok (.bipush 6, 2) := by decide +kernel
theorem dX10_init_187 : decode cX10_init 187 = .ok (.newarray .int, 2) := by decide +kernel
theorem dX10_init_189 : decode cX10_init 189 = .ok (.putfield 83, 3) := by decide +kernel
theorem dX10_init_192 : decode cX10_init 192 = .ok (.aload_n 0, 1) := by decide +kernel
theorem dX10_init_193 : decode cX10_init 193 = .ok (.ldc 86, 2) := by decide +kernel
theorem dX10_init_195 : decode cX10_init 195 = .ok (.newarray .int, 2) := by decide +kernel
theorem dX10_init_197 : decode cX10_init 197 = .ok (.putfield 87, 3) := by decide +kernel
theorem dX10_init_200 : decode cX10_init 200 = .ok (.aload_n 0, 1) := by decide +kernel
theorem dX10_init_201 : decode cX10_init 201 = .ok (.sipush 3000, 3) := by decide +kernel
theorem dX10_init_204 : decode cX10_init 204 = .ok (.newarray .int, 2) := by decide +kernel
theorem dX10_init_206 : decode cX10_init 206 = .ok (.putfield 90, 3) := by decide +kernel
theorem dX10_init_209 : decode cX10_init 209 = .ok (.aload_n 0, 1) := by decide +kernel
theorem dX10_init_210 : decode cX10_init 210 = .ok (.sipush 3000, 3) := by decide +kernel
theorem dX10_init_213 : decode cX10_init 213 = .ok (.newarray .int, 2) := by decide +kernel
theorem dX10_init_215 : decode cX10_init 215 = .ok (.putfield 93, 3) := by decide +kernel
theorem dX10_init_218 : decode cX10_init 218 = .ok (.aload_n 0, 1) := by decide +kernel
theorem dX10_init_219 : decode cX10_init 219 = .ok (.sipush 3001, 3) := by decide +kernel
theorem dX10_init_222 : decode cX10_init 222 = .ok (.newarray .int, 2) := by decide +kernel
theorem dX10_init_224 : decode cX10_init 224 = .ok (.putfield 96, 3) := by decide +kernel
theorem dX10_init_227 : decode cX10_init 227 = .ok (.aload_n 0, 1) := by decide +kernel
theorem dX10_init_228 : decode cX10_init 228 = .ok (.sipush 4096, 3) := by decide +kernel
theorem dX10_init_231 : decode cX10_init 231 = .ok (.newarray .int, 2) := by decide +kernel
theorem dX10_init_233 : decode cX10_init 233 = .ok (.putfield 99, 3) := by decide +kernel
theorem dX10_init_236 : decode cX10_init 236 = .ok (.aload_n 0, 1) := by decide +kernel
theorem dX10_init_237 : decode cX10_init 237 = .ok (.sipush 3000, 3) := by decide +kernel
theorem dX10_init_240 : decode cX10_init 240 = .ok (.newarray .int, 2) := by decide +kernel
theorem dX10_init_242 : decode cX10_init 242 = .ok (.putfield 102, 3) := by decide +kernel
theorem dX10_init_245 : decode cX10_init 245 = .ok (.aload_n 0, 1) := by decide +kernel
theorem dX10_init_246 : decode cX10_init 246 = .ok (.bipush 12, 2) := by decide +kernel
theorem dX10_init_248 : decode cX10_init 248 = .ok (.newarray .int, 2) := by decide +kernel
theorem dX10_init_250 : decode cX10_init 250 = .ok (.putfield 105, 3) := by decide +kernel
theorem dX10_init_253 : decode cX10_init 253 = .ok (.aload_n 0, 1) := by decide +kernel
theorem dX10_init_254 : decode cX10_init 254 = .ok (.iconst 2, 1) := by decide +kernel
theorem dX10_init_255 : decode cX10_init 255 = .ok (.newarray .int, 2) := by decide +kernel
theorem dX10_init_257 : decode cX10_init 257 = .ok (.putfield 108, 3) := by decide +kernel
theorem dX10_init_260 : decode cX10_init 260 = .ok (.aload_n 0, 1) := by decide +kernel
theorem dX10_init_261 : decode cX10_init 261 = .ok (.sipush 200, 3) := by decide +kernel
theorem dX10_init_264 : decode cX10_init 264 = .ok (.newarray .boolean, 2) := by decide +kernel
theorem dX10_init_266 : decode cX10_init 266 = .ok (.putfield 111, 3) := by decide +kernel
theorem dX10_init_269 : decode cX10_init 269 = .ok (.aload_n 0, 1) := by decide +kernel
theorem dX10_init_270 : decode cX10_init 270 = .ok (.bipush 100, 2) := by decide +kernel
theorem dX10_init_272 : decode cX10_init 272 = .ok (.newarray .int, 2) := by decide +kernel
theorem dX10_init_274 : decode cX10_init 274 = .ok (.putfield 114, 3) := by decide +kernel
theorem dX10_init_277 : decode cX10_init 277 = .ok (.aload_n 0, 1) := by decide +kernel
theorem dX10_init_278 : decode cX10_init 278 = .ok (.bipush 35, 2) := by decide +kernel
theorem dX10_init_280 : decode cX10_init 280 = .ok (.newarray .int, 2) := by decide +kernel
theorem dX10_init_282 : decode cX10_init 282 = .ok (.putfield 117, 3) := by decide +kernel
theorem dX10_init_285 : decode cX10_init 285 = .ok (.aload_n 0, 1) := by decide +kernel
theorem dX10_init_286 : decode cX10_init 286 = .ok (.sipush 1430, 3) := by decide +kernel
theorem dX10_init_289 : decode cX10_init 289 = .ok (.newarray .long, 2) := by decide +kernel
theorem dX10_init_291 : decode cX10_init 291 = .ok (.putfield 120, 3) := by decide +kernel
theorem dX10_init_294 : decode cX10_init 294 = .ok (.aload_n 0, 1) := by decide +kernel
theorem dX10_init_295 : decode cX10_init 295 = .ok (.sipush 1430, 3) := by decide +kernel
theorem dX10_init_298 : decode cX10_init 298 = .ok (.newarray .int, 2) := by decide +kernel
theorem dX10_init_300 : decode cX10_init 300 = .ok (.putfield 123, 3) := by decide +kernel
theorem dX10_init_303 : decode cX10_init 303 = .ok (.aload_n 0, 1) := by decide +kernel
theorem dX10_init_304 : decode cX10_init 304 = .ok (.bipush 64, 2) := by decide +kernel
theorem dX10_init_306 : decode cX10_init 306 = .ok (.newarray .int, 2) := by decide +kernel
theorem dX10_init_308 : decode cX10_init 308 = .ok (.putfield 126, 3) := by decide +kernel
theorem dX10_init_311 : decode cX10_init 311 = .ok (.aload_n 0, 1) := by decide +kernel
theorem dX10_init_312 : decode cX10_init 312 = .ok (.sipush 200, 3) := by decide +kernel
theorem dX10_init_315 : decode cX10_init 315 = .ok (.newarray .boolean, 2) := by decide +kernel
theorem dX10_init_317 : decode cX10_init 317 = .ok (.putfield 129, 3) := by decide +kernel
theorem dX10_init_320 : decode cX10_init 320 = .ok (.aload_n 0, 1) := by decide +kernel
theorem dX10_init_321 : decode cX10_init 321 = .ok (.iconst 1, 1) := by decide +kernel
theorem dX10_init_322 : decode cX10_init 322 = .ok (.putfield 132, 3) := by decide +kernel
theorem dX10_init_325 : decode cX10_init 325 = .ok (.aload_n 0, 1) := by decide +kernel
theorem dX10_init_326 : decode cX10_init 326 = .ok (.invokevirtual 135, 3) := by decide +kernel
theorem dX10_init_329 : decode cX10_init 329 = .ok (.aload_n 0, 1) := by decide +kernel
theorem dX10_init_330 : decode cX10_init 330 = .ok (.getfield 108, 3) := by decide +kernel
theorem dX10_init_333 : decode cX10_init 333 = .ok (.iconst 0, 1) := by decide +kernel
theorem dX10_init_334 : decode cX10_init 334 = .ok (.iconst 4, 1) := by decide +kernel
theorem dX10_init_335 : decode cX10_init 335 = .ok (.iastore, 1) := by decide +kernel
theorem dX10_init_336 : decode cX10_init 336 = .ok (.aload_n 0, 1) := by decide +kernel
theorem dX10_init_337 : decode cX10_init 337 = .ok (.getfield 108, 3) := by decide +kernel
theorem dX10_init_340 : decode cX10_init 340 = .ok (.iconst 1, 1) := by decide +kernel
theorem dX10_init_341 : decode cX10_init 341 = .ok (.iconst 4, 1) := by decide +kernel
theorem dX10_init_342 : decode cX10_init 342 = .ok (.iastore, 1) := by decide +kernel
theorem dX10_init_343 : decode cX10_init 343 = .ok (.return_, 1) := by decide +kernel
noncomputable def p_X10_init (Y : rx_Y) : rx_P := [(0, rx_ld 2 0 1), (1, rx_obj 43 4), (4, rx_ld 2 0 5), (5, rx_pure (rx_push (.int 152)) 8), (8, rx_nwa 0 38 536755 10), (10, rx_putf 10 1 (.array .int) 13), (13, rx_ld 2 0 14), (14, rx_pure (rx_push (.int 30400)) 17), (17, rx_nwa 1 38 536755 19), (19, rx_putf 10 2 (.array .long) 22), (22, rx_ld 2 0 23), (23, rx_con (.int 364800) 25), (25, rx_nwa 0 38 536755 27), (27, rx_putf 10 3 (.array .int) 30), (30, rx_ld 2 0 31), (31, rx_pure (rx_push (.int 12)) 33), (33, rx_nwa 0 38 536755 35), (35, rx_putf 10 6 (.array .int) 38), (38, rx_ld 2 0 39), (39, rx_pure (rx_push (.int 72)) 41), (41, rx_nwa 0 38 536755 43), (43, rx_putf 10 9 (.array .int) 46), (46, rx_ld 2 0 47), (47, rx_pure (rx_push (.int 101)) 49), (49, rx_nwa 0 38 536755 51), (51, rx_putf 10 11 (.array .int) 54), (54, rx_ld 2 0 55), (55, rx_pure (rx_push (.int 72)) 57), (57, rx_nwa 0 38 536755 59), (59, rx_putf 10 14 (.array .int) 62), (62, rx_ld 2 0 63), (63, rx_pure (rx_push (.int 6)) 65), (65, rx_nwa 1 38 536755 67), (67, rx_putf 10 15 (.array .long) 70), (70, rx_ld 2 0 71), (71, rx_pure (rx_push (.int 6)) 73), (73, rx_nwa 1 38 536755 75), (75, rx_putf 10 16 (.array .long) 78), (78, rx_ld 2 0 79), (79, rx_pure (rx_push (.int 6)) 81), (81, rx_nwa 0 38 536755 83), (83, rx_putf 10 17 (.array .int) 86), (86, rx_ld 2 0 87), (87, rx_pure (rx_push (.int 6)) 89), (89, rx_nwa 2 38 536755 91), (91, rx_putf 10 18 (.array .boolean) 94), (94, rx_ld 2 0 95), (95, rx_pure (rx_push (.int 72)) 97), (97, rx_nwa 0 38 536755 99), (99, rx_putf 10 19 (.array .int) 102), (102, rx_ld 2 0 103), (103, rx_pure (rx_push (.int 4)) 104), (104, rx_nwa 0 38 536755 106), (106, rx_putf 10 20 (.array .int) 109), (109, rx_ld 2 0 110), (110, rx_pure (rx_push (.int 4)) 111), (111, rx_nwa 0 38 536755 113), (113, rx_putf 10 21 (.array .int) 116), (116, rx_ld 2 0 117), (117, rx_pure (rx_push (.int 288)) 120), (120, rx_nwa 0 38 536755 122), (122, rx_putf 10 22 (.array .int) 125), (125, rx_ld 2 0 126), (126, rx_pure (rx_push (.int 6)) 128), (128, rx_nwa 0 38 536755 130), (130, rx_putf 10 23 (.array .int) 133), (133, rx_ld 2 0 134), (134, rx_pure (rx_push (.int 900)) 137), (137, rx_nwa 0 38 536755 139), (139, rx_putf 10 27 (.array .int) 142), (142, rx_ld 2 0 143), (143, rx_pure (rx_push (.int 10800)) 146), (146, rx_nwa 0 38 536755 148), (148, rx_putf 10 28 (.array .int) 151), (151, rx_ld 2 0 152), (152, rx_pure (rx_push (.int 100)) 154), (154, rx_nwa 0 38 536755 156), (156, rx_putf 10 31 (.array .int) 159), (159, rx_ld 2 0 160), (160, rx_pure (rx_push (.int 100)) 162), (162, rx_nwa 1 38 536755 164), (164, rx_putf 10 32 (.array .long) 167), (167, rx_ld 2 0 168), (168, rx_pure (rx_push (.int 1200)) 171), (171, rx_nwa 0 38 536755 173), (173, rx_putf 10 33 (.array .int) 176), (176, rx_ld 2 0 177), (177, rx_pure (rx_push (.int 72)) 179), (179, rx_nwa 0 38 536755 181), (181, rx_putf 10 34 (.array .int) 184), (184, rx_ld 2 0 185), (185, rx_pure (rx_push (.int 6)) 187), (187, rx_nwa 0 38 536755 189), (189, rx_putf 10 35 (.array .int) 192), (192, rx_ld 2 0 193), (193, rx_con (.int 108000) 195), (195, rx_nwa 0 38 536755 197), (197, rx_putf 10 37 (.array .int) 200), (200, rx_ld 2 0 201), (201, rx_pure (rx_push (.int 3000)) 204), (204, rx_nwa 0 38 536755 206), (206, rx_putf 10 38 (.array .int) 209), (209, rx_ld 2 0 210), (210, rx_pure (rx_push (.int 3000)) 213), (213, rx_nwa 0 38 536755 215), (215, rx_putf 10 39 (.array .int) 218), (218, rx_ld 2 0 219), (219, rx_pure (rx_push (.int 3001)) 222), (222, rx_nwa 0 38 536755 224), (224, rx_putf 10 43 (.array .int) 227), (227, rx_ld 2 0 228), (228, rx_pure (rx_push (.int 4096)) 231), (231, rx_nwa 0 38 536755 233), (233, rx_putf 10 44 (.array .int) 236), (236, rx_ld 2 0 237), (237, rx_pure (rx_push (.int 3000)) 240), (240, rx_nwa 0 38 536755 242), (242, rx_putf 10 45 (.array .int) 245), (245, rx_ld 2 0 246), (246, rx_pure (rx_push (.int 12)) 248), (248, rx_nwa 0 38 536755 250), (250, rx_putf 10 47 (.array .int) 253), (253, rx_ld 2 0 254), (254, rx_pure (rx_push (.int 2)) 255), (255, rx_nwa 0 38 536755 257), (257, rx_putf 10 48 (.array .int) 260), (260, rx_ld 2 0 261), (261, rx_pure (rx_push (.int 200)) 264), (264, rx_nwa 2 38 536755 266), (266, rx_putf 10 49 (.array .boolean) 269), (269, rx_ld 2 0 270), (270, rx_pure (rx_push (.int 100)) 272), (272, rx_nwa 0 38 536755 274), (274, rx_putf 10 50 (.array .int) 277), (277, rx_ld 2 0 278), (278, rx_pure (rx_push (.int 35)) 280), (280, rx_nwa 0 38 536755 282), (282, rx_putf 10 51 (.array .int) 285), (285, rx_ld 2 0 286), (286, rx_pure (rx_push (.int 1430)) 289), (289, rx_nwa 1 38 536755 291), (291, rx_putf 10 52 (.array .long) 294), (294, rx_ld 2 0 295), (295, rx_pure (rx_push (.int 1430)) 298), (298, rx_nwa 0 38 536755 300), (300, rx_putf 10 53 (.array .int) 303), (303, rx_ld 2 0 304), (304, rx_pure (rx_push (.int 64)) 306), (306, rx_nwa 0 38 536755 308), (308, rx_putf 10 56 (.array .int) 311), (311, rx_ld 2 0 312), (312, rx_pure (rx_push (.int 200)) 315), (315, rx_nwa 2 38 536755 317), (317, rx_putf 10 57 (.array .boolean) 320), (320, rx_ld 2 0 321), (321, rx_pure (rx_push (.int 1)) 322), (322, rx_putf 10 7 .int 325), (325, rx_ld 2 0 326), (326, rx_cl 109 1 10 true 0 0 38 536755 329), (329, rx_ld 2 0 330), (330, rx_get 10 48 333), (333, rx_pure (rx_push (.int 0)) 334), (334, rx_pure (rx_push (.int 4)) 335), (335, rx_ast Y 0 .int 336), (336, rx_ld 2 0 337), (337, rx_get 10 48 340), (340, rx_pure (rx_push (.int 1)) 341), (341, rx_pure (rx_push (.int 4)) 342), (342, rx_ast Y 0 .int 343), (343, rx_ret0 38 536755)]
noncomputable def m_X10_init (Y : rx_Y) : rx_M := (yX10_init, cX10_init, 1, none, { frames := 2, cells := 38, slots := 536755, locals := 43 }, p_X10_init Y)
theorem hd_X10_init : yX10_init.cls ≠ "java/lang/invoke/MethodHandle" ∧ yX10_init.cls ≠ "java/lang/invoke/VarHandle" ∧ (parseMethodDescriptor yX10_init.desc).map (fun d => d.parameters.length) = some 0 := by decide +kernel
abbrev cX10_isCutting : ByteArray := prog_12_method_67_code
def yX10_isCutting : MethodName := ⟨"SeedBenchModel", "isCutting", "(I)Z"⟩
theorem dX10_isCutting_0 : decode cX10_isCutting 0 = .ok (.aload_n 0, 1) := by decide +kernel
theorem dX10_isCutting_1 : decode cX10_isCutting 1 = .ok (.iload_n 1, 1) := by decide +kernel
theorem dX10_isCutting_2 : decode cX10_isCutting 2 = .ok (.invokevirtual 328, 3) := by decide +kernel
theorem dX10_isCutting_5 : decode cX10_isCutting 5 = .ok (.aload_n 0, 1) := by decide +kernel
theorem dX10_isCutting_6 : decode cX10_isCutting 6 = .ok (.getfield 108, 3) := by decide +kernel
theorem dX10_isCutting_9 : decode cX10_isCutting 9 = .ok (.iload_n 1, 1) := by decide +kernel
theorem dX10_isCutting_10 : decode cX10_isCutting 10 = .ok (.iaload, 1) := by decide +kernel
theorem dX10_isCutting_11 : decode cX10_isCutting 11 = .ok (.iconst 3, 1) := by decide +kernel
theorem dX10_isCutting_12 : decode cX10_isCutting 12 = .ok (.isub, 1) := by decide +kernel
theorem dX10_isCutting_13 : decode cX10_isCutting 13 = .ok (.if_icmp .ne 7, 3) := by decide +kernel
theorem dX10_isCutting_20 : decode cX10_isCutting 20 = .ok (.iconst 0, 1) := by decide +kernel
theorem dX10_isCutting_21 : decode cX10_isCutting 21 = .ok (.ireturn, 1) := by decide +kernel
noncomputable def p_X10_isCutting (Y : rx_Y) : rx_P := [(0, rx_ld 2 0 1), (1, rx_ld 0 1 2), (2, rx_cl 107 2 10 true 0 0 0 0 5), (5, rx_ld 2 0 6), (6, rx_get 10 48 9), (9, rx_ld 0 1 10), (10, rx_ald 0 0 11), (11, rx_pure (rx_push (.int 3)) 12), (12, rx_pure (rx_bi (fun x y => x - y)) 13), (13, rx_br (rx_cmp Y 5) 20 16), (20, rx_pure (rx_push (.int 0)) 21), (21, rx_retv .boolean 0 0)]
noncomputable def m_X10_isCutting (Y : rx_Y) : rx_M := (yX10_isCutting, cX10_isCutting, 2, (some .boolean), { frames := 1, cells := 0, slots := 0, locals := 23 }, p_X10_isCutting Y)
theorem hd_X10_isCutting : yX10_isCutting.cls ≠ "java/lang/invoke/MethodHandle" ∧ yX10_isCutting.cls ≠ "java/lang/invoke/VarHandle" ∧ (parseMethodDescriptor yX10_isCutting.desc).map (fun d => d.parameters.length) = some 1 := by decide +kernel
abbrev cX10_isSlot : ByteArray := prog_12_method_61_code
def yX10_isSlot : MethodName := ⟨"SeedBenchModel", "isSlot", "(I)Z"⟩
theorem dX10_isSlot_0 : decode cX10_isSlot 0 = .ok (.iload_n 1, 1) := by decide +kernel
theorem dX10_isSlot_1 : decode cX10_isSlot 1 = .ok (.ifCond .eq 8, 3) := by decide +kernel
theorem dX10_isSlot_4 : decode cX10_isSlot 4 = .ok (.iload_n 1, 1) := by decide +kernel
theorem dX10_isSlot_5 : decode cX10_isSlot 5 = .ok (.iconst 1, 1) := by decide +kernel
theorem dX10_isSlot_6 : decode cX10_isSlot 6 = .ok (.if_icmp .ne 7, 3) := by decide +kernel
theorem dX10_isSlot_9 : decode cX10_isSlot 9 = .ok (.iconst 1, 1) := by decide +kernel
theorem dX10_isSlot_10 : decode cX10_isSlot 10 = .ok (.goto 4, 3) := by decide +kernel
theorem dX10_isSlot_13 : decode cX10_isSlot 13 = .ok (.iconst 0, 1) := by decide +kernel
theorem dX10_isSlot_14 : decode cX10_isSlot 14 = .ok (.ireturn, 1) := by decide +kernel
noncomputable def p_X10_isSlot (Y : rx_Y) : rx_P := [(0, rx_ld 0 1 1), (1, rx_br (rx_cm0 Y 4) 9 4), (4, rx_ld 0 1 5), (5, rx_pure (rx_push (.int 1)) 6), (6, rx_br (rx_cmp Y 5) 13 9), (9, rx_pure (rx_push (.int 1)) 10), (10, rx_br rx_goto 14 13), (13, rx_pure (rx_push (.int 0)) 14), (14, rx_retv .boolean 0 0)]
noncomputable def m_X10_isSlot (Y : rx_Y) : rx_M := (yX10_isSlot, cX10_isSlot, 2, (some .boolean), { frames := 0, cells := 0, slots := 0, locals := 0 }, p_X10_isSlot Y)
theorem hd_X10_isSlot : yX10_isSlot.cls ≠ "java/lang/invoke/MethodHandle" ∧ yX10_isSlot.cls ≠ "java/lang/invoke/VarHandle" ∧ (parseMethodDescriptor yX10_isSlot.desc).map (fun d => d.parameters.length) = some 1 := by decide +kernel
abbrev cX10_isTable : ByteArray := prog_12_method_50_code
def yX10_isTable : MethodName := ⟨"SeedBenchModel", "isTable", "(I)Z"⟩
theorem dX10_isTable_0 : decode cX10_isTable 0 = .ok (.iconst 0, 1) := by decide +kernel
theorem dX10_isTable_1 : decode cX10_isTable 1 = .ok (.istore_n 2, 1) := by decide +kernel
theorem dX10_isTable_2 : decode cX10_isTable 2 = .ok (.iload_n 2, 1) := by decide +kernel
theorem dX10_isTable_3 : decode cX10_isTable 3 = .ok (.bipush 36, 2) := by decide +kernel
theorem dX10_isTable_5 : decode cX10_isTable 5 = .ok (.if_icmp .ge 57, 3) := by decide +kernel
theorem dX10_isTable_8 : decode cX10_isTable 8 = .ok (.aload_n 0, 1) := by decide +kernel
theorem dX10_isTable_9 : decode cX10_isTable 9 = .ok (.getfield 87, 3) := by decide +kernel
theorem dX10_isTable_12 : decode cX10_isTable 12 = .ok (.bipush 36, 2) := by decide +kernel
theorem dX10_isTable_14 : decode cX10_isTable 14 = .ok (.iload_n 1, 1) := by decide +kernel
theorem dX10_isTable_15 : decode cX10_isTable 15 = .ok (.imul, 1) := by decide +kernel
theorem dX10_isTable_16 : decode cX10_isTable 16 = .ok (.iload_n 2, 1) := by decide +kernel
theorem dX10_isTable_17 : decode cX10_isTable 17 = .ok (.iadd, 1) := by decide +kernel
theorem dX10_isTable_18 : decode cX10_isTable 18 = .ok (.iaload, 1) := by decide +kernel
theorem dX10_isTable_19 : decode cX10_isTable 19 = .ok (.iload_n 2, 1) := by decide +kernel
theorem dX10_isTable_20 : decode cX10_isTable 20 = .ok (.bipush 6, 2) := by decide +kernel
theorem dX10_isTable_22 : decode cX10_isTable 22 = .ok (.idiv, 1) := by decide +kernel
theorem dX10_isTable_23 : decode cX10_isTable 23 = .ok (.aload_n 0, 1) := by decide +kernel
theorem dX10_isTable_24 : decode cX10_isTable 24 = .ok (.getfield 132, 3) := by decide +kernel
theorem dX10_isTable_27 : decode cX10_isTable 27 = .ok (.if_icmp .ge 23, 3) := by decide +kernel
theorem dX10_isTable_30 : decode cX10_isTable 30 = .ok (.iload_n 2, 1) := by decide +kernel
theorem dX10_isTable_31 : decode cX10_isTable 31 = .ok (.bipush 6, 2) := by decide +kernel
theorem dX10_isTable_33 : decode cX10_isTable 33 = .ok (.irem, 1) := by decide +kernel
theorem dX10_isTable_34 : decode cX10_isTable 34 = .ok (.aload_n 0, 1) := by decide +kernel
theorem dX10_isTable_35 : decode cX10_isTable 35 = .ok (.getfield 132, 3) := by decide +kernel
theorem dX10_isTable_38 : decode cX10_isTable 38 = .ok (.if_icmp .ge 12, 3) := by decide +kernel
theorem dX10_isTable_41 : decode cX10_isTable 41 = .ok (.aload_n 0, 1) := by decide +kernel
theorem dX10_isTable_42 : decode cX10_isTable 42 = .ok (.getfield 28, 3) := by decide +kernel
theorem dX10_isTable_45 : decode cX10_isTable 45 = .ok (.iload_n 2, 1) := by decide +kernel
theorem dX10_isTable_46 : decode cX10_isTable 46 = .ok (.iaload, 1) := by decide +kernel
theorem dX10_isTable_47 : decode cX10_isTable 47 = .ok (.goto 4, 3) := by decide +kernel
theorem dX10_isTable_50 : decode cX10_isTable 50 = .ok (.iconst 0, 1) := by decide +kernel
theorem dX10_isTable_51 : decode cX10_isTable 51 = .ok (.if_icmp .eq 5, 3) := by decide +kernel
theorem dX10_isTable_56 : decode cX10_isTable 56 = .ok (.iinc 2 1, 3) := by decide +kernel
theorem dX10_isTable_59 : decode cX10_isTable 59 = .ok (.goto (-57), 3) := by decide +kernel
theorem dX10_isTable_62 : decode cX10_isTable 62 = .ok (.iconst 1, 1) := by decide +kernel
theorem dX10_isTable_63 : decode cX10_isTable 63 = .ok (.ireturn, 1) := by decide +kernel
noncomputable def p_X10_isTable (Y : rx_Y) : rx_P := [(0, rx_pure (rx_push (.int 0)) 1), (1, rx_st 0 2 2 3), (2, rx_ld 0 2 3), (3, rx_pure (rx_push (.int 36)) 5), (5, rx_br (rx_cmp Y 1) 62 8), (8, rx_ld 2 0 9), (9, rx_get 10 37 12), (12, rx_pure (rx_push (.int 36)) 14), (14, rx_ld 0 1 15), (15, rx_pure (rx_bi (fun x y => x * y)) 16), (16, rx_ld 0 2 17), (17, rx_pure (rx_bi (fun x y => x + y)) 18), (18, rx_ald 0 0 19), (19, rx_ld 0 2 20), (20, rx_pure (rx_push (.int 6)) 22), (22, rx_pure (rx_bid (fun x y => x / y)) 23), (23, rx_ld 2 0 24), (24, rx_get 10 7 27), (27, rx_br (rx_cmp Y 1) 50 30), (30, rx_ld 0 2 31), (31, rx_pure (rx_push (.int 6)) 33), (33, rx_pure (rx_bid (fun x y => x - x / y * y)) 34), (34, rx_ld 2 0 35), (35, rx_get 10 7 38), (38, rx_br (rx_cmp Y 1) 50 41), (41, rx_ld 2 0 42), (42, rx_get 10 9 45), (45, rx_ld 0 2 46), (46, rx_ald 0 0 47), (47, rx_br rx_goto 51 50), (50, rx_pure (rx_push (.int 0)) 51), (51, rx_br (rx_cmp Y 4) 56 54), (56, rx_inc 2 1 59 3), (59, rx_br rx_goto 2 62), (62, rx_pure (rx_push (.int 1)) 63), (63, rx_retv .boolean 0 0)]
noncomputable def m_X10_isTable (Y : rx_Y) : rx_M := (yX10_isTable, cX10_isTable, 3, (some .boolean), { frames := 0, cells := 0, slots := 0, locals := 0 }, p_X10_isTable Y)
theorem hd_X10_isTable : yX10_isTable.cls ≠ "java/lang/invoke/MethodHandle" ∧ yX10_isTable.cls ≠ "java/lang/invoke/VarHandle" ∧ (parseMethodDescriptor yX10_isTable.desc).map (fun d => d.parameters.length) = some 1 := by decide +kernel
