abbrev cX10_isThere : ByteArray := prog_12_method_44_code
def yX10_isThere : MethodName := ⟨"SeedBenchModel", "isThere", "()Z"⟩
theorem dX10_isThere_0 : decode cX10_isThere 0 = .ok (.iconst 0, 1) := by decide +kernel
theorem dX10_isThere_1 : decode cX10_isThere 1 = .ok (.istore_n 1, 1) := by decide +kernel
theorem dX10_isThere_2 : decode cX10_isThere 2 = .ok (.iload_n 1, 1) := by decide +kernel
theorem dX10_isThere_3 : decode cX10_isThere 3 = .ok (.aload_n 0, 1) := by decide +kernel
theorem dX10_isThere_4 : decode cX10_isThere 4 = .ok (.getfield 245, 3) := by decide +kernel
theorem dX10_isThere_7 : decode cX10_isThere 7 = .ok (.if_icmp .ge 218, 3) := by decide +kernel
theorem dX10_isThere_10 : decode cX10_isThere 10 = .ok (.iconst 1, 1) := by decide +kernel
theorem dX10_isThere_11 : decode cX10_isThere 11 = .ok (.istore_n 2, 1) := by decide +kernel
theorem dX10_isThere_12 : decode cX10_isThere 12 = .ok (.iconst 0, 1) := by decide +kernel
theorem dX10_isThere_13 : decode cX10_isThere 13 = .ok (.istore_n 3, 1) := by decide +kernel
theorem dX10_isThere_14 : decode cX10_isThere 14 = .ok (.iload_n 3, 1) := by decide +kernel
theorem dX10_isThere_15 : decode cX10_isThere 15 = .ok (.aload_n 0, 1) := by decide +kernel
theorem dX10_isThere_16 : decode cX10_isThere 16 = .ok (.getfield 132, 3) := by decide +kernel
theorem dX10_isThere_19 : decode cX10_isThere 19 = .ok (.if_icmp .ge 83, 3) := by decide +kernel
theorem dX10_isThere_22 : decode cX10_isThere 22 = .ok (.iload_n 2, 1) := by decide +kernel
theorem dX10_isThere_23 : decode cX10_isThere 23 = .ok (.ifCond .eq 79, 3) := by decide +kernel
theorem dX10_isThere_26 : decode cX10_isThere 26 = .ok (.aload_n 0, 1) := by decide +kernel
theorem dX10_isThere_27 : decode cX10_isThere 27 = .ok (.getfield 62, 3) := by decide +kernel
theorem dX10_isThere_30 : decode cX10_isThere 30 = .ok (.iload_n 3, 1) := by decide +kernel
theorem dX10_isThere_31 : decode cX10_isThere 31 = .ok (.iconst (-1), 1) := by decide +kernel
theorem dX10_isThere_32 : decode cX10_isThere 32 = .ok (.iastore, 1) := by decide +kernel
theorem dX10_isThere_33 : decode cX10_isThere 33 = .ok (.iconst 0, 1) := by decide +kernel
theorem dX10_isThere_34 : decode cX10_isThere 34 = .ok (.istore 4, 2) := by decide +kernel
theorem dX10_isThere_36 : decode cX10_isThere 36 = .ok (.iload 4, 2) := by decide +kernel
theorem dX10_isThere_38 : decode cX10_isThere 38 = .ok (.aload_n 0, 1) := by decide +kernel
theorem dX10_isThere_39 : decode cX10_isThere 39 = .ok (.getfield 132, 3) := by decide +kernel
theorem dX10_isThere_42 : decode cX10_isThere 42 = .ok (.if_icmp .ge 38, 3) := by decide +kernel
theorem dX10_isThere_45 : decode cX10_isThere 45 = .ok (.aload_n 0, 1) := by decide +kernel
theorem dX10_isThere_46 : decode cX10_isThere 46 = .ok (.getfield 65, 3) := by decide +kernel
theorem dX10_isThere_49 : decode cX10_isThere 49 = .ok (.bipush 6, 2) := by decide +kernel
theorem dX10_isThere_51 : decode cX10_isThere 51 = .ok (.iload_n 1, 1) := by decide +kernel
theorem dX10_isThere_52 : decode cX10_isThere 52 = .ok (.imul, 1) := by decide +kernel
theorem dX10_isThere_53 : decode cX10_isThere 53 = .ok (.iload 4, 2) := by decide +kernel
theorem dX10_isThere_55 : decode cX10_isThere 55 = .ok (.iadd, 1) := by decide +kernel
theorem dX10_isThere_56 : decode cX10_isThere 56 = .ok (.iaload, 1) := by decide +kernel
theorem dX10_isThere_57 : decode cX10_isThere 57 = .ok (.aload_n 0, 1) := by decide +kernel
theorem dX10_isThere_58 : decode cX10_isThere 58 = .ok (.getfield 83, 3) := by decide +kernel
theorem dX10_isThere_61 : decode cX10_isThere 61 = .ok (.iload_n 3, 1) := by decide +kernel
theorem dX10_isThere_62 : decode cX10_isThere 62 = .ok (.iaload, 1) := by decide +kernel
theorem dX10_isThere_63 : decode cX10_isThere 63 = .ok (.if_icmp .ne 11, 3) := by decide +kernel
theorem dX10_isThere_66 : decode cX10_isThere 66 = .ok (.aload_n 0, 1) := by decide +kernel
theorem dX10_isThere_67 : decode cX10_isThere 67 = .ok (.getfield 62, 3) := by decide +kernel
theorem dX10_isThere_70 : decode cX10_isThere 70 = .ok (.iload_n 3, 1) := by decide +kernel
theorem dX10_isThere_71 : decode cX10_isThere 71 = .ok (.iload 4, 2) := by decide +kernel
theorem dX10_isThere_73 : decode cX10_isThere 73 = .ok (.iastore, 1) := by decide +kernel
theorem dX10_isThere_74 : decode cX10_isThere 74 = .ok (.iinc 4 1, 3) := by decide +kernel
theorem dX10_isThere_77 : decode cX10_isThere 77 = .ok (.goto (-41), 3) := by decide +kernel
theorem dX10_isThere_80 : decode cX10_isThere 80 = .ok (.aload_n 0, 1) := by decide +kernel
theorem dX10_isThere_81 : decode cX10_isThere 81 = .ok (.getfield 62, 3) := by decide +kernel
theorem dX10_isThere_84 : decode cX10_isThere 84 = .ok (.iload_n 3, 1) := by decide +kernel
theorem dX10_isThere_85 : decode cX10_isThere 85 = .ok (.iaload, 1) := by decide +kernel
theorem dX10_isThere_86 : decode cX10_isThere 86 = .ok (.iconst (-1), 1) := by decide +kernel
theorem dX10_isThere_87 : decode cX10_isThere 87 = .ok (.if_icmp .eq 7, 3) := by decide +kernel
theorem dX10_isThere_90 : decode cX10_isThere 90 = .ok (.iconst 1, 1) := by decide +kernel
theorem dX10_isThere_91 : decode cX10_isThere 91 = .ok (.goto 4, 3) := by decide +kernel
theorem dX10_isThere_95 : decode cX10_isThere 95 = .ok (.istore_n 2, 1) := by decide +kernel
theorem dX10_isThere_96 : decode cX10_isThere 96 = .ok (.iinc 3 1, 3) := by decide +kernel
theorem dX10_isThere_99 : decode cX10_isThere 99 = .ok (.goto (-85), 3) := by decide +kernel
theorem dX10_isThere_102 : decode cX10_isThere 102 = .ok (.iconst 0, 1) := by decide +kernel
theorem dX10_isThere_103 : decode cX10_isThere 103 = .ok (.istore_n 3, 1) := by decide +kernel
theorem dX10_isThere_104 : decode cX10_isThere 104 = .ok (.iload_n 3, 1) := by decide +kernel
theorem dX10_isThere_105 : decode cX10_isThere 105 = .ok (.aload_n 0, 1) := by decide +kernel
theorem dX10_isThere_106 : decode cX10_isThere 106 = .ok (.getfield 132, 3) := by decide +kernel
theorem dX10_isThere_109 : decode cX10_isThere 109 = .ok (.aload_n 0, 1) := by decide +kernel
theorem dX10_isThere_110 : decode cX10_isThere 110 = .ok (.getfield 204, 3) := by decide +kernel
theorem dX10_isThere_113 : decode cX10_isThere 113 = .ok (.iadd, 1) := by decide +kernel
theorem dX10_isThere_114 : decode cX10_isThere 114 = .ok (.if_icmp .ge 99, 3) := by decide +kernel
theorem dX10_isThere_117 : decode cX10_isThere 117 = .ok (.iload_n 2, 1) := by decide +kernel
theorem dX10_isThere_118 : decode cX10_isThere 118 = .ok (.ifCond .eq 95, 3) := by decide +kernel
theorem dX10_isThere_121 : decode cX10_isThere 121 = .ok (.iload_n 3, 1) := by decide +kernel
theorem dX10_isThere_122 : decode cX10_isThere 122 = .ok (.aload_n 0, 1) := by decide +kernel
theorem dX10_isThere_123 : decode cX10_isThere 123 = .ok (.getfield 132, 3) := by decide +kernel
theorem dX10_isThere_126 : decode cX10_isThere 126 = .ok (.if_icmp .ge 12, 3) := by decide +kernel
theorem dX10_isThere_129 : decode cX10_isThere 129 = .ok (.aload_n 0, 1) := by decide +kernel
theorem dX10_isThere_130 : decode cX10_isThere 130 = .ok (.getfield 62, 3) := by decide +kernel
theorem dX10_isThere_133 : decode cX10_isThere 133 = .ok (.iload_n 3, 1) := by decide +kernel
theorem dX10_isThere_134 : decode cX10_isThere 134 = .ok (.iaload, 1) := by decide +kernel
theorem dX10_isThere_135 : decode cX10_isThere 135 = .ok (.goto 4, 3) := by decide +kernel
theorem dX10_isThere_139 : decode cX10_isThere 139 = .ok (.istore 4, 2) := by decide +kernel
theorem dX10_isThere_141 : decode cX10_isThere 141 = .ok (.iconst 0, 1) := by decide +kernel
theorem dX10_isThere_142 : decode cX10_isThere 142 = .ok (.istore 5, 2) := by decide +kernel
theorem dX10_isThere_144 : decode cX10_isThere 144 = .ok (.iload 5, 2) := by decide +kernel
theorem dX10_isThere_146 : decode cX10_isThere 146 = .ok (.aload_n 0, 1) := by decide +kernel
theorem dX10_isThere_147 : decode cX10_isThere 147 = .ok (.getfield 132, 3) := by decide +kernel
theorem dX10_isThere_150 : decode cX10_isThere 150 = .ok (.if_icmp .ge 57, 3) := by decide +kernel
theorem dX10_isThere_153 : decode cX10_isThere 153 = .ok (.iload_n 2, 1) := by decide +kernel
theorem dX10_isThere_154 : decode cX10_isThere 154 = .ok (.ifCond .eq 45, 3) := by decide +kernel
theorem dX10_isThere_157 : decode cX10_isThere 157 = .ok (.aload_n 0, 1) := by decide +kernel
theorem dX10_isThere_158 : decode cX10_isThere 158 = .ok (.getfield 28, 3) := by decide +kernel
theorem dX10_isThere_161 : decode cX10_isThere 161 = .ok (.bipush 6, 2) := by decide +kernel
theorem dX10_isThere_163 : decode cX10_isThere 163 = .ok (.iload_n 3, 1) := by decide +kernel
theorem dX10_isThere_164 : decode cX10_isThere 164 = .ok (.imul, 1) := by decide +kernel
theorem dX10_isThere_165 : decode cX10_isThere 165 = .ok (.iload 5, 2) := by decide +kernel
theorem dX10_isThere_167 : decode cX10_isThere 167 = .ok (.iadd, 1) := by decide +kernel
theorem dX10_isThere_168 : decode cX10_isThere 168 = .ok (.iaload, 1) := by decide +kernel
theorem dX10_isThere_169 : decode cX10_isThere 169 = .ok (.aload_n 0, 1) := by decide +kernel
theorem dX10_isThere_170 : decode cX10_isThere 170 = .ok (.getfield 68, 3) := by decide +kernel
theorem dX10_isThere_173 : decode cX10_isThere 173 = .ok (.bipush 72, 2) := by decide +kernel
theorem dX10_isThere_175 : decode cX10_isThere 175 = .ok (.iload_n 1, 1) := by decide +kernel
theorem dX10_isThere_176 : decode cX10_isThere 176 = .ok (.imul, 1) := by decide +kernel
theorem dX10_isThere_177 : decode cX10_isThere 177 = .ok (.bipush 6, 2) := by decide +kernel
theorem dX10_isThere_179 : decode cX10_isThere 179 = .ok (.iload 4, 2) := by decide +kernel
theorem dX10_isThere_181 : decode cX10_isThere 181 = .ok (.imul, 1) := by decide +kernel
theorem dX10_isThere_182 : decode cX10_isThere 182 = .ok (.iadd, 1) := by decide +kernel
theorem dX10_isThere_183 : decode cX10_isThere 183 = .ok (.aload_n 0, 1) := by decide +kernel
theorem dX10_isThere_184 : decode cX10_isThere 184 = .ok (.getfield 62, 3) := by decide +kernel
theorem dX10_isThere_187 : decode cX10_isThere 187 = .ok (.iload 5, 2) := by decide +kernel
theorem dX10_isThere_189 : decode cX10_isThere 189 = .ok (.iaload, 1) := by decide +kernel
theorem dX10_isThere_190 : decode cX10_isThere 190 = .ok (.iadd, 1) := by decide +kernel
theorem dX10_isThere_191 : decode cX10_isThere 191 = .ok (.iaload, 1) := by decide +kernel
theorem dX10_isThere_192 : decode cX10_isThere 192 = .ok (.if_icmp .ne 7, 3) := by decide +kernel
theorem dX10_isThere_195 : decode cX10_isThere 195 = .ok (.iconst 1, 1) := by decide +kernel
theorem dX10_isThere_196 : decode cX10_isThere 196 = .ok (.goto 4, 3) := by decide +kernel
theorem dX10_isThere_200 : decode cX10_isThere 200 = .ok (.istore_n 2, 1) := by decide +kernel
theorem dX10_isThere_201 : decode cX10_isThere 201 = .ok (.iinc 5 1, 3) := by decide +kernel
theorem dX10_isThere_204 : decode cX10_isThere 204 = .ok (.goto (-60), 3) := by decide +kernel
theorem dX10_isThere_207 : decode cX10_isThere 207 = .ok (.iinc 3 1, 3) := by decide +kernel
theorem dX10_isThere_210 : decode cX10_isThere 210 = .ok (.goto (-106), 3) := by decide +kernel
theorem dX10_isThere_213 : decode cX10_isThere 213 = .ok (.iload_n 2, 1) := by decide +kernel
theorem dX10_isThere_214 : decode cX10_isThere 214 = .ok (.ifCond .eq 5, 3) := by decide +kernel
theorem dX10_isThere_217 : decode cX10_isThere 217 = .ok (.iconst 1, 1) := by decide +kernel
theorem dX10_isThere_218 : decode cX10_isThere 218 = .ok (.ireturn, 1) := by decide +kernel
noncomputable def p_X10_isThere (Y : rx_Y) : rx_P := [(0, rx_pure (rx_push (.int 0)) 1), (1, rx_st 0 1 2 6), (2, rx_ld 0 1 3), (3, rx_ld 2 0 4), (4, rx_get 10 24 7), (7, rx_br (rx_cmp Y 1) 225 10), (10, rx_pure (rx_push (.int 1)) 11), (11, rx_st 0 2 12 6), (12, rx_pure (rx_push (.int 0)) 13), (13, rx_st 0 3 14 6), (14, rx_ld 0 3 15), (15, rx_ld 2 0 16), (16, rx_get 10 7 19), (19, rx_br (rx_cmp Y 1) 102 22), (22, rx_ld 0 2 23), (23, rx_br (rx_cm0 Y 4) 102 26), (26, rx_ld 2 0 27), (27, rx_get 10 23 30), (30, rx_ld 0 3 31), (31, rx_pure (rx_push (.int (-1))) 32), (32, rx_ast Y 0 .int 33), (33, rx_pure (rx_push (.int 0)) 34), (34, rx_st 0 4 36 6), (36, rx_ld 0 4 38), (38, rx_ld 2 0 39), (39, rx_get 10 7 42), (42, rx_br (rx_cmp Y 1) 80 45), (45, rx_ld 2 0 46), (46, rx_get 10 27 49), (49, rx_pure (rx_push (.int 6)) 51), (51, rx_ld 0 1 52), (52, rx_pure (rx_bi (fun x y => x * y)) 53), (53, rx_ld 0 4 55), (55, rx_pure (rx_bi (fun x y => x + y)) 56), (56, rx_ald 0 0 57), (57, rx_ld 2 0 58), (58, rx_get 10 35 61), (61, rx_ld 0 3 62), (62, rx_ald 0 0 63), (63, rx_br (rx_cmp Y 5) 74 66), (66, rx_ld 2 0 67), (67, rx_get 10 23 70), (70, rx_ld 0 3 71), (71, rx_ld 0 4 73), (73, rx_ast Y 0 .int 74), (74, rx_inc 4 1 77 6), (77, rx_br rx_goto 36 80), (80, rx_ld 2 0 81), (81, rx_get 10 23 84), (84, rx_ld 0 3 85), (85, rx_ald 0 0 86), (86, rx_pure (rx_push (.int (-1))) 87), (87, rx_br (rx_cmp Y 4) 94 90), (90, rx_pure (rx_push (.int 1)) 91), (91, rx_br rx_goto 95 94), (95, rx_st 0 2 96 6), (96, rx_inc 3 1 99 6), (99, rx_br rx_goto 14 102), (102, rx_pure (rx_push (.int 0)) 103), (103, rx_st 0 3 104 6), (104, rx_ld 0 3 105), (105, rx_ld 2 0 106), (106, rx_get 10 7 109), (109, rx_ld 2 0 110), (110, rx_get 10 8 113), (113, rx_pure (rx_bi (fun x y => x + y)) 114), (114, rx_br (rx_cmp Y 1) 213 117), (117, rx_ld 0 2 118), (118, rx_br (rx_cm0 Y 4) 213 121), (121, rx_ld 0 3 122), (122, rx_ld 2 0 123), (123, rx_get 10 7 126), (126, rx_br (rx_cmp Y 1) 138 129), (129, rx_ld 2 0 130), (130, rx_get 10 23 133), (133, rx_ld 0 3 134), (134, rx_ald 0 0 135), (135, rx_br rx_goto 139 138), (139, rx_st 0 4 141 6), (141, rx_pure (rx_push (.int 0)) 142), (142, rx_st 0 5 144 6), (144, rx_ld 0 5 146), (146, rx_ld 2 0 147), (147, rx_get 10 7 150), (150, rx_br (rx_cmp Y 1) 207 153), (153, rx_ld 0 2 154), (154, rx_br (rx_cm0 Y 4) 199 157), (157, rx_ld 2 0 158), (158, rx_get 10 9 161), (161, rx_pure (rx_push (.int 6)) 163), (163, rx_ld 0 3 164), (164, rx_pure (rx_bi (fun x y => x * y)) 165), (165, rx_ld 0 5 167), (167, rx_pure (rx_bi (fun x y => x + y)) 168), (168, rx_ald 0 0 169), (169, rx_ld 2 0 170), (170, rx_get 10 28 173), (173, rx_pure (rx_push (.int 72)) 175), (175, rx_ld 0 1 176), (176, rx_pure (rx_bi (fun x y => x * y)) 177), (177, rx_pure (rx_push (.int 6)) 179), (179, rx_ld 0 4 181), (181, rx_pure (rx_bi (fun x y => x * y)) 182), (182, rx_pure (rx_bi (fun x y => x + y)) 183), (183, rx_ld 2 0 184), (184, rx_get 10 23 187), (187, rx_ld 0 5 189), (189, rx_ald 0 0 190), (190, rx_pure (rx_bi (fun x y => x + y)) 191), (191, rx_ald 0 0 192), (192, rx_br (rx_cmp Y 5) 199 195), (195, rx_pure (rx_push (.int 1)) 196), (196, rx_br rx_goto 200 199), (200, rx_st 0 2 201 6), (201, rx_inc 5 1 204 6), (204, rx_br rx_goto 144 207), (207, rx_inc 3 1 210 6), (210, rx_br rx_goto 104 213), (213, rx_ld 0 2 214), (214, rx_br (rx_cm0 Y 4) 219 217), (217, rx_pure (rx_push (.int 1)) 218), (218, rx_retv .boolean 0 0)]
noncomputable def m_X10_isThere (Y : rx_Y) : rx_M := (yX10_isThere, cX10_isThere, 6, (some .boolean), { frames := 0, cells := 0, slots := 0, locals := 0 }, p_X10_isThere Y)
theorem hd_X10_isThere : yX10_isThere.cls ≠ "java/lang/invoke/MethodHandle" ∧ yX10_isThere.cls ≠ "java/lang/invoke/VarHandle" ∧ (parseMethodDescriptor yX10_isThere.desc).map (fun d => d.parameters.length) = some 0 := by decide +kernel
abbrev cX10_isWild : ByteArray := prog_12_method_51_code
def yX10_isWild : MethodName := ⟨"SeedBenchModel", "isWild", "()Z"⟩
theorem dX10_isWild_0 : decode cX10_isWild 0 = .ok (.iconst 0, 1) := by decide +kernel
theorem dX10_isWild_1 : decode cX10_isWild 1 = .ok (.istore_n 1, 1) := by decide +kernel
theorem dX10_isWild_2 : decode cX10_isWild 2 = .ok (.iload_n 1, 1) := by decide +kernel
theorem dX10_isWild_3 : decode cX10_isWild 3 = .ok (.aload_n 0, 1) := by decide +kernel
theorem dX10_isWild_4 : decode cX10_isWild 4 = .ok (.getfield 132, 3) := by decide +kernel
theorem dX10_isWild_7 : decode cX10_isWild 7 = .ok (.if_icmp .ge 55, 3) := by decide +kernel
theorem dX10_isWild_10 : decode cX10_isWild 10 = .ok (.iconst 0, 1) := by decide +kernel
theorem dX10_isWild_11 : decode cX10_isWild 11 = .ok (.istore_n 2, 1) := by decide +kernel
theorem dX10_isWild_12 : decode cX10_isWild 12 = .ok (.iload_n 2, 1) := by decide +kernel
theorem dX10_isWild_13 : decode cX10_isWild 13 = .ok (.aload_n 0, 1) := by decide +kernel
theorem dX10_isWild_14 : decode cX10_isWild 14 = .ok (.getfield 132, 3) := by decide +kernel
theorem dX10_isWild_17 : decode cX10_isWild 17 = .ok (.if_icmp .ge 39, 3) := by decide +kernel
theorem dX10_isWild_20 : decode cX10_isWild 20 = .ok (.aload_n 0, 1) := by decide +kernel
theorem dX10_isWild_21 : decode cX10_isWild 21 = .ok (.getfield 28, 3) := by decide +kernel
theorem dX10_isWild_24 : decode cX10_isWild 24 = .ok (.bipush 6, 2) := by decide +kernel
theorem dX10_isWild_26 : decode cX10_isWild 26 = .ok (.iload_n 1, 1) := by decide +kernel
theorem dX10_isWild_27 : decode cX10_isWild 27 = .ok (.imul, 1) := by decide +kernel
theorem dX10_isWild_28 : decode cX10_isWild 28 = .ok (.iload_n 2, 1) := by decide +kernel
theorem dX10_isWild_29 : decode cX10_isWild 29 = .ok (.iadd, 1) := by decide +kernel
theorem dX10_isWild_30 : decode cX10_isWild 30 = .ok (.iaload, 1) := by decide +kernel
theorem dX10_isWild_31 : decode cX10_isWild 31 = .ok (.aload_n 0, 1) := by decide +kernel
theorem dX10_isWild_32 : decode cX10_isWild 32 = .ok (.getfield 28, 3) := by decide +kernel
theorem dX10_isWild_35 : decode cX10_isWild 35 = .ok (.bipush 6, 2) := by decide +kernel
theorem dX10_isWild_37 : decode cX10_isWild 37 = .ok (.iload_n 2, 1) := by decide +kernel
theorem dX10_isWild_38 : decode cX10_isWild 38 = .ok (.imul, 1) := by decide +kernel
theorem dX10_isWild_39 : decode cX10_isWild 39 = .ok (.iload_n 1, 1) := by decide +kernel
theorem dX10_isWild_40 : decode cX10_isWild 40 = .ok (.iadd, 1) := by decide +kernel
theorem dX10_isWild_41 : decode cX10_isWild 41 = .ok (.iaload, 1) := by decide +kernel
theorem dX10_isWild_42 : decode cX10_isWild 42 = .ok (.imul, 1) := by decide +kernel
theorem dX10_isWild_43 : decode cX10_isWild 43 = .ok (.bipush (-3), 2) := by decide +kernel
theorem dX10_isWild_45 : decode cX10_isWild 45 = .ok (.if_icmp .ge 5, 3) := by decide +kernel
theorem dX10_isWild_50 : decode cX10_isWild 50 = .ok (.iinc 2 1, 3) := by decide +kernel
theorem dX10_isWild_53 : decode cX10_isWild 53 = .ok (.goto (-41), 3) := by decide +kernel
theorem dX10_isWild_56 : decode cX10_isWild 56 = .ok (.iinc 1 1, 3) := by decide +kernel
theorem dX10_isWild_59 : decode cX10_isWild 59 = .ok (.goto (-57), 3) := by decide +kernel
theorem dX10_isWild_62 : decode cX10_isWild 62 = .ok (.iconst 0, 1) := by decide +kernel
theorem dX10_isWild_63 : decode cX10_isWild 63 = .ok (.ireturn, 1) := by decide +kernel
noncomputable def p_X10_isWild (Y : rx_Y) : rx_P := [(0, rx_pure (rx_push (.int 0)) 1), (1, rx_st 0 1 2 3), (2, rx_ld 0 1 3), (3, rx_ld 2 0 4), (4, rx_get 10 7 7), (7, rx_br (rx_cmp Y 1) 62 10), (10, rx_pure (rx_push (.int 0)) 11), (11, rx_st 0 2 12 3), (12, rx_ld 0 2 13), (13, rx_ld 2 0 14), (14, rx_get 10 7 17), (17, rx_br (rx_cmp Y 1) 56 20), (20, rx_ld 2 0 21), (21, rx_get 10 9 24), (24, rx_pure (rx_push (.int 6)) 26), (26, rx_ld 0 1 27), (27, rx_pure (rx_bi (fun x y => x * y)) 28), (28, rx_ld 0 2 29), (29, rx_pure (rx_bi (fun x y => x + y)) 30), (30, rx_ald 0 0 31), (31, rx_ld 2 0 32), (32, rx_get 10 9 35), (35, rx_pure (rx_push (.int 6)) 37), (37, rx_ld 0 2 38), (38, rx_pure (rx_bi (fun x y => x * y)) 39), (39, rx_ld 0 1 40), (40, rx_pure (rx_bi (fun x y => x + y)) 41), (41, rx_ald 0 0 42), (42, rx_pure (rx_bi (fun x y => x * y)) 43), (43, rx_pure (rx_push (.int (-3))) 45), (45, rx_br (rx_cmp Y 1) 50 48), (50, rx_inc 2 1 53 3), (53, rx_br rx_goto 12 56), (56, rx_inc 1 1 59 3), (59, rx_br rx_goto 2 62), (62, rx_pure (rx_push (.int 0)) 63), (63, rx_retv .boolean 0 0)]
noncomputable def m_X10_isWild (Y : rx_Y) : rx_M := (yX10_isWild, cX10_isWild, 3, (some .boolean), { frames := 0, cells := 0, slots := 0, locals := 0 }, p_X10_isWild Y)
theorem hd_X10_isWild : yX10_isWild.cls ≠ "java/lang/invoke/MethodHandle" ∧ yX10_isWild.cls ≠ "java/lang/invoke/VarHandle" ∧ (parseMethodDescriptor yX10_isWild.desc).map (fun d => d.parameters.length) = some 0 := by decide +kernel
abbrev cX10_keep : ByteArray := prog_12_method_39_code
def yX10_keep : MethodName := ⟨"SeedBenchModel", "keep", "(I)Z"⟩
theorem dX10_keep_0 : decode cX10_keep 0 = .ok (.iload_n 1, 1) := by decide +kernel
theorem dX10_keep_1 : decode cX10_keep 1 = .ok (.ifCond .lt 8, 3) := by decide +kernel
theorem dX10_keep_4 : decode cX10_keep 4 = .ok (.iload_n 1, 1) := by decide +kernel
theorem dX10_keep_5 : decode cX10_keep 5 = .ok (.iconst 3, 1) := by decide +kernel
theorem dX10_keep_6 : decode cX10_keep 6 = .ok (.if_icmp .le 5, 3) := by decide +kernel
theorem dX10_keep_9 : decode cX10_keep 9 = .ok (.iconst 0, 1) := by decide +kernel
theorem dX10_keep_10 : decode cX10_keep 10 = .ok (.ireturn, 1) := by decide +kernel
theorem dX10_keep_11 : decode cX10_keep 11 = .ok (.aload_n 0, 1) := by decide +kernel
theorem dX10_keep_12 : decode cX10_keep 12 = .ok (.getfield 53, 3) := by decide +kernel
theorem dX10_keep_15 : decode cX10_keep 15 = .ok (.iload_n 1, 1) := by decide +kernel
theorem dX10_keep_16 : decode cX10_keep 16 = .ok (.aload_n 0, 1) := by decide +kernel
theorem dX10_keep_17 : decode cX10_keep 17 = .ok (.getfield 132, 3) := by decide +kernel
theorem dX10_keep_20 : decode cX10_keep 20 = .ok (.iastore, 1) := by decide +kernel
theorem dX10_keep_21 : decode cX10_keep 21 = .ok (.aload_n 0, 1) := by decide +kernel
theorem dX10_keep_22 : decode cX10_keep 22 = .ok (.getfield 56, 3) := by decide +kernel
theorem dX10_keep_25 : decode cX10_keep 25 = .ok (.iload_n 1, 1) := by decide +kernel
theorem dX10_keep_26 : decode cX10_keep 26 = .ok (.aload_n 0, 1) := by decide +kernel
theorem dX10_keep_27 : decode cX10_keep 27 = .ok (.getfield 204, 3) := by decide +kernel
theorem dX10_keep_30 : decode cX10_keep 30 = .ok (.iastore, 1) := by decide +kernel
theorem dX10_keep_31 : decode cX10_keep 31 = .ok (.iconst 0, 1) := by decide +kernel
theorem dX10_keep_32 : decode cX10_keep 32 = .ok (.istore_n 2, 1) := by decide +kernel
theorem dX10_keep_33 : decode cX10_keep 33 = .ok (.iload_n 2, 1) := by decide +kernel
theorem dX10_keep_34 : decode cX10_keep 34 = .ok (.bipush 72, 2) := by decide +kernel
theorem dX10_keep_36 : decode cX10_keep 36 = .ok (.if_icmp .ge 26, 3) := by decide +kernel
theorem dX10_keep_39 : decode cX10_keep 39 = .ok (.aload_n 0, 1) := by decide +kernel
theorem dX10_keep_40 : decode cX10_keep 40 = .ok (.getfield 59, 3) := by decide +kernel
theorem dX10_keep_43 : decode cX10_keep 43 = .ok (.bipush 72, 2) := by decide +kernel
theorem dX10_keep_45 : decode cX10_keep 45 = .ok (.iload_n 1, 1) := by decide +kernel
theorem dX10_keep_46 : decode cX10_keep 46 = .ok (.imul, 1) := by decide +kernel
theorem dX10_keep_47 : decode cX10_keep 47 = .ok (.iload_n 2, 1) := by decide +kernel
theorem dX10_keep_48 : decode cX10_keep 48 = .ok (.iadd, 1) := by decide +kernel
theorem dX10_keep_49 : decode cX10_keep 49 = .ok (.aload_n 0, 1) := by decide +kernel
theorem dX10_keep_50 : decode cX10_keep 50 = .ok (.getfield 28, 3) := by decide +kernel
theorem dX10_keep_53 : decode cX10_keep 53 = .ok (.iload_n 2, 1) := by decide +kernel
theorem dX10_keep_54 : decode cX10_keep 54 = .ok (.iaload, 1) := by decide +kernel
theorem dX10_keep_55 : decode cX10_keep 55 = .ok (.iastore, 1) := by decide +kernel
theorem dX10_keep_56 : decode cX10_keep 56 = .ok (.iinc 2 1, 3) := by decide +kernel
theorem dX10_keep_59 : decode cX10_keep 59 = .ok (.goto (-26), 3) := by decide +kernel
theorem dX10_keep_62 : decode cX10_keep 62 = .ok (.iconst 0, 1) := by decide +kernel
theorem dX10_keep_63 : decode cX10_keep 63 = .ok (.istore_n 2, 1) := by decide +kernel
theorem dX10_keep_64 : decode cX10_keep 64 = .ok (.iload_n 2, 1) := by decide +kernel
theorem dX10_keep_65 : decode cX10_keep 65 = .ok (.aload_n 0, 1) := by decide +kernel
theorem dX10_keep_66 : decode cX10_keep 66 = .ok (.getfield 132, 3) := by decide +kernel
theorem dX10_keep_69 : decode cX10_keep 69 = .ok (.if_icmp .ge 23, 3) := by decide +kernel
theorem dX10_keep_72 : decode cX10_keep 72 = .ok (.aload_n 0, 1) := by decide +kernel
theorem dX10_keep_73 : decode cX10_keep 73 = .ok (.bipush 6, 2) := by decide +kernel
theorem dX10_keep_75 : decode cX10_keep 75 = .ok (.bipush 6, 2) := by decide +kernel
theorem dX10_keep_77 : decode cX10_keep 77 = .ok (.iload_n 1, 1) := by decide +kernel
theorem dX10_keep_78 : decode cX10_keep 78 = .ok (.imul, 1) := by decide +kernel
theorem dX10_keep_79 : decode cX10_keep 79 = .ok (.iadd, 1) := by decide +kernel
theorem dX10_keep_80 : decode cX10_keep 80 = .ok (.iload_n 2, 1) := by decide +kernel
theorem dX10_keep_81 : decode cX10_keep 81 = .ok (.iadd, 1) := by decide +kernel
theorem dX10_keep_82 : decode cX10_keep 82 = .ok (.iload_n 2, 1) := by decide +kernel
theorem dX10_keep_83 : decode cX10_keep 83 = .ok (.invokevirtual 164, 3) := by decide +kernel
theorem dX10_keep_86 : decode cX10_keep 86 = .ok (.iinc 2 1, 3) := by decide +kernel
theorem dX10_keep_89 : decode cX10_keep 89 = .ok (.goto (-25), 3) := by decide +kernel
theorem dX10_keep_92 : decode cX10_keep 92 = .ok (.iconst 1, 1) := by decide +kernel
theorem dX10_keep_93 : decode cX10_keep 93 = .ok (.ireturn, 1) := by decide +kernel
noncomputable def p_X10_keep (Y : rx_Y) : rx_P := [(0, rx_ld 0 1 1), (1, rx_br (rx_cm0 Y 0) 9 4), (4, rx_ld 0 1 5), (5, rx_pure (rx_push (.int 3)) 6), (6, rx_br (rx_cmp Y 3) 11 9), (9, rx_pure (rx_push (.int 0)) 10), (10, rx_retv .boolean 0 0), (11, rx_ld 2 0 12), (12, rx_get 10 20 15), (15, rx_ld 0 1 16), (16, rx_ld 2 0 17), (17, rx_get 10 7 20), (20, rx_ast Y 0 .int 21), (21, rx_ld 2 0 22), (22, rx_get 10 21 25), (25, rx_ld 0 1 26), (26, rx_ld 2 0 27), (27, rx_get 10 8 30), (30, rx_ast Y 0 .int 31), (31, rx_pure (rx_push (.int 0)) 32), (32, rx_st 0 2 33 3), (33, rx_ld 0 2 34), (34, rx_pure (rx_push (.int 72)) 36), (36, rx_br (rx_cmp Y 1) 62 39), (39, rx_ld 2 0 40), (40, rx_get 10 22 43), (43, rx_pure (rx_push (.int 72)) 45), (45, rx_ld 0 1 46), (46, rx_pure (rx_bi (fun x y => x * y)) 47), (47, rx_ld 0 2 48), (48, rx_pure (rx_bi (fun x y => x + y)) 49), (49, rx_ld 2 0 50), (50, rx_get 10 9 53), (53, rx_ld 0 2 54), (54, rx_ald 0 0 55), (55, rx_ast Y 0 .int 56), (56, rx_inc 2 1 59 3), (59, rx_br rx_goto 33 62), (62, rx_pure (rx_push (.int 0)) 63), (63, rx_st 0 2 64 3), (64, rx_ld 0 2 65), (65, rx_ld 2 0 66), (66, rx_get 10 7 69), (69, rx_br (rx_cmp Y 1) 92 72), (72, rx_ld 2 0 73), (73, rx_pure (rx_push (.int 6)) 75), (75, rx_pure (rx_push (.int 6)) 77), (77, rx_ld 0 1 78), (78, rx_pure (rx_bi (fun x y => x * y)) 79), (79, rx_pure (rx_bi (fun x y => x + y)) 80), (80, rx_ld 0 2 81), (81, rx_pure (rx_bi (fun x y => x + y)) 82), (82, rx_ld 0 2 83), (83, rx_cl 104 3 10 true 0 0 0 0 86), (86, rx_inc 2 1 89 3), (89, rx_br rx_goto 64 92), (92, rx_pure (rx_push (.int 1)) 93), (93, rx_retv .boolean 0 0)]
noncomputable def m_X10_keep (Y : rx_Y) : rx_M := (yX10_keep, cX10_keep, 3, (some .boolean), { frames := 1, cells := 0, slots := 0, locals := 24 }, p_X10_keep Y)
theorem hd_X10_keep : yX10_keep.cls ≠ "java/lang/invoke/MethodHandle" ∧ yX10_keep.cls ≠ "java/lang/invoke/VarHandle" ∧ (parseMethodDescriptor yX10_keep.desc).map (fun d => d.parameters.length) = some 1 := by decide +kernel
abbrev cX10_least : ByteArray := prog_12_method_37_code
def yX10_least : MethodName := ⟨"SeedBenchModel", "least", "(II)I"⟩
theorem dX10_least_0 : decode cX10_least 0 = .ok (.iload_n 1, 1) := by decide +kernel
theorem dX10_least_1 : decode cX10_least 1 = .ok (.ifCond .lt 28, 3) := by decide +kernel
theorem dX10_least_4 : decode cX10_least 4 = .ok (.iload_n 1, 1) := by decide +kernel
theorem dX10_least_5 : decode cX10_least 5 = .ok (.aload_n 0, 1) := by decide +kernel
theorem dX10_least_6 : decode cX10_least 6 = .ok (.getfield 132, 3) := by decide +kernel
theorem dX10_least_9 : decode cX10_least 9 = .ok (.if_icmp .ge 20, 3) := by decide +kernel
theorem dX10_least_12 : decode cX10_least 12 = .ok (.iload_n 2, 1) := by decide +kernel
theorem dX10_least_13 : decode cX10_least 13 = .ok (.ifCond .lt 16, 3) := by decide +kernel
theorem dX10_least_16 : decode cX10_least 16 = .ok (.iload_n 2, 1) := by decide +kernel
theorem dX10_least_17 : decode cX10_least 17 = .ok (.aload_n 0, 1) := by decide +kernel
theorem dX10_least_18 : decode cX10_least 18 = .ok (.getfield 132, 3) := by decide +kernel
theorem dX10_least_21 : decode cX10_least 21 = .ok (.aload_n 0, 1) := by decide +kernel
theorem dX10_least_22 : decode cX10_least 22 = .ok (.getfield 204, 3) := by decide +kernel
theorem dX10_least_25 : decode cX10_least 25 = .ok (.iadd, 1) := by decide +kernel
theorem dX10_least_26 : decode cX10_least 26 = .ok (.if_icmp .lt 7, 3) := by decide +kernel
theorem dX10_least_29 : decode cX10_least 29 = .ok (.iconst 0, 1) := by decide +kernel
theorem dX10_least_30 : decode cX10_least 30 = .ok (.goto 9, 3) := by decide +kernel
theorem dX10_least_33 : decode cX10_least 33 = .ok (.aload_n 0, 1) := by decide +kernel
theorem dX10_least_34 : decode cX10_least 34 = .ok (.iload_n 1, 1) := by decide +kernel
theorem dX10_least_35 : decode cX10_least 35 = .ok (.iload_n 2, 1) := by decide +kernel
theorem dX10_least_36 : decode cX10_least 36 = .ok (.invokevirtual 231, 3) := by decide +kernel
theorem dX10_least_39 : decode cX10_least 39 = .ok (.ireturn, 1) := by decide +kernel
noncomputable def p_X10_least (Y : rx_Y) : rx_P := [(0, rx_ld 0 1 1), (1, rx_br (rx_cm0 Y 0) 29 4), (4, rx_ld 0 1 5), (5, rx_ld 2 0 6), (6, rx_get 10 7 9), (9, rx_br (rx_cmp Y 1) 29 12), (12, rx_ld 0 2 13), (13, rx_br (rx_cm0 Y 0) 29 16), (16, rx_ld 0 2 17), (17, rx_ld 2 0 18), (18, rx_get 10 7 21), (21, rx_ld 2 0 22), (22, rx_get 10 8 25), (25, rx_pure (rx_bi (fun x y => x + y)) 26), (26, rx_br (rx_cmp Y 0) 33 29), (29, rx_pure (rx_push (.int 0)) 30), (30, rx_br rx_goto 39 33), (33, rx_ld 2 0 34), (34, rx_ld 0 1 35), (35, rx_ld 0 2 36), (36, rx_cl 123 3 10 true 0 0 0 0 39), (39, rx_retv .int 0 0)]
noncomputable def m_X10_least (Y : rx_Y) : rx_M := (yX10_least, cX10_least, 3, (some .int), { frames := 1, cells := 0, slots := 0, locals := 24 }, p_X10_least Y)
theorem hd_X10_least : yX10_least.cls ≠ "java/lang/invoke/MethodHandle" ∧ yX10_least.cls ≠ "java/lang/invoke/VarHandle" ∧ (parseMethodDescriptor yX10_least.desc).map (fun d => d.parameters.length) = some 2 := by decide +kernel
abbrev cX10_leastOf : ByteArray := prog_12_method_35_code
def yX10_leastOf : MethodName := ⟨"SeedBenchModel", "leastOf", "(II)I"⟩
theorem dX10_leastOf_0 : decode cX10_leastOf 0 = .ok (.aload_n 0, 1) := by decide +kernel
theorem dX10_leastOf_1 : decode cX10_leastOf 1 = .ok (.getfield 22, 3) := by decide +kernel
theorem dX10_leastOf_4 : decode cX10_leastOf 4 = .ok (.sipush 2400, 3) := by decide +kernel
theorem dX10_leastOf_7 : decode cX10_leastOf 7 = .ok (.iload_n 1, 1) := by decide +kernel
theorem dX10_leastOf_8 : decode cX10_leastOf 8 = .ok (.imul, 1) := by decide +kernel
theorem dX10_leastOf_9 : decode cX10_leastOf 9 = .ok (.iload_n 2, 1) := by decide +kernel
theorem dX10_leastOf_10 : decode cX10_leastOf 10 = .ok (.iadd, 1) := by decide +kernel
theorem dX10_leastOf_11 : decode cX10_leastOf 11 = .ok (.iaload, 1) := by decide +kernel
theorem dX10_leastOf_12 : decode cX10_leastOf 12 = .ok (.istore_n 3, 1) := by decide +kernel
theorem dX10_leastOf_13 : decode cX10_leastOf 13 = .ok (.iconst 1, 1) := by decide +kernel
theorem dX10_leastOf_14 : decode cX10_leastOf 14 = .ok (.istore 4, 2) := by decide +kernel
theorem dX10_leastOf_16 : decode cX10_leastOf 16 = .ok (.iload 4, 2) := by decide +kernel
theorem dX10_leastOf_18 : decode cX10_leastOf 18 = .ok (.aload_n 0, 1) := by decide +kernel
theorem dX10_leastOf_19 : decode cX10_leastOf 19 = .ok (.getfield 13, 3) := by decide +kernel
theorem dX10_leastOf_22 : decode cX10_leastOf 22 = .ok (.iload_n 1, 1) := by decide +kernel
theorem dX10_leastOf_23 : decode cX10_leastOf 23 = .ok (.iaload, 1) := by decide +kernel
theorem dX10_leastOf_24 : decode cX10_leastOf 24 = .ok (.if_icmp .ge 32, 3) := by decide +kernel
theorem dX10_leastOf_56 : decode cX10_leastOf 56 = .ok (.iload_n 3, 1) := by decide +kernel
theorem dX10_leastOf_57 : decode cX10_leastOf 57 = .ok (.ireturn, 1) := by decide +kernel
noncomputable def p_X10_leastOf (Y : rx_Y) : rx_P := [(0, rx_ld 2 0 1), (1, rx_get 10 3 4), (4, rx_pure (rx_push (.int 2400)) 7), (7, rx_ld 0 1 8), (8, rx_pure (rx_bi (fun x y => x * y)) 9), (9, rx_ld 0 2 10), (10, rx_pure (rx_bi (fun x y => x + y)) 11), (11, rx_ald 0 0 12), (12, rx_st 0 3 13 5), (13, rx_pure (rx_push (.int 1)) 14), (14, rx_st 0 4 16 5), (16, rx_ld 0 4 18), (18, rx_ld 2 0 19), (19, rx_get 10 1 22), (22, rx_ld 0 1 23), (23, rx_ald 0 0 24), (24, rx_br (rx_cmp Y 1) 56 27), (56, rx_ld 0 3 57), (57, rx_retv .int 0 0)]
noncomputable def m_X10_leastOf (Y : rx_Y) : rx_M := (yX10_leastOf, cX10_leastOf, 5, (some .int), { frames := 0, cells := 0, slots := 0, locals := 0 }, p_X10_leastOf Y)
theorem hd_X10_leastOf : yX10_leastOf.cls ≠ "java/lang/invoke/MethodHandle" ∧ yX10_leastOf.cls ≠ "java/lang/invoke/VarHandle" ∧ (parseMethodDescriptor yX10_leastOf.desc).map (fun d => d.parameters.length) = some 2 := by decide +kernel
abbrev cX10_less : ByteArray := prog_12_method_12_code
def yX10_less : MethodName := ⟨"SeedBenchModel", "less", "(IIJ)V"⟩
theorem dX10_less_0 : decode cX10_less 0 = .ok (.aload_n 0, 1) := by decide +kernel
theorem dX10_less_1 : decode cX10_less 1 = .ok (.getfield 17, 3) := by decide +kernel
theorem dX10_less_4 : decode cX10_less 4 = .ok (.sipush 200, 3) := by decide +kernel
theorem dX10_less_7 : decode cX10_less 7 = .ok (.iload_n 1, 1) := by decide +kernel
theorem dX10_less_8 : decode cX10_less 8 = .ok (.imul, 1) := by decide +kernel
theorem dX10_less_9 : decode cX10_less 9 = .ok (.iload_n 2, 1) := by decide +kernel
theorem dX10_less_10 : decode cX10_less 10 = .ok (.iadd, 1) := by decide +kernel
theorem dX10_less_11 : decode cX10_less 11 = .ok (.dup2, 1) := by decide +kernel
theorem dX10_less_12 : decode cX10_less 12 = .ok (.laload, 1) := by decide +kernel
theorem dX10_less_13 : decode cX10_less 13 = .ok (.lload_n 3, 1) := by decide +kernel
theorem dX10_less_14 : decode cX10_less 14 = .ok (.lsub, 1) := by decide +kernel
theorem dX10_less_15 : decode cX10_less 15 = .ok (.lastore, 1) := by decide +kernel
theorem dX10_less_16 : decode cX10_less 16 = .ok (.aload_n 0, 1) := by decide +kernel
theorem dX10_less_17 : decode cX10_less 17 = .ok (.getfield 17, 3) := by decide +kernel
theorem dX10_less_20 : decode cX10_less 20 = .ok (.sipush 200, 3) := by decide +kernel
theorem dX10_less_23 : decode cX10_less 23 = .ok (.iload_n 1, 1) := by decide +kernel
theorem dX10_less_24 : decode cX10_less 24 = .ok (.imul, 1) := by decide +kernel
theorem dX10_less_25 : decode cX10_less 25 = .ok (.iload_n 2, 1) := by decide +kernel
theorem dX10_less_26 : decode cX10_less 26 = .ok (.iadd, 1) := by decide +kernel
theorem dX10_less_27 : decode cX10_less 27 = .ok (.laload, 1) := by decide +kernel
theorem dX10_less_28 : decode cX10_less 28 = .ok (.lconst 0, 1) := by decide +kernel
theorem dX10_less_29 : decode cX10_less 29 = .ok (.lcmp, 1) := by decide +kernel
theorem dX10_less_30 : decode cX10_less 30 = .ok (.ifCond .eq 4, 3) := by decide +kernel
theorem dX10_less_34 : decode cX10_less 34 = .ok (.aload_n 0, 1) := by decide +kernel
theorem dX10_less_35 : decode cX10_less 35 = .ok (.getfield 13, 3) := by decide +kernel
theorem dX10_less_38 : decode cX10_less 38 = .ok (.iload_n 1, 1) := by decide +kernel
theorem dX10_less_39 : decode cX10_less 39 = .ok (.dup2, 1) := by decide +kernel
theorem dX10_less_40 : decode cX10_less 40 = .ok (.iaload, 1) := by decide +kernel
theorem dX10_less_41 : decode cX10_less 41 = .ok (.iconst 1, 1) := by decide +kernel
theorem dX10_less_42 : decode cX10_less 42 = .ok (.isub, 1) := by decide +kernel
theorem dX10_less_43 : decode cX10_less 43 = .ok (.iastore, 1) := by decide +kernel
theorem dX10_less_44 : decode cX10_less 44 = .ok (.iload_n 2, 1) := by decide +kernel
theorem dX10_less_45 : decode cX10_less 45 = .ok (.istore 5, 2) := by decide +kernel
theorem dX10_less_47 : decode cX10_less 47 = .ok (.iload 5, 2) := by decide +kernel
theorem dX10_less_49 : decode cX10_less 49 = .ok (.aload_n 0, 1) := by decide +kernel
theorem dX10_less_50 : decode cX10_less 50 = .ok (.getfield 13, 3) := by decide +kernel
theorem dX10_less_53 : decode cX10_less 53 = .ok (.iload_n 1, 1) := by decide +kernel
theorem dX10_less_54 : decode cX10_less 54 = .ok (.iaload, 1) := by decide +kernel
theorem dX10_less_55 : decode cX10_less 55 = .ok (.if_icmp .ge 93, 3) := by decide +kernel
theorem dX10_less_148 : decode cX10_less 148 = .ok (.return_, 1) := by decide +kernel
noncomputable def p_X10_less (Y : rx_Y) : rx_P := [(0, rx_ld 2 0 1), (1, rx_get 10 2 4), (4, rx_pure (rx_push (.int 200)) 7), (7, rx_ld 0 1 8), (8, rx_pure (rx_bi (fun x y => x * y)) 9), (9, rx_ld 0 2 10), (10, rx_pure (rx_bi (fun x y => x + y)) 11), (11, rx_pure rx_dup2 12), (12, rx_ald 1 1 13), (13, rx_ld 1 3 14), (14, rx_pure (rx_lb (fun x y => x - y)) 15), (15, rx_ast Y 1 .long 16), (16, rx_ld 2 0 17), (17, rx_get 10 2 20), (20, rx_pure (rx_push (.int 200)) 23), (23, rx_ld 0 1 24), (24, rx_pure (rx_bi (fun x y => x * y)) 25), (25, rx_ld 0 2 26), (26, rx_pure (rx_bi (fun x y => x + y)) 27), (27, rx_ald 1 1 28), (28, rx_pure (rx_push (.long 0)) 29), (29, rx_pure rx_lcmp 30), (30, rx_br (rx_cm0 Y 4) 34 33), (34, rx_ld 2 0 35), (35, rx_get 10 1 38), (38, rx_ld 0 1 39), (39, rx_pure rx_dup2 40), (40, rx_ald 0 0 41), (41, rx_pure (rx_push (.int 1)) 42), (42, rx_pure (rx_bi (fun x y => x - y)) 43), (43, rx_ast Y 0 .int 44), (44, rx_ld 0 2 45), (45, rx_st 0 5 47 7), (47, rx_ld 0 5 49), (49, rx_ld 2 0 50), (50, rx_get 10 1 53), (53, rx_ld 0 1 54), (54, rx_ald 0 0 55), (55, rx_br (rx_cmp Y 1) 148 58), (148, rx_ret0 0 0)]
noncomputable def m_X10_less (Y : rx_Y) : rx_M := (yX10_less, cX10_less, 7, none, { frames := 0, cells := 0, slots := 0, locals := 0 }, p_X10_less Y)
theorem hd_X10_less : yX10_less.cls ≠ "java/lang/invoke/MethodHandle" ∧ yX10_less.cls ≠ "java/lang/invoke/VarHandle" ∧ (parseMethodDescriptor yX10_less.desc).map (fun d => d.parameters.length) = some 3 := by decide +kernel
abbrev cX10_lesser : ByteArray := prog_12_method_18_code
def yX10_lesser : MethodName := ⟨"SeedBenchModel", "lesser", "(II)I"⟩
theorem dX10_lesser_0 : decode cX10_lesser 0 = .ok (.iload_n 0, 1) := by decide +kernel
theorem dX10_lesser_1 : decode cX10_lesser 1 = .ok (.iload_n 1, 1) := by decide +kernel
theorem dX10_lesser_2 : decode cX10_lesser 2 = .ok (.if_icmp .ge 7, 3) := by decide +kernel
theorem dX10_lesser_5 : decode cX10_lesser 5 = .ok (.iload_n 0, 1) := by decide +kernel
theorem dX10_lesser_6 : decode cX10_lesser 6 = .ok (.goto 4, 3) := by decide +kernel
theorem dX10_lesser_9 : decode cX10_lesser 9 = .ok (.iload_n 1, 1) := by decide +kernel
theorem dX10_lesser_10 : decode cX10_lesser 10 = .ok (.ireturn, 1) := by decide +kernel
noncomputable def p_X10_lesser (Y : rx_Y) : rx_P := [(0, rx_ld 0 0 1), (1, rx_ld 0 1 2), (2, rx_br (rx_cmp Y 1) 9 5), (5, rx_ld 0 0 6), (6, rx_br rx_goto 10 9), (9, rx_ld 0 1 10), (10, rx_retv .int 0 0)]
noncomputable def m_X10_lesser (Y : rx_Y) : rx_M := (yX10_lesser, cX10_lesser, 2, (some .int), { frames := 0, cells := 0, slots := 0, locals := 0 }, p_X10_lesser Y)
theorem hd_X10_lesser : yX10_lesser.cls ≠ "java/lang/invoke/MethodHandle" ∧ yX10_lesser.cls ≠ "java/lang/invoke/VarHandle" ∧ (parseMethodDescriptor yX10_lesser.desc).map (fun d => d.parameters.length) = some 2 := by decide +kernel
abbrev cX10_letterOf : ByteArray := prog_12_method_43_code
def yX10_letterOf : MethodName := ⟨"SeedBenchModel", "letterOf", "(I)I"⟩
theorem dX10_letterOf_0 : decode cX10_letterOf 0 = .ok (.iconst 0, 1) := by decide +kernel
theorem dX10_letterOf_1 : decode cX10_letterOf 1 = .ok (.istore_n 2, 1) := by decide +kernel
theorem dX10_letterOf_2 : decode cX10_letterOf 2 = .ok (.iload_n 2, 1) := by decide +kernel
theorem dX10_letterOf_3 : decode cX10_letterOf 3 = .ok (.aload_n 0, 1) := by decide +kernel
theorem dX10_letterOf_4 : decode cX10_letterOf 4 = .ok (.getfield 242, 3) := by decide +kernel
theorem dX10_letterOf_7 : decode cX10_letterOf 7 = .ok (.if_icmp .ge 23, 3) := by decide +kernel
theorem dX10_letterOf_10 : decode cX10_letterOf 10 = .ok (.aload_n 0, 1) := by decide +kernel
theorem dX10_letterOf_11 : decode cX10_letterOf 11 = .ok (.bipush 50, 2) := by decide +kernel
theorem dX10_letterOf_13 : decode cX10_letterOf 13 = .ok (.iload_n 2, 1) := by decide +kernel
theorem dX10_letterOf_14 : decode cX10_letterOf 14 = .ok (.iadd, 1) := by decide +kernel
theorem dX10_letterOf_15 : decode cX10_letterOf 15 = .ok (.iload_n 1, 1) := by decide +kernel
theorem dX10_letterOf_16 : decode cX10_letterOf 16 = .ok (.invokevirtual 238, 3) := by decide +kernel
theorem dX10_letterOf_19 : decode cX10_letterOf 19 = .ok (.ifCond .eq 5, 3) := by decide +kernel
theorem dX10_letterOf_22 : decode cX10_letterOf 22 = .ok (.iload_n 2, 1) := by decide +kernel
theorem dX10_letterOf_23 : decode cX10_letterOf 23 = .ok (.ireturn, 1) := by decide +kernel
theorem dX10_letterOf_24 : decode cX10_letterOf 24 = .ok (.iinc 2 1, 3) := by decide +kernel
theorem dX10_letterOf_27 : decode cX10_letterOf 27 = .ok (.goto (-25), 3) := by decide +kernel
theorem dX10_letterOf_30 : decode cX10_letterOf 30 = .ok (.aload_n 0, 1) := by decide +kernel
theorem dX10_letterOf_31 : decode cX10_letterOf 31 = .ok (.bipush 50, 2) := by decide +kernel
theorem dX10_letterOf_33 : decode cX10_letterOf 33 = .ok (.aload_n 0, 1) := by decide +kernel
theorem dX10_letterOf_34 : decode cX10_letterOf 34 = .ok (.getfield 242, 3) := by decide +kernel
theorem dX10_letterOf_37 : decode cX10_letterOf 37 = .ok (.iadd, 1) := by decide +kernel
theorem dX10_letterOf_38 : decode cX10_letterOf 38 = .ok (.iload_n 1, 1) := by decide +kernel
theorem dX10_letterOf_39 : decode cX10_letterOf 39 = .ok (.invokevirtual 164, 3) := by decide +kernel
theorem dX10_letterOf_42 : decode cX10_letterOf 42 = .ok (.aload_n 0, 1) := by decide +kernel
theorem dX10_letterOf_43 : decode cX10_letterOf 43 = .ok (.dup, 1) := by decide +kernel
theorem dX10_letterOf_44 : decode cX10_letterOf 44 = .ok (.getfield 242, 3) := by decide +kernel
theorem dX10_letterOf_47 : decode cX10_letterOf 47 = .ok (.iconst 1, 1) := by decide +kernel
theorem dX10_letterOf_48 : decode cX10_letterOf 48 = .ok (.iadd, 1) := by decide +kernel
theorem dX10_letterOf_49 : decode cX10_letterOf 49 = .ok (.putfield 242, 3) := by decide +kernel
theorem dX10_letterOf_52 : decode cX10_letterOf 52 = .ok (.aload_n 0, 1) := by decide +kernel
theorem dX10_letterOf_53 : decode cX10_letterOf 53 = .ok (.getfield 242, 3) := by decide +kernel
theorem dX10_letterOf_56 : decode cX10_letterOf 56 = .ok (.iconst 1, 1) := by decide +kernel
theorem dX10_letterOf_57 : decode cX10_letterOf 57 = .ok (.isub, 1) := by decide +kernel
theorem dX10_letterOf_58 : decode cX10_letterOf 58 = .ok (.ireturn, 1) := by decide +kernel
noncomputable def p_X10_letterOf (Y : rx_Y) : rx_P := [(0, rx_pure (rx_push (.int 0)) 1), (1, rx_st 0 2 2 3), (2, rx_ld 0 2 3), (3, rx_ld 2 0 4), (4, rx_get 10 26 7), (7, rx_br (rx_cmp Y 1) 30 10), (10, rx_ld 2 0 11), (11, rx_pure (rx_push (.int 50)) 13), (13, rx_ld 0 2 14), (14, rx_pure (rx_bi (fun x y => x + y)) 15), (15, rx_ld 0 1 16), (16, rx_cl 97 3 10 true 0 0 0 0 19), (19, rx_br (rx_cm0 Y 4) 24 22), (22, rx_ld 0 2 23), (23, rx_retv .int 0 0), (24, rx_inc 2 1 27 3), (27, rx_br rx_goto 2 30), (30, rx_ld 2 0 31), (31, rx_pure (rx_push (.int 50)) 33), (33, rx_ld 2 0 34), (34, rx_get 10 26 37), (37, rx_pure (rx_bi (fun x y => x + y)) 38), (38, rx_ld 0 1 39), (39, rx_cl 104 3 10 true 0 0 0 0 42), (42, rx_ld 2 0 43), (43, rx_pure rx_dup 44), (44, rx_get 10 26 47), (47, rx_pure (rx_push (.int 1)) 48), (48, rx_pure (rx_bi (fun x y => x + y)) 49), (49, rx_putf 10 26 .int 52), (52, rx_ld 2 0 53), (53, rx_get 10 26 56), (56, rx_pure (rx_push (.int 1)) 57), (57, rx_pure (rx_bi (fun x y => x - y)) 58), (58, rx_retv .int 0 0)]
noncomputable def m_X10_letterOf (Y : rx_Y) : rx_M := (yX10_letterOf, cX10_letterOf, 3, (some .int), { frames := 1, cells := 0, slots := 0, locals := 24 }, p_X10_letterOf Y)
theorem hd_X10_letterOf : yX10_letterOf.cls ≠ "java/lang/invoke/MethodHandle" ∧ yX10_letterOf.cls ≠ "java/lang/invoke/VarHandle" ∧ (parseMethodDescriptor yX10_letterOf.desc).map (fun d => d.parameters.length) = some 1 := by decide +kernel
abbrev cX10_one : ByteArray := prog_12_method_8_code
def yX10_one : MethodName := ⟨"SeedBenchModel", "one", "(I)V"⟩
theorem dX10_one_0 : decode cX10_one 0 = .ok (.aload_n 0, 1) := by decide +kernel
theorem dX10_one_1 : decode cX10_one 1 = .ok (.getfield 13, 3) := by decide +kernel
theorem dX10_one_4 : decode cX10_one 4 = .ok (.iload_n 1, 1) := by decide +kernel
theorem dX10_one_5 : decode cX10_one 5 = .ok (.iconst 1, 1) := by decide +kernel
theorem dX10_one_6 : decode cX10_one 6 = .ok (.iastore, 1) := by decide +kernel
theorem dX10_one_7 : decode cX10_one 7 = .ok (.aload_n 0, 1) := by decide +kernel
theorem dX10_one_8 : decode cX10_one 8 = .ok (.getfield 17, 3) := by decide +kernel
theorem dX10_one_11 : decode cX10_one 11 = .ok (.sipush 200, 3) := by decide +kernel
theorem dX10_one_14 : decode cX10_one 14 = .ok (.iload_n 1, 1) := by decide +kernel
theorem dX10_one_15 : decode cX10_one 15 = .ok (.imul, 1) := by decide +kernel
theorem dX10_one_16 : decode cX10_one 16 = .ok (.lconst 1, 1) := by decide +kernel
theorem dX10_one_17 : decode cX10_one 17 = .ok (.lastore, 1) := by decide +kernel
theorem dX10_one_18 : decode cX10_one 18 = .ok (.iconst 0, 1) := by decide +kernel
theorem dX10_one_19 : decode cX10_one 19 = .ok (.istore_n 2, 1) := by decide +kernel
theorem dX10_one_20 : decode cX10_one 20 = .ok (.iload_n 2, 1) := by decide +kernel
theorem dX10_one_21 : decode cX10_one 21 = .ok (.bipush 12, 2) := by decide +kernel
theorem dX10_one_23 : decode cX10_one 23 = .ok (.if_icmp .ge 22, 3) := by decide +kernel
theorem dX10_one_26 : decode cX10_one 26 = .ok (.aload_n 0, 1) := by decide +kernel
theorem dX10_one_27 : decode cX10_one 27 = .ok (.getfield 22, 3) := by decide +kernel
theorem dX10_one_30 : decode cX10_one 30 = .ok (.sipush 2400, 3) := by decide +kernel
theorem dX10_one_33 : decode cX10_one 33 = .ok (.iload_n 1, 1) := by decide +kernel
theorem dX10_one_34 : decode cX10_one 34 = .ok (.imul, 1) := by decide +kernel
theorem dX10_one_35 : decode cX10_one 35 = .ok (.iload_n 2, 1) := by decide +kernel
theorem dX10_one_36 : decode cX10_one 36 = .ok (.iadd, 1) := by decide +kernel
theorem dX10_one_37 : decode cX10_one 37 = .ok (.iconst 0, 1) := by decide +kernel
theorem dX10_one_38 : decode cX10_one 38 = .ok (.iastore, 1) := by decide +kernel
theorem dX10_one_39 : decode cX10_one 39 = .ok (.iinc 2 1, 3) := by decide +kernel
theorem dX10_one_42 : decode cX10_one 42 = .ok (.goto (-22), 3) := by decide +kernel
theorem dX10_one_45 : decode cX10_one 45 = .ok (.return_, 1) := by decide +kernel
noncomputable def p_X10_one (Y : rx_Y) : rx_P := [(0, rx_ld 2 0 1), (1, rx_get 10 1 4), (4, rx_ld 0 1 5), (5, rx_pure (rx_push (.int 1)) 6), (6, rx_ast Y 0 .int 7), (7, rx_ld 2 0 8), (8, rx_get 10 2 11), (11, rx_pure (rx_push (.int 200)) 14), (14, rx_ld 0 1 15), (15, rx_pure (rx_bi (fun x y => x * y)) 16), (16, rx_pure (rx_push (.long 1)) 17), (17, rx_ast Y 1 .long 18), (18, rx_pure (rx_push (.int 0)) 19), (19, rx_st 0 2 20 3), (20, rx_ld 0 2 21), (21, rx_pure (rx_push (.int 12)) 23), (23, rx_br (rx_cmp Y 1) 45 26), (26, rx_ld 2 0 27), (27, rx_get 10 3 30), (30, rx_pure (rx_push (.int 2400)) 33), (33, rx_ld 0 1 34), (34, rx_pure (rx_bi (fun x y => x * y)) 35), (35, rx_ld 0 2 36), (36, rx_pure (rx_bi (fun x y => x + y)) 37), (37, rx_pure (rx_push (.int 0)) 38), (38, rx_ast Y 0 .int 39), (39, rx_inc 2 1 42 3), (42, rx_br rx_goto 20 45), (45, rx_ret0 0 0)]
noncomputable def m_X10_one (Y : rx_Y) : rx_M := (yX10_one, cX10_one, 3, none, { frames := 0, cells := 0, slots := 0, locals := 0 }, p_X10_one Y)
theorem hd_X10_one : yX10_one.cls ≠ "java/lang/invoke/MethodHandle" ∧ yX10_one.cls ≠ "java/lang/invoke/VarHandle" ∧ (parseMethodDescriptor yX10_one.desc).map (fun d => d.parameters.length) = some 1 := by decide +kernel
abbrev cX10_ones : ByteArray := prog_12_method_38_code
def yX10_ones : MethodName := ⟨"SeedBenchModel", "ones", "(I)J"⟩
theorem dX10_ones_0 : decode cX10_ones 0 = .ok (.iload_n 1, 1) := by decide +kernel
theorem dX10_ones_1 : decode cX10_ones 1 = .ok (.ifCond .lt 11, 3) := by decide +kernel
theorem dX10_ones_4 : decode cX10_ones 4 = .ok (.iload_n 1, 1) := by decide +kernel
theorem dX10_ones_5 : decode cX10_ones 5 = .ok (.aload_n 0, 1) := by decide +kernel
theorem dX10_ones_6 : decode cX10_ones 6 = .ok (.getfield 132, 3) := by decide +kernel
theorem dX10_ones_9 : decode cX10_ones 9 = .ok (.if_icmp .lt 7, 3) := by decide +kernel
theorem dX10_ones_12 : decode cX10_ones 12 = .ok (.lconst 0, 1) := by decide +kernel
theorem dX10_ones_13 : decode cX10_ones 13 = .ok (.goto 8, 3) := by decide +kernel
theorem dX10_ones_16 : decode cX10_ones 16 = .ok (.aload_n 0, 1) := by decide +kernel
theorem dX10_ones_17 : decode cX10_ones 17 = .ok (.iload_n 1, 1) := by decide +kernel
theorem dX10_ones_18 : decode cX10_ones 18 = .ok (.invokevirtual 234, 3) := by decide +kernel
theorem dX10_ones_21 : decode cX10_ones 21 = .ok (.lreturn, 1) := by decide +kernel
noncomputable def p_X10_ones (Y : rx_Y) : rx_P := [(0, rx_ld 0 1 1), (1, rx_br (rx_cm0 Y 0) 12 4), (4, rx_ld 0 1 5), (5, rx_ld 2 0 6), (6, rx_get 10 7 9), (9, rx_br (rx_cmp Y 0) 16 12), (12, rx_pure (rx_push (.long 0)) 13), (13, rx_br rx_goto 21 16), (16, rx_ld 2 0 17), (17, rx_ld 0 1 18), (18, rx_cl 143 2 10 true 0 0 0 0 21), (21, rx_retv .long 0 0)]
noncomputable def m_X10_ones (Y : rx_Y) : rx_M := (yX10_ones, cX10_ones, 2, (some .long), { frames := 1, cells := 0, slots := 0, locals := 24 }, p_X10_ones Y)
theorem hd_X10_ones : yX10_ones.cls ≠ "java/lang/invoke/MethodHandle" ∧ yX10_ones.cls ≠ "java/lang/invoke/VarHandle" ∧ (parseMethodDescriptor yX10_ones.desc).map (fun d => d.parameters.length) = some 1 := by decide +kernel
abbrev cX10_order : ByteArray := prog_12_method_59_code
def yX10_order : MethodName := ⟨"SeedBenchModel", "order", "()I"⟩
theorem dX10_order_0 : decode cX10_order 0 = .ok (.aload_n 0, 1) := by decide +kernel
theorem dX10_order_1 : decode cX10_order 1 = .ok (.getfield 308, 3) := by decide +kernel
theorem dX10_order_4 : decode cX10_order 4 = .ok (.ifCond .ne 5, 3) := by decide +kernel
theorem dX10_order_7 : decode cX10_order 7 = .ok (.iconst (-1), 1) := by decide +kernel
theorem dX10_order_8 : decode cX10_order 8 = .ok (.ireturn, 1) := by decide +kernel
noncomputable def p_X10_order (Y : rx_Y) : rx_P := [(0, rx_ld 2 0 1), (1, rx_get 10 46 4), (4, rx_br (rx_cm0 Y 5) 9 7), (7, rx_pure (rx_push (.int (-1))) 8), (8, rx_retv .int 0 0)]
noncomputable def m_X10_order (Y : rx_Y) : rx_M := (yX10_order, cX10_order, 5, (some .int), { frames := 0, cells := 0, slots := 0, locals := 0 }, p_X10_order Y)
theorem hd_X10_order : yX10_order.cls ≠ "java/lang/invoke/MethodHandle" ∧ yX10_order.cls ≠ "java/lang/invoke/VarHandle" ∧ (parseMethodDescriptor yX10_order.desc).map (fun d => d.parameters.length) = some 0 := by decide +kernel
abbrev cX10_parts : ByteArray := prog_12_method_11_code
def yX10_parts : MethodName := ⟨"SeedBenchModel", "parts", "(III)V"⟩
theorem dX10_parts_0 : decode cX10_parts 0 = .ok (.aload_n 0, 1) := by decide +kernel
theorem dX10_parts_1 : decode cX10_parts 1 = .ok (.getfield 13, 3) := by decide +kernel
theorem dX10_parts_4 : decode cX10_parts 4 = .ok (.iload_n 1, 1) := by decide +kernel
theorem dX10_parts_5 : decode cX10_parts 5 = .ok (.iconst 0, 1) := by decide +kernel
theorem dX10_parts_6 : decode cX10_parts 6 = .ok (.iastore, 1) := by decide +kernel
theorem dX10_parts_7 : decode cX10_parts 7 = .ok (.aload_n 0, 1) := by decide +kernel
theorem dX10_parts_8 : decode cX10_parts 8 = .ok (.getfield 13, 3) := by decide +kernel
theorem dX10_parts_11 : decode cX10_parts 11 = .ok (.iload_n 3, 1) := by decide +kernel
theorem dX10_parts_12 : decode cX10_parts 12 = .ok (.iaload, 1) := by decide +kernel
theorem dX10_parts_13 : decode cX10_parts 13 = .ok (.iconst 1, 1) := by decide +kernel
theorem dX10_parts_14 : decode cX10_parts 14 = .ok (.isub, 1) := by decide +kernel
theorem dX10_parts_15 : decode cX10_parts 15 = .ok (.istore 4, 2) := by decide +kernel
theorem dX10_parts_17 : decode cX10_parts 17 = .ok (.aload_n 0, 1) := by decide +kernel
theorem dX10_parts_18 : decode cX10_parts 18 = .ok (.getfield 13, 3) := by decide +kernel
theorem dX10_parts_21 : decode cX10_parts 21 = .ok (.iload_n 2, 1) := by decide +kernel
theorem dX10_parts_22 : decode cX10_parts 22 = .ok (.iaload, 1) := by decide +kernel
theorem dX10_parts_23 : decode cX10_parts 23 = .ok (.ifCond .le 260, 3) := by decide +kernel
theorem dX10_parts_26 : decode cX10_parts 26 = .ok (.aload_n 0, 1) := by decide +kernel
theorem dX10_parts_27 : decode cX10_parts 27 = .ok (.getfield 13, 3) := by decide +kernel
theorem dX10_parts_30 : decode cX10_parts 30 = .ok (.iload_n 2, 1) := by decide +kernel
theorem dX10_parts_31 : decode cX10_parts 31 = .ok (.iaload, 1) := by decide +kernel
theorem dX10_parts_32 : decode cX10_parts 32 = .ok (.iconst 1, 1) := by decide +kernel
theorem dX10_parts_33 : decode cX10_parts 33 = .ok (.isub, 1) := by decide +kernel
theorem dX10_parts_34 : decode cX10_parts 34 = .ok (.istore 5, 2) := by decide +kernel
theorem dX10_parts_36 : decode cX10_parts 36 = .ok (.aload_n 0, 1) := by decide +kernel
theorem dX10_parts_37 : decode cX10_parts 37 = .ok (.getfield 17, 3) := by decide +kernel
theorem dX10_parts_40 : decode cX10_parts 40 = .ok (.sipush 200, 3) := by decide +kernel
theorem dX10_parts_43 : decode cX10_parts 43 = .ok (.iload_n 2, 1) := by decide +kernel
theorem dX10_parts_44 : decode cX10_parts 44 = .ok (.imul, 1) := by decide +kernel
theorem dX10_parts_45 : decode cX10_parts 45 = .ok (.iload 5, 2) := by decide +kernel
theorem dX10_parts_47 : decode cX10_parts 47 = .ok (.iadd, 1) := by decide +kernel
theorem dX10_parts_48 : decode cX10_parts 48 = .ok (.laload, 1) := by decide +kernel
theorem dX10_parts_49 : decode cX10_parts 49 = .ok (.aload_n 0, 1) := by decide +kernel
theorem dX10_parts_50 : decode cX10_parts 50 = .ok (.getfield 17, 3) := by decide +kernel
theorem dX10_parts_53 : decode cX10_parts 53 = .ok (.sipush 200, 3) := by decide +kernel
theorem dX10_parts_56 : decode cX10_parts 56 = .ok (.iload_n 3, 1) := by decide +kernel
theorem dX10_parts_57 : decode cX10_parts 57 = .ok (.imul, 1) := by decide +kernel
theorem dX10_parts_58 : decode cX10_parts 58 = .ok (.iload 4, 2) := by decide +kernel
theorem dX10_parts_60 : decode cX10_parts 60 = .ok (.iadd, 1) := by decide +kernel
theorem dX10_parts_61 : decode cX10_parts 61 = .ok (.laload, 1) := by decide +kernel
theorem dX10_parts_62 : decode cX10_parts 62 = .ok (.ldiv, 1) := by decide +kernel
theorem dX10_parts_63 : decode cX10_parts 63 = .ok (.lstore 6, 2) := by decide +kernel
theorem dX10_parts_65 : decode cX10_parts 65 = .ok (.aload_n 0, 1) := by decide +kernel
theorem dX10_parts_66 : decode cX10_parts 66 = .ok (.getfield 13, 3) := by decide +kernel
theorem dX10_parts_69 : decode cX10_parts 69 = .ok (.iload_n 1, 1) := by decide +kernel
theorem dX10_parts_70 : decode cX10_parts 70 = .ok (.iaload, 1) := by decide +kernel
theorem dX10_parts_71 : decode cX10_parts 71 = .ok (.istore 8, 2) := by decide +kernel
theorem dX10_parts_73 : decode cX10_parts 73 = .ok (.aload_n 0, 1) := by decide +kernel
theorem dX10_parts_74 : decode cX10_parts 74 = .ok (.getfield 13, 3) := by decide +kernel
theorem dX10_parts_77 : decode cX10_parts 77 = .ok (.iload_n 1, 1) := by decide +kernel
theorem dX10_parts_78 : decode cX10_parts 78 = .ok (.dup2, 1) := by decide +kernel
theorem dX10_parts_79 : decode cX10_parts 79 = .ok (.iaload, 1) := by decide +kernel
theorem dX10_parts_80 : decode cX10_parts 80 = .ok (.iconst 1, 1) := by decide +kernel
theorem dX10_parts_81 : decode cX10_parts 81 = .ok (.iadd, 1) := by decide +kernel
theorem dX10_parts_82 : decode cX10_parts 82 = .ok (.iastore, 1) := by decide +kernel
theorem dX10_parts_83 : decode cX10_parts 83 = .ok (.aload_n 0, 1) := by decide +kernel
theorem dX10_parts_84 : decode cX10_parts 84 = .ok (.getfield 17, 3) := by decide +kernel
theorem dX10_parts_87 : decode cX10_parts 87 = .ok (.sipush 200, 3) := by decide +kernel
theorem dX10_parts_90 : decode cX10_parts 90 = .ok (.iload_n 1, 1) := by decide +kernel
theorem dX10_parts_91 : decode cX10_parts 91 = .ok (.imul, 1) := by decide +kernel
theorem dX10_parts_92 : decode cX10_parts 92 = .ok (.iload 8, 2) := by decide +kernel
theorem dX10_parts_94 : decode cX10_parts 94 = .ok (.iadd, 1) := by decide +kernel
theorem dX10_parts_95 : decode cX10_parts 95 = .ok (.lload 6, 2) := by decide +kernel
theorem dX10_parts_97 : decode cX10_parts 97 = .ok (.lastore, 1) := by decide +kernel
theorem dX10_parts_98 : decode cX10_parts 98 = .ok (.iconst 0, 1) := by decide +kernel
theorem dX10_parts_99 : decode cX10_parts 99 = .ok (.istore 9, 2) := by decide +kernel
theorem dX10_parts_101 : decode cX10_parts 101 = .ok (.iload 9, 2) := by decide +kernel
theorem dX10_parts_103 : decode cX10_parts 103 = .ok (.bipush 12, 2) := by decide +kernel
theorem dX10_parts_105 : decode cX10_parts 105 = .ok (.if_icmp .ge 67, 3) := by decide +kernel
theorem dX10_parts_108 : decode cX10_parts 108 = .ok (.aload_n 0, 1) := by decide +kernel
theorem dX10_parts_109 : decode cX10_parts 109 = .ok (.getfield 22, 3) := by decide +kernel
theorem dX10_parts_112 : decode cX10_parts 112 = .ok (.bipush 12, 2) := by decide +kernel
theorem dX10_parts_114 : decode cX10_parts 114 = .ok (.sipush 200, 3) := by decide +kernel
theorem dX10_parts_117 : decode cX10_parts 117 = .ok (.iload_n 1, 1) := by decide +kernel
theorem dX10_parts_118 : decode cX10_parts 118 = .ok (.imul, 1) := by decide +kernel
theorem dX10_parts_119 : decode cX10_parts 119 = .ok (.iload 8, 2) := by decide +kernel
theorem dX10_parts_121 : decode cX10_parts 121 = .ok (.iadd, 1) := by decide +kernel
theorem dX10_parts_122 : decode cX10_parts 122 = .ok (.imul, 1) := by decide +kernel
theorem dX10_parts_123 : decode cX10_parts 123 = .ok (.iload 9, 2) := by decide +kernel
theorem dX10_parts_125 : decode cX10_parts 125 = .ok (.iadd, 1) := by decide +kernel
theorem dX10_parts_126 : decode cX10_parts 126 = .ok (.aload_n 0, 1) := by decide +kernel
theorem dX10_parts_127 : decode cX10_parts 127 = .ok (.getfield 22, 3) := by decide +kernel
theorem dX10_parts_130 : decode cX10_parts 130 = .ok (.bipush 12, 2) := by decide +kernel
theorem dX10_parts_132 : decode cX10_parts 132 = .ok (.sipush 200, 3) := by decide +kernel
theorem dX10_parts_135 : decode cX10_parts 135 = .ok (.iload_n 2, 1) := by decide +kernel
theorem dX10_parts_136 : decode cX10_parts 136 = .ok (.imul, 1) := by decide +kernel
theorem dX10_parts_137 : decode cX10_parts 137 = .ok (.iload 5, 2) := by decide +kernel
theorem dX10_parts_139 : decode cX10_parts 139 = .ok (.iadd, 1) := by decide +kernel
theorem dX10_parts_140 : decode cX10_parts 140 = .ok (.imul, 1) := by decide +kernel
theorem dX10_parts_141 : decode cX10_parts 141 = .ok (.iload 9, 2) := by decide +kernel
theorem dX10_parts_143 : decode cX10_parts 143 = .ok (.iadd, 1) := by decide +kernel
theorem dX10_parts_144 : decode cX10_parts 144 = .ok (.iaload, 1) := by decide +kernel
theorem dX10_parts_145 : decode cX10_parts 145 = .ok (.aload_n 0, 1) := by decide +kernel
theorem dX10_parts_146 : decode cX10_parts 146 = .ok (.getfield 22, 3) := by decide +kernel
theorem dX10_parts_149 : decode cX10_parts 149 = .ok (.bipush 12, 2) := by decide +kernel
theorem dX10_parts_151 : decode cX10_parts 151 = .ok (.sipush 200, 3) := by decide +kernel
theorem dX10_parts_154 : decode cX10_parts 154 = .ok (.iload_n 3, 1) := by decide +kernel
theorem dX10_parts_155 : decode cX10_parts 155 = .ok (.imul, 1) := by decide +kernel
theorem dX10_parts_156 : decode cX10_parts 156 = .ok (.iload 4, 2) := by decide +kernel
theorem dX10_parts_158 : decode cX10_parts 158 = .ok (.iadd, 1) := by decide +kernel
theorem dX10_parts_159 : decode cX10_parts 159 = .ok (.imul, 1) := by decide +kernel
theorem dX10_parts_160 : decode cX10_parts 160 = .ok (.iload 9, 2) := by decide +kernel
theorem dX10_parts_162 : decode cX10_parts 162 = .ok (.iadd, 1) := by decide +kernel
theorem dX10_parts_163 : decode cX10_parts 163 = .ok (.iaload, 1) := by decide +kernel
theorem dX10_parts_164 : decode cX10_parts 164 = .ok (.isub, 1) := by decide +kernel
theorem dX10_parts_165 : decode cX10_parts 165 = .ok (.iastore, 1) := by decide +kernel
theorem dX10_parts_166 : decode cX10_parts 166 = .ok (.iinc 9 1, 3) := by decide +kernel
theorem dX10_parts_169 : decode cX10_parts 169 = .ok (.goto (-68), 3) := by decide +kernel
theorem dX10_parts_172 : decode cX10_parts 172 = .ok (.iconst 0, 1) := by decide +kernel
theorem dX10_parts_173 : decode cX10_parts 173 = .ok (.istore 9, 2) := by decide +kernel
theorem dX10_parts_175 : decode cX10_parts 175 = .ok (.iload 9, 2) := by decide +kernel
theorem dX10_parts_177 : decode cX10_parts 177 = .ok (.aload_n 0, 1) := by decide +kernel
theorem dX10_parts_178 : decode cX10_parts 178 = .ok (.getfield 13, 3) := by decide +kernel
theorem dX10_parts_181 : decode cX10_parts 181 = .ok (.iload_n 3, 1) := by decide +kernel
theorem dX10_parts_182 : decode cX10_parts 182 = .ok (.iaload, 1) := by decide +kernel
theorem dX10_parts_183 : decode cX10_parts 183 = .ok (.if_icmp .ge 97, 3) := by decide +kernel
theorem dX10_parts_186 : decode cX10_parts 186 = .ok (.iconst 0, 1) := by decide +kernel
theorem dX10_parts_187 : decode cX10_parts 187 = .ok (.istore 10, 2) := by decide +kernel
theorem dX10_parts_189 : decode cX10_parts 189 = .ok (.iload 10, 2) := by decide +kernel
theorem dX10_parts_191 : decode cX10_parts 191 = .ok (.bipush 12, 2) := by decide +kernel
theorem dX10_parts_193 : decode cX10_parts 193 = .ok (.if_icmp .ge 55, 3) := by decide +kernel
theorem dX10_parts_196 : decode cX10_parts 196 = .ok (.aload_n 0, 1) := by decide +kernel
theorem dX10_parts_197 : decode cX10_parts 197 = .ok (.getfield 25, 3) := by decide +kernel
theorem dX10_parts_200 : decode cX10_parts 200 = .ok (.iload 10, 2) := by decide +kernel
theorem dX10_parts_202 : decode cX10_parts 202 = .ok (.aload_n 0, 1) := by decide +kernel
theorem dX10_parts_203 : decode cX10_parts 203 = .ok (.getfield 22, 3) := by decide +kernel
theorem dX10_parts_206 : decode cX10_parts 206 = .ok (.bipush 12, 2) := by decide +kernel
theorem dX10_parts_208 : decode cX10_parts 208 = .ok (.sipush 200, 3) := by decide +kernel
theorem dX10_parts_211 : decode cX10_parts 211 = .ok (.iload_n 1, 1) := by decide +kernel
theorem dX10_parts_212 : decode cX10_parts 212 = .ok (.imul, 1) := by decide +kernel
theorem dX10_parts_213 : decode cX10_parts 213 = .ok (.iload 8, 2) := by decide +kernel
theorem dX10_parts_215 : decode cX10_parts 215 = .ok (.iadd, 1) := by decide +kernel
theorem dX10_parts_216 : decode cX10_parts 216 = .ok (.imul, 1) := by decide +kernel
theorem dX10_parts_217 : decode cX10_parts 217 = .ok (.iload 10, 2) := by decide +kernel
theorem dX10_parts_219 : decode cX10_parts 219 = .ok (.iadd, 1) := by decide +kernel
theorem dX10_parts_220 : decode cX10_parts 220 = .ok (.iaload, 1) := by decide +kernel
theorem dX10_parts_221 : decode cX10_parts 221 = .ok (.aload_n 0, 1) := by decide +kernel
theorem dX10_parts_222 : decode cX10_parts 222 = .ok (.getfield 22, 3) := by decide +kernel
theorem dX10_parts_225 : decode cX10_parts 225 = .ok (.bipush 12, 2) := by decide +kernel
theorem dX10_parts_227 : decode cX10_parts 227 = .ok (.sipush 200, 3) := by decide +kernel
theorem dX10_parts_230 : decode cX10_parts 230 = .ok (.iload_n 3, 1) := by decide +kernel
theorem dX10_parts_231 : decode cX10_parts 231 = .ok (.imul, 1) := by decide +kernel
theorem dX10_parts_232 : decode cX10_parts 232 = .ok (.iload 9, 2) := by decide +kernel
theorem dX10_parts_234 : decode cX10_parts 234 = .ok (.iadd, 1) := by decide +kernel
theorem dX10_parts_235 : decode cX10_parts 235 = .ok (.imul, 1) := by decide +kernel
theorem dX10_parts_236 : decode cX10_parts 236 = .ok (.iload 10, 2) := by decide +kernel
theorem dX10_parts_238 : decode cX10_parts 238 = .ok (.iadd, 1) := by decide +kernel
theorem dX10_parts_239 : decode cX10_parts 239 = .ok (.iaload, 1) := by decide +kernel
theorem dX10_parts_240 : decode cX10_parts 240 = .ok (.iadd, 1) := by decide +kernel
theorem dX10_parts_241 : decode cX10_parts 241 = .ok (.iastore, 1) := by decide +kernel
theorem dX10_parts_242 : decode cX10_parts 242 = .ok (.iinc 10 1, 3) := by decide +kernel
theorem dX10_parts_245 : decode cX10_parts 245 = .ok (.goto (-56), 3) := by decide +kernel
theorem dX10_parts_248 : decode cX10_parts 248 = .ok (.aload_n 0, 1) := by decide +kernel
theorem dX10_parts_249 : decode cX10_parts 249 = .ok (.iload_n 2, 1) := by decide +kernel
theorem dX10_parts_250 : decode cX10_parts 250 = .ok (.aload_n 0, 1) := by decide +kernel
theorem dX10_parts_251 : decode cX10_parts 251 = .ok (.iload_n 2, 1) := by decide +kernel
theorem dX10_parts_252 : decode cX10_parts 252 = .ok (.invokevirtual 142, 3) := by decide +kernel
theorem dX10_parts_255 : decode cX10_parts 255 = .ok (.lload 6, 2) := by decide +kernel
theorem dX10_parts_257 : decode cX10_parts 257 = .ok (.aload_n 0, 1) := by decide +kernel
theorem dX10_parts_258 : decode cX10_parts 258 = .ok (.getfield 17, 3) := by decide +kernel
theorem dX10_parts_261 : decode cX10_parts 261 = .ok (.sipush 200, 3) := by decide +kernel
theorem dX10_parts_264 : decode cX10_parts 264 = .ok (.iload_n 3, 1) := by decide +kernel
theorem dX10_parts_265 : decode cX10_parts 265 = .ok (.imul, 1) := by decide +kernel
theorem dX10_parts_266 : decode cX10_parts 266 = .ok (.iload 9, 2) := by decide +kernel
theorem dX10_parts_268 : decode cX10_parts 268 = .ok (.iadd, 1) := by decide +kernel
theorem dX10_parts_269 : decode cX10_parts 269 = .ok (.laload, 1) := by decide +kernel
theorem dX10_parts_270 : decode cX10_parts 270 = .ok (.lmul, 1) := by decide +kernel
theorem dX10_parts_271 : decode cX10_parts 271 = .ok (.invokevirtual 168, 3) := by decide +kernel
theorem dX10_parts_274 : decode cX10_parts 274 = .ok (.iinc 9 1, 3) := by decide +kernel
theorem dX10_parts_277 : decode cX10_parts 277 = .ok (.goto (-102), 3) := by decide +kernel
theorem dX10_parts_280 : decode cX10_parts 280 = .ok (.goto (-263), 3) := by decide +kernel
theorem dX10_parts_283 : decode cX10_parts 283 = .ok (.aload_n 0, 1) := by decide +kernel
theorem dX10_parts_284 : decode cX10_parts 284 = .ok (.iload_n 1, 1) := by decide +kernel
theorem dX10_parts_285 : decode cX10_parts 285 = .ok (.invokevirtual 172, 3) := by decide +kernel
theorem dX10_parts_288 : decode cX10_parts 288 = .ok (.return_, 1) := by decide +kernel
noncomputable def p_X10_parts (Y : rx_Y) : rx_P := [(0, rx_ld 2 0 1), (1, rx_get 10 1 4), (4, rx_ld 0 1 5), (5, rx_pure (rx_push (.int 0)) 6), (6, rx_ast Y 0 .int 7), (7, rx_ld 2 0 8), (8, rx_get 10 1 11), (11, rx_ld 0 3 12), (12, rx_ald 0 0 13), (13, rx_pure (rx_push (.int 1)) 14), (14, rx_pure (rx_bi (fun x y => x - y)) 15), (15, rx_st 0 4 17 11), (17, rx_ld 2 0 18), (18, rx_get 10 1 21), (21, rx_ld 0 2 22), (22, rx_ald 0 0 23), (23, rx_br (rx_cm0 Y 3) 283 26), (26, rx_ld 2 0 27), (27, rx_get 10 1 30), (30, rx_ld 0 2 31), (31, rx_ald 0 0 32), (32, rx_pure (rx_push (.int 1)) 33), (33, rx_pure (rx_bi (fun x y => x - y)) 34), (34, rx_st 0 5 36 11), (36, rx_ld 2 0 37), (37, rx_get 10 2 40), (40, rx_pure (rx_push (.int 200)) 43), (43, rx_ld 0 2 44), (44, rx_pure (rx_bi (fun x y => x * y)) 45), (45, rx_ld 0 5 47), (47, rx_pure (rx_bi (fun x y => x + y)) 48), (48, rx_ald 1 1 49), (49, rx_ld 2 0 50), (50, rx_get 10 2 53), (53, rx_pure (rx_push (.int 200)) 56), (56, rx_ld 0 3 57), (57, rx_pure (rx_bi (fun x y => x * y)) 58), (58, rx_ld 0 4 60), (60, rx_pure (rx_bi (fun x y => x + y)) 61), (61, rx_ald 1 1 62), (62, rx_pure (rx_lbd (fun x y => x / y)) 63), (63, rx_st 1 6 65 11), (65, rx_ld 2 0 66), (66, rx_get 10 1 69), (69, rx_ld 0 1 70), (70, rx_ald 0 0 71), (71, rx_st 0 8 73 11), (73, rx_ld 2 0 74), (74, rx_get 10 1 77), (77, rx_ld 0 1 78), (78, rx_pure rx_dup2 79), (79, rx_ald 0 0 80), (80, rx_pure (rx_push (.int 1)) 81), (81, rx_pure (rx_bi (fun x y => x + y)) 82), (82, rx_ast Y 0 .int 83), (83, rx_ld 2 0 84), (84, rx_get 10 2 87), (87, rx_pure (rx_push (.int 200)) 90), (90, rx_ld 0 1 91), (91, rx_pure (rx_bi (fun x y => x * y)) 92), (92, rx_ld 0 8 94), (94, rx_pure (rx_bi (fun x y => x + y)) 95), (95, rx_ld 1 6 97), (97, rx_ast Y 1 .long 98), (98, rx_pure (rx_push (.int 0)) 99), (99, rx_st 0 9 101 11), (101, rx_ld 0 9 103), (103, rx_pure (rx_push (.int 12)) 105), (105, rx_br (rx_cmp Y 1) 172 108), (108, rx_ld 2 0 109), (109, rx_get 10 3 112), (112, rx_pure (rx_push (.int 12)) 114), (114, rx_pure (rx_push (.int 200)) 117), (117, rx_ld 0 1 118), (118, rx_pure (rx_bi (fun x y => x * y)) 119), (119, rx_ld 0 8 121), (121, rx_pure (rx_bi (fun x y => x + y)) 122), (122, rx_pure (rx_bi (fun x y => x * y)) 123), (123, rx_ld 0 9 125), (125, rx_pure (rx_bi (fun x y => x + y)) 126), (126, rx_ld 2 0 127), (127, rx_get 10 3 130), (130, rx_pure (rx_push (.int 12)) 132), (132, rx_pure (rx_push (.int 200)) 135), (135, rx_ld 0 2 136), (136, rx_pure (rx_bi (fun x y => x * y)) 137), (137, rx_ld 0 5 139), (139, rx_pure (rx_bi (fun x y => x + y)) 140), (140, rx_pure (rx_bi (fun x y => x * y)) 141), (141, rx_ld 0 9 143), (143, rx_pure (rx_bi (fun x y => x + y)) 144), (144, rx_ald 0 0 145), (145, rx_ld 2 0 146), (146, rx_get 10 3 149), (149, rx_pure (rx_push (.int 12)) 151), (151, rx_pure (rx_push (.int 200)) 154), (154, rx_ld 0 3 155), (155, rx_pure (rx_bi (fun x y => x * y)) 156), (156, rx_ld 0 4 158), (158, rx_pure (rx_bi (fun x y => x + y)) 159), (159, rx_pure (rx_bi (fun x y => x * y)) 160), (160, rx_ld 0 9 162), (162, rx_pure (rx_bi (fun x y => x + y)) 163), (163, rx_ald 0 0 164), (164, rx_pure (rx_bi (fun x y => x - y)) 165), (165, rx_ast Y 0 .int 166), (166, rx_inc 9 1 169 11), (169, rx_br rx_goto 101 172), (172, rx_pure (rx_push (.int 0)) 173), (173, rx_st 0 9 175 11), (175, rx_ld 0 9 177), (177, rx_ld 2 0 178), (178, rx_get 10 1 181), (181, rx_ld 0 3 182), (182, rx_ald 0 0 183), (183, rx_br (rx_cmp Y 1) 280 186), (186, rx_pure (rx_push (.int 0)) 187), (187, rx_st 0 10 189 11), (189, rx_ld 0 10 191), (191, rx_pure (rx_push (.int 12)) 193), (193, rx_br (rx_cmp Y 1) 248 196), (196, rx_ld 2 0 197), (197, rx_get 10 6 200), (200, rx_ld 0 10 202), (202, rx_ld 2 0 203), (203, rx_get 10 3 206), (206, rx_pure (rx_push (.int 12)) 208), (208, rx_pure (rx_push (.int 200)) 211), (211, rx_ld 0 1 212), (212, rx_pure (rx_bi (fun x y => x * y)) 213), (213, rx_ld 0 8 215), (215, rx_pure (rx_bi (fun x y => x + y)) 216), (216, rx_pure (rx_bi (fun x y => x * y)) 217), (217, rx_ld 0 10 219), (219, rx_pure (rx_bi (fun x y => x + y)) 220), (220, rx_ald 0 0 221), (221, rx_ld 2 0 222), (222, rx_get 10 3 225), (225, rx_pure (rx_push (.int 12)) 227), (227, rx_pure (rx_push (.int 200)) 230), (230, rx_ld 0 3 231), (231, rx_pure (rx_bi (fun x y => x * y)) 232), (232, rx_ld 0 9 234), (234, rx_pure (rx_bi (fun x y => x + y)) 235), (235, rx_pure (rx_bi (fun x y => x * y)) 236), (236, rx_ld 0 10 238), (238, rx_pure (rx_bi (fun x y => x + y)) 239), (239, rx_ald 0 0 240), (240, rx_pure (rx_bi (fun x y => x + y)) 241), (241, rx_ast Y 0 .int 242), (242, rx_inc 10 1 245 11), (245, rx_br rx_goto 189 248), (248, rx_ld 2 0 249), (249, rx_ld 0 2 250), (250, rx_ld 2 0 251), (251, rx_ld 0 2 252), (252, rx_cl 131 2 10 true 0 0 0 0 255), (255, rx_ld 1 6 257), (257, rx_ld 2 0 258), (258, rx_get 10 2 261), (261, rx_pure (rx_push (.int 200)) 264), (264, rx_ld 0 3 265), (265, rx_pure (rx_bi (fun x y => x * y)) 266), (266, rx_ld 0 9 268), (268, rx_pure (rx_bi (fun x y => x + y)) 269), (269, rx_ald 1 1 270), (270, rx_pure (rx_lb (fun x y => x * y)) 271), (271, rx_cl 124 4 10 true 0 0 0 0 274), (274, rx_inc 9 1 277 11), (277, rx_br rx_goto 175 280), (280, rx_br rx_goto 17 283), (283, rx_ld 2 0 284), (284, rx_ld 0 1 285), (285, rx_cl 153 2 10 true 0 0 0 0 288), (288, rx_ret0 0 0)]
noncomputable def m_X10_parts (Y : rx_Y) : rx_M := (yX10_parts, cX10_parts, 11, none, { frames := 2, cells := 0, slots := 0, locals := 48 }, p_X10_parts Y)
theorem hd_X10_parts : yX10_parts.cls ≠ "java/lang/invoke/MethodHandle" ∧ yX10_parts.cls ≠ "java/lang/invoke/VarHandle" ∧ (parseMethodDescriptor yX10_parts.desc).map (fun d => d.parameters.length) = some 3 := by decide +kernel
abbrev cX10_placeIn : ByteArray := prog_12_method_6_code
def yX10_placeIn : MethodName := ⟨"SeedBenchModel", "placeIn", "(I)I"⟩
theorem dX10_placeIn_0 : decode cX10_placeIn 0 = .ok (.iconst 0, 1) := by decide +kernel
theorem dX10_placeIn_1 : decode cX10_placeIn 1 = .ok (.istore_n 2, 1) := by decide +kernel
theorem dX10_placeIn_2 : decode cX10_placeIn 2 = .ok (.aload_n 0, 1) := by decide +kernel
theorem dX10_placeIn_3 : decode cX10_placeIn 3 = .ok (.getfield 13, 3) := by decide +kernel
theorem dX10_placeIn_6 : decode cX10_placeIn 6 = .ok (.iload_n 1, 1) := by decide +kernel
theorem dX10_placeIn_7 : decode cX10_placeIn 7 = .ok (.iaload, 1) := by decide +kernel
theorem dX10_placeIn_8 : decode cX10_placeIn 8 = .ok (.istore_n 3, 1) := by decide +kernel
theorem dX10_placeIn_9 : decode cX10_placeIn 9 = .ok (.iload_n 2, 1) := by decide +kernel
theorem dX10_placeIn_10 : decode cX10_placeIn 10 = .ok (.iload_n 3, 1) := by decide +kernel
theorem dX10_placeIn_11 : decode cX10_placeIn 11 = .ok (.if_icmp .ge 34, 3) := by decide +kernel
theorem dX10_placeIn_14 : decode cX10_placeIn 14 = .ok (.iload_n 2, 1) := by decide +kernel
theorem dX10_placeIn_15 : decode cX10_placeIn 15 = .ok (.iload_n 3, 1) := by decide +kernel
theorem dX10_placeIn_16 : decode cX10_placeIn 16 = .ok (.iadd, 1) := by decide +kernel
theorem dX10_placeIn_17 : decode cX10_placeIn 17 = .ok (.iconst 2, 1) := by decide +kernel
theorem dX10_placeIn_18 : decode cX10_placeIn 18 = .ok (.idiv, 1) := by decide +kernel
theorem dX10_placeIn_19 : decode cX10_placeIn 19 = .ok (.istore 4, 2) := by decide +kernel
theorem dX10_placeIn_21 : decode cX10_placeIn 21 = .ok (.aload_n 0, 1) := by decide +kernel
theorem dX10_placeIn_22 : decode cX10_placeIn 22 = .ok (.iload_n 1, 1) := by decide +kernel
theorem dX10_placeIn_23 : decode cX10_placeIn 23 = .ok (.iload 4, 2) := by decide +kernel
theorem dX10_placeIn_25 : decode cX10_placeIn 25 = .ok (.invokevirtual 138, 3) := by decide +kernel
theorem dX10_placeIn_28 : decode cX10_placeIn 28 = .ok (.ifCond .le 11, 3) := by decide +kernel
theorem dX10_placeIn_39 : decode cX10_placeIn 39 = .ok (.iload 4, 2) := by decide +kernel
theorem dX10_placeIn_41 : decode cX10_placeIn 41 = .ok (.istore_n 3, 1) := by decide +kernel
theorem dX10_placeIn_42 : decode cX10_placeIn 42 = .ok (.goto (-33), 3) := by decide +kernel
theorem dX10_placeIn_45 : decode cX10_placeIn 45 = .ok (.iload_n 2, 1) := by decide +kernel
theorem dX10_placeIn_46 : decode cX10_placeIn 46 = .ok (.ireturn, 1) := by decide +kernel
noncomputable def p_X10_placeIn (Y : rx_Y) : rx_P := [(0, rx_pure (rx_push (.int 0)) 1), (1, rx_st 0 2 2 5), (2, rx_ld 2 0 3), (3, rx_get 10 1 6), (6, rx_ld 0 1 7), (7, rx_ald 0 0 8), (8, rx_st 0 3 9 5), (9, rx_ld 0 2 10), (10, rx_ld 0 3 11), (11, rx_br (rx_cmp Y 1) 45 14), (14, rx_ld 0 2 15), (15, rx_ld 0 3 16), (16, rx_pure (rx_bi (fun x y => x + y)) 17), (17, rx_pure (rx_push (.int 2)) 18), (18, rx_pure (rx_bid (fun x y => x / y)) 19), (19, rx_st 0 4 21 5), (21, rx_ld 2 0 22), (22, rx_ld 0 1 23), (23, rx_ld 0 4 25), (25, rx_cl 95 3 10 true 0 0 0 0 28), (28, rx_br (rx_cm0 Y 3) 39 31), (39, rx_ld 0 4 41), (41, rx_st 0 3 42 5), (42, rx_br rx_goto 9 45), (45, rx_ld 0 2 46), (46, rx_retv .int 0 0)]
noncomputable def m_X10_placeIn (Y : rx_Y) : rx_M := (yX10_placeIn, cX10_placeIn, 5, (some .int), { frames := 1, cells := 0, slots := 0, locals := 24 }, p_X10_placeIn Y)
theorem hd_X10_placeIn : yX10_placeIn.cls ≠ "java/lang/invoke/MethodHandle" ∧ yX10_placeIn.cls ≠ "java/lang/invoke/VarHandle" ∧ (parseMethodDescriptor yX10_placeIn.desc).map (fun d => d.parameters.length) = some 1 := by decide +kernel
abbrev cX10_product : ByteArray := prog_12_method_28_code
def yX10_product : MethodName := ⟨"SeedBenchModel", "product", "(III)V"⟩
theorem dX10_product_0 : decode cX10_product 0 = .ok (.aload_n 0, 1) := by decide +kernel
theorem dX10_product_1 : decode cX10_product 1 = .ok (.iload_n 1, 1) := by decide +kernel
theorem dX10_product_2 : decode cX10_product 2 = .ok (.invokevirtual 175, 3) := by decide +kernel
theorem dX10_product_5 : decode cX10_product 5 = .ok (.iconst 0, 1) := by decide +kernel
theorem dX10_product_6 : decode cX10_product 6 = .ok (.istore 4, 2) := by decide +kernel
theorem dX10_product_8 : decode cX10_product 8 = .ok (.iload 4, 2) := by decide +kernel
theorem dX10_product_10 : decode cX10_product 10 = .ok (.aload_n 0, 1) := by decide +kernel
theorem dX10_product_11 : decode cX10_product 11 = .ok (.getfield 132, 3) := by decide +kernel
theorem dX10_product_14 : decode cX10_product 14 = .ok (.aload_n 0, 1) := by decide +kernel
theorem dX10_product_15 : decode cX10_product 15 = .ok (.getfield 204, 3) := by decide +kernel
theorem dX10_product_18 : decode cX10_product 18 = .ok (.iadd, 1) := by decide +kernel
theorem dX10_product_19 : decode cX10_product 19 = .ok (.if_icmp .ge 66, 3) := by decide +kernel
theorem dX10_product_22 : decode cX10_product 22 = .ok (.aload_n 0, 1) := by decide +kernel
theorem dX10_product_23 : decode cX10_product 23 = .ok (.getfield 150, 3) := by decide +kernel
theorem dX10_product_26 : decode cX10_product 26 = .ok (.ifCond .ne 59, 3) := by decide +kernel
theorem dX10_product_29 : decode cX10_product 29 = .ok (.iload_n 3, 1) := by decide +kernel
theorem dX10_product_30 : decode cX10_product 30 = .ok (.aload_n 0, 1) := by decide +kernel
theorem dX10_product_31 : decode cX10_product 31 = .ok (.getfield 28, 3) := by decide +kernel
theorem dX10_product_34 : decode cX10_product 34 = .ok (.bipush 6, 2) := by decide +kernel
theorem dX10_product_36 : decode cX10_product 36 = .ok (.iload 4, 2) := by decide +kernel
theorem dX10_product_38 : decode cX10_product 38 = .ok (.imul, 1) := by decide +kernel
theorem dX10_product_39 : decode cX10_product 39 = .ok (.iload_n 2, 1) := by decide +kernel
theorem dX10_product_40 : decode cX10_product 40 = .ok (.iadd, 1) := by decide +kernel
theorem dX10_product_41 : decode cX10_product 41 = .ok (.iaload, 1) := by decide +kernel
theorem dX10_product_42 : decode cX10_product 42 = .ok (.imul, 1) := by decide +kernel
theorem dX10_product_43 : decode cX10_product 43 = .ok (.istore 5, 2) := by decide +kernel
theorem dX10_product_45 : decode cX10_product 45 = .ok (.iload 5, 2) := by decide +kernel
theorem dX10_product_47 : decode cX10_product 47 = .ok (.ifCond .le 32, 3) := by decide +kernel
theorem dX10_product_79 : decode cX10_product 79 = .ok (.iinc 4 1, 3) := by decide +kernel
theorem dX10_product_82 : decode cX10_product 82 = .ok (.goto (-74), 3) := by decide +kernel
theorem dX10_product_85 : decode cX10_product 85 = .ok (.return_, 1) := by decide +kernel
noncomputable def p_X10_product (Y : rx_Y) : rx_P := [(0, rx_ld 2 0 1), (1, rx_ld 0 1 2), (2, rx_cl 127 2 10 true 0 0 0 0 5), (5, rx_pure (rx_push (.int 0)) 6), (6, rx_st 0 4 8 6), (8, rx_ld 0 4 10), (10, rx_ld 2 0 11), (11, rx_get 10 7 14), (14, rx_ld 2 0 15), (15, rx_get 10 8 18), (18, rx_pure (rx_bi (fun x y => x + y)) 19), (19, rx_br (rx_cmp Y 1) 85 22), (22, rx_ld 2 0 23), (23, rx_get 10 4 26), (26, rx_br (rx_cm0 Y 5) 85 29), (29, rx_ld 0 3 30), (30, rx_ld 2 0 31), (31, rx_get 10 9 34), (34, rx_pure (rx_push (.int 6)) 36), (36, rx_ld 0 4 38), (38, rx_pure (rx_bi (fun x y => x * y)) 39), (39, rx_ld 0 2 40), (40, rx_pure (rx_bi (fun x y => x + y)) 41), (41, rx_ald 0 0 42), (42, rx_pure (rx_bi (fun x y => x * y)) 43), (43, rx_st 0 5 45 6), (45, rx_ld 0 5 47), (47, rx_br (rx_cm0 Y 3) 79 50), (79, rx_inc 4 1 82 6), (82, rx_br rx_goto 8 85), (85, rx_ret0 0 0)]
noncomputable def m_X10_product (Y : rx_Y) : rx_M := (yX10_product, cX10_product, 6, none, { frames := 1, cells := 0, slots := 0, locals := 22 }, p_X10_product Y)
theorem hd_X10_product : yX10_product.cls ≠ "java/lang/invoke/MethodHandle" ∧ yX10_product.cls ≠ "java/lang/invoke/VarHandle" ∧ (parseMethodDescriptor yX10_product.desc).map (fun d => d.parameters.length) = some 3 := by decide +kernel
abbrev cX10_restores : ByteArray := prog_12_method_42_code
def yX10_restores : MethodName := ⟨"SeedBenchModel", "restores", "(I)V"⟩
theorem dX10_restores_0 : decode cX10_restores 0 = .ok (.iconst 0, 1) := by decide +kernel
theorem dX10_restores_1 : decode cX10_restores 1 = .ok (.istore_n 2, 1) := by decide +kernel
theorem dX10_restores_2 : decode cX10_restores 2 = .ok (.iload_n 2, 1) := by decide +kernel
theorem dX10_restores_3 : decode cX10_restores 3 = .ok (.aload_n 0, 1) := by decide +kernel
theorem dX10_restores_4 : decode cX10_restores 4 = .ok (.getfield 132, 3) := by decide +kernel
theorem dX10_restores_7 : decode cX10_restores 7 = .ok (.if_icmp .ge 17, 3) := by decide +kernel
theorem dX10_restores_10 : decode cX10_restores 10 = .ok (.aload_n 0, 1) := by decide +kernel
theorem dX10_restores_11 : decode cX10_restores 11 = .ok (.iload_n 2, 1) := by decide +kernel
theorem dX10_restores_12 : decode cX10_restores 12 = .ok (.iload_n 1, 1) := by decide +kernel
theorem dX10_restores_13 : decode cX10_restores 13 = .ok (.iload_n 2, 1) := by decide +kernel
theorem dX10_restores_14 : decode cX10_restores 14 = .ok (.iadd, 1) := by decide +kernel
theorem dX10_restores_15 : decode cX10_restores 15 = .ok (.invokevirtual 164, 3) := by decide +kernel
theorem dX10_restores_18 : decode cX10_restores 18 = .ok (.iinc 2 1, 3) := by decide +kernel
theorem dX10_restores_21 : decode cX10_restores 21 = .ok (.goto (-19), 3) := by decide +kernel
theorem dX10_restores_24 : decode cX10_restores 24 = .ok (.iconst 0, 1) := by decide +kernel
theorem dX10_restores_25 : decode cX10_restores 25 = .ok (.istore_n 2, 1) := by decide +kernel
theorem dX10_restores_26 : decode cX10_restores 26 = .ok (.iload_n 2, 1) := by decide +kernel
theorem dX10_restores_27 : decode cX10_restores 27 = .ok (.bipush 72, 2) := by decide +kernel
theorem dX10_restores_29 : decode cX10_restores 29 = .ok (.if_icmp .ge 21, 3) := by decide +kernel
theorem dX10_restores_32 : decode cX10_restores 32 = .ok (.aload_n 0, 1) := by decide +kernel
theorem dX10_restores_33 : decode cX10_restores 33 = .ok (.getfield 28, 3) := by decide +kernel
theorem dX10_restores_36 : decode cX10_restores 36 = .ok (.iload_n 2, 1) := by decide +kernel
theorem dX10_restores_37 : decode cX10_restores 37 = .ok (.aload_n 0, 1) := by decide +kernel
theorem dX10_restores_38 : decode cX10_restores 38 = .ok (.getfield 80, 3) := by decide +kernel
theorem dX10_restores_41 : decode cX10_restores 41 = .ok (.iload_n 2, 1) := by decide +kernel
theorem dX10_restores_42 : decode cX10_restores 42 = .ok (.iaload, 1) := by decide +kernel
theorem dX10_restores_43 : decode cX10_restores 43 = .ok (.iastore, 1) := by decide +kernel
theorem dX10_restores_44 : decode cX10_restores 44 = .ok (.iinc 2 1, 3) := by decide +kernel
theorem dX10_restores_47 : decode cX10_restores 47 = .ok (.goto (-21), 3) := by decide +kernel
theorem dX10_restores_50 : decode cX10_restores 50 = .ok (.return_, 1) := by decide +kernel
noncomputable def p_X10_restores (Y : rx_Y) : rx_P := [(0, rx_pure (rx_push (.int 0)) 1), (1, rx_st 0 2 2 3), (2, rx_ld 0 2 3), (3, rx_ld 2 0 4), (4, rx_get 10 7 7), (7, rx_br (rx_cmp Y 1) 24 10), (10, rx_ld 2 0 11), (11, rx_ld 0 2 12), (12, rx_ld 0 1 13), (13, rx_ld 0 2 14), (14, rx_pure (rx_bi (fun x y => x + y)) 15), (15, rx_cl 104 3 10 true 0 0 0 0 18), (18, rx_inc 2 1 21 3), (21, rx_br rx_goto 2 24), (24, rx_pure (rx_push (.int 0)) 25), (25, rx_st 0 2 26 3), (26, rx_ld 0 2 27), (27, rx_pure (rx_push (.int 72)) 29), (29, rx_br (rx_cmp Y 1) 50 32), (32, rx_ld 2 0 33), (33, rx_get 10 9 36), (36, rx_ld 0 2 37), (37, rx_ld 2 0 38), (38, rx_get 10 34 41), (41, rx_ld 0 2 42), (42, rx_ald 0 0 43), (43, rx_ast Y 0 .int 44), (44, rx_inc 2 1 47 3), (47, rx_br rx_goto 26 50), (50, rx_ret0 0 0)]
noncomputable def m_X10_restores (Y : rx_Y) : rx_M := (yX10_restores, cX10_restores, 3, none, { frames := 1, cells := 0, slots := 0, locals := 24 }, p_X10_restores Y)
theorem hd_X10_restores : yX10_restores.cls ≠ "java/lang/invoke/MethodHandle" ∧ yX10_restores.cls ≠ "java/lang/invoke/VarHandle" ∧ (parseMethodDescriptor yX10_restores.desc).map (fun d => d.parameters.length) = some 1 := by decide +kernel
abbrev cX10_ring : ByteArray := prog_12_method_62_code
def yX10_ring : MethodName := ⟨"SeedBenchModel", "ring", "(II)Z"⟩
theorem dX10_ring_0 : decode cX10_ring 0 = .ok (.aload_n 0, 1) := by decide +kernel
theorem dX10_ring_1 : decode cX10_ring 1 = .ok (.iload_n 1, 1) := by decide +kernel
theorem dX10_ring_2 : decode cX10_ring 2 = .ok (.invokevirtual 314, 3) := by decide +kernel
theorem dX10_ring_5 : decode cX10_ring 5 = .ok (.ifCond .eq 14, 3) := by decide +kernel
theorem dX10_ring_8 : decode cX10_ring 8 = .ok (.iload_n 2, 1) := by decide +kernel
theorem dX10_ring_9 : decode cX10_ring 9 = .ok (.iconst 4, 1) := by decide +kernel
theorem dX10_ring_10 : decode cX10_ring 10 = .ok (.if_icmp .lt 9, 3) := by decide +kernel
theorem dX10_ring_13 : decode cX10_ring 13 = .ok (.iload_n 2, 1) := by decide +kernel
theorem dX10_ring_14 : decode cX10_ring 14 = .ok (.bipush 10, 2) := by decide +kernel
theorem dX10_ring_16 : decode cX10_ring 16 = .ok (.if_icmp .le 5, 3) := by decide +kernel
theorem dX10_ring_19 : decode cX10_ring 19 = .ok (.iconst 0, 1) := by decide +kernel
theorem dX10_ring_20 : decode cX10_ring 20 = .ok (.ireturn, 1) := by decide +kernel
theorem dX10_ring_21 : decode cX10_ring 21 = .ok (.aload_n 0, 1) := by decide +kernel
theorem dX10_ring_22 : decode cX10_ring 22 = .ok (.getfield 108, 3) := by decide +kernel
theorem dX10_ring_25 : decode cX10_ring 25 = .ok (.iload_n 1, 1) := by decide +kernel
theorem dX10_ring_26 : decode cX10_ring 26 = .ok (.iload_n 2, 1) := by decide +kernel
theorem dX10_ring_27 : decode cX10_ring 27 = .ok (.iastore, 1) := by decide +kernel
theorem dX10_ring_28 : decode cX10_ring 28 = .ok (.iconst 0, 1) := by decide +kernel
theorem dX10_ring_29 : decode cX10_ring 29 = .ok (.istore_n 3, 1) := by decide +kernel
theorem dX10_ring_30 : decode cX10_ring 30 = .ok (.iload_n 3, 1) := by decide +kernel
theorem dX10_ring_31 : decode cX10_ring 31 = .ok (.bipush 100, 2) := by decide +kernel
theorem dX10_ring_33 : decode cX10_ring 33 = .ok (.if_icmp .ge 21, 3) := by decide +kernel
theorem dX10_ring_36 : decode cX10_ring 36 = .ok (.aload_n 0, 1) := by decide +kernel
theorem dX10_ring_37 : decode cX10_ring 37 = .ok (.getfield 111, 3) := by decide +kernel
theorem dX10_ring_40 : decode cX10_ring 40 = .ok (.bipush 100, 2) := by decide +kernel
theorem dX10_ring_42 : decode cX10_ring 42 = .ok (.iload_n 1, 1) := by decide +kernel
theorem dX10_ring_43 : decode cX10_ring 43 = .ok (.imul, 1) := by decide +kernel
theorem dX10_ring_44 : decode cX10_ring 44 = .ok (.iload_n 3, 1) := by decide +kernel
theorem dX10_ring_45 : decode cX10_ring 45 = .ok (.iadd, 1) := by decide +kernel
theorem dX10_ring_46 : decode cX10_ring 46 = .ok (.iconst 0, 1) := by decide +kernel
theorem dX10_ring_47 : decode cX10_ring 47 = .ok (.bastore, 1) := by decide +kernel
theorem dX10_ring_48 : decode cX10_ring 48 = .ok (.iinc 3 1, 3) := by decide +kernel
theorem dX10_ring_51 : decode cX10_ring 51 = .ok (.goto (-21), 3) := by decide +kernel
theorem dX10_ring_54 : decode cX10_ring 54 = .ok (.iconst 1, 1) := by decide +kernel
theorem dX10_ring_55 : decode cX10_ring 55 = .ok (.ireturn, 1) := by decide +kernel
noncomputable def p_X10_ring (Y : rx_Y) : rx_P := [(0, rx_ld 2 0 1), (1, rx_ld 0 1 2), (2, rx_cl 117 2 10 true 0 0 0 0 5), (5, rx_br (rx_cm0 Y 4) 19 8), (8, rx_ld 0 2 9), (9, rx_pure (rx_push (.int 4)) 10), (10, rx_br (rx_cmp Y 0) 19 13), (13, rx_ld 0 2 14), (14, rx_pure (rx_push (.int 10)) 16), (16, rx_br (rx_cmp Y 3) 21 19), (19, rx_pure (rx_push (.int 0)) 20), (20, rx_retv .boolean 0 0), (21, rx_ld 2 0 22), (22, rx_get 10 48 25), (25, rx_ld 0 1 26), (26, rx_ld 0 2 27), (27, rx_ast Y 0 .int 28), (28, rx_pure (rx_push (.int 0)) 29), (29, rx_st 0 3 30 4), (30, rx_ld 0 3 31), (31, rx_pure (rx_push (.int 100)) 33), (33, rx_br (rx_cmp Y 1) 54 36), (36, rx_ld 2 0 37), (37, rx_get 10 49 40), (40, rx_pure (rx_push (.int 100)) 42), (42, rx_ld 0 1 43), (43, rx_pure (rx_bi (fun x y => x * y)) 44), (44, rx_ld 0 3 45), (45, rx_pure (rx_bi (fun x y => x + y)) 46), (46, rx_pure (rx_push (.int 0)) 47), (47, rx_ast Y 2 .boolean 48), (48, rx_inc 3 1 51 4), (51, rx_br rx_goto 30 54), (54, rx_pure (rx_push (.int 1)) 55), (55, rx_retv .boolean 0 0)]
noncomputable def m_X10_ring (Y : rx_Y) : rx_M := (yX10_ring, cX10_ring, 4, (some .boolean), { frames := 1, cells := 0, slots := 0, locals := 21 }, p_X10_ring Y)
theorem hd_X10_ring : yX10_ring.cls ≠ "java/lang/invoke/MethodHandle" ∧ yX10_ring.cls ≠ "java/lang/invoke/VarHandle" ∧ (parseMethodDescriptor yX10_ring.desc).map (fun d => d.parameters.length) = some 2 := by decide +kernel
abbrev cX10_ringOf : ByteArray := prog_12_method_75_code
def yX10_ringOf : MethodName := ⟨"SeedBenchModel", "ringOf", "(II)I"⟩
theorem dX10_ringOf_0 : decode cX10_ringOf 0 = .ok (.aload_n 0, 1) := by decide +kernel
theorem dX10_ringOf_1 : decode cX10_ringOf 1 = .ok (.iload_n 1, 1) := by decide +kernel
theorem dX10_ringOf_2 : decode cX10_ringOf 2 = .ok (.invokevirtual 314, 3) := by decide +kernel
theorem dX10_ringOf_5 : decode cX10_ringOf 5 = .ok (.ifCond .ne 5, 3) := by decide +kernel
theorem dX10_ringOf_8 : decode cX10_ringOf 8 = .ok (.iconst (-1), 1) := by decide +kernel
theorem dX10_ringOf_9 : decode cX10_ringOf 9 = .ok (.ireturn, 1) := by decide +kernel
theorem dX10_ringOf_10 : decode cX10_ringOf 10 = .ok (.iload_n 2, 1) := by decide +kernel
theorem dX10_ringOf_11 : decode cX10_ringOf 11 = .ok (.tableswitch 52 0 2 #[25, 32, 38], 25) := by decide +kernel
theorem dX10_ringOf_36 : decode cX10_ringOf 36 = .ok (.aload_n 0, 1) := by decide +kernel
theorem dX10_ringOf_37 : decode cX10_ringOf 37 = .ok (.getfield 108, 3) := by decide +kernel
theorem dX10_ringOf_40 : decode cX10_ringOf 40 = .ok (.iload_n 1, 1) := by decide +kernel
theorem dX10_ringOf_41 : decode cX10_ringOf 41 = .ok (.iaload, 1) := by decide +kernel
theorem dX10_ringOf_42 : decode cX10_ringOf 42 = .ok (.ireturn, 1) := by decide +kernel
theorem dX10_ringOf_43 : decode cX10_ringOf 43 = .ok (.aload_n 0, 1) := by decide +kernel
theorem dX10_ringOf_44 : decode cX10_ringOf 44 = .ok (.iload_n 1, 1) := by decide +kernel
theorem dX10_ringOf_45 : decode cX10_ringOf 45 = .ok (.invokevirtual 328, 3) := by decide +kernel
theorem dX10_ringOf_48 : decode cX10_ringOf 48 = .ok (.ireturn, 1) := by decide +kernel
theorem dX10_ringOf_49 : decode cX10_ringOf 49 = .ok (.aload_n 0, 1) := by decide +kernel
theorem dX10_ringOf_50 : decode cX10_ringOf 50 = .ok (.iload_n 1, 1) := by decide +kernel
theorem dX10_ringOf_51 : decode cX10_ringOf 51 = .ok (.invokevirtual 338, 3) := by decide +kernel
theorem dX10_ringOf_54 : decode cX10_ringOf 54 = .ok (.ifCond .eq 7, 3) := by decide +kernel
theorem dX10_ringOf_61 : decode cX10_ringOf 61 = .ok (.iconst 0, 1) := by decide +kernel
theorem dX10_ringOf_62 : decode cX10_ringOf 62 = .ok (.ireturn, 1) := by decide +kernel
theorem dX10_ringOf_63 : decode cX10_ringOf 63 = .ok (.iload_n 2, 1) := by decide +kernel
theorem dX10_ringOf_64 : decode cX10_ringOf 64 = .ok (.bipush 10, 2) := by decide +kernel
theorem dX10_ringOf_66 : decode cX10_ringOf 66 = .ok (.if_icmp .lt 26, 3) := by decide +kernel
theorem dX10_ringOf_69 : decode cX10_ringOf 69 = .ok (.iload_n 2, 1) := by decide +kernel
theorem dX10_ringOf_70 : decode cX10_ringOf 70 = .ok (.bipush 10, 2) := by decide +kernel
theorem dX10_ringOf_72 : decode cX10_ringOf 72 = .ok (.aload_n 0, 1) := by decide +kernel
theorem dX10_ringOf_73 : decode cX10_ringOf 73 = .ok (.getfield 108, 3) := by decide +kernel
theorem dX10_ringOf_76 : decode cX10_ringOf 76 = .ok (.iload_n 1, 1) := by decide +kernel
theorem dX10_ringOf_77 : decode cX10_ringOf 77 = .ok (.iaload, 1) := by decide +kernel
theorem dX10_ringOf_78 : decode cX10_ringOf 78 = .ok (.iadd, 1) := by decide +kernel
theorem dX10_ringOf_79 : decode cX10_ringOf 79 = .ok (.if_icmp .ge 13, 3) := by decide +kernel
theorem dX10_ringOf_82 : decode cX10_ringOf 82 = .ok (.aload_n 0, 1) := by decide +kernel
theorem dX10_ringOf_83 : decode cX10_ringOf 83 = .ok (.iload_n 1, 1) := by decide +kernel
theorem dX10_ringOf_84 : decode cX10_ringOf 84 = .ok (.iload_n 2, 1) := by decide +kernel
theorem dX10_ringOf_85 : decode cX10_ringOf 85 = .ok (.bipush 10, 2) := by decide +kernel
theorem dX10_ringOf_87 : decode cX10_ringOf 87 = .ok (.isub, 1) := by decide +kernel
theorem dX10_ringOf_88 : decode cX10_ringOf 88 = .ok (.invokevirtual 347, 3) := by decide +kernel
theorem dX10_ringOf_91 : decode cX10_ringOf 91 = .ok (.ireturn, 1) := by decide +kernel
theorem dX10_ringOf_92 : decode cX10_ringOf 92 = .ok (.iload_n 2, 1) := by decide +kernel
theorem dX10_ringOf_93 : decode cX10_ringOf 93 = .ok (.bipush 100, 2) := by decide +kernel
theorem dX10_ringOf_95 : decode cX10_ringOf 95 = .ok (.if_icmp .lt 30, 3) := by decide +kernel
theorem dX10_ringOf_98 : decode cX10_ringOf 98 = .ok (.iload_n 2, 1) := by decide +kernel
theorem dX10_ringOf_99 : decode cX10_ringOf 99 = .ok (.bipush 100, 2) := by decide +kernel
theorem dX10_ringOf_101 : decode cX10_ringOf 101 = .ok (.aload_n 0, 1) := by decide +kernel
theorem dX10_ringOf_102 : decode cX10_ringOf 102 = .ok (.iload_n 1, 1) := by decide +kernel
theorem dX10_ringOf_103 : decode cX10_ringOf 103 = .ok (.invokevirtual 328, 3) := by decide +kernel
theorem dX10_ringOf_106 : decode cX10_ringOf 106 = .ok (.iadd, 1) := by decide +kernel
theorem dX10_ringOf_107 : decode cX10_ringOf 107 = .ok (.if_icmp .ge 18, 3) := by decide +kernel
theorem dX10_ringOf_125 : decode cX10_ringOf 125 = .ok (.iconst (-1), 1) := by decide +kernel
theorem dX10_ringOf_126 : decode cX10_ringOf 126 = .ok (.ireturn, 1) := by decide +kernel
noncomputable def p_X10_ringOf (Y : rx_Y) : rx_P := [(0, rx_ld 2 0 1), (1, rx_ld 0 1 2), (2, rx_cl 117 2 10 true 0 0 0 0 5), (5, rx_br (rx_cm0 Y 5) 10 8), (8, rx_pure (rx_push (.int (-1))) 9), (9, rx_retv .int 0 0), (10, rx_ld 0 2 11), (11, rx_sw Y 0 2 [36, 43, 49] 63), (36, rx_ld 2 0 37), (37, rx_get 10 48 40), (40, rx_ld 0 1 41), (41, rx_ald 0 0 42), (42, rx_retv .int 0 0), (43, rx_ld 2 0 44), (44, rx_ld 0 1 45), (45, rx_cl 107 2 10 true 0 0 0 0 48), (48, rx_retv .int 0 0), (49, rx_ld 2 0 50), (50, rx_ld 0 1 51), (51, rx_cl 116 2 10 true 0 0 0 0 54), (54, rx_br (rx_cm0 Y 4) 61 57), (61, rx_pure (rx_push (.int 0)) 62), (62, rx_retv .int 0 0), (63, rx_ld 0 2 64), (64, rx_pure (rx_push (.int 10)) 66), (66, rx_br (rx_cmp Y 0) 92 69), (69, rx_ld 0 2 70), (70, rx_pure (rx_push (.int 10)) 72), (72, rx_ld 2 0 73), (73, rx_get 10 48 76), (76, rx_ld 0 1 77), (77, rx_ald 0 0 78), (78, rx_pure (rx_bi (fun x y => x + y)) 79), (79, rx_br (rx_cmp Y 1) 92 82), (82, rx_ld 2 0 83), (83, rx_ld 0 1 84), (84, rx_ld 0 2 85), (85, rx_pure (rx_push (.int 10)) 87), (87, rx_pure (rx_bi (fun x y => x - y)) 88), (88, rx_cl 151 3 10 true 0 0 0 0 91), (91, rx_retv .int 0 0), (92, rx_ld 0 2 93), (93, rx_pure (rx_push (.int 100)) 95), (95, rx_br (rx_cmp Y 0) 125 98), (98, rx_ld 0 2 99), (99, rx_pure (rx_push (.int 100)) 101), (101, rx_ld 2 0 102), (102, rx_ld 0 1 103), (103, rx_cl 107 2 10 true 0 0 0 0 106), (106, rx_pure (rx_bi (fun x y => x + y)) 107), (107, rx_br (rx_cmp Y 1) 125 110), (125, rx_pure (rx_push (.int (-1))) 126), (126, rx_retv .int 0 0)]
noncomputable def m_X10_ringOf (Y : rx_Y) : rx_M := (yX10_ringOf, cX10_ringOf, 3, (some .int), { frames := 2, cells := 0, slots := 0, locals := 44 }, p_X10_ringOf Y)
theorem hd_X10_ringOf : yX10_ringOf.cls ≠ "java/lang/invoke/MethodHandle" ∧ yX10_ringOf.cls ≠ "java/lang/invoke/VarHandle" ∧ (parseMethodDescriptor yX10_ringOf.desc).map (fun d => d.parameters.length) = some 2 := by decide +kernel
abbrev cX10_row : ByteArray := prog_12_method_58_code
def yX10_row : MethodName := ⟨"SeedBenchModel", "row", "(III)Z"⟩
theorem dX10_row_0 : decode cX10_row 0 = .ok (.iload_n 1, 1) := by decide +kernel
theorem dX10_row_1 : decode cX10_row 1 = .ok (.iconst 1, 1) := by decide +kernel
theorem dX10_row_2 : decode cX10_row 2 = .ok (.if_icmp .lt 27, 3) := by decide +kernel
theorem dX10_row_5 : decode cX10_row 5 = .ok (.iload_n 1, 1) := by decide +kernel
theorem dX10_row_6 : decode cX10_row 6 = .ok (.bipush 12, 2) := by decide +kernel
theorem dX10_row_8 : decode cX10_row 8 = .ok (.if_icmp .gt 21, 3) := by decide +kernel
theorem dX10_row_11 : decode cX10_row 11 = .ok (.iload_n 2, 1) := by decide +kernel
theorem dX10_row_12 : decode cX10_row 12 = .ok (.ifCond .lt 17, 3) := by decide +kernel
theorem dX10_row_15 : decode cX10_row 15 = .ok (.iload_n 2, 1) := by decide +kernel
theorem dX10_row_16 : decode cX10_row 16 = .ok (.iload_n 1, 1) := by decide +kernel
theorem dX10_row_17 : decode cX10_row 17 = .ok (.if_icmp .ge 12, 3) := by decide +kernel
theorem dX10_row_20 : decode cX10_row 20 = .ok (.iload_n 3, 1) := by decide +kernel
theorem dX10_row_21 : decode cX10_row 21 = .ok (.ifCond .lt 8, 3) := by decide +kernel
theorem dX10_row_24 : decode cX10_row 24 = .ok (.iload_n 3, 1) := by decide +kernel
theorem dX10_row_25 : decode cX10_row 25 = .ok (.iconst 5, 1) := by decide +kernel
theorem dX10_row_26 : decode cX10_row 26 = .ok (.if_icmp .le 5, 3) := by decide +kernel
theorem dX10_row_29 : decode cX10_row 29 = .ok (.iconst 0, 1) := by decide +kernel
theorem dX10_row_30 : decode cX10_row 30 = .ok (.ireturn, 1) := by decide +kernel
theorem dX10_row_31 : decode cX10_row 31 = .ok (.iload_n 1, 1) := by decide +kernel
theorem dX10_row_32 : decode cX10_row 32 = .ok (.aload_n 0, 1) := by decide +kernel
theorem dX10_row_33 : decode cX10_row 33 = .ok (.getfield 308, 3) := by decide +kernel
theorem dX10_row_36 : decode cX10_row 36 = .ok (.if_icmp .eq 27, 3) := by decide +kernel
theorem dX10_row_39 : decode cX10_row 39 = .ok (.iconst 0, 1) := by decide +kernel
theorem dX10_row_40 : decode cX10_row 40 = .ok (.istore 4, 2) := by decide +kernel
theorem dX10_row_42 : decode cX10_row 42 = .ok (.iload 4, 2) := by decide +kernel
theorem dX10_row_44 : decode cX10_row 44 = .ok (.bipush 12, 2) := by decide +kernel
theorem dX10_row_46 : decode cX10_row 46 = .ok (.if_icmp .ge 17, 3) := by decide +kernel
theorem dX10_row_49 : decode cX10_row 49 = .ok (.aload_n 0, 1) := by decide +kernel
theorem dX10_row_50 : decode cX10_row 50 = .ok (.getfield 105, 3) := by decide +kernel
theorem dX10_row_53 : decode cX10_row 53 = .ok (.iload 4, 2) := by decide +kernel
theorem dX10_row_55 : decode cX10_row 55 = .ok (.iconst 0, 1) := by decide +kernel
theorem dX10_row_56 : decode cX10_row 56 = .ok (.iastore, 1) := by decide +kernel
theorem dX10_row_57 : decode cX10_row 57 = .ok (.iinc 4 1, 3) := by decide +kernel
theorem dX10_row_60 : decode cX10_row 60 = .ok (.goto (-18), 3) := by decide +kernel
theorem dX10_row_63 : decode cX10_row 63 = .ok (.aload_n 0, 1) := by decide +kernel
theorem dX10_row_64 : decode cX10_row 64 = .ok (.iload_n 1, 1) := by decide +kernel
theorem dX10_row_65 : decode cX10_row 65 = .ok (.putfield 308, 3) := by decide +kernel
theorem dX10_row_68 : decode cX10_row 68 = .ok (.aload_n 0, 1) := by decide +kernel
theorem dX10_row_69 : decode cX10_row 69 = .ok (.getfield 105, 3) := by decide +kernel
theorem dX10_row_72 : decode cX10_row 72 = .ok (.iload_n 2, 1) := by decide +kernel
theorem dX10_row_73 : decode cX10_row 73 = .ok (.iload_n 3, 1) := by decide +kernel
theorem dX10_row_74 : decode cX10_row 74 = .ok (.iastore, 1) := by decide +kernel
theorem dX10_row_75 : decode cX10_row 75 = .ok (.iconst 1, 1) := by decide +kernel
theorem dX10_row_76 : decode cX10_row 76 = .ok (.ireturn, 1) := by decide +kernel
noncomputable def p_X10_row (Y : rx_Y) : rx_P := [(0, rx_ld 0 1 1), (1, rx_pure (rx_push (.int 1)) 2), (2, rx_br (rx_cmp Y 0) 29 5), (5, rx_ld 0 1 6), (6, rx_pure (rx_push (.int 12)) 8), (8, rx_br (rx_cmp Y 2) 29 11), (11, rx_ld 0 2 12), (12, rx_br (rx_cm0 Y 0) 29 15), (15, rx_ld 0 2 16), (16, rx_ld 0 1 17), (17, rx_br (rx_cmp Y 1) 29 20), (20, rx_ld 0 3 21), (21, rx_br (rx_cm0 Y 0) 29 24), (24, rx_ld 0 3 25), (25, rx_pure (rx_push (.int 5)) 26), (26, rx_br (rx_cmp Y 3) 31 29), (29, rx_pure (rx_push (.int 0)) 30), (30, rx_retv .boolean 0 0), (31, rx_ld 0 1 32), (32, rx_ld 2 0 33), (33, rx_get 10 46 36), (36, rx_br (rx_cmp Y 4) 63 39), (39, rx_pure (rx_push (.int 0)) 40), (40, rx_st 0 4 42 5), (42, rx_ld 0 4 44), (44, rx_pure (rx_push (.int 12)) 46), (46, rx_br (rx_cmp Y 1) 63 49), (49, rx_ld 2 0 50), (50, rx_get 10 47 53), (53, rx_ld 0 4 55), (55, rx_pure (rx_push (.int 0)) 56), (56, rx_ast Y 0 .int 57), (57, rx_inc 4 1 60 5), (60, rx_br rx_goto 42 63), (63, rx_ld 2 0 64), (64, rx_ld 0 1 65), (65, rx_putf 10 46 .int 68), (68, rx_ld 2 0 69), (69, rx_get 10 47 72), (72, rx_ld 0 2 73), (73, rx_ld 0 3 74), (74, rx_ast Y 0 .int 75), (75, rx_pure (rx_push (.int 1)) 76), (76, rx_retv .boolean 0 0)]
noncomputable def m_X10_row (Y : rx_Y) : rx_M := (yX10_row, cX10_row, 5, (some .boolean), { frames := 0, cells := 0, slots := 0, locals := 0 }, p_X10_row Y)
theorem hd_X10_row : yX10_row.cls ≠ "java/lang/invoke/MethodHandle" ∧ yX10_row.cls ≠ "java/lang/invoke/VarHandle" ∧ (parseMethodDescriptor yX10_row.desc).map (fun d => d.parameters.length) = some 3 := by decide +kernel
abbrev cX10_same : ByteArray := prog_12_method_40_code
def yX10_same : MethodName := ⟨"SeedBenchModel", "same", "(I)I"⟩
theorem dX10_same_0 : decode cX10_same 0 = .ok (.iload_n 1, 1) := by decide +kernel
theorem dX10_same_1 : decode cX10_same 1 = .ok (.ifCond .lt 17, 3) := by decide +kernel
theorem dX10_same_4 : decode cX10_same 4 = .ok (.iload_n 1, 1) := by decide +kernel
theorem dX10_same_5 : decode cX10_same 5 = .ok (.iconst 3, 1) := by decide +kernel
theorem dX10_same_6 : decode cX10_same 6 = .ok (.if_icmp .gt 12, 3) := by decide +kernel
theorem dX10_same_9 : decode cX10_same 9 = .ok (.aload_n 0, 1) := by decide +kernel
theorem dX10_same_10 : decode cX10_same 10 = .ok (.getfield 53, 3) := by decide +kernel
theorem dX10_same_13 : decode cX10_same 13 = .ok (.iload_n 1, 1) := by decide +kernel
theorem dX10_same_14 : decode cX10_same 14 = .ok (.iaload, 1) := by decide +kernel
theorem dX10_same_15 : decode cX10_same 15 = .ok (.ifCond .ne 5, 3) := by decide +kernel
theorem dX10_same_18 : decode cX10_same 18 = .ok (.iconst (-1), 1) := by decide +kernel
theorem dX10_same_19 : decode cX10_same 19 = .ok (.ireturn, 1) := by decide +kernel
noncomputable def p_X10_same (Y : rx_Y) : rx_P := [(0, rx_ld 0 1 1), (1, rx_br (rx_cm0 Y 0) 18 4), (4, rx_ld 0 1 5), (5, rx_pure (rx_push (.int 3)) 6), (6, rx_br (rx_cmp Y 2) 18 9), (9, rx_ld 2 0 10), (10, rx_get 10 20 13), (13, rx_ld 0 1 14), (14, rx_ald 0 0 15), (15, rx_br (rx_cm0 Y 5) 20 18), (18, rx_pure (rx_push (.int (-1))) 19), (19, rx_retv .int 0 0)]
noncomputable def m_X10_same (Y : rx_Y) : rx_M := (yX10_same, cX10_same, 5, (some .int), { frames := 0, cells := 0, slots := 0, locals := 0 }, p_X10_same Y)
theorem hd_X10_same : yX10_same.cls ≠ "java/lang/invoke/MethodHandle" ∧ yX10_same.cls ≠ "java/lang/invoke/VarHandle" ∧ (parseMethodDescriptor yX10_same.desc).map (fun d => d.parameters.length) = some 1 := by decide +kernel
abbrev cX10_saves : ByteArray := prog_12_method_41_code
def yX10_saves : MethodName := ⟨"SeedBenchModel", "saves", "(I)V"⟩
theorem dX10_saves_0 : decode cX10_saves 0 = .ok (.iconst 0, 1) := by decide +kernel
theorem dX10_saves_1 : decode cX10_saves 1 = .ok (.istore_n 2, 1) := by decide +kernel
theorem dX10_saves_2 : decode cX10_saves 2 = .ok (.iload_n 2, 1) := by decide +kernel
theorem dX10_saves_3 : decode cX10_saves 3 = .ok (.aload_n 0, 1) := by decide +kernel
theorem dX10_saves_4 : decode cX10_saves 4 = .ok (.getfield 132, 3) := by decide +kernel
theorem dX10_saves_7 : decode cX10_saves 7 = .ok (.if_icmp .ge 17, 3) := by decide +kernel
theorem dX10_saves_10 : decode cX10_saves 10 = .ok (.aload_n 0, 1) := by decide +kernel
theorem dX10_saves_11 : decode cX10_saves 11 = .ok (.iload_n 1, 1) := by decide +kernel
theorem dX10_saves_12 : decode cX10_saves 12 = .ok (.iload_n 2, 1) := by decide +kernel
theorem dX10_saves_13 : decode cX10_saves 13 = .ok (.iadd, 1) := by decide +kernel
theorem dX10_saves_14 : decode cX10_saves 14 = .ok (.iload_n 2, 1) := by decide +kernel
theorem dX10_saves_15 : decode cX10_saves 15 = .ok (.invokevirtual 164, 3) := by decide +kernel
theorem dX10_saves_18 : decode cX10_saves 18 = .ok (.iinc 2 1, 3) := by decide +kernel
theorem dX10_saves_21 : decode cX10_saves 21 = .ok (.goto (-19), 3) := by decide +kernel
theorem dX10_saves_24 : decode cX10_saves 24 = .ok (.iconst 0, 1) := by decide +kernel
theorem dX10_saves_25 : decode cX10_saves 25 = .ok (.istore_n 2, 1) := by decide +kernel
theorem dX10_saves_26 : decode cX10_saves 26 = .ok (.iload_n 2, 1) := by decide +kernel
theorem dX10_saves_27 : decode cX10_saves 27 = .ok (.bipush 72, 2) := by decide +kernel
theorem dX10_saves_29 : decode cX10_saves 29 = .ok (.if_icmp .ge 21, 3) := by decide +kernel
theorem dX10_saves_32 : decode cX10_saves 32 = .ok (.aload_n 0, 1) := by decide +kernel
theorem dX10_saves_33 : decode cX10_saves 33 = .ok (.getfield 80, 3) := by decide +kernel
theorem dX10_saves_36 : decode cX10_saves 36 = .ok (.iload_n 2, 1) := by decide +kernel
theorem dX10_saves_37 : decode cX10_saves 37 = .ok (.aload_n 0, 1) := by decide +kernel
theorem dX10_saves_38 : decode cX10_saves 38 = .ok (.getfield 28, 3) := by decide +kernel
theorem dX10_saves_41 : decode cX10_saves 41 = .ok (.iload_n 2, 1) := by decide +kernel
theorem dX10_saves_42 : decode cX10_saves 42 = .ok (.iaload, 1) := by decide +kernel
theorem dX10_saves_43 : decode cX10_saves 43 = .ok (.iastore, 1) := by decide +kernel
theorem dX10_saves_44 : decode cX10_saves 44 = .ok (.iinc 2 1, 3) := by decide +kernel
theorem dX10_saves_47 : decode cX10_saves 47 = .ok (.goto (-21), 3) := by decide +kernel
theorem dX10_saves_50 : decode cX10_saves 50 = .ok (.return_, 1) := by decide +kernel
noncomputable def p_X10_saves (Y : rx_Y) : rx_P := [(0, rx_pure (rx_push (.int 0)) 1), (1, rx_st 0 2 2 3), (2, rx_ld 0 2 3), (3, rx_ld 2 0 4), (4, rx_get 10 7 7), (7, rx_br (rx_cmp Y 1) 24 10), (10, rx_ld 2 0 11), (11, rx_ld 0 1 12), (12, rx_ld 0 2 13), (13, rx_pure (rx_bi (fun x y => x + y)) 14), (14, rx_ld 0 2 15), (15, rx_cl 104 3 10 true 0 0 0 0 18), (18, rx_inc 2 1 21 3), (21, rx_br rx_goto 2 24), (24, rx_pure (rx_push (.int 0)) 25), (25, rx_st 0 2 26 3), (26, rx_ld 0 2 27), (27, rx_pure (rx_push (.int 72)) 29), (29, rx_br (rx_cmp Y 1) 50 32), (32, rx_ld 2 0 33), (33, rx_get 10 34 36), (36, rx_ld 0 2 37), (37, rx_ld 2 0 38), (38, rx_get 10 9 41), (41, rx_ld 0 2 42), (42, rx_ald 0 0 43), (43, rx_ast Y 0 .int 44), (44, rx_inc 2 1 47 3), (47, rx_br rx_goto 26 50), (50, rx_ret0 0 0)]
noncomputable def m_X10_saves (Y : rx_Y) : rx_M := (yX10_saves, cX10_saves, 3, none, { frames := 1, cells := 0, slots := 0, locals := 24 }, p_X10_saves Y)
theorem hd_X10_saves : yX10_saves.cls ≠ "java/lang/invoke/MethodHandle" ∧ yX10_saves.cls ≠ "java/lang/invoke/VarHandle" ∧ (parseMethodDescriptor yX10_saves.desc).map (fun d => d.parameters.length) = some 1 := by decide +kernel
abbrev cX10_searches : ByteArray := prog_12_method_55_code
def yX10_searches : MethodName := ⟨"SeedBenchModel", "searches", "()I"⟩
theorem dX10_searches_0 : decode cX10_searches 0 = .ok (.aload_n 0, 1) := by decide +kernel
theorem dX10_searches_1 : decode cX10_searches 1 = .ok (.iconst 0, 1) := by decide +kernel
theorem dX10_searches_2 : decode cX10_searches 2 = .ok (.putfield 293, 3) := by decide +kernel
theorem dX10_searches_5 : decode cX10_searches 5 = .ok (.aload_n 0, 1) := by decide +kernel
theorem dX10_searches_6 : decode cX10_searches 6 = .ok (.iconst 0, 1) := by decide +kernel
theorem dX10_searches_7 : decode cX10_searches 7 = .ok (.putfield 299, 3) := by decide +kernel
theorem dX10_searches_10 : decode cX10_searches 10 = .ok (.iconst 0, 1) := by decide +kernel
theorem dX10_searches_11 : decode cX10_searches 11 = .ok (.istore_n 1, 1) := by decide +kernel
theorem dX10_searches_12 : decode cX10_searches 12 = .ok (.iload_n 1, 1) := by decide +kernel
theorem dX10_searches_13 : decode cX10_searches 13 = .ok (.sipush 4096, 3) := by decide +kernel
theorem dX10_searches_16 : decode cX10_searches 16 = .ok (.if_icmp .ge 16, 3) := by decide +kernel
theorem dX10_searches_19 : decode cX10_searches 19 = .ok (.aload_n 0, 1) := by decide +kernel
theorem dX10_searches_20 : decode cX10_searches 20 = .ok (.getfield 99, 3) := by decide +kernel
theorem dX10_searches_23 : decode cX10_searches 23 = .ok (.iload_n 1, 1) := by decide +kernel
theorem dX10_searches_24 : decode cX10_searches 24 = .ok (.iconst (-1), 1) := by decide +kernel
theorem dX10_searches_25 : decode cX10_searches 25 = .ok (.iastore, 1) := by decide +kernel
theorem dX10_searches_26 : decode cX10_searches 26 = .ok (.iinc 1 1, 3) := by decide +kernel
theorem dX10_searches_29 : decode cX10_searches 29 = .ok (.goto (-17), 3) := by decide +kernel
theorem dX10_searches_32 : decode cX10_searches 32 = .ok (.aload_n 0, 1) := by decide +kernel
theorem dX10_searches_33 : decode cX10_searches 33 = .ok (.iconst (-1), 1) := by decide +kernel
theorem dX10_searches_34 : decode cX10_searches 34 = .ok (.iconst (-1), 1) := by decide +kernel
theorem dX10_searches_35 : decode cX10_searches 35 = .ok (.invokevirtual 302, 3) := by decide +kernel
theorem dX10_searches_38 : decode cX10_searches 38 = .ok (.istore_n 1, 1) := by decide +kernel
theorem dX10_searches_39 : decode cX10_searches 39 = .ok (.iconst (-1), 1) := by decide +kernel
theorem dX10_searches_40 : decode cX10_searches 40 = .ok (.istore_n 2, 1) := by decide +kernel
theorem dX10_searches_41 : decode cX10_searches 41 = .ok (.iconst (-1), 1) := by decide +kernel
theorem dX10_searches_42 : decode cX10_searches 42 = .ok (.istore_n 3, 1) := by decide +kernel
theorem dX10_searches_43 : decode cX10_searches 43 = .ok (.iconst 0, 1) := by decide +kernel
theorem dX10_searches_44 : decode cX10_searches 44 = .ok (.istore 4, 2) := by decide +kernel
theorem dX10_searches_46 : decode cX10_searches 46 = .ok (.iload 4, 2) := by decide +kernel
theorem dX10_searches_48 : decode cX10_searches 48 = .ok (.aload_n 0, 1) := by decide +kernel
theorem dX10_searches_49 : decode cX10_searches 49 = .ok (.getfield 293, 3) := by decide +kernel
theorem dX10_searches_52 : decode cX10_searches 52 = .ok (.if_icmp .ge 154, 3) := by decide +kernel
theorem dX10_searches_55 : decode cX10_searches 55 = .ok (.iload_n 1, 1) := by decide +kernel
theorem dX10_searches_56 : decode cX10_searches 56 = .ok (.iconst 2, 1) := by decide +kernel
theorem dX10_searches_57 : decode cX10_searches 57 = .ok (.if_icmp .ge 149, 3) := by decide +kernel
theorem dX10_searches_60 : decode cX10_searches 60 = .ok (.iconst 0, 1) := by decide +kernel
theorem dX10_searches_61 : decode cX10_searches 61 = .ok (.istore 5, 2) := by decide +kernel
theorem dX10_searches_63 : decode cX10_searches 63 = .ok (.iload 5, 2) := by decide +kernel
theorem dX10_searches_65 : decode cX10_searches 65 = .ok (.aload_n 0, 1) := by decide +kernel
theorem dX10_searches_66 : decode cX10_searches 66 = .ok (.getfield 132, 3) := by decide +kernel
theorem dX10_searches_69 : decode cX10_searches 69 = .ok (.if_icmp .ge 131, 3) := by decide +kernel
theorem dX10_searches_72 : decode cX10_searches 72 = .ok (.iload_n 1, 1) := by decide +kernel
theorem dX10_searches_73 : decode cX10_searches 73 = .ok (.iconst 2, 1) := by decide +kernel
theorem dX10_searches_74 : decode cX10_searches 74 = .ok (.if_icmp .ge 126, 3) := by decide +kernel
theorem dX10_searches_77 : decode cX10_searches 77 = .ok (.iconst 0, 1) := by decide +kernel
theorem dX10_searches_78 : decode cX10_searches 78 = .ok (.istore 6, 2) := by decide +kernel
theorem dX10_searches_80 : decode cX10_searches 80 = .ok (.iload 6, 2) := by decide +kernel
theorem dX10_searches_82 : decode cX10_searches 82 = .ok (.bipush 36, 2) := by decide +kernel
theorem dX10_searches_84 : decode cX10_searches 84 = .ok (.if_icmp .ge 29, 3) := by decide +kernel
theorem dX10_searches_87 : decode cX10_searches 87 = .ok (.aload_n 0, 1) := by decide +kernel
theorem dX10_searches_88 : decode cX10_searches 88 = .ok (.getfield 28, 3) := by decide +kernel
theorem dX10_searches_91 : decode cX10_searches 91 = .ok (.iload 6, 2) := by decide +kernel
theorem dX10_searches_93 : decode cX10_searches 93 = .ok (.aload_n 0, 1) := by decide +kernel
theorem dX10_searches_94 : decode cX10_searches 94 = .ok (.getfield 87, 3) := by decide +kernel
theorem dX10_searches_97 : decode cX10_searches 97 = .ok (.bipush 36, 2) := by decide +kernel
theorem dX10_searches_99 : decode cX10_searches 99 = .ok (.iload 4, 2) := by decide +kernel
theorem dX10_searches_101 : decode cX10_searches 101 = .ok (.imul, 1) := by decide +kernel
theorem dX10_searches_102 : decode cX10_searches 102 = .ok (.iload 6, 2) := by decide +kernel
theorem dX10_searches_104 : decode cX10_searches 104 = .ok (.iadd, 1) := by decide +kernel
theorem dX10_searches_105 : decode cX10_searches 105 = .ok (.iaload, 1) := by decide +kernel
theorem dX10_searches_106 : decode cX10_searches 106 = .ok (.iastore, 1) := by decide +kernel
theorem dX10_searches_107 : decode cX10_searches 107 = .ok (.iinc 6 1, 3) := by decide +kernel
theorem dX10_searches_110 : decode cX10_searches 110 = .ok (.goto (-30), 3) := by decide +kernel
theorem dX10_searches_113 : decode cX10_searches 113 = .ok (.aload_n 0, 1) := by decide +kernel
theorem dX10_searches_114 : decode cX10_searches 114 = .ok (.iload 5, 2) := by decide +kernel
theorem dX10_searches_116 : decode cX10_searches 116 = .ok (.invokevirtual 218, 3) := by decide +kernel
theorem dX10_searches_119 : decode cX10_searches 119 = .ok (.istore 6, 2) := by decide +kernel
theorem dX10_searches_121 : decode cX10_searches 121 = .ok (.iconst 0, 1) := by decide +kernel
theorem dX10_searches_122 : decode cX10_searches 122 = .ok (.istore 7, 2) := by decide +kernel
theorem dX10_searches_124 : decode cX10_searches 124 = .ok (.iload 7, 2) := by decide +kernel
theorem dX10_searches_126 : decode cX10_searches 126 = .ok (.bipush 36, 2) := by decide +kernel
theorem dX10_searches_128 : decode cX10_searches 128 = .ok (.if_icmp .ge 51, 3) := by decide +kernel
theorem dX10_searches_131 : decode cX10_searches 131 = .ok (.aload_n 0, 1) := by decide +kernel
theorem dX10_searches_132 : decode cX10_searches 132 = .ok (.getfield 28, 3) := by decide +kernel
theorem dX10_searches_135 : decode cX10_searches 135 = .ok (.iload 7, 2) := by decide +kernel
theorem dX10_searches_137 : decode cX10_searches 137 = .ok (.iload 7, 2) := by decide +kernel
theorem dX10_searches_139 : decode cX10_searches 139 = .ok (.bipush 6, 2) := by decide +kernel
theorem dX10_searches_141 : decode cX10_searches 141 = .ok (.idiv, 1) := by decide +kernel
theorem dX10_searches_142 : decode cX10_searches 142 = .ok (.aload_n 0, 1) := by decide +kernel
theorem dX10_searches_143 : decode cX10_searches 143 = .ok (.getfield 132, 3) := by decide +kernel
theorem dX10_searches_146 : decode cX10_searches 146 = .ok (.if_icmp .ge 25, 3) := by decide +kernel
theorem dX10_searches_149 : decode cX10_searches 149 = .ok (.iload 7, 2) := by decide +kernel
theorem dX10_searches_151 : decode cX10_searches 151 = .ok (.bipush 6, 2) := by decide +kernel
theorem dX10_searches_153 : decode cX10_searches 153 = .ok (.irem, 1) := by decide +kernel
theorem dX10_searches_154 : decode cX10_searches 154 = .ok (.aload_n 0, 1) := by decide +kernel
theorem dX10_searches_155 : decode cX10_searches 155 = .ok (.getfield 132, 3) := by decide +kernel
theorem dX10_searches_158 : decode cX10_searches 158 = .ok (.if_icmp .ge 13, 3) := by decide +kernel
theorem dX10_searches_161 : decode cX10_searches 161 = .ok (.aload_n 0, 1) := by decide +kernel
theorem dX10_searches_162 : decode cX10_searches 162 = .ok (.getfield 50, 3) := by decide +kernel
theorem dX10_searches_165 : decode cX10_searches 165 = .ok (.iload 7, 2) := by decide +kernel
theorem dX10_searches_167 : decode cX10_searches 167 = .ok (.iaload, 1) := by decide +kernel
theorem dX10_searches_168 : decode cX10_searches 168 = .ok (.goto 4, 3) := by decide +kernel
theorem dX10_searches_171 : decode cX10_searches 171 = .ok (.iconst 0, 1) := by decide +kernel
theorem dX10_searches_172 : decode cX10_searches 172 = .ok (.iastore, 1) := by decide +kernel
theorem dX10_searches_173 : decode cX10_searches 173 = .ok (.iinc 7 1, 3) := by decide +kernel
theorem dX10_searches_176 : decode cX10_searches 176 = .ok (.goto (-52), 3) := by decide +kernel
theorem dX10_searches_179 : decode cX10_searches 179 = .ok (.iload 4, 2) := by decide +kernel
theorem dX10_searches_181 : decode cX10_searches 181 = .ok (.istore_n 2, 1) := by decide +kernel
theorem dX10_searches_182 : decode cX10_searches 182 = .ok (.iload 5, 2) := by decide +kernel
theorem dX10_searches_184 : decode cX10_searches 184 = .ok (.istore_n 3, 1) := by decide +kernel
theorem dX10_searches_185 : decode cX10_searches 185 = .ok (.aload_n 0, 1) := by decide +kernel
theorem dX10_searches_186 : decode cX10_searches 186 = .ok (.iload 4, 2) := by decide +kernel
theorem dX10_searches_188 : decode cX10_searches 188 = .ok (.iload 5, 2) := by decide +kernel
theorem dX10_searches_190 : decode cX10_searches 190 = .ok (.invokevirtual 302, 3) := by decide +kernel
theorem dX10_searches_193 : decode cX10_searches 193 = .ok (.istore_n 1, 1) := by decide +kernel
theorem dX10_searches_194 : decode cX10_searches 194 = .ok (.iinc 5 1, 3) := by decide +kernel
theorem dX10_searches_197 : decode cX10_searches 197 = .ok (.goto (-134), 3) := by decide +kernel
theorem dX10_searches_200 : decode cX10_searches 200 = .ok (.iinc 4 1, 3) := by decide +kernel
theorem dX10_searches_203 : decode cX10_searches 203 = .ok (.goto (-157), 3) := by decide +kernel
theorem dX10_searches_206 : decode cX10_searches 206 = .ok (.aload_n 0, 1) := by decide +kernel
theorem dX10_searches_207 : decode cX10_searches 207 = .ok (.iload_n 1, 1) := by decide +kernel
theorem dX10_searches_208 : decode cX10_searches 208 = .ok (.iconst 2, 1) := by decide +kernel
theorem dX10_searches_209 : decode cX10_searches 209 = .ok (.if_icmp .ne 12, 3) := by decide +kernel
theorem dX10_searches_221 : decode cX10_searches 221 = .ok (.aload_n 0, 1) := by decide +kernel
theorem dX10_searches_222 : decode cX10_searches 222 = .ok (.getfield 293, 3) := by decide +kernel
theorem dX10_searches_225 : decode cX10_searches 225 = .ok (.putfield 305, 3) := by decide +kernel
theorem dX10_searches_228 : decode cX10_searches 228 = .ok (.iload_n 1, 1) := by decide +kernel
theorem dX10_searches_229 : decode cX10_searches 229 = .ok (.iconst 3, 1) := by decide +kernel
theorem dX10_searches_230 : decode cX10_searches 230 = .ok (.if_icmp .ne 6, 3) := by decide +kernel
theorem dX10_searches_236 : decode cX10_searches 236 = .ok (.iload_n 1, 1) := by decide +kernel
theorem dX10_searches_237 : decode cX10_searches 237 = .ok (.iconst 2, 1) := by decide +kernel
theorem dX10_searches_238 : decode cX10_searches 238 = .ok (.if_icmp .ge 5, 3) := by decide +kernel
theorem dX10_searches_241 : decode cX10_searches 241 = .ok (.iconst 1, 1) := by decide +kernel
theorem dX10_searches_242 : decode cX10_searches 242 = .ok (.ireturn, 1) := by decide +kernel
noncomputable def p_X10_searches (Y : rx_Y) : rx_P := [(0, rx_ld 2 0 1), (1, rx_pure (rx_push (.int 0)) 2), (2, rx_putf 10 40 .int 5), (5, rx_ld 2 0 6), (6, rx_pure (rx_push (.int 0)) 7), (7, rx_putf 10 42 .int 10), (10, rx_pure (rx_push (.int 0)) 11), (11, rx_st 0 1 12 8), (12, rx_ld 0 1 13), (13, rx_pure (rx_push (.int 4096)) 16), (16, rx_br (rx_cmp Y 1) 32 19), (19, rx_ld 2 0 20), (20, rx_get 10 44 23), (23, rx_ld 0 1 24), (24, rx_pure (rx_push (.int (-1))) 25), (25, rx_ast Y 0 .int 26), (26, rx_inc 1 1 29 8), (29, rx_br rx_goto 12 32), (32, rx_ld 2 0 33), (33, rx_pure (rx_push (.int (-1))) 34), (34, rx_pure (rx_push (.int (-1))) 35), (35, rx_cl 148 3 10 true 0 0 0 0 38), (38, rx_st 0 1 39 8), (39, rx_pure (rx_push (.int (-1))) 40), (40, rx_st 0 2 41 8), (41, rx_pure (rx_push (.int (-1))) 42), (42, rx_st 0 3 43 8), (43, rx_pure (rx_push (.int 0)) 44), (44, rx_st 0 4 46 8), (46, rx_ld 0 4 48), (48, rx_ld 2 0 49), (49, rx_get 10 40 52), (52, rx_br (rx_cmp Y 1) 206 55), (55, rx_ld 0 1 56), (56, rx_pure (rx_push (.int 2)) 57), (57, rx_br (rx_cmp Y 1) 206 60), (60, rx_pure (rx_push (.int 0)) 61), (61, rx_st 0 5 63 8), (63, rx_ld 0 5 65), (65, rx_ld 2 0 66), (66, rx_get 10 7 69), (69, rx_br (rx_cmp Y 1) 200 72), (72, rx_ld 0 1 73), (73, rx_pure (rx_push (.int 2)) 74), (74, rx_br (rx_cmp Y 1) 200 77), (77, rx_pure (rx_push (.int 0)) 78), (78, rx_st 0 6 80 8), (80, rx_ld 0 6 82), (82, rx_pure (rx_push (.int 36)) 84), (84, rx_br (rx_cmp Y 1) 113 87), (87, rx_ld 2 0 88), (88, rx_get 10 9 91), (91, rx_ld 0 6 93), (93, rx_ld 2 0 94), (94, rx_get 10 37 97), (97, rx_pure (rx_push (.int 36)) 99), (99, rx_ld 0 4 101), (101, rx_pure (rx_bi (fun x y => x * y)) 102), (102, rx_ld 0 6 104), (104, rx_pure (rx_bi (fun x y => x + y)) 105), (105, rx_ald 0 0 106), (106, rx_ast Y 0 .int 107), (107, rx_inc 6 1 110 8), (110, rx_br rx_goto 80 113), (113, rx_ld 2 0 114), (114, rx_ld 0 5 116), (116, rx_cl 155 2 10 true 0 0 0 0 119), (119, rx_st 0 6 121 8), (121, rx_pure (rx_push (.int 0)) 122), (122, rx_st 0 7 124 8), (124, rx_ld 0 7 126), (126, rx_pure (rx_push (.int 36)) 128), (128, rx_br (rx_cmp Y 1) 179 131), (131, rx_ld 2 0 132), (132, rx_get 10 9 135), (135, rx_ld 0 7 137), (137, rx_ld 0 7 139), (139, rx_pure (rx_push (.int 6)) 141), (141, rx_pure (rx_bid (fun x y => x / y)) 142), (142, rx_ld 2 0 143), (143, rx_get 10 7 146), (146, rx_br (rx_cmp Y 1) 171 149), (149, rx_ld 0 7 151), (151, rx_pure (rx_push (.int 6)) 153), (153, rx_pure (rx_bid (fun x y => x - x / y * y)) 154), (154, rx_ld 2 0 155), (155, rx_get 10 7 158), (158, rx_br (rx_cmp Y 1) 171 161), (161, rx_ld 2 0 162), (162, rx_get 10 19 165), (165, rx_ld 0 7 167), (167, rx_ald 0 0 168), (168, rx_br rx_goto 172 171), (171, rx_pure (rx_push (.int 0)) 172), (172, rx_ast Y 0 .int 173), (173, rx_inc 7 1 176 8), (176, rx_br rx_goto 124 179), (179, rx_ld 0 4 181), (181, rx_st 0 2 182 8), (182, rx_ld 0 5 184), (184, rx_st 0 3 185 8), (185, rx_ld 2 0 186), (186, rx_ld 0 4 188), (188, rx_ld 0 5 190), (190, rx_cl 148 3 10 true 0 0 0 0 193), (193, rx_st 0 1 194 8), (194, rx_inc 5 1 197 8), (197, rx_br rx_goto 63 200), (200, rx_inc 4 1 203 8), (203, rx_br rx_goto 46 206), (206, rx_ld 2 0 207), (207, rx_ld 0 1 208), (208, rx_pure (rx_push (.int 2)) 209), (209, rx_br (rx_cmp Y 5) 221 212), (221, rx_ld 2 0 222), (222, rx_get 10 40 225), (225, rx_putf 10 41 .int 228), (228, rx_ld 0 1 229), (229, rx_pure (rx_push (.int 3)) 230), (230, rx_br (rx_cmp Y 5) 236 233), (236, rx_ld 0 1 237), (237, rx_pure (rx_push (.int 2)) 238), (238, rx_br (rx_cmp Y 1) 243 241), (241, rx_pure (rx_push (.int 1)) 242), (242, rx_retv .int 0 0)]
noncomputable def m_X10_searches (Y : rx_Y) : rx_M := (yX10_searches, cX10_searches, 8, (some .int), { frames := 2, cells := 0, slots := 0, locals := 46 }, p_X10_searches Y)
theorem hd_X10_searches : yX10_searches.cls ≠ "java/lang/invoke/MethodHandle" ∧ yX10_searches.cls ≠ "java/lang/invoke/VarHandle" ∧ (parseMethodDescriptor yX10_searches.desc).map (fun d => d.parameters.length) = some 0 := by decide +kernel
