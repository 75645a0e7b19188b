abbrev cX10_seed : ByteArray := prog_12_method_84_code
def yX10_seed : MethodName := ⟨"SeedBenchModel", "seed", "(I)Z"⟩
theorem dX10_seed_0 : decode cX10_seed 0 = .ok (.aload_n 0, 1) := by decide +kernel
theorem dX10_seed_1 : decode cX10_seed 1 = .ok (.iload_n 1, 1) := by decide +kernel
theorem dX10_seed_2 : decode cX10_seed 2 = .ok (.invokevirtual 314, 3) := by decide +kernel
theorem dX10_seed_5 : decode cX10_seed 5 = .ok (.ifCond .eq 22, 3) := by decide +kernel
theorem dX10_seed_8 : decode cX10_seed 8 = .ok (.aload_n 0, 1) := by decide +kernel
theorem dX10_seed_9 : decode cX10_seed 9 = .ok (.iload_n 1, 1) := by decide +kernel
theorem dX10_seed_10 : decode cX10_seed 10 = .ok (.invokevirtual 338, 3) := by decide +kernel
theorem dX10_seed_13 : decode cX10_seed 13 = .ok (.ifCond .eq 14, 3) := by decide +kernel
theorem dX10_seed_27 : decode cX10_seed 27 = .ok (.iconst 0, 1) := by decide +kernel
theorem dX10_seed_28 : decode cX10_seed 28 = .ok (.ireturn, 1) := by decide +kernel
noncomputable def p_X10_seed (Y : rx_Y) : rx_P := [(0, rx_ld 2 0 1), (1, rx_ld 0 1 2), (2, rx_cl 117 2 10 true 0 0 0 0 5), (5, rx_br (rx_cm0 Y 4) 27 8), (8, rx_ld 2 0 9), (9, rx_ld 0 1 10), (10, rx_cl 116 2 10 true 0 0 0 0 13), (13, rx_br (rx_cm0 Y 4) 27 16), (27, rx_pure (rx_push (.int 0)) 28), (28, rx_retv .boolean 0 0)]
noncomputable def m_X10_seed (Y : rx_Y) : rx_M := (yX10_seed, cX10_seed, 10, (some .boolean), { frames := 2, cells := 0, slots := 0, locals := 44 }, p_X10_seed Y)
theorem hd_X10_seed : yX10_seed.cls ≠ "java/lang/invoke/MethodHandle" ∧ yX10_seed.cls ≠ "java/lang/invoke/VarHandle" ∧ (parseMethodDescriptor yX10_seed.desc).map (fun d => d.parameters.length) = some 1 := by decide +kernel
abbrev cX10_size : ByteArray := prog_12_method_25_code
def yX10_size : MethodName := ⟨"SeedBenchModel", "size", "(I)I"⟩
theorem dX10_size_0 : decode cX10_size 0 = .ok (.iload_n 1, 1) := by decide +kernel
theorem dX10_size_1 : decode cX10_size 1 = .ok (.ifCond .lt 11, 3) := by decide +kernel
theorem dX10_size_4 : decode cX10_size 4 = .ok (.iload_n 1, 1) := by decide +kernel
theorem dX10_size_5 : decode cX10_size 5 = .ok (.aload_n 0, 1) := by decide +kernel
theorem dX10_size_6 : decode cX10_size 6 = .ok (.getfield 132, 3) := by decide +kernel
theorem dX10_size_9 : decode cX10_size 9 = .ok (.if_icmp .lt 7, 3) := by decide +kernel
theorem dX10_size_12 : decode cX10_size 12 = .ok (.iconst 0, 1) := by decide +kernel
theorem dX10_size_13 : decode cX10_size 13 = .ok (.goto 9, 3) := by decide +kernel
theorem dX10_size_16 : decode cX10_size 16 = .ok (.aload_n 0, 1) := by decide +kernel
theorem dX10_size_17 : decode cX10_size 17 = .ok (.getfield 43, 3) := by decide +kernel
theorem dX10_size_20 : decode cX10_size 20 = .ok (.iload_n 1, 1) := by decide +kernel
theorem dX10_size_21 : decode cX10_size 21 = .ok (.iaload, 1) := by decide +kernel
theorem dX10_size_22 : decode cX10_size 22 = .ok (.ireturn, 1) := by decide +kernel
noncomputable def p_X10_size (Y : rx_Y) : rx_P := [(0, rx_ld 0 1 1), (1, rx_br (rx_cm0 Y 0) 12 4), (4, rx_ld 0 1 5), (5, rx_ld 2 0 6), (6, rx_get 10 7 9), (9, rx_br (rx_cmp Y 0) 16 12), (12, rx_pure (rx_push (.int 0)) 13), (13, rx_br rx_goto 22 16), (16, rx_ld 2 0 17), (17, rx_get 10 17 20), (20, rx_ld 0 1 21), (21, rx_ald 0 0 22), (22, rx_retv .int 0 0)]
noncomputable def m_X10_size (Y : rx_Y) : rx_M := (yX10_size, cX10_size, 2, (some .int), { frames := 0, cells := 0, slots := 0, locals := 0 }, p_X10_size Y)
theorem hd_X10_size : yX10_size.cls ≠ "java/lang/invoke/MethodHandle" ∧ yX10_size.cls ≠ "java/lang/invoke/VarHandle" ∧ (parseMethodDescriptor yX10_size.desc).map (fun d => d.parameters.length) = some 1 := by decide +kernel
abbrev cX10_step : ByteArray := prog_12_method_56_code
def yX10_step : MethodName := ⟨"SeedBenchModel", "step", "(I)I"⟩
theorem dX10_step_0 : decode cX10_step 0 = .ok (.iload_n 1, 1) := by decide +kernel
theorem dX10_step_1 : decode cX10_step 1 = .ok (.ifCond .lt 11, 3) := by decide +kernel
theorem dX10_step_4 : decode cX10_step 4 = .ok (.iload_n 1, 1) := by decide +kernel
theorem dX10_step_5 : decode cX10_step 5 = .ok (.aload_n 0, 1) := by decide +kernel
theorem dX10_step_6 : decode cX10_step 6 = .ok (.getfield 299, 3) := by decide +kernel
theorem dX10_step_9 : decode cX10_step 9 = .ok (.if_icmp .lt 7, 3) := by decide +kernel
theorem dX10_step_12 : decode cX10_step 12 = .ok (.iconst (-1), 1) := by decide +kernel
theorem dX10_step_13 : decode cX10_step 13 = .ok (.goto 9, 3) := by decide +kernel
theorem dX10_step_22 : decode cX10_step 22 = .ok (.ireturn, 1) := by decide +kernel
noncomputable def p_X10_step (Y : rx_Y) : rx_P := [(0, rx_ld 0 1 1), (1, rx_br (rx_cm0 Y 0) 12 4), (4, rx_ld 0 1 5), (5, rx_ld 2 0 6), (6, rx_get 10 42 9), (9, rx_br (rx_cmp Y 0) 16 12), (12, rx_pure (rx_push (.int (-1))) 13), (13, rx_br rx_goto 22 16), (22, rx_retv .int 0 0)]
noncomputable def m_X10_step (Y : rx_Y) : rx_M := (yX10_step, cX10_step, 2, (some .int), { frames := 0, cells := 0, slots := 0, locals := 0 }, p_X10_step Y)
theorem hd_X10_step : yX10_step.cls ≠ "java/lang/invoke/MethodHandle" ∧ yX10_step.cls ≠ "java/lang/invoke/VarHandle" ∧ (parseMethodDescriptor yX10_step.desc).map (fun d => d.parameters.length) = some 1 := by decide +kernel
abbrev cX10_sumOf : ByteArray := prog_12_method_36_code
def yX10_sumOf : MethodName := ⟨"SeedBenchModel", "sumOf", "(I)J"⟩
theorem dX10_sumOf_0 : decode cX10_sumOf 0 = .ok (.lconst 0, 1) := by decide +kernel
theorem dX10_sumOf_1 : decode cX10_sumOf 1 = .ok (.lstore_n 2, 1) := by decide +kernel
theorem dX10_sumOf_2 : decode cX10_sumOf 2 = .ok (.iconst 0, 1) := by decide +kernel
theorem dX10_sumOf_3 : decode cX10_sumOf 3 = .ok (.istore 4, 2) := by decide +kernel
theorem dX10_sumOf_5 : decode cX10_sumOf 5 = .ok (.iload 4, 2) := by decide +kernel
theorem dX10_sumOf_7 : decode cX10_sumOf 7 = .ok (.aload_n 0, 1) := by decide +kernel
theorem dX10_sumOf_8 : decode cX10_sumOf 8 = .ok (.getfield 13, 3) := by decide +kernel
theorem dX10_sumOf_11 : decode cX10_sumOf 11 = .ok (.iload_n 1, 1) := by decide +kernel
theorem dX10_sumOf_12 : decode cX10_sumOf 12 = .ok (.iaload, 1) := by decide +kernel
theorem dX10_sumOf_13 : decode cX10_sumOf 13 = .ok (.if_icmp .ge 25, 3) := by decide +kernel
theorem dX10_sumOf_16 : decode cX10_sumOf 16 = .ok (.lload_n 2, 1) := by decide +kernel
theorem dX10_sumOf_17 : decode cX10_sumOf 17 = .ok (.aload_n 0, 1) := by decide +kernel
theorem dX10_sumOf_18 : decode cX10_sumOf 18 = .ok (.getfield 17, 3) := by decide +kernel
theorem dX10_sumOf_21 : decode cX10_sumOf 21 = .ok (.sipush 200, 3) := by decide +kernel
theorem dX10_sumOf_24 : decode cX10_sumOf 24 = .ok (.iload_n 1, 1) := by decide +kernel
theorem dX10_sumOf_25 : decode cX10_sumOf 25 = .ok (.imul, 1) := by decide +kernel
theorem dX10_sumOf_26 : decode cX10_sumOf 26 = .ok (.iload 4, 2) := by decide +kernel
theorem dX10_sumOf_28 : decode cX10_sumOf 28 = .ok (.iadd, 1) := by decide +kernel
theorem dX10_sumOf_29 : decode cX10_sumOf 29 = .ok (.laload, 1) := by decide +kernel
theorem dX10_sumOf_30 : decode cX10_sumOf 30 = .ok (.ladd, 1) := by decide +kernel
theorem dX10_sumOf_31 : decode cX10_sumOf 31 = .ok (.lstore_n 2, 1) := by decide +kernel
theorem dX10_sumOf_32 : decode cX10_sumOf 32 = .ok (.iinc 4 1, 3) := by decide +kernel
theorem dX10_sumOf_35 : decode cX10_sumOf 35 = .ok (.goto (-30), 3) := by decide +kernel
theorem dX10_sumOf_38 : decode cX10_sumOf 38 = .ok (.lload_n 2, 1) := by decide +kernel
theorem dX10_sumOf_39 : decode cX10_sumOf 39 = .ok (.lreturn, 1) := by decide +kernel
noncomputable def p_X10_sumOf (Y : rx_Y) : rx_P := [(0, rx_pure (rx_push (.long 0)) 1), (1, rx_st 1 2 2 5), (2, rx_pure (rx_push (.int 0)) 3), (3, rx_st 0 4 5 5), (5, rx_ld 0 4 7), (7, rx_ld 2 0 8), (8, rx_get 10 1 11), (11, rx_ld 0 1 12), (12, rx_ald 0 0 13), (13, rx_br (rx_cmp Y 1) 38 16), (16, rx_ld 1 2 17), (17, rx_ld 2 0 18), (18, rx_get 10 2 21), (21, rx_pure (rx_push (.int 200)) 24), (24, rx_ld 0 1 25), (25, rx_pure (rx_bi (fun x y => x * y)) 26), (26, rx_ld 0 4 28), (28, rx_pure (rx_bi (fun x y => x + y)) 29), (29, rx_ald 1 1 30), (30, rx_pure (rx_lb (fun x y => x + y)) 31), (31, rx_st 1 2 32 5), (32, rx_inc 4 1 35 5), (35, rx_br rx_goto 5 38), (38, rx_ld 1 2 39), (39, rx_retv .long 0 0)]
noncomputable def m_X10_sumOf (Y : rx_Y) : rx_M := (yX10_sumOf, cX10_sumOf, 5, (some .long), { frames := 0, cells := 0, slots := 0, locals := 0 }, p_X10_sumOf Y)
theorem hd_X10_sumOf : yX10_sumOf.cls ≠ "java/lang/invoke/MethodHandle" ∧ yX10_sumOf.cls ≠ "java/lang/invoke/VarHandle" ∧ (parseMethodDescriptor yX10_sumOf.desc).map (fun d => d.parameters.length) = some 1 := by decide +kernel
abbrev cX10_table : ByteArray := prog_12_method_15_code
def yX10_table : MethodName := ⟨"SeedBenchModel", "table", "(II)Z"⟩
theorem dX10_table_0 : decode cX10_table 0 = .ok (.iload_n 1, 1) := by decide +kernel
theorem dX10_table_1 : decode cX10_table 1 = .ok (.iconst 1, 1) := by decide +kernel
theorem dX10_table_2 : decode cX10_table 2 = .ok (.if_icmp .lt 19, 3) := by decide +kernel
theorem dX10_table_5 : decode cX10_table 5 = .ok (.iload_n 1, 1) := by decide +kernel
theorem dX10_table_6 : decode cX10_table 6 = .ok (.bipush 6, 2) := by decide +kernel
theorem dX10_table_8 : decode cX10_table 8 = .ok (.if_icmp .gt 13, 3) := by decide +kernel
theorem dX10_table_11 : decode cX10_table 11 = .ok (.iload_n 2, 1) := by decide +kernel
theorem dX10_table_12 : decode cX10_table 12 = .ok (.ifCond .lt 9, 3) := by decide +kernel
theorem dX10_table_15 : decode cX10_table 15 = .ok (.iload_n 2, 1) := by decide +kernel
theorem dX10_table_16 : decode cX10_table 16 = .ok (.bipush 6, 2) := by decide +kernel
theorem dX10_table_18 : decode cX10_table 18 = .ok (.if_icmp .le 5, 3) := by decide +kernel
theorem dX10_table_21 : decode cX10_table 21 = .ok (.iconst 0, 1) := by decide +kernel
theorem dX10_table_22 : decode cX10_table 22 = .ok (.ireturn, 1) := by decide +kernel
theorem dX10_table_23 : decode cX10_table 23 = .ok (.aload_n 0, 1) := by decide +kernel
theorem dX10_table_24 : decode cX10_table 24 = .ok (.iload_n 1, 1) := by decide +kernel
theorem dX10_table_25 : decode cX10_table 25 = .ok (.putfield 181, 3) := by decide +kernel
theorem dX10_table_28 : decode cX10_table 28 = .ok (.aload_n 0, 1) := by decide +kernel
theorem dX10_table_29 : decode cX10_table 29 = .ok (.iload_n 2, 1) := by decide +kernel
theorem dX10_table_30 : decode cX10_table 30 = .ok (.putfield 184, 3) := by decide +kernel
theorem dX10_table_33 : decode cX10_table 33 = .ok (.iconst 0, 1) := by decide +kernel
theorem dX10_table_34 : decode cX10_table 34 = .ok (.istore_n 3, 1) := by decide +kernel
theorem dX10_table_35 : decode cX10_table 35 = .ok (.iload_n 3, 1) := by decide +kernel
theorem dX10_table_36 : decode cX10_table 36 = .ok (.bipush 72, 2) := by decide +kernel
theorem dX10_table_38 : decode cX10_table 38 = .ok (.if_icmp .ge 16, 3) := by decide +kernel
theorem dX10_table_41 : decode cX10_table 41 = .ok (.aload_n 0, 1) := by decide +kernel
theorem dX10_table_42 : decode cX10_table 42 = .ok (.getfield 34, 3) := by decide +kernel
theorem dX10_table_45 : decode cX10_table 45 = .ok (.iload_n 3, 1) := by decide +kernel
theorem dX10_table_46 : decode cX10_table 46 = .ok (.iconst 0, 1) := by decide +kernel
theorem dX10_table_47 : decode cX10_table 47 = .ok (.iastore, 1) := by decide +kernel
theorem dX10_table_48 : decode cX10_table 48 = .ok (.iinc 3 1, 3) := by decide +kernel
theorem dX10_table_51 : decode cX10_table 51 = .ok (.goto (-16), 3) := by decide +kernel
theorem dX10_table_54 : decode cX10_table 54 = .ok (.iconst 1, 1) := by decide +kernel
theorem dX10_table_55 : decode cX10_table 55 = .ok (.ireturn, 1) := by decide +kernel
noncomputable def p_X10_table (Y : rx_Y) : rx_P := [(0, rx_ld 0 1 1), (1, rx_pure (rx_push (.int 1)) 2), (2, rx_br (rx_cmp Y 0) 21 5), (5, rx_ld 0 1 6), (6, rx_pure (rx_push (.int 6)) 8), (8, rx_br (rx_cmp Y 2) 21 11), (11, rx_ld 0 2 12), (12, rx_br (rx_cm0 Y 0) 21 15), (15, rx_ld 0 2 16), (16, rx_pure (rx_push (.int 6)) 18), (18, rx_br (rx_cmp Y 3) 23 21), (21, rx_pure (rx_push (.int 0)) 22), (22, rx_retv .boolean 0 0), (23, rx_ld 2 0 24), (24, rx_ld 0 1 25), (25, rx_putf 10 12 .int 28), (28, rx_ld 2 0 29), (29, rx_ld 0 2 30), (30, rx_putf 10 13 .int 33), (33, rx_pure (rx_push (.int 0)) 34), (34, rx_st 0 3 35 4), (35, rx_ld 0 3 36), (36, rx_pure (rx_push (.int 72)) 38), (38, rx_br (rx_cmp Y 1) 54 41), (41, rx_ld 2 0 42), (42, rx_get 10 14 45), (45, rx_ld 0 3 46), (46, rx_pure (rx_push (.int 0)) 47), (47, rx_ast Y 0 .int 48), (48, rx_inc 3 1 51 4), (51, rx_br rx_goto 35 54), (54, rx_pure (rx_push (.int 1)) 55), (55, rx_retv .boolean 0 0)]
noncomputable def m_X10_table (Y : rx_Y) : rx_M := (yX10_table, cX10_table, 4, (some .boolean), { frames := 0, cells := 0, slots := 0, locals := 0 }, p_X10_table Y)
theorem hd_X10_table : yX10_table.cls ≠ "java/lang/invoke/MethodHandle" ∧ yX10_table.cls ≠ "java/lang/invoke/VarHandle" ∧ (parseMethodDescriptor yX10_table.desc).map (fun d => d.parameters.length) = some 2 := by decide +kernel
abbrev cX10_tableHash : ByteArray := prog_12_method_53_code
def yX10_tableHash : MethodName := ⟨"SeedBenchModel", "tableHash", "()I"⟩
theorem dX10_tableHash_0 : decode cX10_tableHash 0 = .ok (.bipush 7, 2) := by decide +kernel
theorem dX10_tableHash_2 : decode cX10_tableHash 2 = .ok (.istore_n 1, 1) := by decide +kernel
theorem dX10_tableHash_3 : decode cX10_tableHash 3 = .ok (.iconst 0, 1) := by decide +kernel
theorem dX10_tableHash_4 : decode cX10_tableHash 4 = .ok (.istore_n 2, 1) := by decide +kernel
theorem dX10_tableHash_5 : decode cX10_tableHash 5 = .ok (.iload_n 2, 1) := by decide +kernel
theorem dX10_tableHash_6 : decode cX10_tableHash 6 = .ok (.bipush 36, 2) := by decide +kernel
theorem dX10_tableHash_8 : decode cX10_tableHash 8 = .ok (.if_icmp .ge 47, 3) := by decide +kernel
theorem dX10_tableHash_11 : decode cX10_tableHash 11 = .ok (.bipush 31, 2) := by decide +kernel
theorem dX10_tableHash_13 : decode cX10_tableHash 13 = .ok (.iload_n 1, 1) := by decide +kernel
theorem dX10_tableHash_14 : decode cX10_tableHash 14 = .ok (.imul, 1) := by decide +kernel
theorem dX10_tableHash_15 : decode cX10_tableHash 15 = .ok (.iload_n 2, 1) := by decide +kernel
theorem dX10_tableHash_16 : decode cX10_tableHash 16 = .ok (.bipush 6, 2) := by decide +kernel
theorem dX10_tableHash_18 : decode cX10_tableHash 18 = .ok (.idiv, 1) := by decide +kernel
theorem dX10_tableHash_19 : decode cX10_tableHash 19 = .ok (.aload_n 0, 1) := by decide +kernel
theorem dX10_tableHash_20 : decode cX10_tableHash 20 = .ok (.getfield 132, 3) := by decide +kernel
theorem dX10_tableHash_23 : decode cX10_tableHash 23 = .ok (.if_icmp .ge 23, 3) := by decide +kernel
theorem dX10_tableHash_26 : decode cX10_tableHash 26 = .ok (.iload_n 2, 1) := by decide +kernel
theorem dX10_tableHash_27 : decode cX10_tableHash 27 = .ok (.bipush 6, 2) := by decide +kernel
theorem dX10_tableHash_29 : decode cX10_tableHash 29 = .ok (.irem, 1) := by decide +kernel
theorem dX10_tableHash_30 : decode cX10_tableHash 30 = .ok (.aload_n 0, 1) := by decide +kernel
theorem dX10_tableHash_31 : decode cX10_tableHash 31 = .ok (.getfield 132, 3) := by decide +kernel
theorem dX10_tableHash_34 : decode cX10_tableHash 34 = .ok (.if_icmp .ge 12, 3) := by decide +kernel
theorem dX10_tableHash_37 : decode cX10_tableHash 37 = .ok (.aload_n 0, 1) := by decide +kernel
theorem dX10_tableHash_38 : decode cX10_tableHash 38 = .ok (.getfield 28, 3) := by decide +kernel
theorem dX10_tableHash_41 : decode cX10_tableHash 41 = .ok (.iload_n 2, 1) := by decide +kernel
theorem dX10_tableHash_42 : decode cX10_tableHash 42 = .ok (.iaload, 1) := by decide +kernel
theorem dX10_tableHash_43 : decode cX10_tableHash 43 = .ok (.goto 4, 3) := by decide +kernel
theorem dX10_tableHash_46 : decode cX10_tableHash 46 = .ok (.iconst 0, 1) := by decide +kernel
theorem dX10_tableHash_47 : decode cX10_tableHash 47 = .ok (.iadd, 1) := by decide +kernel
theorem dX10_tableHash_48 : decode cX10_tableHash 48 = .ok (.istore_n 1, 1) := by decide +kernel
theorem dX10_tableHash_49 : decode cX10_tableHash 49 = .ok (.iinc 2 1, 3) := by decide +kernel
theorem dX10_tableHash_52 : decode cX10_tableHash 52 = .ok (.goto (-47), 3) := by decide +kernel
theorem dX10_tableHash_55 : decode cX10_tableHash 55 = .ok (.iload_n 1, 1) := by decide +kernel
theorem dX10_tableHash_56 : decode cX10_tableHash 56 = .ok (.iload_n 1, 1) := by decide +kernel
theorem dX10_tableHash_57 : decode cX10_tableHash 57 = .ok (.bipush 12, 2) := by decide +kernel
theorem dX10_tableHash_59 : decode cX10_tableHash 59 = .ok (.iushr, 1) := by decide +kernel
theorem dX10_tableHash_60 : decode cX10_tableHash 60 = .ok (.ixor, 1) := by decide +kernel
theorem dX10_tableHash_61 : decode cX10_tableHash 61 = .ok (.sipush 4095, 3) := by decide +kernel
theorem dX10_tableHash_64 : decode cX10_tableHash 64 = .ok (.iand, 1) := by decide +kernel
theorem dX10_tableHash_65 : decode cX10_tableHash 65 = .ok (.ireturn, 1) := by decide +kernel
noncomputable def p_X10_tableHash (Y : rx_Y) : rx_P := [(0, rx_pure (rx_push (.int 7)) 2), (2, rx_st 0 1 3 3), (3, rx_pure (rx_push (.int 0)) 4), (4, rx_st 0 2 5 3), (5, rx_ld 0 2 6), (6, rx_pure (rx_push (.int 36)) 8), (8, rx_br (rx_cmp Y 1) 55 11), (11, rx_pure (rx_push (.int 31)) 13), (13, rx_ld 0 1 14), (14, rx_pure (rx_bi (fun x y => x * y)) 15), (15, rx_ld 0 2 16), (16, rx_pure (rx_push (.int 6)) 18), (18, rx_pure (rx_bid (fun x y => x / y)) 19), (19, rx_ld 2 0 20), (20, rx_get 10 7 23), (23, rx_br (rx_cmp Y 1) 46 26), (26, rx_ld 0 2 27), (27, rx_pure (rx_push (.int 6)) 29), (29, rx_pure (rx_bid (fun x y => x - x / y * y)) 30), (30, rx_ld 2 0 31), (31, rx_get 10 7 34), (34, rx_br (rx_cmp Y 1) 46 37), (37, rx_ld 2 0 38), (38, rx_get 10 9 41), (41, rx_ld 0 2 42), (42, rx_ald 0 0 43), (43, rx_br rx_goto 47 46), (46, rx_pure (rx_push (.int 0)) 47), (47, rx_pure (rx_bi (fun x y => x + y)) 48), (48, rx_st 0 1 49 3), (49, rx_inc 2 1 52 3), (52, rx_br rx_goto 5 55), (55, rx_ld 0 1 56), (56, rx_ld 0 1 57), (57, rx_pure (rx_push (.int 12)) 59), (59, rx_pure (rx_bi (fun x y => (x.toUInt32 >>> (y.toUInt32 &&& Int32.toUInt32 31)).toInt32)) 60), (60, rx_pure (rx_bi (fun x y => x ^^^ y)) 61), (61, rx_pure (rx_push (.int 4095)) 64), (64, rx_pure (rx_bi (fun x y => x &&& y)) 65), (65, rx_retv .int 0 0)]
noncomputable def m_X10_tableHash (Y : rx_Y) : rx_M := (yX10_tableHash, cX10_tableHash, 3, (some .int), { frames := 0, cells := 0, slots := 0, locals := 0 }, p_X10_tableHash Y)
theorem hd_X10_tableHash : yX10_tableHash.cls ≠ "java/lang/invoke/MethodHandle" ∧ yX10_tableHash.cls ≠ "java/lang/invoke/VarHandle" ∧ (parseMethodDescriptor yX10_tableHash.desc).map (fun d => d.parameters.length) = some 0 := by decide +kernel
abbrev cX10_tables : ByteArray := prog_12_method_57_code
def yX10_tables : MethodName := ⟨"SeedBenchModel", "tables", "()I"⟩
theorem dX10_tables_0 : decode cX10_tables 0 = .ok (.aload_n 0, 1) := by decide +kernel
theorem dX10_tables_1 : decode cX10_tables 1 = .ok (.getfield 305, 3) := by decide +kernel
theorem dX10_tables_4 : decode cX10_tables 4 = .ok (.ireturn, 1) := by decide +kernel
noncomputable def p_X10_tables (Y : rx_Y) : rx_P := [(0, rx_ld 2 0 1), (1, rx_get 10 41 4), (4, rx_retv .int 0 0)]
noncomputable def m_X10_tables (Y : rx_Y) : rx_M := (yX10_tables, cX10_tables, 1, (some .int), { frames := 0, cells := 0, slots := 0, locals := 0 }, p_X10_tables Y)
theorem hd_X10_tables : yX10_tables.cls ≠ "java/lang/invoke/MethodHandle" ∧ yX10_tables.cls ≠ "java/lang/invoke/VarHandle" ∧ (parseMethodDescriptor yX10_tables.desc).map (fun d => d.parameters.length) = some 0 := by decide +kernel
abbrev cX10_takes : ByteArray := prog_12_method_46_code
def yX10_takes : MethodName := ⟨"SeedBenchModel", "takes", "(I)V"⟩
theorem dX10_takes_0 : decode cX10_takes 0 = .ok (.iconst 0, 1) := by decide +kernel
theorem dX10_takes_1 : decode cX10_takes 1 = .ok (.istore_n 2, 1) := by decide +kernel
theorem dX10_takes_2 : decode cX10_takes 2 = .ok (.iload_n 2, 1) := by decide +kernel
theorem dX10_takes_3 : decode cX10_takes 3 = .ok (.aload_n 0, 1) := by decide +kernel
theorem dX10_takes_4 : decode cX10_takes 4 = .ok (.getfield 132, 3) := by decide +kernel
theorem dX10_takes_7 : decode cX10_takes 7 = .ok (.if_icmp .ge 28, 3) := by decide +kernel
theorem dX10_takes_10 : decode cX10_takes 10 = .ok (.aload_n 0, 1) := by decide +kernel
theorem dX10_takes_11 : decode cX10_takes 11 = .ok (.iload_n 2, 1) := by decide +kernel
theorem dX10_takes_12 : decode cX10_takes 12 = .ok (.bipush 50, 2) := by decide +kernel
theorem dX10_takes_14 : decode cX10_takes 14 = .ok (.aload_n 0, 1) := by decide +kernel
theorem dX10_takes_15 : decode cX10_takes 15 = .ok (.getfield 65, 3) := by decide +kernel
theorem dX10_takes_18 : decode cX10_takes 18 = .ok (.bipush 6, 2) := by decide +kernel
theorem dX10_takes_20 : decode cX10_takes 20 = .ok (.iload_n 1, 1) := by decide +kernel
theorem dX10_takes_21 : decode cX10_takes 21 = .ok (.imul, 1) := by decide +kernel
theorem dX10_takes_22 : decode cX10_takes 22 = .ok (.iload_n 2, 1) := by decide +kernel
theorem dX10_takes_23 : decode cX10_takes 23 = .ok (.iadd, 1) := by decide +kernel
theorem dX10_takes_24 : decode cX10_takes 24 = .ok (.iaload, 1) := by decide +kernel
theorem dX10_takes_25 : decode cX10_takes 25 = .ok (.iadd, 1) := by decide +kernel
theorem dX10_takes_26 : decode cX10_takes 26 = .ok (.invokevirtual 164, 3) := by decide +kernel
theorem dX10_takes_29 : decode cX10_takes 29 = .ok (.iinc 2 1, 3) := by decide +kernel
theorem dX10_takes_32 : decode cX10_takes 32 = .ok (.goto (-30), 3) := by decide +kernel
theorem dX10_takes_35 : decode cX10_takes 35 = .ok (.iconst 0, 1) := by decide +kernel
theorem dX10_takes_36 : decode cX10_takes 36 = .ok (.istore_n 2, 1) := by decide +kernel
theorem dX10_takes_37 : decode cX10_takes 37 = .ok (.iload_n 2, 1) := by decide +kernel
theorem dX10_takes_38 : decode cX10_takes 38 = .ok (.bipush 72, 2) := by decide +kernel
theorem dX10_takes_40 : decode cX10_takes 40 = .ok (.if_icmp .ge 26, 3) := by decide +kernel
theorem dX10_takes_43 : decode cX10_takes 43 = .ok (.aload_n 0, 1) := by decide +kernel
theorem dX10_takes_44 : decode cX10_takes 44 = .ok (.getfield 28, 3) := by decide +kernel
theorem dX10_takes_47 : decode cX10_takes 47 = .ok (.iload_n 2, 1) := by decide +kernel
theorem dX10_takes_48 : decode cX10_takes 48 = .ok (.aload_n 0, 1) := by decide +kernel
theorem dX10_takes_49 : decode cX10_takes 49 = .ok (.getfield 68, 3) := by decide +kernel
theorem dX10_takes_52 : decode cX10_takes 52 = .ok (.bipush 72, 2) := by decide +kernel
theorem dX10_takes_54 : decode cX10_takes 54 = .ok (.iload_n 1, 1) := by decide +kernel
theorem dX10_takes_55 : decode cX10_takes 55 = .ok (.imul, 1) := by decide +kernel
theorem dX10_takes_56 : decode cX10_takes 56 = .ok (.iload_n 2, 1) := by decide +kernel
theorem dX10_takes_57 : decode cX10_takes 57 = .ok (.iadd, 1) := by decide +kernel
theorem dX10_takes_58 : decode cX10_takes 58 = .ok (.iaload, 1) := by decide +kernel
theorem dX10_takes_59 : decode cX10_takes 59 = .ok (.iastore, 1) := by decide +kernel
theorem dX10_takes_60 : decode cX10_takes 60 = .ok (.iinc 2 1, 3) := by decide +kernel
theorem dX10_takes_63 : decode cX10_takes 63 = .ok (.goto (-26), 3) := by decide +kernel
theorem dX10_takes_66 : decode cX10_takes 66 = .ok (.return_, 1) := by decide +kernel
noncomputable def p_X10_takes (Y : rx_Y) : rx_P := [(0, rx_pure (rx_push (.int 0)) 1), (1, rx_st 0 2 2 3), (2, rx_ld 0 2 3), (3, rx_ld 2 0 4), (4, rx_get 10 7 7), (7, rx_br (rx_cmp Y 1) 35 10), (10, rx_ld 2 0 11), (11, rx_ld 0 2 12), (12, rx_pure (rx_push (.int 50)) 14), (14, rx_ld 2 0 15), (15, rx_get 10 27 18), (18, rx_pure (rx_push (.int 6)) 20), (20, rx_ld 0 1 21), (21, rx_pure (rx_bi (fun x y => x * y)) 22), (22, rx_ld 0 2 23), (23, rx_pure (rx_bi (fun x y => x + y)) 24), (24, rx_ald 0 0 25), (25, rx_pure (rx_bi (fun x y => x + y)) 26), (26, rx_cl 104 3 10 true 0 0 0 0 29), (29, rx_inc 2 1 32 3), (32, rx_br rx_goto 2 35), (35, rx_pure (rx_push (.int 0)) 36), (36, rx_st 0 2 37 3), (37, rx_ld 0 2 38), (38, rx_pure (rx_push (.int 72)) 40), (40, rx_br (rx_cmp Y 1) 66 43), (43, rx_ld 2 0 44), (44, rx_get 10 9 47), (47, rx_ld 0 2 48), (48, rx_ld 2 0 49), (49, rx_get 10 28 52), (52, rx_pure (rx_push (.int 72)) 54), (54, rx_ld 0 1 55), (55, rx_pure (rx_bi (fun x y => x * y)) 56), (56, rx_ld 0 2 57), (57, rx_pure (rx_bi (fun x y => x + y)) 58), (58, rx_ald 0 0 59), (59, rx_ast Y 0 .int 60), (60, rx_inc 2 1 63 3), (63, rx_br rx_goto 37 66), (66, rx_ret0 0 0)]
noncomputable def m_X10_takes (Y : rx_Y) : rx_M := (yX10_takes, cX10_takes, 3, none, { frames := 1, cells := 0, slots := 0, locals := 24 }, p_X10_takes Y)
theorem hd_X10_takes : yX10_takes.cls ≠ "java/lang/invoke/MethodHandle" ∧ yX10_takes.cls ≠ "java/lang/invoke/VarHandle" ∧ (parseMethodDescriptor yX10_takes.desc).map (fun d => d.parameters.length) = some 1 := by decide +kernel
abbrev cX10_tells : ByteArray := prog_12_method_52_code
def yX10_tells : MethodName := ⟨"SeedBenchModel", "tells", "(II)I"⟩
theorem dX10_tells_0 : decode cX10_tells 0 = .ok (.aload_n 0, 1) := by decide +kernel
theorem dX10_tells_1 : decode cX10_tells 1 = .ok (.invokevirtual 283, 3) := by decide +kernel
theorem dX10_tells_4 : decode cX10_tells 4 = .ok (.istore_n 3, 1) := by decide +kernel
theorem dX10_tells_5 : decode cX10_tells 5 = .ok (.aload_n 0, 1) := by decide +kernel
theorem dX10_tells_6 : decode cX10_tells 6 = .ok (.getfield 99, 3) := by decide +kernel
theorem dX10_tells_9 : decode cX10_tells 9 = .ok (.iload_n 3, 1) := by decide +kernel
theorem dX10_tells_10 : decode cX10_tells 10 = .ok (.iaload, 1) := by decide +kernel
theorem dX10_tells_11 : decode cX10_tells 11 = .ok (.istore 4, 2) := by decide +kernel
theorem dX10_tells_13 : decode cX10_tells 13 = .ok (.iload 4, 2) := by decide +kernel
theorem dX10_tells_15 : decode cX10_tells 15 = .ok (.iconst (-1), 1) := by decide +kernel
theorem dX10_tells_16 : decode cX10_tells 16 = .ok (.if_icmp .eq 26, 3) := by decide +kernel
theorem dX10_tells_19 : decode cX10_tells 19 = .ok (.aload_n 0, 1) := by decide +kernel
theorem dX10_tells_20 : decode cX10_tells 20 = .ok (.iload 4, 2) := by decide +kernel
theorem dX10_tells_22 : decode cX10_tells 22 = .ok (.invokevirtual 287, 3) := by decide +kernel
theorem dX10_tells_25 : decode cX10_tells 25 = .ok (.ifCond .eq 5, 3) := by decide +kernel
theorem dX10_tells_28 : decode cX10_tells 28 = .ok (.iconst 0, 1) := by decide +kernel
theorem dX10_tells_29 : decode cX10_tells 29 = .ok (.ireturn, 1) := by decide +kernel
theorem dX10_tells_42 : decode cX10_tells 42 = .ok (.aload_n 0, 1) := by decide +kernel
theorem dX10_tells_43 : decode cX10_tells 43 = .ok (.invokevirtual 290, 3) := by decide +kernel
theorem dX10_tells_46 : decode cX10_tells 46 = .ok (.ifCond .eq 5, 3) := by decide +kernel
theorem dX10_tells_51 : decode cX10_tells 51 = .ok (.aload_n 0, 1) := by decide +kernel
theorem dX10_tells_52 : decode cX10_tells 52 = .ok (.getfield 293, 3) := by decide +kernel
theorem dX10_tells_55 : decode cX10_tells 55 = .ok (.sipush 3000, 3) := by decide +kernel
theorem dX10_tells_58 : decode cX10_tells 58 = .ok (.if_icmp .ne 5, 3) := by decide +kernel
theorem dX10_tells_63 : decode cX10_tells 63 = .ok (.iconst 0, 1) := by decide +kernel
theorem dX10_tells_64 : decode cX10_tells 64 = .ok (.istore 4, 2) := by decide +kernel
theorem dX10_tells_66 : decode cX10_tells 66 = .ok (.iload 4, 2) := by decide +kernel
theorem dX10_tells_68 : decode cX10_tells 68 = .ok (.bipush 36, 2) := by decide +kernel
theorem dX10_tells_70 : decode cX10_tells 70 = .ok (.if_icmp .ge 59, 3) := by decide +kernel
theorem dX10_tells_73 : decode cX10_tells 73 = .ok (.aload_n 0, 1) := by decide +kernel
theorem dX10_tells_74 : decode cX10_tells 74 = .ok (.getfield 87, 3) := by decide +kernel
theorem dX10_tells_77 : decode cX10_tells 77 = .ok (.bipush 36, 2) := by decide +kernel
theorem dX10_tells_79 : decode cX10_tells 79 = .ok (.aload_n 0, 1) := by decide +kernel
theorem dX10_tells_80 : decode cX10_tells 80 = .ok (.getfield 293, 3) := by decide +kernel
theorem dX10_tells_83 : decode cX10_tells 83 = .ok (.imul, 1) := by decide +kernel
theorem dX10_tells_84 : decode cX10_tells 84 = .ok (.iload 4, 2) := by decide +kernel
theorem dX10_tells_86 : decode cX10_tells 86 = .ok (.iadd, 1) := by decide +kernel
theorem dX10_tells_87 : decode cX10_tells 87 = .ok (.iload 4, 2) := by decide +kernel
theorem dX10_tells_89 : decode cX10_tells 89 = .ok (.bipush 6, 2) := by decide +kernel
theorem dX10_tells_91 : decode cX10_tells 91 = .ok (.idiv, 1) := by decide +kernel
theorem dX10_tells_92 : decode cX10_tells 92 = .ok (.aload_n 0, 1) := by decide +kernel
theorem dX10_tells_93 : decode cX10_tells 93 = .ok (.getfield 132, 3) := by decide +kernel
theorem dX10_tells_96 : decode cX10_tells 96 = .ok (.if_icmp .ge 25, 3) := by decide +kernel
theorem dX10_tells_99 : decode cX10_tells 99 = .ok (.iload 4, 2) := by decide +kernel
theorem dX10_tells_101 : decode cX10_tells 101 = .ok (.bipush 6, 2) := by decide +kernel
theorem dX10_tells_103 : decode cX10_tells 103 = .ok (.irem, 1) := by decide +kernel
theorem dX10_tells_104 : decode cX10_tells 104 = .ok (.aload_n 0, 1) := by decide +kernel
theorem dX10_tells_105 : decode cX10_tells 105 = .ok (.getfield 132, 3) := by decide +kernel
theorem dX10_tells_108 : decode cX10_tells 108 = .ok (.if_icmp .ge 13, 3) := by decide +kernel
theorem dX10_tells_111 : decode cX10_tells 111 = .ok (.aload_n 0, 1) := by decide +kernel
theorem dX10_tells_112 : decode cX10_tells 112 = .ok (.getfield 28, 3) := by decide +kernel
theorem dX10_tells_115 : decode cX10_tells 115 = .ok (.iload 4, 2) := by decide +kernel
theorem dX10_tells_117 : decode cX10_tells 117 = .ok (.iaload, 1) := by decide +kernel
theorem dX10_tells_118 : decode cX10_tells 118 = .ok (.goto 4, 3) := by decide +kernel
theorem dX10_tells_121 : decode cX10_tells 121 = .ok (.iconst 0, 1) := by decide +kernel
theorem dX10_tells_122 : decode cX10_tells 122 = .ok (.iastore, 1) := by decide +kernel
theorem dX10_tells_123 : decode cX10_tells 123 = .ok (.iinc 4 1, 3) := by decide +kernel
theorem dX10_tells_126 : decode cX10_tells 126 = .ok (.goto (-60), 3) := by decide +kernel
theorem dX10_tells_129 : decode cX10_tells 129 = .ok (.aload_n 0, 1) := by decide +kernel
theorem dX10_tells_130 : decode cX10_tells 130 = .ok (.getfield 90, 3) := by decide +kernel
theorem dX10_tells_133 : decode cX10_tells 133 = .ok (.aload_n 0, 1) := by decide +kernel
theorem dX10_tells_134 : decode cX10_tells 134 = .ok (.getfield 293, 3) := by decide +kernel
theorem dX10_tells_137 : decode cX10_tells 137 = .ok (.iload_n 1, 1) := by decide +kernel
theorem dX10_tells_138 : decode cX10_tells 138 = .ok (.iastore, 1) := by decide +kernel
theorem dX10_tells_139 : decode cX10_tells 139 = .ok (.aload_n 0, 1) := by decide +kernel
theorem dX10_tells_140 : decode cX10_tells 140 = .ok (.getfield 93, 3) := by decide +kernel
theorem dX10_tells_143 : decode cX10_tells 143 = .ok (.aload_n 0, 1) := by decide +kernel
theorem dX10_tells_144 : decode cX10_tells 144 = .ok (.getfield 293, 3) := by decide +kernel
theorem dX10_tells_147 : decode cX10_tells 147 = .ok (.iload_n 2, 1) := by decide +kernel
theorem dX10_tells_148 : decode cX10_tells 148 = .ok (.iastore, 1) := by decide +kernel
theorem dX10_tells_149 : decode cX10_tells 149 = .ok (.aload_n 0, 1) := by decide +kernel
theorem dX10_tells_150 : decode cX10_tells 150 = .ok (.getfield 102, 3) := by decide +kernel
theorem dX10_tells_153 : decode cX10_tells 153 = .ok (.aload_n 0, 1) := by decide +kernel
theorem dX10_tells_154 : decode cX10_tells 154 = .ok (.getfield 293, 3) := by decide +kernel
theorem dX10_tells_157 : decode cX10_tells 157 = .ok (.aload_n 0, 1) := by decide +kernel
theorem dX10_tells_158 : decode cX10_tells 158 = .ok (.getfield 99, 3) := by decide +kernel
theorem dX10_tells_161 : decode cX10_tells 161 = .ok (.iload_n 3, 1) := by decide +kernel
theorem dX10_tells_162 : decode cX10_tells 162 = .ok (.iaload, 1) := by decide +kernel
theorem dX10_tells_163 : decode cX10_tells 163 = .ok (.iastore, 1) := by decide +kernel
theorem dX10_tells_164 : decode cX10_tells 164 = .ok (.aload_n 0, 1) := by decide +kernel
theorem dX10_tells_165 : decode cX10_tells 165 = .ok (.getfield 99, 3) := by decide +kernel
theorem dX10_tells_168 : decode cX10_tells 168 = .ok (.iload_n 3, 1) := by decide +kernel
theorem dX10_tells_169 : decode cX10_tells 169 = .ok (.aload_n 0, 1) := by decide +kernel
theorem dX10_tells_170 : decode cX10_tells 170 = .ok (.getfield 293, 3) := by decide +kernel
theorem dX10_tells_173 : decode cX10_tells 173 = .ok (.iastore, 1) := by decide +kernel
theorem dX10_tells_174 : decode cX10_tells 174 = .ok (.aload_n 0, 1) := by decide +kernel
theorem dX10_tells_175 : decode cX10_tells 175 = .ok (.dup, 1) := by decide +kernel
theorem dX10_tells_176 : decode cX10_tells 176 = .ok (.getfield 293, 3) := by decide +kernel
theorem dX10_tells_179 : decode cX10_tells 179 = .ok (.iconst 1, 1) := by decide +kernel
theorem dX10_tells_180 : decode cX10_tells 180 = .ok (.iadd, 1) := by decide +kernel
theorem dX10_tells_181 : decode cX10_tells 181 = .ok (.putfield 293, 3) := by decide +kernel
theorem dX10_tells_184 : decode cX10_tells 184 = .ok (.iconst 1, 1) := by decide +kernel
theorem dX10_tells_185 : decode cX10_tells 185 = .ok (.ireturn, 1) := by decide +kernel
noncomputable def p_X10_tells (Y : rx_Y) : rx_P := [(0, rx_ld 2 0 1), (1, rx_cl 145 1 10 true 0 0 0 0 4), (4, rx_st 0 3 5 5), (5, rx_ld 2 0 6), (6, rx_get 10 44 9), (9, rx_ld 0 3 10), (10, rx_ald 0 0 11), (11, rx_st 0 4 13 5), (13, rx_ld 0 4 15), (15, rx_pure (rx_push (.int (-1))) 16), (16, rx_br (rx_cmp Y 4) 42 19), (19, rx_ld 2 0 20), (20, rx_ld 0 4 22), (22, rx_cl 118 2 10 true 0 0 0 0 25), (25, rx_br (rx_cm0 Y 4) 30 28), (28, rx_pure (rx_push (.int 0)) 29), (29, rx_retv .int 0 0), (42, rx_ld 2 0 43), (43, rx_cl 120 1 10 true 0 0 0 0 46), (46, rx_br (rx_cm0 Y 4) 51 49), (51, rx_ld 2 0 52), (52, rx_get 10 40 55), (55, rx_pure (rx_push (.int 3000)) 58), (58, rx_br (rx_cmp Y 5) 63 61), (63, rx_pure (rx_push (.int 0)) 64), (64, rx_st 0 4 66 5), (66, rx_ld 0 4 68), (68, rx_pure (rx_push (.int 36)) 70), (70, rx_br (rx_cmp Y 1) 129 73), (73, rx_ld 2 0 74), (74, rx_get 10 37 77), (77, rx_pure (rx_push (.int 36)) 79), (79, rx_ld 2 0 80), (80, rx_get 10 40 83), (83, rx_pure (rx_bi (fun x y => x * y)) 84), (84, rx_ld 0 4 86), (86, rx_pure (rx_bi (fun x y => x + y)) 87), (87, rx_ld 0 4 89), (89, rx_pure (rx_push (.int 6)) 91), (91, rx_pure (rx_bid (fun x y => x / y)) 92), (92, rx_ld 2 0 93), (93, rx_get 10 7 96), (96, rx_br (rx_cmp Y 1) 121 99), (99, rx_ld 0 4 101), (101, rx_pure (rx_push (.int 6)) 103), (103, rx_pure (rx_bid (fun x y => x - x / y * y)) 104), (104, rx_ld 2 0 105), (105, rx_get 10 7 108), (108, rx_br (rx_cmp Y 1) 121 111), (111, rx_ld 2 0 112), (112, rx_get 10 9 115), (115, rx_ld 0 4 117), (117, rx_ald 0 0 118), (118, rx_br rx_goto 122 121), (121, rx_pure (rx_push (.int 0)) 122), (122, rx_ast Y 0 .int 123), (123, rx_inc 4 1 126 5), (126, rx_br rx_goto 66 129), (129, rx_ld 2 0 130), (130, rx_get 10 38 133), (133, rx_ld 2 0 134), (134, rx_get 10 40 137), (137, rx_ld 0 1 138), (138, rx_ast Y 0 .int 139), (139, rx_ld 2 0 140), (140, rx_get 10 39 143), (143, rx_ld 2 0 144), (144, rx_get 10 40 147), (147, rx_ld 0 2 148), (148, rx_ast Y 0 .int 149), (149, rx_ld 2 0 150), (150, rx_get 10 45 153), (153, rx_ld 2 0 154), (154, rx_get 10 40 157), (157, rx_ld 2 0 158), (158, rx_get 10 44 161), (161, rx_ld 0 3 162), (162, rx_ald 0 0 163), (163, rx_ast Y 0 .int 164), (164, rx_ld 2 0 165), (165, rx_get 10 44 168), (168, rx_ld 0 3 169), (169, rx_ld 2 0 170), (170, rx_get 10 40 173), (173, rx_ast Y 0 .int 174), (174, rx_ld 2 0 175), (175, rx_pure rx_dup 176), (176, rx_get 10 40 179), (179, rx_pure (rx_push (.int 1)) 180), (180, rx_pure (rx_bi (fun x y => x + y)) 181), (181, rx_putf 10 40 .int 184), (184, rx_pure (rx_push (.int 1)) 185), (185, rx_retv .int 0 0)]
noncomputable def m_X10_tells (Y : rx_Y) : rx_M := (yX10_tells, cX10_tells, 5, (some .int), { frames := 1, cells := 0, slots := 0, locals := 22 }, p_X10_tells Y)
theorem hd_X10_tells : yX10_tells.cls ≠ "java/lang/invoke/MethodHandle" ∧ yX10_tells.cls ≠ "java/lang/invoke/VarHandle" ∧ (parseMethodDescriptor yX10_tells.desc).map (fun d => d.parameters.length) = some 2 := by decide +kernel
abbrev cX10_term : ByteArray := prog_12_method_34_code
def yX10_term : MethodName := ⟨"SeedBenchModel", "term", "(III)J"⟩
theorem dX10_term_0 : decode cX10_term 0 = .ok (.iload_n 1, 1) := by decide +kernel
theorem dX10_term_1 : decode cX10_term 1 = .ok (.ifCond .lt 43, 3) := by decide +kernel
theorem dX10_term_4 : decode cX10_term 4 = .ok (.iload_n 1, 1) := by decide +kernel
theorem dX10_term_5 : decode cX10_term 5 = .ok (.aload_n 0, 1) := by decide +kernel
theorem dX10_term_6 : decode cX10_term 6 = .ok (.getfield 132, 3) := by decide +kernel
theorem dX10_term_9 : decode cX10_term 9 = .ok (.if_icmp .ge 35, 3) := by decide +kernel
theorem dX10_term_12 : decode cX10_term 12 = .ok (.iload_n 2, 1) := by decide +kernel
theorem dX10_term_13 : decode cX10_term 13 = .ok (.ifCond .lt 31, 3) := by decide +kernel
theorem dX10_term_16 : decode cX10_term 16 = .ok (.iload_n 2, 1) := by decide +kernel
theorem dX10_term_17 : decode cX10_term 17 = .ok (.aload_n 0, 1) := by decide +kernel
theorem dX10_term_18 : decode cX10_term 18 = .ok (.getfield 13, 3) := by decide +kernel
theorem dX10_term_21 : decode cX10_term 21 = .ok (.iload_n 1, 1) := by decide +kernel
theorem dX10_term_22 : decode cX10_term 22 = .ok (.iaload, 1) := by decide +kernel
theorem dX10_term_23 : decode cX10_term 23 = .ok (.if_icmp .ge 21, 3) := by decide +kernel
theorem dX10_term_26 : decode cX10_term 26 = .ok (.iload_n 3, 1) := by decide +kernel
theorem dX10_term_27 : decode cX10_term 27 = .ok (.iconst (-1), 1) := by decide +kernel
theorem dX10_term_28 : decode cX10_term 28 = .ok (.if_icmp .lt 16, 3) := by decide +kernel
theorem dX10_term_31 : decode cX10_term 31 = .ok (.iload_n 3, 1) := by decide +kernel
theorem dX10_term_32 : decode cX10_term 32 = .ok (.aload_n 0, 1) := by decide +kernel
theorem dX10_term_33 : decode cX10_term 33 = .ok (.getfield 132, 3) := by decide +kernel
theorem dX10_term_36 : decode cX10_term 36 = .ok (.aload_n 0, 1) := by decide +kernel
theorem dX10_term_37 : decode cX10_term 37 = .ok (.getfield 204, 3) := by decide +kernel
theorem dX10_term_40 : decode cX10_term 40 = .ok (.iadd, 1) := by decide +kernel
theorem dX10_term_41 : decode cX10_term 41 = .ok (.if_icmp .lt 5, 3) := by decide +kernel
theorem dX10_term_44 : decode cX10_term 44 = .ok (.lconst 0, 1) := by decide +kernel
theorem dX10_term_45 : decode cX10_term 45 = .ok (.lreturn, 1) := by decide +kernel
theorem dX10_term_46 : decode cX10_term 46 = .ok (.iload_n 3, 1) := by decide +kernel
theorem dX10_term_47 : decode cX10_term 47 = .ok (.iconst (-1), 1) := by decide +kernel
theorem dX10_term_48 : decode cX10_term 48 = .ok (.if_icmp .ne 18, 3) := by decide +kernel
theorem dX10_term_51 : decode cX10_term 51 = .ok (.aload_n 0, 1) := by decide +kernel
theorem dX10_term_52 : decode cX10_term 52 = .ok (.getfield 17, 3) := by decide +kernel
theorem dX10_term_55 : decode cX10_term 55 = .ok (.sipush 200, 3) := by decide +kernel
theorem dX10_term_58 : decode cX10_term 58 = .ok (.iload_n 1, 1) := by decide +kernel
theorem dX10_term_59 : decode cX10_term 59 = .ok (.imul, 1) := by decide +kernel
theorem dX10_term_60 : decode cX10_term 60 = .ok (.iload_n 2, 1) := by decide +kernel
theorem dX10_term_61 : decode cX10_term 61 = .ok (.iadd, 1) := by decide +kernel
theorem dX10_term_62 : decode cX10_term 62 = .ok (.laload, 1) := by decide +kernel
theorem dX10_term_63 : decode cX10_term 63 = .ok (.goto 21, 3) := by decide +kernel
theorem dX10_term_66 : decode cX10_term 66 = .ok (.aload_n 0, 1) := by decide +kernel
theorem dX10_term_67 : decode cX10_term 67 = .ok (.getfield 22, 3) := by decide +kernel
theorem dX10_term_70 : decode cX10_term 70 = .ok (.bipush 12, 2) := by decide +kernel
theorem dX10_term_72 : decode cX10_term 72 = .ok (.sipush 200, 3) := by decide +kernel
theorem dX10_term_75 : decode cX10_term 75 = .ok (.iload_n 1, 1) := by decide +kernel
theorem dX10_term_76 : decode cX10_term 76 = .ok (.imul, 1) := by decide +kernel
theorem dX10_term_77 : decode cX10_term 77 = .ok (.iload_n 2, 1) := by decide +kernel
theorem dX10_term_78 : decode cX10_term 78 = .ok (.iadd, 1) := by decide +kernel
theorem dX10_term_79 : decode cX10_term 79 = .ok (.imul, 1) := by decide +kernel
theorem dX10_term_80 : decode cX10_term 80 = .ok (.iload_n 3, 1) := by decide +kernel
theorem dX10_term_81 : decode cX10_term 81 = .ok (.iadd, 1) := by decide +kernel
theorem dX10_term_82 : decode cX10_term 82 = .ok (.iaload, 1) := by decide +kernel
theorem dX10_term_83 : decode cX10_term 83 = .ok (.i2l, 1) := by decide +kernel
theorem dX10_term_84 : decode cX10_term 84 = .ok (.lreturn, 1) := by decide +kernel
noncomputable def p_X10_term (Y : rx_Y) : rx_P := [(0, rx_ld 0 1 1), (1, rx_br (rx_cm0 Y 0) 44 4), (4, rx_ld 0 1 5), (5, rx_ld 2 0 6), (6, rx_get 10 7 9), (9, rx_br (rx_cmp Y 1) 44 12), (12, rx_ld 0 2 13), (13, rx_br (rx_cm0 Y 0) 44 16), (16, rx_ld 0 2 17), (17, rx_ld 2 0 18), (18, rx_get 10 1 21), (21, rx_ld 0 1 22), (22, rx_ald 0 0 23), (23, rx_br (rx_cmp Y 1) 44 26), (26, rx_ld 0 3 27), (27, rx_pure (rx_push (.int (-1))) 28), (28, rx_br (rx_cmp Y 0) 44 31), (31, rx_ld 0 3 32), (32, rx_ld 2 0 33), (33, rx_get 10 7 36), (36, rx_ld 2 0 37), (37, rx_get 10 8 40), (40, rx_pure (rx_bi (fun x y => x + y)) 41), (41, rx_br (rx_cmp Y 0) 46 44), (44, rx_pure (rx_push (.long 0)) 45), (45, rx_retv .long 0 0), (46, rx_ld 0 3 47), (47, rx_pure (rx_push (.int (-1))) 48), (48, rx_br (rx_cmp Y 5) 66 51), (51, rx_ld 2 0 52), (52, rx_get 10 2 55), (55, rx_pure (rx_push (.int 200)) 58), (58, rx_ld 0 1 59), (59, rx_pure (rx_bi (fun x y => x * y)) 60), (60, rx_ld 0 2 61), (61, rx_pure (rx_bi (fun x y => x + y)) 62), (62, rx_ald 1 1 63), (63, rx_br rx_goto 84 66), (66, rx_ld 2 0 67), (67, rx_get 10 3 70), (70, rx_pure (rx_push (.int 12)) 72), (72, rx_pure (rx_push (.int 200)) 75), (75, rx_ld 0 1 76), (76, rx_pure (rx_bi (fun x y => x * y)) 77), (77, rx_ld 0 2 78), (78, rx_pure (rx_bi (fun x y => x + y)) 79), (79, rx_pure (rx_bi (fun x y => x * y)) 80), (80, rx_ld 0 3 81), (81, rx_pure (rx_bi (fun x y => x + y)) 82), (82, rx_ald 0 0 83), (83, rx_pure rx_i2l 84), (84, rx_retv .long 0 0)]
noncomputable def m_X10_term (Y : rx_Y) : rx_M := (yX10_term, cX10_term, 4, (some .long), { frames := 0, cells := 0, slots := 0, locals := 0 }, p_X10_term Y)
theorem hd_X10_term : yX10_term.cls ≠ "java/lang/invoke/MethodHandle" ∧ yX10_term.cls ≠ "java/lang/invoke/VarHandle" ∧ (parseMethodDescriptor yX10_term.desc).map (fun d => d.parameters.length) = some 3 := by decide +kernel
abbrev cX10_terms : ByteArray := prog_12_method_33_code
def yX10_terms : MethodName := ⟨"SeedBenchModel", "terms", "(I)I"⟩
theorem dX10_terms_0 : decode cX10_terms 0 = .ok (.iload_n 1, 1) := by decide +kernel
theorem dX10_terms_1 : decode cX10_terms 1 = .ok (.ifCond .lt 11, 3) := by decide +kernel
theorem dX10_terms_4 : decode cX10_terms 4 = .ok (.iload_n 1, 1) := by decide +kernel
theorem dX10_terms_5 : decode cX10_terms 5 = .ok (.aload_n 0, 1) := by decide +kernel
theorem dX10_terms_6 : decode cX10_terms 6 = .ok (.getfield 132, 3) := by decide +kernel
theorem dX10_terms_9 : decode cX10_terms 9 = .ok (.if_icmp .lt 7, 3) := by decide +kernel
theorem dX10_terms_12 : decode cX10_terms 12 = .ok (.iconst 0, 1) := by decide +kernel
theorem dX10_terms_13 : decode cX10_terms 13 = .ok (.goto 9, 3) := by decide +kernel
theorem dX10_terms_16 : decode cX10_terms 16 = .ok (.aload_n 0, 1) := by decide +kernel
theorem dX10_terms_17 : decode cX10_terms 17 = .ok (.getfield 13, 3) := by decide +kernel
theorem dX10_terms_20 : decode cX10_terms 20 = .ok (.iload_n 1, 1) := by decide +kernel
theorem dX10_terms_21 : decode cX10_terms 21 = .ok (.iaload, 1) := by decide +kernel
theorem dX10_terms_22 : decode cX10_terms 22 = .ok (.ireturn, 1) := by decide +kernel
noncomputable def p_X10_terms (Y : rx_Y) : rx_P := [(0, rx_ld 0 1 1), (1, rx_br (rx_cm0 Y 0) 12 4), (4, rx_ld 0 1 5), (5, rx_ld 2 0 6), (6, rx_get 10 7 9), (9, rx_br (rx_cmp Y 0) 16 12), (12, rx_pure (rx_push (.int 0)) 13), (13, rx_br rx_goto 22 16), (16, rx_ld 2 0 17), (17, rx_get 10 1 20), (20, rx_ld 0 1 21), (21, rx_ald 0 0 22), (22, rx_retv .int 0 0)]
noncomputable def m_X10_terms (Y : rx_Y) : rx_M := (yX10_terms, cX10_terms, 2, (some .int), { frames := 0, cells := 0, slots := 0, locals := 0 }, p_X10_terms Y)
theorem hd_X10_terms : yX10_terms.cls ≠ "java/lang/invoke/MethodHandle" ∧ yX10_terms.cls ≠ "java/lang/invoke/VarHandle" ∧ (parseMethodDescriptor yX10_terms.desc).map (fun d => d.parameters.length) = some 1 := by decide +kernel
abbrev cX10_thirds : ByteArray := prog_12_method_73_code
def yX10_thirds : MethodName := ⟨"SeedBenchModel", "thirds", "(II)I"⟩
theorem dX10_thirds_0 : decode cX10_thirds 0 = .ok (.iconst 1, 1) := by decide +kernel
theorem dX10_thirds_1 : decode cX10_thirds 1 = .ok (.istore_n 3, 1) := by decide +kernel
theorem dX10_thirds_2 : decode cX10_thirds 2 = .ok (.iconst 0, 1) := by decide +kernel
theorem dX10_thirds_3 : decode cX10_thirds 3 = .ok (.istore 4, 2) := by decide +kernel
theorem dX10_thirds_5 : decode cX10_thirds 5 = .ok (.iload 4, 2) := by decide +kernel
theorem dX10_thirds_7 : decode cX10_thirds 7 = .ok (.bipush 100, 2) := by decide +kernel
theorem dX10_thirds_9 : decode cX10_thirds 9 = .ok (.if_icmp .ge 45, 3) := by decide +kernel
theorem dX10_thirds_12 : decode cX10_thirds 12 = .ok (.aload_n 0, 1) := by decide +kernel
theorem dX10_thirds_13 : decode cX10_thirds 13 = .ok (.getfield 111, 3) := by decide +kernel
theorem dX10_thirds_16 : decode cX10_thirds 16 = .ok (.bipush 100, 2) := by decide +kernel
theorem dX10_thirds_18 : decode cX10_thirds 18 = .ok (.iload_n 1, 1) := by decide +kernel
theorem dX10_thirds_19 : decode cX10_thirds 19 = .ok (.imul, 1) := by decide +kernel
theorem dX10_thirds_20 : decode cX10_thirds 20 = .ok (.iload 4, 2) := by decide +kernel
theorem dX10_thirds_22 : decode cX10_thirds 22 = .ok (.iadd, 1) := by decide +kernel
theorem dX10_thirds_23 : decode cX10_thirds 23 = .ok (.baload, 1) := by decide +kernel
theorem dX10_thirds_24 : decode cX10_thirds 24 = .ok (.ifCond .eq 24, 3) := by decide +kernel
theorem dX10_thirds_48 : decode cX10_thirds 48 = .ok (.iinc 4 1, 3) := by decide +kernel
theorem dX10_thirds_51 : decode cX10_thirds 51 = .ok (.goto (-46), 3) := by decide +kernel
theorem dX10_thirds_54 : decode cX10_thirds 54 = .ok (.iload_n 3, 1) := by decide +kernel
theorem dX10_thirds_55 : decode cX10_thirds 55 = .ok (.ireturn, 1) := by decide +kernel
noncomputable def p_X10_thirds (Y : rx_Y) : rx_P := [(0, rx_pure (rx_push (.int 1)) 1), (1, rx_st 0 3 2 5), (2, rx_pure (rx_push (.int 0)) 3), (3, rx_st 0 4 5 5), (5, rx_ld 0 4 7), (7, rx_pure (rx_push (.int 100)) 9), (9, rx_br (rx_cmp Y 1) 54 12), (12, rx_ld 2 0 13), (13, rx_get 10 49 16), (16, rx_pure (rx_push (.int 100)) 18), (18, rx_ld 0 1 19), (19, rx_pure (rx_bi (fun x y => x * y)) 20), (20, rx_ld 0 4 22), (22, rx_pure (rx_bi (fun x y => x + y)) 23), (23, rx_ald 2 0 24), (24, rx_br (rx_cm0 Y 4) 48 27), (48, rx_inc 4 1 51 5), (51, rx_br rx_goto 5 54), (54, rx_ld 0 3 55), (55, rx_retv .int 0 0)]
noncomputable def m_X10_thirds (Y : rx_Y) : rx_M := (yX10_thirds, cX10_thirds, 5, (some .int), { frames := 0, cells := 0, slots := 0, locals := 0 }, p_X10_thirds Y)
theorem hd_X10_thirds : yX10_thirds.cls ≠ "java/lang/invoke/MethodHandle" ∧ yX10_thirds.cls ≠ "java/lang/invoke/VarHandle" ∧ (parseMethodDescriptor yX10_thirds.desc).map (fun d => d.parameters.length) = some 2 := by decide +kernel
abbrev cX10_turn : ByteArray := prog_12_method_30_code
def yX10_turn : MethodName := ⟨"SeedBenchModel", "turn", "(I)I"⟩
theorem dX10_turn_0 : decode cX10_turn 0 = .ok (.iload_n 1, 1) := by decide +kernel
theorem dX10_turn_1 : decode cX10_turn 1 = .ok (.ifCond .lt 11, 3) := by decide +kernel
theorem dX10_turn_4 : decode cX10_turn 4 = .ok (.iload_n 1, 1) := by decide +kernel
theorem dX10_turn_5 : decode cX10_turn 5 = .ok (.aload_n 0, 1) := by decide +kernel
theorem dX10_turn_6 : decode cX10_turn 6 = .ok (.getfield 132, 3) := by decide +kernel
theorem dX10_turn_9 : decode cX10_turn 9 = .ok (.if_icmp .lt 5, 3) := by decide +kernel
theorem dX10_turn_12 : decode cX10_turn 12 = .ok (.iconst (-1), 1) := by decide +kernel
theorem dX10_turn_13 : decode cX10_turn 13 = .ok (.ireturn, 1) := by decide +kernel
theorem dX10_turn_14 : decode cX10_turn 14 = .ok (.aload_n 0, 1) := by decide +kernel
theorem dX10_turn_15 : decode cX10_turn 15 = .ok (.getfield 178, 3) := by decide +kernel
theorem dX10_turn_18 : decode cX10_turn 18 = .ok (.bipush 100, 2) := by decide +kernel
theorem dX10_turn_20 : decode cX10_turn 20 = .ok (.if_icmp .ne 6, 3) := by decide +kernel
theorem dX10_turn_26 : decode cX10_turn 26 = .ok (.aload_n 0, 1) := by decide +kernel
theorem dX10_turn_27 : decode cX10_turn 27 = .ok (.iload_n 1, 1) := by decide +kernel
theorem dX10_turn_28 : decode cX10_turn 28 = .ok (.invokevirtual 225, 3) := by decide +kernel
theorem dX10_turn_31 : decode cX10_turn 31 = .ok (.ifCond .ne 6, 3) := by decide +kernel
theorem dX10_turn_37 : decode cX10_turn 37 = .ok (.aload_n 0, 1) := by decide +kernel
theorem dX10_turn_38 : decode cX10_turn 38 = .ok (.getfield 31, 3) := by decide +kernel
theorem dX10_turn_41 : decode cX10_turn 41 = .ok (.aload_n 0, 1) := by decide +kernel
theorem dX10_turn_42 : decode cX10_turn 42 = .ok (.getfield 178, 3) := by decide +kernel
theorem dX10_turn_45 : decode cX10_turn 45 = .ok (.iload_n 1, 1) := by decide +kernel
theorem dX10_turn_46 : decode cX10_turn 46 = .ok (.iastore, 1) := by decide +kernel
theorem dX10_turn_47 : decode cX10_turn 47 = .ok (.aload_n 0, 1) := by decide +kernel
theorem dX10_turn_48 : decode cX10_turn 48 = .ok (.dup, 1) := by decide +kernel
theorem dX10_turn_49 : decode cX10_turn 49 = .ok (.getfield 178, 3) := by decide +kernel
theorem dX10_turn_52 : decode cX10_turn 52 = .ok (.iconst 1, 1) := by decide +kernel
theorem dX10_turn_53 : decode cX10_turn 53 = .ok (.iadd, 1) := by decide +kernel
theorem dX10_turn_54 : decode cX10_turn 54 = .ok (.putfield 178, 3) := by decide +kernel
theorem dX10_turn_57 : decode cX10_turn 57 = .ok (.aload_n 0, 1) := by decide +kernel
theorem dX10_turn_58 : decode cX10_turn 58 = .ok (.getfield 13, 3) := by decide +kernel
theorem dX10_turn_61 : decode cX10_turn 61 = .ok (.iload_n 1, 1) := by decide +kernel
theorem dX10_turn_62 : decode cX10_turn 62 = .ok (.iaload, 1) := by decide +kernel
theorem dX10_turn_63 : decode cX10_turn 63 = .ok (.ireturn, 1) := by decide +kernel
noncomputable def p_X10_turn (Y : rx_Y) : rx_P := [(0, rx_ld 0 1 1), (1, rx_br (rx_cm0 Y 0) 12 4), (4, rx_ld 0 1 5), (5, rx_ld 2 0 6), (6, rx_get 10 7 9), (9, rx_br (rx_cmp Y 0) 14 12), (12, rx_pure (rx_push (.int (-1))) 13), (13, rx_retv .int 0 0), (14, rx_ld 2 0 15), (15, rx_get 10 10 18), (18, rx_pure (rx_push (.int 100)) 20), (20, rx_br (rx_cmp Y 5) 26 23), (26, rx_ld 2 0 27), (27, rx_ld 0 1 28), (28, rx_cl 154 2 10 true 0 0 0 0 31), (31, rx_br (rx_cm0 Y 5) 37 34), (37, rx_ld 2 0 38), (38, rx_get 10 11 41), (41, rx_ld 2 0 42), (42, rx_get 10 10 45), (45, rx_ld 0 1 46), (46, rx_ast Y 0 .int 47), (47, rx_ld 2 0 48), (48, rx_pure rx_dup 49), (49, rx_get 10 10 52), (52, rx_pure (rx_push (.int 1)) 53), (53, rx_pure (rx_bi (fun x y => x + y)) 54), (54, rx_putf 10 10 .int 57), (57, rx_ld 2 0 58), (58, rx_get 10 1 61), (61, rx_ld 0 1 62), (62, rx_ald 0 0 63), (63, rx_retv .int 0 0)]
noncomputable def m_X10_turn (Y : rx_Y) : rx_M := (yX10_turn, cX10_turn, 2, (some .int), { frames := 4, cells := 0, slots := 0, locals := 101 }, p_X10_turn Y)
theorem hd_X10_turn : yX10_turn.cls ≠ "java/lang/invoke/MethodHandle" ∧ yX10_turn.cls ≠ "java/lang/invoke/VarHandle" ∧ (parseMethodDescriptor yX10_turn.desc).map (fun d => d.parameters.length) = some 1 := by decide +kernel
abbrev cX10_turnRound : ByteArray := prog_12_method_13_code
def yX10_turnRound : MethodName := ⟨"SeedBenchModel", "turnRound", "(I)V"⟩
theorem dX10_turnRound_0 : decode cX10_turnRound 0 = .ok (.iconst 0, 1) := by decide +kernel
theorem dX10_turnRound_1 : decode cX10_turnRound 1 = .ok (.istore_n 2, 1) := by decide +kernel
theorem dX10_turnRound_2 : decode cX10_turnRound 2 = .ok (.iconst 2, 1) := by decide +kernel
theorem dX10_turnRound_3 : decode cX10_turnRound 3 = .ok (.iload_n 2, 1) := by decide +kernel
theorem dX10_turnRound_4 : decode cX10_turnRound 4 = .ok (.imul, 1) := by decide +kernel
theorem dX10_turnRound_5 : decode cX10_turnRound 5 = .ok (.aload_n 0, 1) := by decide +kernel
theorem dX10_turnRound_6 : decode cX10_turnRound 6 = .ok (.getfield 13, 3) := by decide +kernel
theorem dX10_turnRound_9 : decode cX10_turnRound 9 = .ok (.iload_n 1, 1) := by decide +kernel
theorem dX10_turnRound_10 : decode cX10_turnRound 10 = .ok (.iaload, 1) := by decide +kernel
theorem dX10_turnRound_11 : decode cX10_turnRound 11 = .ok (.iconst 1, 1) := by decide +kernel
theorem dX10_turnRound_12 : decode cX10_turnRound 12 = .ok (.isub, 1) := by decide +kernel
theorem dX10_turnRound_13 : decode cX10_turnRound 13 = .ok (.if_icmp .ge 164, 3) := by decide +kernel
theorem dX10_turnRound_177 : decode cX10_turnRound 177 = .ok (.return_, 1) := by decide +kernel
noncomputable def p_X10_turnRound (Y : rx_Y) : rx_P := [(0, rx_pure (rx_push (.int 0)) 1), (1, rx_st 0 2 2 8), (2, rx_pure (rx_push (.int 2)) 3), (3, rx_ld 0 2 4), (4, rx_pure (rx_bi (fun x y => x * y)) 5), (5, rx_ld 2 0 6), (6, rx_get 10 1 9), (9, rx_ld 0 1 10), (10, rx_ald 0 0 11), (11, rx_pure (rx_push (.int 1)) 12), (12, rx_pure (rx_bi (fun x y => x - y)) 13), (13, rx_br (rx_cmp Y 1) 177 16), (177, rx_ret0 0 0)]
noncomputable def m_X10_turnRound (Y : rx_Y) : rx_M := (yX10_turnRound, cX10_turnRound, 8, none, { frames := 0, cells := 0, slots := 0, locals := 0 }, p_X10_turnRound Y)
theorem hd_X10_turnRound : yX10_turnRound.cls ≠ "java/lang/invoke/MethodHandle" ∧ yX10_turnRound.cls ≠ "java/lang/invoke/VarHandle" ∧ (parseMethodDescriptor yX10_turnRound.desc).map (fun d => d.parameters.length) = some 1 := by decide +kernel
abbrev cX10_turns : ByteArray := prog_12_method_29_code
def yX10_turns : MethodName := ⟨"SeedBenchModel", "turns", "(I)Z"⟩
theorem dX10_turns_0 : decode cX10_turns 0 = .ok (.aload_n 0, 1) := by decide +kernel
theorem dX10_turns_1 : decode cX10_turns 1 = .ok (.iconst 0, 1) := by decide +kernel
theorem dX10_turns_2 : decode cX10_turns 2 = .ok (.putfield 150, 3) := by decide +kernel
theorem dX10_turns_5 : decode cX10_turns 5 = .ok (.aload_n 0, 1) := by decide +kernel
theorem dX10_turns_6 : decode cX10_turns 6 = .ok (.bipush 42, 2) := by decide +kernel
theorem dX10_turns_8 : decode cX10_turns 8 = .ok (.iload_n 1, 1) := by decide +kernel
theorem dX10_turns_9 : decode cX10_turns 9 = .ok (.iconst 1, 1) := by decide +kernel
theorem dX10_turns_10 : decode cX10_turns 10 = .ok (.invokevirtual 215, 3) := by decide +kernel
theorem dX10_turns_13 : decode cX10_turns 13 = .ok (.aload_n 0, 1) := by decide +kernel
theorem dX10_turns_14 : decode cX10_turns 14 = .ok (.getfield 150, 3) := by decide +kernel
theorem dX10_turns_17 : decode cX10_turns 17 = .ok (.ifCond .ne 11, 3) := by decide +kernel
theorem dX10_turns_20 : decode cX10_turns 20 = .ok (.aload_n 0, 1) := by decide +kernel
theorem dX10_turns_21 : decode cX10_turns 21 = .ok (.bipush 43, 2) := by decide +kernel
theorem dX10_turns_23 : decode cX10_turns 23 = .ok (.iload_n 1, 1) := by decide +kernel
theorem dX10_turns_24 : decode cX10_turns 24 = .ok (.iconst (-1), 1) := by decide +kernel
theorem dX10_turns_25 : decode cX10_turns 25 = .ok (.invokevirtual 215, 3) := by decide +kernel
theorem dX10_turns_28 : decode cX10_turns 28 = .ok (.aload_n 0, 1) := by decide +kernel
theorem dX10_turns_29 : decode cX10_turns 29 = .ok (.getfield 150, 3) := by decide +kernel
theorem dX10_turns_32 : decode cX10_turns 32 = .ok (.ifCond .eq 5, 3) := by decide +kernel
theorem dX10_turns_37 : decode cX10_turns 37 = .ok (.aload_n 0, 1) := by decide +kernel
theorem dX10_turns_38 : decode cX10_turns 38 = .ok (.bipush 44, 2) := by decide +kernel
theorem dX10_turns_40 : decode cX10_turns 40 = .ok (.bipush 42, 2) := by decide +kernel
theorem dX10_turns_42 : decode cX10_turns 42 = .ok (.invokevirtual 164, 3) := by decide +kernel
theorem dX10_turns_45 : decode cX10_turns 45 = .ok (.iconst 0, 1) := by decide +kernel
theorem dX10_turns_46 : decode cX10_turns 46 = .ok (.istore_n 2, 1) := by decide +kernel
theorem dX10_turns_47 : decode cX10_turns 47 = .ok (.iload_n 2, 1) := by decide +kernel
theorem dX10_turns_48 : decode cX10_turns 48 = .ok (.aload_n 0, 1) := by decide +kernel
theorem dX10_turns_49 : decode cX10_turns 49 = .ok (.getfield 13, 3) := by decide +kernel
theorem dX10_turns_52 : decode cX10_turns 52 = .ok (.bipush 43, 2) := by decide +kernel
theorem dX10_turns_54 : decode cX10_turns 54 = .ok (.iaload, 1) := by decide +kernel
theorem dX10_turns_55 : decode cX10_turns 55 = .ok (.if_icmp .ge 71, 3) := by decide +kernel
theorem dX10_turns_58 : decode cX10_turns 58 = .ok (.aload_n 0, 1) := by decide +kernel
theorem dX10_turns_59 : decode cX10_turns 59 = .ok (.getfield 150, 3) := by decide +kernel
theorem dX10_turns_62 : decode cX10_turns 62 = .ok (.ifCond .ne 64, 3) := by decide +kernel
theorem dX10_turns_65 : decode cX10_turns 65 = .ok (.aload_n 0, 1) := by decide +kernel
theorem dX10_turns_66 : decode cX10_turns 66 = .ok (.aload_n 0, 1) := by decide +kernel
theorem dX10_turns_67 : decode cX10_turns 67 = .ok (.getfield 17, 3) := by decide +kernel
theorem dX10_turns_70 : decode cX10_turns 70 = .ok (.sipush 8600, 3) := by decide +kernel
theorem dX10_turns_73 : decode cX10_turns 73 = .ok (.iload_n 2, 1) := by decide +kernel
theorem dX10_turns_74 : decode cX10_turns 74 = .ok (.iadd, 1) := by decide +kernel
theorem dX10_turns_75 : decode cX10_turns 75 = .ok (.laload, 1) := by decide +kernel
theorem dX10_turns_76 : decode cX10_turns 76 = .ok (.putfield 146, 3) := by decide +kernel
theorem dX10_turns_79 : decode cX10_turns 79 = .ok (.iconst 0, 1) := by decide +kernel
theorem dX10_turns_80 : decode cX10_turns 80 = .ok (.istore_n 3, 1) := by decide +kernel
theorem dX10_turns_81 : decode cX10_turns 81 = .ok (.iload_n 3, 1) := by decide +kernel
theorem dX10_turns_82 : decode cX10_turns 82 = .ok (.bipush 12, 2) := by decide +kernel
theorem dX10_turns_84 : decode cX10_turns 84 = .ok (.if_icmp .ge 30, 3) := by decide +kernel
theorem dX10_turns_87 : decode cX10_turns 87 = .ok (.aload_n 0, 1) := by decide +kernel
theorem dX10_turns_88 : decode cX10_turns 88 = .ok (.getfield 25, 3) := by decide +kernel
theorem dX10_turns_91 : decode cX10_turns 91 = .ok (.iload_n 3, 1) := by decide +kernel
theorem dX10_turns_92 : decode cX10_turns 92 = .ok (.aload_n 0, 1) := by decide +kernel
theorem dX10_turns_93 : decode cX10_turns 93 = .ok (.getfield 22, 3) := by decide +kernel
theorem dX10_turns_96 : decode cX10_turns 96 = .ok (.bipush 12, 2) := by decide +kernel
theorem dX10_turns_98 : decode cX10_turns 98 = .ok (.sipush 8600, 3) := by decide +kernel
theorem dX10_turns_101 : decode cX10_turns 101 = .ok (.iload_n 2, 1) := by decide +kernel
theorem dX10_turns_102 : decode cX10_turns 102 = .ok (.iadd, 1) := by decide +kernel
theorem dX10_turns_103 : decode cX10_turns 103 = .ok (.imul, 1) := by decide +kernel
theorem dX10_turns_104 : decode cX10_turns 104 = .ok (.iload_n 3, 1) := by decide +kernel
theorem dX10_turns_105 : decode cX10_turns 105 = .ok (.iadd, 1) := by decide +kernel
theorem dX10_turns_106 : decode cX10_turns 106 = .ok (.iaload, 1) := by decide +kernel
theorem dX10_turns_107 : decode cX10_turns 107 = .ok (.iastore, 1) := by decide +kernel
theorem dX10_turns_108 : decode cX10_turns 108 = .ok (.iinc 3 1, 3) := by decide +kernel
theorem dX10_turns_111 : decode cX10_turns 111 = .ok (.goto (-30), 3) := by decide +kernel
theorem dX10_turns_114 : decode cX10_turns 114 = .ok (.aload_n 0, 1) := by decide +kernel
theorem dX10_turns_115 : decode cX10_turns 115 = .ok (.bipush 44, 2) := by decide +kernel
theorem dX10_turns_117 : decode cX10_turns 117 = .ok (.invokevirtual 156, 3) := by decide +kernel
theorem dX10_turns_120 : decode cX10_turns 120 = .ok (.iinc 2 1, 3) := by decide +kernel
theorem dX10_turns_123 : decode cX10_turns 123 = .ok (.goto (-76), 3) := by decide +kernel
theorem dX10_turns_126 : decode cX10_turns 126 = .ok (.aload_n 0, 1) := by decide +kernel
theorem dX10_turns_127 : decode cX10_turns 127 = .ok (.getfield 150, 3) := by decide +kernel
theorem dX10_turns_130 : decode cX10_turns 130 = .ok (.ifCond .ne 11, 3) := by decide +kernel
theorem dX10_turns_133 : decode cX10_turns 133 = .ok (.aload_n 0, 1) := by decide +kernel
theorem dX10_turns_134 : decode cX10_turns 134 = .ok (.iload_n 1, 1) := by decide +kernel
theorem dX10_turns_135 : decode cX10_turns 135 = .ok (.invokevirtual 218, 3) := by decide +kernel
theorem dX10_turns_138 : decode cX10_turns 138 = .ok (.ifCond .ne 5, 3) := by decide +kernel
theorem dX10_turns_143 : decode cX10_turns 143 = .ok (.aload_n 0, 1) := by decide +kernel
theorem dX10_turns_144 : decode cX10_turns 144 = .ok (.bipush 45, 2) := by decide +kernel
theorem dX10_turns_146 : decode cX10_turns 146 = .ok (.bipush 44, 2) := by decide +kernel
theorem dX10_turns_148 : decode cX10_turns 148 = .ok (.iload_n 1, 1) := by decide +kernel
theorem dX10_turns_149 : decode cX10_turns 149 = .ok (.invokevirtual 222, 3) := by decide +kernel
theorem dX10_turns_152 : decode cX10_turns 152 = .ok (.aload_n 0, 1) := by decide +kernel
theorem dX10_turns_153 : decode cX10_turns 153 = .ok (.iload_n 1, 1) := by decide +kernel
theorem dX10_turns_154 : decode cX10_turns 154 = .ok (.bipush 45, 2) := by decide +kernel
theorem dX10_turns_156 : decode cX10_turns 156 = .ok (.invokevirtual 164, 3) := by decide +kernel
theorem dX10_turns_159 : decode cX10_turns 159 = .ok (.iconst 0, 1) := by decide +kernel
theorem dX10_turns_160 : decode cX10_turns 160 = .ok (.istore_n 2, 1) := by decide +kernel
theorem dX10_turns_161 : decode cX10_turns 161 = .ok (.iload_n 2, 1) := by decide +kernel
theorem dX10_turns_162 : decode cX10_turns 162 = .ok (.bipush 6, 2) := by decide +kernel
theorem dX10_turns_164 : decode cX10_turns 164 = .ok (.aload_n 0, 1) := by decide +kernel
theorem dX10_turns_165 : decode cX10_turns 165 = .ok (.getfield 132, 3) := by decide +kernel
theorem dX10_turns_168 : decode cX10_turns 168 = .ok (.aload_n 0, 1) := by decide +kernel
theorem dX10_turns_169 : decode cX10_turns 169 = .ok (.getfield 204, 3) := by decide +kernel
theorem dX10_turns_172 : decode cX10_turns 172 = .ok (.iadd, 1) := by decide +kernel
theorem dX10_turns_173 : decode cX10_turns 173 = .ok (.imul, 1) := by decide +kernel
theorem dX10_turns_174 : decode cX10_turns 174 = .ok (.if_icmp .ge 41, 3) := by decide +kernel
theorem dX10_turns_177 : decode cX10_turns 177 = .ok (.aload_n 0, 1) := by decide +kernel
theorem dX10_turns_178 : decode cX10_turns 178 = .ok (.getfield 28, 3) := by decide +kernel
theorem dX10_turns_181 : decode cX10_turns 181 = .ok (.iload_n 2, 1) := by decide +kernel
theorem dX10_turns_182 : decode cX10_turns 182 = .ok (.iload_n 2, 1) := by decide +kernel
theorem dX10_turns_183 : decode cX10_turns 183 = .ok (.bipush 6, 2) := by decide +kernel
theorem dX10_turns_185 : decode cX10_turns 185 = .ok (.irem, 1) := by decide +kernel
theorem dX10_turns_186 : decode cX10_turns 186 = .ok (.aload_n 0, 1) := by decide +kernel
theorem dX10_turns_187 : decode cX10_turns 187 = .ok (.getfield 132, 3) := by decide +kernel
theorem dX10_turns_190 : decode cX10_turns 190 = .ok (.if_icmp .ge 12, 3) := by decide +kernel
theorem dX10_turns_193 : decode cX10_turns 193 = .ok (.aload_n 0, 1) := by decide +kernel
theorem dX10_turns_194 : decode cX10_turns 194 = .ok (.getfield 50, 3) := by decide +kernel
theorem dX10_turns_197 : decode cX10_turns 197 = .ok (.iload_n 2, 1) := by decide +kernel
theorem dX10_turns_198 : decode cX10_turns 198 = .ok (.iaload, 1) := by decide +kernel
theorem dX10_turns_199 : decode cX10_turns 199 = .ok (.goto 9, 3) := by decide +kernel
theorem dX10_turns_202 : decode cX10_turns 202 = .ok (.aload_n 0, 1) := by decide +kernel
theorem dX10_turns_203 : decode cX10_turns 203 = .ok (.getfield 28, 3) := by decide +kernel
theorem dX10_turns_206 : decode cX10_turns 206 = .ok (.iload_n 2, 1) := by decide +kernel
theorem dX10_turns_207 : decode cX10_turns 207 = .ok (.iaload, 1) := by decide +kernel
theorem dX10_turns_208 : decode cX10_turns 208 = .ok (.iastore, 1) := by decide +kernel
theorem dX10_turns_209 : decode cX10_turns 209 = .ok (.iinc 2 1, 3) := by decide +kernel
theorem dX10_turns_212 : decode cX10_turns 212 = .ok (.goto (-51), 3) := by decide +kernel
theorem dX10_turns_215 : decode cX10_turns 215 = .ok (.iconst 1, 1) := by decide +kernel
theorem dX10_turns_216 : decode cX10_turns 216 = .ok (.ireturn, 1) := by decide +kernel
noncomputable def p_X10_turns (Y : rx_Y) : rx_P := [(0, rx_ld 2 0 1), (1, rx_pure (rx_push (.int 0)) 2), (2, rx_putf 10 4 .boolean 5), (5, rx_ld 2 0 6), (6, rx_pure (rx_push (.int 42)) 8), (8, rx_ld 0 1 9), (9, rx_pure (rx_push (.int 1)) 10), (10, rx_cl 132 4 10 true 0 0 0 0 13), (13, rx_ld 2 0 14), (14, rx_get 10 4 17), (17, rx_br (rx_cm0 Y 5) 28 20), (20, rx_ld 2 0 21), (21, rx_pure (rx_push (.int 43)) 23), (23, rx_ld 0 1 24), (24, rx_pure (rx_push (.int (-1))) 25), (25, rx_cl 132 4 10 true 0 0 0 0 28), (28, rx_ld 2 0 29), (29, rx_get 10 4 32), (32, rx_br (rx_cm0 Y 4) 37 35), (37, rx_ld 2 0 38), (38, rx_pure (rx_push (.int 44)) 40), (40, rx_pure (rx_push (.int 42)) 42), (42, rx_cl 104 3 10 true 0 0 0 0 45), (45, rx_pure (rx_push (.int 0)) 46), (46, rx_st 0 2 47 4), (47, rx_ld 0 2 48), (48, rx_ld 2 0 49), (49, rx_get 10 1 52), (52, rx_pure (rx_push (.int 43)) 54), (54, rx_ald 0 0 55), (55, rx_br (rx_cmp Y 1) 126 58), (58, rx_ld 2 0 59), (59, rx_get 10 4 62), (62, rx_br (rx_cm0 Y 5) 126 65), (65, rx_ld 2 0 66), (66, rx_ld 2 0 67), (67, rx_get 10 2 70), (70, rx_pure (rx_push (.int 8600)) 73), (73, rx_ld 0 2 74), (74, rx_pure (rx_bi (fun x y => x + y)) 75), (75, rx_ald 1 1 76), (76, rx_putf 10 5 .long 79), (79, rx_pure (rx_push (.int 0)) 80), (80, rx_st 0 3 81 4), (81, rx_ld 0 3 82), (82, rx_pure (rx_push (.int 12)) 84), (84, rx_br (rx_cmp Y 1) 114 87), (87, rx_ld 2 0 88), (88, rx_get 10 6 91), (91, rx_ld 0 3 92), (92, rx_ld 2 0 93), (93, rx_get 10 3 96), (96, rx_pure (rx_push (.int 12)) 98), (98, rx_pure (rx_push (.int 8600)) 101), (101, rx_ld 0 2 102), (102, rx_pure (rx_bi (fun x y => x + y)) 103), (103, rx_pure (rx_bi (fun x y => x * y)) 104), (104, rx_ld 0 3 105), (105, rx_pure (rx_bi (fun x y => x + y)) 106), (106, rx_ald 0 0 107), (107, rx_ast Y 0 .int 108), (108, rx_inc 3 1 111 4), (111, rx_br rx_goto 81 114), (114, rx_ld 2 0 115), (115, rx_pure (rx_push (.int 44)) 117), (117, rx_cl 94 2 10 true 0 0 0 0 120), (120, rx_inc 2 1 123 4), (123, rx_br rx_goto 47 126), (126, rx_ld 2 0 127), (127, rx_get 10 4 130), (130, rx_br (rx_cm0 Y 5) 141 133), (133, rx_ld 2 0 134), (134, rx_ld 0 1 135), (135, rx_cl 155 2 10 true 0 0 0 0 138), (138, rx_br (rx_cm0 Y 5) 143 141), (143, rx_ld 2 0 144), (144, rx_pure (rx_push (.int 45)) 146), (146, rx_pure (rx_push (.int 44)) 148), (148, rx_ld 0 1 149), (149, rx_cl 130 4 10 true 0 0 0 0 152), (152, rx_ld 2 0 153), (153, rx_ld 0 1 154), (154, rx_pure (rx_push (.int 45)) 156), (156, rx_cl 104 3 10 true 0 0 0 0 159), (159, rx_pure (rx_push (.int 0)) 160), (160, rx_st 0 2 161 4), (161, rx_ld 0 2 162), (162, rx_pure (rx_push (.int 6)) 164), (164, rx_ld 2 0 165), (165, rx_get 10 7 168), (168, rx_ld 2 0 169), (169, rx_get 10 8 172), (172, rx_pure (rx_bi (fun x y => x + y)) 173), (173, rx_pure (rx_bi (fun x y => x * y)) 174), (174, rx_br (rx_cmp Y 1) 215 177), (177, rx_ld 2 0 178), (178, rx_get 10 9 181), (181, rx_ld 0 2 182), (182, rx_ld 0 2 183), (183, rx_pure (rx_push (.int 6)) 185), (185, rx_pure (rx_bid (fun x y => x - x / y * y)) 186), (186, rx_ld 2 0 187), (187, rx_get 10 7 190), (190, rx_br (rx_cmp Y 1) 202 193), (193, rx_ld 2 0 194), (194, rx_get 10 19 197), (197, rx_ld 0 2 198), (198, rx_ald 0 0 199), (199, rx_br rx_goto 208 202), (202, rx_ld 2 0 203), (203, rx_get 10 9 206), (206, rx_ld 0 2 207), (207, rx_ald 0 0 208), (208, rx_ast Y 0 .int 209), (209, rx_inc 2 1 212 4), (212, rx_br rx_goto 161 215), (215, rx_pure (rx_push (.int 1)) 216), (216, rx_retv .boolean 0 0)]
noncomputable def m_X10_turns (Y : rx_Y) : rx_M := (yX10_turns, cX10_turns, 4, (some .boolean), { frames := 3, cells := 0, slots := 0, locals := 78 }, p_X10_turns Y)
theorem hd_X10_turns : yX10_turns.cls ≠ "java/lang/invoke/MethodHandle" ∧ yX10_turns.cls ≠ "java/lang/invoke/VarHandle" ∧ (parseMethodDescriptor yX10_turns.desc).map (fun d => d.parameters.length) = some 1 := by decide +kernel
abbrev cX10_turnsArrows : ByteArray := prog_12_method_26_code
def yX10_turnsArrows : MethodName := ⟨"SeedBenchModel", "turnsArrows", "(I)Z"⟩
theorem dX10_turnsArrows_0 : decode cX10_turnsArrows 0 = .ok (.iconst 1, 1) := by decide +kernel
theorem dX10_turnsArrows_1 : decode cX10_turnsArrows 1 = .ok (.istore_n 2, 1) := by decide +kernel
theorem dX10_turnsArrows_2 : decode cX10_turnsArrows 2 = .ok (.iconst 0, 1) := by decide +kernel
theorem dX10_turnsArrows_3 : decode cX10_turnsArrows 3 = .ok (.istore_n 3, 1) := by decide +kernel
theorem dX10_turnsArrows_4 : decode cX10_turnsArrows 4 = .ok (.iload_n 3, 1) := by decide +kernel
theorem dX10_turnsArrows_5 : decode cX10_turnsArrows 5 = .ok (.aload_n 0, 1) := by decide +kernel
theorem dX10_turnsArrows_6 : decode cX10_turnsArrows 6 = .ok (.getfield 132, 3) := by decide +kernel
theorem dX10_turnsArrows_9 : decode cX10_turnsArrows 9 = .ok (.aload_n 0, 1) := by decide +kernel
theorem dX10_turnsArrows_10 : decode cX10_turnsArrows 10 = .ok (.getfield 204, 3) := by decide +kernel
theorem dX10_turnsArrows_13 : decode cX10_turnsArrows 13 = .ok (.iadd, 1) := by decide +kernel
theorem dX10_turnsArrows_14 : decode cX10_turnsArrows 14 = .ok (.if_icmp .ge 160, 3) := by decide +kernel
theorem dX10_turnsArrows_17 : decode cX10_turnsArrows 17 = .ok (.iconst 0, 1) := by decide +kernel
theorem dX10_turnsArrows_18 : decode cX10_turnsArrows 18 = .ok (.istore 4, 2) := by decide +kernel
theorem dX10_turnsArrows_20 : decode cX10_turnsArrows 20 = .ok (.iload 4, 2) := by decide +kernel
theorem dX10_turnsArrows_22 : decode cX10_turnsArrows 22 = .ok (.aload_n 0, 1) := by decide +kernel
theorem dX10_turnsArrows_23 : decode cX10_turnsArrows 23 = .ok (.getfield 132, 3) := by decide +kernel
theorem dX10_turnsArrows_26 : decode cX10_turnsArrows 26 = .ok (.if_icmp .ge 142, 3) := by decide +kernel
theorem dX10_turnsArrows_29 : decode cX10_turnsArrows 29 = .ok (.aload_n 0, 1) := by decide +kernel
theorem dX10_turnsArrows_30 : decode cX10_turnsArrows 30 = .ok (.getfield 28, 3) := by decide +kernel
theorem dX10_turnsArrows_33 : decode cX10_turnsArrows 33 = .ok (.bipush 6, 2) := by decide +kernel
theorem dX10_turnsArrows_35 : decode cX10_turnsArrows 35 = .ok (.iload_n 3, 1) := by decide +kernel
theorem dX10_turnsArrows_36 : decode cX10_turnsArrows 36 = .ok (.imul, 1) := by decide +kernel
theorem dX10_turnsArrows_37 : decode cX10_turnsArrows 37 = .ok (.iload 4, 2) := by decide +kernel
theorem dX10_turnsArrows_39 : decode cX10_turnsArrows 39 = .ok (.iadd, 1) := by decide +kernel
theorem dX10_turnsArrows_40 : decode cX10_turnsArrows 40 = .ok (.iaload, 1) := by decide +kernel
theorem dX10_turnsArrows_41 : decode cX10_turnsArrows 41 = .ok (.istore 5, 2) := by decide +kernel
theorem dX10_turnsArrows_43 : decode cX10_turnsArrows 43 = .ok (.aload_n 0, 1) := by decide +kernel
theorem dX10_turnsArrows_44 : decode cX10_turnsArrows 44 = .ok (.getfield 28, 3) := by decide +kernel
theorem dX10_turnsArrows_47 : decode cX10_turnsArrows 47 = .ok (.bipush 6, 2) := by decide +kernel
theorem dX10_turnsArrows_49 : decode cX10_turnsArrows 49 = .ok (.iload_n 3, 1) := by decide +kernel
theorem dX10_turnsArrows_50 : decode cX10_turnsArrows 50 = .ok (.imul, 1) := by decide +kernel
theorem dX10_turnsArrows_51 : decode cX10_turnsArrows 51 = .ok (.iload_n 1, 1) := by decide +kernel
theorem dX10_turnsArrows_52 : decode cX10_turnsArrows 52 = .ok (.iadd, 1) := by decide +kernel
theorem dX10_turnsArrows_53 : decode cX10_turnsArrows 53 = .ok (.iaload, 1) := by decide +kernel
theorem dX10_turnsArrows_54 : decode cX10_turnsArrows 54 = .ok (.istore 6, 2) := by decide +kernel
theorem dX10_turnsArrows_56 : decode cX10_turnsArrows 56 = .ok (.aload_n 0, 1) := by decide +kernel
theorem dX10_turnsArrows_57 : decode cX10_turnsArrows 57 = .ok (.getfield 28, 3) := by decide +kernel
theorem dX10_turnsArrows_60 : decode cX10_turnsArrows 60 = .ok (.bipush 6, 2) := by decide +kernel
theorem dX10_turnsArrows_62 : decode cX10_turnsArrows 62 = .ok (.iload_n 1, 1) := by decide +kernel
theorem dX10_turnsArrows_63 : decode cX10_turnsArrows 63 = .ok (.imul, 1) := by decide +kernel
theorem dX10_turnsArrows_64 : decode cX10_turnsArrows 64 = .ok (.iload 4, 2) := by decide +kernel
theorem dX10_turnsArrows_66 : decode cX10_turnsArrows 66 = .ok (.iadd, 1) := by decide +kernel
theorem dX10_turnsArrows_67 : decode cX10_turnsArrows 67 = .ok (.iaload, 1) := by decide +kernel
theorem dX10_turnsArrows_68 : decode cX10_turnsArrows 68 = .ok (.istore 7, 2) := by decide +kernel
theorem dX10_turnsArrows_70 : decode cX10_turnsArrows 70 = .ok (.iload_n 3, 1) := by decide +kernel
theorem dX10_turnsArrows_71 : decode cX10_turnsArrows 71 = .ok (.iload_n 1, 1) := by decide +kernel
theorem dX10_turnsArrows_72 : decode cX10_turnsArrows 72 = .ok (.if_icmp .eq 9, 3) := by decide +kernel
theorem dX10_turnsArrows_81 : decode cX10_turnsArrows 81 = .ok (.iload 5, 2) := by decide +kernel
theorem dX10_turnsArrows_83 : decode cX10_turnsArrows 83 = .ok (.ineg, 1) := by decide +kernel
theorem dX10_turnsArrows_84 : decode cX10_turnsArrows 84 = .ok (.istore 5, 2) := by decide +kernel
theorem dX10_turnsArrows_86 : decode cX10_turnsArrows 86 = .ok (.goto 36, 3) := by decide +kernel
theorem dX10_turnsArrows_122 : decode cX10_turnsArrows 122 = .ok (.aload_n 0, 1) := by decide +kernel
theorem dX10_turnsArrows_123 : decode cX10_turnsArrows 123 = .ok (.getfield 50, 3) := by decide +kernel
theorem dX10_turnsArrows_126 : decode cX10_turnsArrows 126 = .ok (.bipush 6, 2) := by decide +kernel
theorem dX10_turnsArrows_128 : decode cX10_turnsArrows 128 = .ok (.iload_n 3, 1) := by decide +kernel
theorem dX10_turnsArrows_129 : decode cX10_turnsArrows 129 = .ok (.imul, 1) := by decide +kernel
theorem dX10_turnsArrows_130 : decode cX10_turnsArrows 130 = .ok (.iload 4, 2) := by decide +kernel
theorem dX10_turnsArrows_132 : decode cX10_turnsArrows 132 = .ok (.iadd, 1) := by decide +kernel
theorem dX10_turnsArrows_133 : decode cX10_turnsArrows 133 = .ok (.iload 5, 2) := by decide +kernel
theorem dX10_turnsArrows_135 : decode cX10_turnsArrows 135 = .ok (.iastore, 1) := by decide +kernel
theorem dX10_turnsArrows_136 : decode cX10_turnsArrows 136 = .ok (.iload_n 2, 1) := by decide +kernel
theorem dX10_turnsArrows_137 : decode cX10_turnsArrows 137 = .ok (.ifCond .eq 23, 3) := by decide +kernel
theorem dX10_turnsArrows_140 : decode cX10_turnsArrows 140 = .ok (.iload 5, 2) := by decide +kernel
theorem dX10_turnsArrows_142 : decode cX10_turnsArrows 142 = .ok (.sipush (-9999), 3) := by decide +kernel
theorem dX10_turnsArrows_145 : decode cX10_turnsArrows 145 = .ok (.if_icmp .lt 15, 3) := by decide +kernel
theorem dX10_turnsArrows_148 : decode cX10_turnsArrows 148 = .ok (.iload 5, 2) := by decide +kernel
theorem dX10_turnsArrows_150 : decode cX10_turnsArrows 150 = .ok (.sipush 9999, 3) := by decide +kernel
theorem dX10_turnsArrows_153 : decode cX10_turnsArrows 153 = .ok (.if_icmp .gt 7, 3) := by decide +kernel
theorem dX10_turnsArrows_156 : decode cX10_turnsArrows 156 = .ok (.iconst 1, 1) := by decide +kernel
theorem dX10_turnsArrows_157 : decode cX10_turnsArrows 157 = .ok (.goto 4, 3) := by decide +kernel
theorem dX10_turnsArrows_161 : decode cX10_turnsArrows 161 = .ok (.istore_n 2, 1) := by decide +kernel
theorem dX10_turnsArrows_162 : decode cX10_turnsArrows 162 = .ok (.iinc 4 1, 3) := by decide +kernel
theorem dX10_turnsArrows_165 : decode cX10_turnsArrows 165 = .ok (.goto (-145), 3) := by decide +kernel
theorem dX10_turnsArrows_168 : decode cX10_turnsArrows 168 = .ok (.iinc 3 1, 3) := by decide +kernel
theorem dX10_turnsArrows_171 : decode cX10_turnsArrows 171 = .ok (.goto (-167), 3) := by decide +kernel
theorem dX10_turnsArrows_174 : decode cX10_turnsArrows 174 = .ok (.iload_n 2, 1) := by decide +kernel
theorem dX10_turnsArrows_175 : decode cX10_turnsArrows 175 = .ok (.ireturn, 1) := by decide +kernel
noncomputable def p_X10_turnsArrows (Y : rx_Y) : rx_P := [(0, rx_pure (rx_push (.int 1)) 1), (1, rx_st 0 2 2 8), (2, rx_pure (rx_push (.int 0)) 3), (3, rx_st 0 3 4 8), (4, rx_ld 0 3 5), (5, rx_ld 2 0 6), (6, rx_get 10 7 9), (9, rx_ld 2 0 10), (10, rx_get 10 8 13), (13, rx_pure (rx_bi (fun x y => x + y)) 14), (14, rx_br (rx_cmp Y 1) 174 17), (17, rx_pure (rx_push (.int 0)) 18), (18, rx_st 0 4 20 8), (20, rx_ld 0 4 22), (22, rx_ld 2 0 23), (23, rx_get 10 7 26), (26, rx_br (rx_cmp Y 1) 168 29), (29, rx_ld 2 0 30), (30, rx_get 10 9 33), (33, rx_pure (rx_push (.int 6)) 35), (35, rx_ld 0 3 36), (36, rx_pure (rx_bi (fun x y => x * y)) 37), (37, rx_ld 0 4 39), (39, rx_pure (rx_bi (fun x y => x + y)) 40), (40, rx_ald 0 0 41), (41, rx_st 0 5 43 8), (43, rx_ld 2 0 44), (44, rx_get 10 9 47), (47, rx_pure (rx_push (.int 6)) 49), (49, rx_ld 0 3 50), (50, rx_pure (rx_bi (fun x y => x * y)) 51), (51, rx_ld 0 1 52), (52, rx_pure (rx_bi (fun x y => x + y)) 53), (53, rx_ald 0 0 54), (54, rx_st 0 6 56 8), (56, rx_ld 2 0 57), (57, rx_get 10 9 60), (60, rx_pure (rx_push (.int 6)) 62), (62, rx_ld 0 1 63), (63, rx_pure (rx_bi (fun x y => x * y)) 64), (64, rx_ld 0 4 66), (66, rx_pure (rx_bi (fun x y => x + y)) 67), (67, rx_ald 0 0 68), (68, rx_st 0 7 70 8), (70, rx_ld 0 3 71), (71, rx_ld 0 1 72), (72, rx_br (rx_cmp Y 4) 81 75), (81, rx_ld 0 5 83), (83, rx_pure rx_ineg 84), (84, rx_st 0 5 86 8), (86, rx_br rx_goto 122 89), (122, rx_ld 2 0 123), (123, rx_get 10 19 126), (126, rx_pure (rx_push (.int 6)) 128), (128, rx_ld 0 3 129), (129, rx_pure (rx_bi (fun x y => x * y)) 130), (130, rx_ld 0 4 132), (132, rx_pure (rx_bi (fun x y => x + y)) 133), (133, rx_ld 0 5 135), (135, rx_ast Y 0 .int 136), (136, rx_ld 0 2 137), (137, rx_br (rx_cm0 Y 4) 160 140), (140, rx_ld 0 5 142), (142, rx_pure (rx_push (.int (-9999))) 145), (145, rx_br (rx_cmp Y 0) 160 148), (148, rx_ld 0 5 150), (150, rx_pure (rx_push (.int 9999)) 153), (153, rx_br (rx_cmp Y 2) 160 156), (156, rx_pure (rx_push (.int 1)) 157), (157, rx_br rx_goto 161 160), (161, rx_st 0 2 162 8), (162, rx_inc 4 1 165 8), (165, rx_br rx_goto 20 168), (168, rx_inc 3 1 171 8), (171, rx_br rx_goto 4 174), (174, rx_ld 0 2 175), (175, rx_retv .boolean 0 0)]
noncomputable def m_X10_turnsArrows (Y : rx_Y) : rx_M := (yX10_turnsArrows, cX10_turnsArrows, 8, (some .boolean), { frames := 0, cells := 0, slots := 0, locals := 0 }, p_X10_turnsArrows Y)
theorem hd_X10_turnsArrows : yX10_turnsArrows.cls ≠ "java/lang/invoke/MethodHandle" ∧ yX10_turnsArrows.cls ≠ "java/lang/invoke/VarHandle" ∧ (parseMethodDescriptor yX10_turnsArrows.desc).map (fun d => d.parameters.length) = some 1 := by decide +kernel
abbrev cX10_way : ByteArray := prog_12_method_80_code
def yX10_way : MethodName := ⟨"SeedBenchModel", "way", "()I"⟩
theorem dX10_way_0 : decode cX10_way 0 = .ok (.aload_n 0, 1) := by decide +kernel
theorem dX10_way_1 : decode cX10_way 1 = .ok (.iconst 0, 1) := by decide +kernel
theorem dX10_way_2 : decode cX10_way 2 = .ok (.invokevirtual 338, 3) := by decide +kernel
theorem dX10_way_5 : decode cX10_way 5 = .ok (.ifCond .eq 26, 3) := by decide +kernel
theorem dX10_way_31 : decode cX10_way 31 = .ok (.iconst (-1), 1) := by decide +kernel
theorem dX10_way_32 : decode cX10_way 32 = .ok (.ireturn, 1) := by decide +kernel
noncomputable def p_X10_way (Y : rx_Y) : rx_P := [(0, rx_ld 2 0 1), (1, rx_pure (rx_push (.int 0)) 2), (2, rx_cl 116 2 10 true 0 0 0 0 5), (5, rx_br (rx_cm0 Y 4) 31 8), (31, rx_pure (rx_push (.int (-1))) 32), (32, rx_retv .int 0 0)]
noncomputable def m_X10_way (Y : rx_Y) : rx_M := (yX10_way, cX10_way, 10, (some .int), { frames := 2, cells := 0, slots := 0, locals := 44 }, p_X10_way Y)
theorem hd_X10_way : yX10_way.cls ≠ "java/lang/invoke/MethodHandle" ∧ yX10_way.cls ≠ "java/lang/invoke/VarHandle" ∧ (parseMethodDescriptor yX10_way.desc).map (fun d => d.parameters.length) = some 0 := by decide +kernel
abbrev cX10_what : ByteArray := prog_12_method_49_code
def yX10_what : MethodName := ⟨"SeedBenchModel", "what", "(II)J"⟩
theorem dX10_what_0 : decode cX10_what 0 = .ok (.aload_n 0, 1) := by decide +kernel
theorem dX10_what_1 : decode cX10_what 1 = .ok (.getfield 272, 3) := by decide +kernel
theorem dX10_what_4 : decode cX10_what 4 = .ok (.ifCond .ne 7, 3) := by decide +kernel
theorem dX10_what_7 : decode cX10_what 7 = .ok (.ldc2_w 281, 3) := by decide +kernel
theorem dX10_what_10 : decode cX10_what 10 = .ok (.lreturn, 1) := by decide +kernel
noncomputable def p_X10_what (Y : rx_Y) : rx_P := [(0, rx_ld 2 0 1), (1, rx_get 10 29 4), (4, rx_br (rx_cm0 Y 5) 11 7), (7, rx_con (.long (-1)) 10), (10, rx_retv .long 0 0)]
noncomputable def m_X10_what (Y : rx_Y) : rx_M := (yX10_what, cX10_what, 3, (some .long), { frames := 0, cells := 0, slots := 0, locals := 0 }, p_X10_what Y)
theorem hd_X10_what : yX10_what.cls ≠ "java/lang/invoke/MethodHandle" ∧ yX10_what.cls ≠ "java/lang/invoke/VarHandle" ∧ (parseMethodDescriptor yX10_what.desc).map (fun d => d.parameters.length) = some 2 := by decide +kernel
