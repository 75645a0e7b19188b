abbrev cX8_clear : ByteArray := prog_10_method_2_code
def yX8_clear : MethodName := ⟨"SeedBench$Share", "clear", "(I)V"⟩
theorem dX8_clear_0 : decode cX8_clear 0 = .ok (.aload_n 0, 1) := by decide +kernel
theorem dX8_clear_1 : decode cX8_clear 1 = .ok (.iload_n 1, 1) := by decide +kernel
theorem dX8_clear_2 : decode cX8_clear 2 = .ok (.putfield 19, 3) := by decide +kernel
theorem dX8_clear_5 : decode cX8_clear 5 = .ok (.aload_n 0, 1) := by decide +kernel
theorem dX8_clear_6 : decode cX8_clear 6 = .ok (.iconst 0, 1) := by decide +kernel
theorem dX8_clear_7 : decode cX8_clear 7 = .ok (.putfield 23, 3) := by decide +kernel
theorem dX8_clear_10 : decode cX8_clear 10 = .ok (.return_, 1) := by decide +kernel
noncomputable def p_X8_clear (Y : rx_Y) : rx_P := [(0, rx_ld 2 0 1), (1, rx_ld 0 1 2), (2, rx_putf 8 0 .int 5), (5, rx_ld 2 0 6), (6, rx_pure (rx_push (.int 0)) 7), (7, rx_putf 8 1 .int 10), (10, rx_ret0 0 0)]
noncomputable def m_X8_clear (Y : rx_Y) : rx_M := (yX8_clear, cX8_clear, 2, none, { frames := 0, cells := 0, slots := 0, locals := 0 }, p_X8_clear Y)
theorem hd_X8_clear : yX8_clear.cls ≠ "java/lang/invoke/MethodHandle" ∧ yX8_clear.cls ≠ "java/lang/invoke/VarHandle" ∧ (parseMethodDescriptor yX8_clear.desc).map (fun d => d.parameters.length) = some 1 := by decide +kernel
abbrev cX8_copyFrom : ByteArray := prog_10_method_4_code
def yX8_copyFrom : MethodName := ⟨"SeedBench$Share", "copyFrom", "(LSeedBench$Share;)V"⟩
theorem dX8_copyFrom_0 : decode cX8_copyFrom 0 = .ok (.aload_n 0, 1) := by decide +kernel
theorem dX8_copyFrom_1 : decode cX8_copyFrom 1 = .ok (.aload_n 1, 1) := by decide +kernel
theorem dX8_copyFrom_2 : decode cX8_copyFrom 2 = .ok (.getfield 19, 3) := by decide +kernel
theorem dX8_copyFrom_5 : decode cX8_copyFrom 5 = .ok (.invokevirtual 26, 3) := by decide +kernel
theorem dX8_copyFrom_8 : decode cX8_copyFrom 8 = .ok (.aload_n 0, 1) := by decide +kernel
theorem dX8_copyFrom_9 : decode cX8_copyFrom 9 = .ok (.aload_n 1, 1) := by decide +kernel
theorem dX8_copyFrom_10 : decode cX8_copyFrom 10 = .ok (.getfield 23, 3) := by decide +kernel
theorem dX8_copyFrom_13 : decode cX8_copyFrom 13 = .ok (.putfield 23, 3) := by decide +kernel
theorem dX8_copyFrom_16 : decode cX8_copyFrom 16 = .ok (.aload_n 1, 1) := by decide +kernel
theorem dX8_copyFrom_17 : decode cX8_copyFrom 17 = .ok (.getfield 9, 3) := by decide +kernel
theorem dX8_copyFrom_20 : decode cX8_copyFrom 20 = .ok (.iconst 0, 1) := by decide +kernel
theorem dX8_copyFrom_21 : decode cX8_copyFrom 21 = .ok (.aload_n 0, 1) := by decide +kernel
theorem dX8_copyFrom_22 : decode cX8_copyFrom 22 = .ok (.getfield 9, 3) := by decide +kernel
theorem dX8_copyFrom_25 : decode cX8_copyFrom 25 = .ok (.iconst 0, 1) := by decide +kernel
theorem dX8_copyFrom_26 : decode cX8_copyFrom 26 = .ok (.aload_n 0, 1) := by decide +kernel
theorem dX8_copyFrom_27 : decode cX8_copyFrom 27 = .ok (.getfield 23, 3) := by decide +kernel
theorem dX8_copyFrom_30 : decode cX8_copyFrom 30 = .ok (.invokestatic 30, 3) := by decide +kernel
theorem dX8_copyFrom_33 : decode cX8_copyFrom 33 = .ok (.aload_n 1, 1) := by decide +kernel
theorem dX8_copyFrom_34 : decode cX8_copyFrom 34 = .ok (.getfield 15, 3) := by decide +kernel
theorem dX8_copyFrom_37 : decode cX8_copyFrom 37 = .ok (.iconst 0, 1) := by decide +kernel
theorem dX8_copyFrom_38 : decode cX8_copyFrom 38 = .ok (.aload_n 0, 1) := by decide +kernel
theorem dX8_copyFrom_39 : decode cX8_copyFrom 39 = .ok (.getfield 15, 3) := by decide +kernel
theorem dX8_copyFrom_42 : decode cX8_copyFrom 42 = .ok (.iconst 0, 1) := by decide +kernel
theorem dX8_copyFrom_43 : decode cX8_copyFrom 43 = .ok (.aload_n 0, 1) := by decide +kernel
theorem dX8_copyFrom_44 : decode cX8_copyFrom 44 = .ok (.getfield 23, 3) := by decide +kernel
theorem dX8_copyFrom_47 : decode cX8_copyFrom 47 = .ok (.aload_n 0, 1) := by decide +kernel
theorem dX8_copyFrom_48 : decode cX8_copyFrom 48 = .ok (.getfield 19, 3) := by decide +kernel
theorem dX8_copyFrom_51 : decode cX8_copyFrom 51 = .ok (.imul, 1) := by decide +kernel
theorem dX8_copyFrom_52 : decode cX8_copyFrom 52 = .ok (.invokestatic 30, 3) := by decide +kernel
theorem dX8_copyFrom_55 : decode cX8_copyFrom 55 = .ok (.return_, 1) := by decide +kernel
noncomputable def p_X8_copyFrom (Y : rx_Y) : rx_P := [(0, rx_ld 2 0 1), (1, rx_ld 2 1 2), (2, rx_get 8 0 5), (5, rx_cl 51 2 8 true 0 0 0 0 8), (8, rx_ld 2 0 9), (9, rx_ld 2 1 10), (10, rx_get 8 1 13), (13, rx_putf 8 1 .int 16), (16, rx_ld 2 1 17), (17, rx_get 8 2 20), (20, rx_pure (rx_push (.int 0)) 21), (21, rx_ld 2 0 22), (22, rx_get 8 2 25), (25, rx_pure (rx_push (.int 0)) 26), (26, rx_ld 2 0 27), (27, rx_get 8 1 30), (30, rx_acp 1 21 33), (33, rx_ld 2 1 34), (34, rx_get 8 3 37), (37, rx_pure (rx_push (.int 0)) 38), (38, rx_ld 2 0 39), (39, rx_get 8 3 42), (42, rx_pure (rx_push (.int 0)) 43), (43, rx_ld 2 0 44), (44, rx_get 8 1 47), (47, rx_ld 2 0 48), (48, rx_get 8 0 51), (51, rx_pure (rx_bi (fun x y => x * y)) 52), (52, rx_acp 0 21 55), (55, rx_ret0 0 0)]
noncomputable def m_X8_copyFrom (Y : rx_Y) : rx_M := (yX8_copyFrom, cX8_copyFrom, 2, none, { frames := 1, cells := 0, slots := 0, locals := 21 }, p_X8_copyFrom Y)
theorem hd_X8_copyFrom : yX8_copyFrom.cls ≠ "java/lang/invoke/MethodHandle" ∧ yX8_copyFrom.cls ≠ "java/lang/invoke/VarHandle" ∧ (parseMethodDescriptor yX8_copyFrom.desc).map (fun d => d.parameters.length) = some 1 := by decide +kernel
abbrev cX8_find : ByteArray := prog_10_method_6_code
def yX8_find : MethodName := ⟨"SeedBench$Share", "find", "([II)I"⟩
theorem dX8_find_0 : decode cX8_find 0 = .ok (.iload_n 2, 1) := by decide +kernel
theorem dX8_find_1 : decode cX8_find 1 = .ok (.istore_n 3, 1) := by decide +kernel
theorem dX8_find_2 : decode cX8_find 2 = .ok (.aload_n 0, 1) := by decide +kernel
theorem dX8_find_3 : decode cX8_find 3 = .ok (.getfield 23, 3) := by decide +kernel
theorem dX8_find_6 : decode cX8_find 6 = .ok (.iconst 1, 1) := by decide +kernel
theorem dX8_find_7 : decode cX8_find 7 = .ok (.isub, 1) := by decide +kernel
theorem dX8_find_8 : decode cX8_find 8 = .ok (.istore 4, 2) := by decide +kernel
theorem dX8_find_10 : decode cX8_find 10 = .ok (.iconst 0, 1) := by decide +kernel
theorem dX8_find_11 : decode cX8_find 11 = .ok (.istore 5, 2) := by decide +kernel
theorem dX8_find_13 : decode cX8_find 13 = .ok (.iload 5, 2) := by decide +kernel
theorem dX8_find_15 : decode cX8_find 15 = .ok (.sipush 200, 3) := by decide +kernel
theorem dX8_find_18 : decode cX8_find 18 = .ok (.if_icmp .ge 110, 3) := by decide +kernel
theorem dX8_find_21 : decode cX8_find 21 = .ok (.iload_n 3, 1) := by decide +kernel
theorem dX8_find_22 : decode cX8_find 22 = .ok (.iload 4, 2) := by decide +kernel
theorem dX8_find_24 : decode cX8_find 24 = .ok (.if_icmp .gt 104, 3) := by decide +kernel
theorem dX8_find_27 : decode cX8_find 27 = .ok (.iload_n 3, 1) := by decide +kernel
theorem dX8_find_28 : decode cX8_find 28 = .ok (.iload 4, 2) := by decide +kernel
theorem dX8_find_30 : decode cX8_find 30 = .ok (.iadd, 1) := by decide +kernel
theorem dX8_find_31 : decode cX8_find 31 = .ok (.iconst 1, 1) := by decide +kernel
theorem dX8_find_32 : decode cX8_find 32 = .ok (.iushr, 1) := by decide +kernel
theorem dX8_find_33 : decode cX8_find 33 = .ok (.istore 6, 2) := by decide +kernel
theorem dX8_find_35 : decode cX8_find 35 = .ok (.iload 6, 2) := by decide +kernel
theorem dX8_find_37 : decode cX8_find 37 = .ok (.aload_n 0, 1) := by decide +kernel
theorem dX8_find_38 : decode cX8_find 38 = .ok (.getfield 19, 3) := by decide +kernel
theorem dX8_find_41 : decode cX8_find 41 = .ok (.imul, 1) := by decide +kernel
theorem dX8_find_42 : decode cX8_find 42 = .ok (.istore 7, 2) := by decide +kernel
theorem dX8_find_44 : decode cX8_find 44 = .ok (.iconst 0, 1) := by decide +kernel
theorem dX8_find_45 : decode cX8_find 45 = .ok (.istore 8, 2) := by decide +kernel
theorem dX8_find_47 : decode cX8_find 47 = .ok (.iload 8, 2) := by decide +kernel
theorem dX8_find_49 : decode cX8_find 49 = .ok (.aload_n 0, 1) := by decide +kernel
theorem dX8_find_50 : decode cX8_find 50 = .ok (.getfield 19, 3) := by decide +kernel
theorem dX8_find_53 : decode cX8_find 53 = .ok (.if_icmp .ge 26, 3) := by decide +kernel
theorem dX8_find_56 : decode cX8_find 56 = .ok (.aload_n 0, 1) := by decide +kernel
theorem dX8_find_57 : decode cX8_find 57 = .ok (.getfield 15, 3) := by decide +kernel
theorem dX8_find_60 : decode cX8_find 60 = .ok (.iload 7, 2) := by decide +kernel
theorem dX8_find_62 : decode cX8_find 62 = .ok (.iload 8, 2) := by decide +kernel
theorem dX8_find_64 : decode cX8_find 64 = .ok (.iadd, 1) := by decide +kernel
theorem dX8_find_65 : decode cX8_find 65 = .ok (.iaload, 1) := by decide +kernel
theorem dX8_find_66 : decode cX8_find 66 = .ok (.aload_n 1, 1) := by decide +kernel
theorem dX8_find_67 : decode cX8_find 67 = .ok (.iload 8, 2) := by decide +kernel
theorem dX8_find_69 : decode cX8_find 69 = .ok (.iaload, 1) := by decide +kernel
theorem dX8_find_70 : decode cX8_find 70 = .ok (.if_icmp .ne 9, 3) := by decide +kernel
theorem dX8_find_73 : decode cX8_find 73 = .ok (.iinc 8 1, 3) := by decide +kernel
theorem dX8_find_76 : decode cX8_find 76 = .ok (.goto (-29), 3) := by decide +kernel
theorem dX8_find_79 : decode cX8_find 79 = .ok (.iload 8, 2) := by decide +kernel
theorem dX8_find_81 : decode cX8_find 81 = .ok (.aload_n 0, 1) := by decide +kernel
theorem dX8_find_82 : decode cX8_find 82 = .ok (.getfield 19, 3) := by decide +kernel
theorem dX8_find_85 : decode cX8_find 85 = .ok (.if_icmp .ne 6, 3) := by decide +kernel
theorem dX8_find_88 : decode cX8_find 88 = .ok (.iload 6, 2) := by decide +kernel
theorem dX8_find_90 : decode cX8_find 90 = .ok (.ireturn, 1) := by decide +kernel
theorem dX8_find_128 : decode cX8_find 128 = .ok (.iconst (-1), 1) := by decide +kernel
theorem dX8_find_129 : decode cX8_find 129 = .ok (.iload_n 3, 1) := by decide +kernel
theorem dX8_find_130 : decode cX8_find 130 = .ok (.isub, 1) := by decide +kernel
theorem dX8_find_131 : decode cX8_find 131 = .ok (.ireturn, 1) := by decide +kernel
noncomputable def p_X8_find (Y : rx_Y) : rx_P := [(0, rx_ld 0 2 1), (1, rx_st 0 3 2 9), (2, rx_ld 2 0 3), (3, rx_get 8 1 6), (6, rx_pure (rx_push (.int 1)) 7), (7, rx_pure (rx_bi (fun x y => x - y)) 8), (8, rx_st 0 4 10 9), (10, rx_pure (rx_push (.int 0)) 11), (11, rx_st 0 5 13 9), (13, rx_ld 0 5 15), (15, rx_pure (rx_push (.int 200)) 18), (18, rx_br (rx_cmp Y 1) 128 21), (21, rx_ld 0 3 22), (22, rx_ld 0 4 24), (24, rx_br (rx_cmp Y 2) 128 27), (27, rx_ld 0 3 28), (28, rx_ld 0 4 30), (30, rx_pure (rx_bi (fun x y => x + y)) 31), (31, rx_pure (rx_push (.int 1)) 32), (32, rx_pure (rx_bi (fun x y => (x.toUInt32 >>> (y.toUInt32 &&& Int32.toUInt32 31)).toInt32)) 33), (33, rx_st 0 6 35 9), (35, rx_ld 0 6 37), (37, rx_ld 2 0 38), (38, rx_get 8 0 41), (41, rx_pure (rx_bi (fun x y => x * y)) 42), (42, rx_st 0 7 44 9), (44, rx_pure (rx_push (.int 0)) 45), (45, rx_st 0 8 47 9), (47, rx_ld 0 8 49), (49, rx_ld 2 0 50), (50, rx_get 8 0 53), (53, rx_br (rx_cmp Y 1) 79 56), (56, rx_ld 2 0 57), (57, rx_get 8 3 60), (60, rx_ld 0 7 62), (62, rx_ld 0 8 64), (64, rx_pure (rx_bi (fun x y => x + y)) 65), (65, rx_ald 0 0 66), (66, rx_ld 2 1 67), (67, rx_ld 0 8 69), (69, rx_ald 0 0 70), (70, rx_br (rx_cmp Y 5) 79 73), (73, rx_inc 8 1 76 9), (76, rx_br rx_goto 47 79), (79, rx_ld 0 8 81), (81, rx_ld 2 0 82), (82, rx_get 8 0 85), (85, rx_br (rx_cmp Y 5) 91 88), (88, rx_ld 0 6 90), (90, rx_retv .int 0 0), (128, rx_pure (rx_push (.int (-1))) 129), (129, rx_ld 0 3 130), (130, rx_pure (rx_bi (fun x y => x - y)) 131), (131, rx_retv .int 0 0)]
noncomputable def m_X8_find (Y : rx_Y) : rx_M := (yX8_find, cX8_find, 9, (some .int), { frames := 0, cells := 0, slots := 0, locals := 0 }, p_X8_find Y)
theorem hd_X8_find : yX8_find.cls ≠ "java/lang/invoke/MethodHandle" ∧ yX8_find.cls ≠ "java/lang/invoke/VarHandle" ∧ (parseMethodDescriptor yX8_find.desc).map (fun d => d.parameters.length) = some 2 := by decide +kernel
abbrev cX8_hasVariable : ByteArray := prog_10_method_5_code
def yX8_hasVariable : MethodName := ⟨"SeedBench$Share", "hasVariable", "(I)Z"⟩
theorem dX8_hasVariable_0 : decode cX8_hasVariable 0 = .ok (.iload_n 1, 1) := by decide +kernel
theorem dX8_hasVariable_1 : decode cX8_hasVariable 1 = .ok (.ifCond .lt 15, 3) := by decide +kernel
theorem dX8_hasVariable_4 : decode cX8_hasVariable 4 = .ok (.iload_n 1, 1) := by decide +kernel
theorem dX8_hasVariable_5 : decode cX8_hasVariable 5 = .ok (.aload_n 0, 1) := by decide +kernel
theorem dX8_hasVariable_6 : decode cX8_hasVariable 6 = .ok (.getfield 19, 3) := by decide +kernel
theorem dX8_hasVariable_9 : decode cX8_hasVariable 9 = .ok (.if_icmp .ge 7, 3) := by decide +kernel
theorem dX8_hasVariable_12 : decode cX8_hasVariable 12 = .ok (.iconst 1, 1) := by decide +kernel
theorem dX8_hasVariable_13 : decode cX8_hasVariable 13 = .ok (.goto 4, 3) := by decide +kernel
theorem dX8_hasVariable_16 : decode cX8_hasVariable 16 = .ok (.iconst 0, 1) := by decide +kernel
theorem dX8_hasVariable_17 : decode cX8_hasVariable 17 = .ok (.ireturn, 1) := by decide +kernel
noncomputable def p_X8_hasVariable (Y : rx_Y) : rx_P := [(0, rx_ld 0 1 1), (1, rx_br (rx_cm0 Y 0) 16 4), (4, rx_ld 0 1 5), (5, rx_ld 2 0 6), (6, rx_get 8 0 9), (9, rx_br (rx_cmp Y 1) 16 12), (12, rx_pure (rx_push (.int 1)) 13), (13, rx_br rx_goto 17 16), (16, rx_pure (rx_push (.int 0)) 17), (17, rx_retv .boolean 0 0)]
noncomputable def m_X8_hasVariable (Y : rx_Y) : rx_M := (yX8_hasVariable, cX8_hasVariable, 2, (some .boolean), { frames := 0, cells := 0, slots := 0, locals := 0 }, p_X8_hasVariable Y)
theorem hd_X8_hasVariable : yX8_hasVariable.cls ≠ "java/lang/invoke/MethodHandle" ∧ yX8_hasVariable.cls ≠ "java/lang/invoke/VarHandle" ∧ (parseMethodDescriptor yX8_hasVariable.desc).map (fun d => d.parameters.length) = some 1 := by decide +kernel
abbrev cX8_init : ByteArray := prog_10_method_1_code
def yX8_init : MethodName := ⟨"SeedBench$Share", "<init>", "()V"⟩
theorem dX8_init_0 : decode cX8_init 0 = .ok (.aload_n 0, 1) := by decide +kernel
theorem dX8_init_1 : decode cX8_init 1 = .ok (.invokespecial 3, 3) := by decide +kernel
theorem dX8_init_4 : decode cX8_init 4 = .ok (.aload_n 0, 1) := by decide +kernel
theorem dX8_init_5 : decode cX8_init 5 = .ok (.sipush 200, 3) := by decide +kernel
theorem dX8_init_8 : decode cX8_init 8 = .ok (.newarray .long, 2) := by decide +kernel
theorem dX8_init_10 : decode cX8_init 10 = .ok (.putfield 9, 3) := by decide +kernel
theorem dX8_init_13 : decode cX8_init 13 = .ok (.aload_n 0, 1) := by decide +kernel
theorem dX8_init_14 : decode cX8_init 14 = .ok (.sipush 2400, 3) := by decide +kernel
theorem dX8_init_17 : decode cX8_init 17 = .ok (.newarray .int, 2) := by decide +kernel
theorem dX8_init_19 : decode cX8_init 19 = .ok (.putfield 15, 3) := by decide +kernel
theorem dX8_init_22 : decode cX8_init 22 = .ok (.return_, 1) := by decide +kernel
noncomputable def p_X8_init (Y : rx_Y) : rx_P := [(0, rx_ld 2 0 1), (1, rx_obj 12 4), (4, rx_ld 2 0 5), (5, rx_pure (rx_push (.int 200)) 8), (8, rx_nwa 1 2 2600 10), (10, rx_putf 8 2 (.array .long) 13), (13, rx_ld 2 0 14), (14, rx_pure (rx_push (.int 2400)) 17), (17, rx_nwa 0 2 2600 19), (19, rx_putf 8 3 (.array .int) 22), (22, rx_ret0 2 2600)]
noncomputable def m_X8_init (Y : rx_Y) : rx_M := (yX8_init, cX8_init, 1, none, { frames := 1, cells := 2, slots := 2600, locals := 12 }, p_X8_init Y)
theorem hd_X8_init : yX8_init.cls ≠ "java/lang/invoke/MethodHandle" ∧ yX8_init.cls ≠ "java/lang/invoke/VarHandle" ∧ (parseMethodDescriptor yX8_init.desc).map (fun d => d.parameters.length) = some 0 := by decide +kernel
abbrev cX8_isLike : ByteArray := prog_10_method_8_code
def yX8_isLike : MethodName := ⟨"SeedBench$Share", "isLike", "(LSeedBench$Share;)Z"⟩
theorem dX8_isLike_0 : decode cX8_isLike 0 = .ok (.aload_n 0, 1) := by decide +kernel
theorem dX8_isLike_1 : decode cX8_isLike 1 = .ok (.getfield 23, 3) := by decide +kernel
theorem dX8_isLike_4 : decode cX8_isLike 4 = .ok (.aload_n 1, 1) := by decide +kernel
theorem dX8_isLike_5 : decode cX8_isLike 5 = .ok (.getfield 23, 3) := by decide +kernel
theorem dX8_isLike_8 : decode cX8_isLike 8 = .ok (.if_icmp .ne 14, 3) := by decide +kernel
theorem dX8_isLike_11 : decode cX8_isLike 11 = .ok (.aload_n 0, 1) := by decide +kernel
theorem dX8_isLike_12 : decode cX8_isLike 12 = .ok (.getfield 19, 3) := by decide +kernel
theorem dX8_isLike_15 : decode cX8_isLike 15 = .ok (.aload_n 1, 1) := by decide +kernel
theorem dX8_isLike_16 : decode cX8_isLike 16 = .ok (.getfield 19, 3) := by decide +kernel
theorem dX8_isLike_19 : decode cX8_isLike 19 = .ok (.if_icmp .eq 5, 3) := by decide +kernel
theorem dX8_isLike_24 : decode cX8_isLike 24 = .ok (.iconst 0, 1) := by decide +kernel
theorem dX8_isLike_25 : decode cX8_isLike 25 = .ok (.istore_n 2, 1) := by decide +kernel
theorem dX8_isLike_26 : decode cX8_isLike 26 = .ok (.iload_n 2, 1) := by decide +kernel
theorem dX8_isLike_27 : decode cX8_isLike 27 = .ok (.aload_n 0, 1) := by decide +kernel
theorem dX8_isLike_28 : decode cX8_isLike 28 = .ok (.getfield 23, 3) := by decide +kernel
theorem dX8_isLike_31 : decode cX8_isLike 31 = .ok (.if_icmp .ge 27, 3) := by decide +kernel
theorem dX8_isLike_34 : decode cX8_isLike 34 = .ok (.aload_n 0, 1) := by decide +kernel
theorem dX8_isLike_35 : decode cX8_isLike 35 = .ok (.getfield 9, 3) := by decide +kernel
theorem dX8_isLike_38 : decode cX8_isLike 38 = .ok (.iload_n 2, 1) := by decide +kernel
theorem dX8_isLike_39 : decode cX8_isLike 39 = .ok (.laload, 1) := by decide +kernel
theorem dX8_isLike_40 : decode cX8_isLike 40 = .ok (.aload_n 1, 1) := by decide +kernel
theorem dX8_isLike_41 : decode cX8_isLike 41 = .ok (.getfield 9, 3) := by decide +kernel
theorem dX8_isLike_44 : decode cX8_isLike 44 = .ok (.iload_n 2, 1) := by decide +kernel
theorem dX8_isLike_45 : decode cX8_isLike 45 = .ok (.laload, 1) := by decide +kernel
theorem dX8_isLike_46 : decode cX8_isLike 46 = .ok (.lcmp, 1) := by decide +kernel
theorem dX8_isLike_47 : decode cX8_isLike 47 = .ok (.ifCond .eq 5, 3) := by decide +kernel
theorem dX8_isLike_50 : decode cX8_isLike 50 = .ok (.iconst 0, 1) := by decide +kernel
theorem dX8_isLike_51 : decode cX8_isLike 51 = .ok (.ireturn, 1) := by decide +kernel
noncomputable def p_X8_isLike (Y : rx_Y) : rx_P := [(0, rx_ld 2 0 1), (1, rx_get 8 1 4), (4, rx_ld 2 1 5), (5, rx_get 8 1 8), (8, rx_br (rx_cmp Y 5) 22 11), (11, rx_ld 2 0 12), (12, rx_get 8 0 15), (15, rx_ld 2 1 16), (16, rx_get 8 0 19), (19, rx_br (rx_cmp Y 4) 24 22), (24, rx_pure (rx_push (.int 0)) 25), (25, rx_st 0 2 26 3), (26, rx_ld 0 2 27), (27, rx_ld 2 0 28), (28, rx_get 8 1 31), (31, rx_br (rx_cmp Y 1) 58 34), (34, rx_ld 2 0 35), (35, rx_get 8 2 38), (38, rx_ld 0 2 39), (39, rx_ald 1 1 40), (40, rx_ld 2 1 41), (41, rx_get 8 2 44), (44, rx_ld 0 2 45), (45, rx_ald 1 1 46), (46, rx_pure rx_lcmp 47), (47, rx_br (rx_cm0 Y 4) 52 50), (50, rx_pure (rx_push (.int 0)) 51), (51, rx_retv .boolean 0 0)]
noncomputable def m_X8_isLike (Y : rx_Y) : rx_M := (yX8_isLike, cX8_isLike, 3, (some .boolean), { frames := 0, cells := 0, slots := 0, locals := 0 }, p_X8_isLike Y)
theorem hd_X8_isLike : yX8_isLike.cls ≠ "java/lang/invoke/MethodHandle" ∧ yX8_isLike.cls ≠ "java/lang/invoke/VarHandle" ∧ (parseMethodDescriptor yX8_isLike.desc).map (fun d => d.parameters.length) = some 1 := by decide +kernel
abbrev cX8_leastPower : ByteArray := prog_10_method_9_code
def yX8_leastPower : MethodName := ⟨"SeedBench$Share", "leastPower", "(I)I"⟩
theorem dX8_leastPower_0 : decode cX8_leastPower 0 = .ok (.aload_n 0, 1) := by decide +kernel
theorem dX8_leastPower_1 : decode cX8_leastPower 1 = .ok (.getfield 23, 3) := by decide +kernel
theorem dX8_leastPower_4 : decode cX8_leastPower 4 = .ok (.ifCond .le 12, 3) := by decide +kernel
theorem dX8_leastPower_7 : decode cX8_leastPower 7 = .ok (.aload_n 0, 1) := by decide +kernel
theorem dX8_leastPower_8 : decode cX8_leastPower 8 = .ok (.getfield 15, 3) := by decide +kernel
theorem dX8_leastPower_11 : decode cX8_leastPower 11 = .ok (.iload_n 1, 1) := by decide +kernel
theorem dX8_leastPower_12 : decode cX8_leastPower 12 = .ok (.iaload, 1) := by decide +kernel
theorem dX8_leastPower_13 : decode cX8_leastPower 13 = .ok (.goto 4, 3) := by decide +kernel
theorem dX8_leastPower_17 : decode cX8_leastPower 17 = .ok (.istore_n 2, 1) := by decide +kernel
theorem dX8_leastPower_18 : decode cX8_leastPower 18 = .ok (.iconst 1, 1) := by decide +kernel
theorem dX8_leastPower_19 : decode cX8_leastPower 19 = .ok (.istore_n 3, 1) := by decide +kernel
theorem dX8_leastPower_20 : decode cX8_leastPower 20 = .ok (.iload_n 3, 1) := by decide +kernel
theorem dX8_leastPower_21 : decode cX8_leastPower 21 = .ok (.aload_n 0, 1) := by decide +kernel
theorem dX8_leastPower_22 : decode cX8_leastPower 22 = .ok (.getfield 23, 3) := by decide +kernel
theorem dX8_leastPower_25 : decode cX8_leastPower 25 = .ok (.if_icmp .ge 27, 3) := by decide +kernel
theorem dX8_leastPower_52 : decode cX8_leastPower 52 = .ok (.iload_n 2, 1) := by decide +kernel
theorem dX8_leastPower_53 : decode cX8_leastPower 53 = .ok (.ireturn, 1) := by decide +kernel
noncomputable def p_X8_leastPower (Y : rx_Y) : rx_P := [(0, rx_ld 2 0 1), (1, rx_get 8 1 4), (4, rx_br (rx_cm0 Y 3) 16 7), (7, rx_ld 2 0 8), (8, rx_get 8 3 11), (11, rx_ld 0 1 12), (12, rx_ald 0 0 13), (13, rx_br rx_goto 17 16), (17, rx_st 0 2 18 4), (18, rx_pure (rx_push (.int 1)) 19), (19, rx_st 0 3 20 4), (20, rx_ld 0 3 21), (21, rx_ld 2 0 22), (22, rx_get 8 1 25), (25, rx_br (rx_cmp Y 1) 52 28), (52, rx_ld 0 2 53), (53, rx_retv .int 0 0)]
noncomputable def m_X8_leastPower (Y : rx_Y) : rx_M := (yX8_leastPower, cX8_leastPower, 4, (some .int), { frames := 0, cells := 0, slots := 0, locals := 0 }, p_X8_leastPower Y)
theorem hd_X8_leastPower : yX8_leastPower.cls ≠ "java/lang/invoke/MethodHandle" ∧ yX8_leastPower.cls ≠ "java/lang/invoke/VarHandle" ∧ (parseMethodDescriptor yX8_leastPower.desc).map (fun d => d.parameters.length) = some 1 := by decide +kernel
abbrev cX8_sum : ByteArray := prog_10_method_10_code
def yX8_sum : MethodName := ⟨"SeedBench$Share", "sum", "()J"⟩
theorem dX8_sum_0 : decode cX8_sum 0 = .ok (.lconst 0, 1) := by decide +kernel
theorem dX8_sum_1 : decode cX8_sum 1 = .ok (.lstore_n 1, 1) := by decide +kernel
theorem dX8_sum_2 : decode cX8_sum 2 = .ok (.iconst 0, 1) := by decide +kernel
theorem dX8_sum_3 : decode cX8_sum 3 = .ok (.istore_n 3, 1) := by decide +kernel
theorem dX8_sum_4 : decode cX8_sum 4 = .ok (.iload_n 3, 1) := by decide +kernel
theorem dX8_sum_5 : decode cX8_sum 5 = .ok (.aload_n 0, 1) := by decide +kernel
theorem dX8_sum_6 : decode cX8_sum 6 = .ok (.getfield 23, 3) := by decide +kernel
theorem dX8_sum_9 : decode cX8_sum 9 = .ok (.if_icmp .ge 18, 3) := by decide +kernel
theorem dX8_sum_12 : decode cX8_sum 12 = .ok (.lload_n 1, 1) := by decide +kernel
theorem dX8_sum_13 : decode cX8_sum 13 = .ok (.aload_n 0, 1) := by decide +kernel
theorem dX8_sum_14 : decode cX8_sum 14 = .ok (.getfield 9, 3) := by decide +kernel
theorem dX8_sum_17 : decode cX8_sum 17 = .ok (.iload_n 3, 1) := by decide +kernel
theorem dX8_sum_18 : decode cX8_sum 18 = .ok (.laload, 1) := by decide +kernel
theorem dX8_sum_19 : decode cX8_sum 19 = .ok (.ladd, 1) := by decide +kernel
theorem dX8_sum_20 : decode cX8_sum 20 = .ok (.lstore_n 1, 1) := by decide +kernel
theorem dX8_sum_21 : decode cX8_sum 21 = .ok (.iinc 3 1, 3) := by decide +kernel
theorem dX8_sum_24 : decode cX8_sum 24 = .ok (.goto (-20), 3) := by decide +kernel
theorem dX8_sum_27 : decode cX8_sum 27 = .ok (.lload_n 1, 1) := by decide +kernel
theorem dX8_sum_28 : decode cX8_sum 28 = .ok (.lreturn, 1) := by decide +kernel
noncomputable def p_X8_sum (Y : rx_Y) : rx_P := [(0, rx_pure (rx_push (.long 0)) 1), (1, rx_st 1 1 2 4), (2, rx_pure (rx_push (.int 0)) 3), (3, rx_st 0 3 4 4), (4, rx_ld 0 3 5), (5, rx_ld 2 0 6), (6, rx_get 8 1 9), (9, rx_br (rx_cmp Y 1) 27 12), (12, rx_ld 1 1 13), (13, rx_ld 2 0 14), (14, rx_get 8 2 17), (17, rx_ld 0 3 18), (18, rx_ald 1 1 19), (19, rx_pure (rx_lb (fun x y => x + y)) 20), (20, rx_st 1 1 21 4), (21, rx_inc 3 1 24 4), (24, rx_br rx_goto 4 27), (27, rx_ld 1 1 28), (28, rx_retv .long 0 0)]
noncomputable def m_X8_sum (Y : rx_Y) : rx_M := (yX8_sum, cX8_sum, 4, (some .long), { frames := 0, cells := 0, slots := 0, locals := 0 }, p_X8_sum Y)
theorem hd_X8_sum : yX8_sum.cls ≠ "java/lang/invoke/MethodHandle" ∧ yX8_sum.cls ≠ "java/lang/invoke/VarHandle" ∧ (parseMethodDescriptor yX8_sum.desc).map (fun d => d.parameters.length) = some 0 := by decide +kernel
abbrev cX9_all : ByteArray := prog_1_method_15_code
def yX9_all : MethodName := ⟨"SeedBench", "all", "()I"⟩
theorem dX9_all_0 : decode cX9_all 0 = .ok (.aload_n 0, 1) := by decide +kernel
theorem dX9_all_1 : decode cX9_all 1 = .ok (.getfield 47, 3) := by decide +kernel
theorem dX9_all_4 : decode cX9_all 4 = .ok (.aload_n 0, 1) := by decide +kernel
theorem dX9_all_5 : decode cX9_all 5 = .ok (.getfield 12, 3) := by decide +kernel
theorem dX9_all_8 : decode cX9_all 8 = .ok (.aload_n 0, 1) := by decide +kernel
theorem dX9_all_9 : decode cX9_all 9 = .ok (.getfield 26, 3) := by decide +kernel
theorem dX9_all_12 : decode cX9_all 12 = .ok (.invokevirtual 168, 3) := by decide +kernel
theorem dX9_all_15 : decode cX9_all 15 = .ok (.istore_n 1, 1) := by decide +kernel
theorem dX9_all_16 : decode cX9_all 16 = .ok (.aload_n 0, 1) := by decide +kernel
theorem dX9_all_17 : decode cX9_all 17 = .ok (.iload_n 1, 1) := by decide +kernel
theorem dX9_all_18 : decode cX9_all 18 = .ok (.iconst 0, 1) := by decide +kernel
theorem dX9_all_19 : decode cX9_all 19 = .ok (.invokestatic 172, 3) := by decide +kernel
theorem dX9_all_22 : decode cX9_all 22 = .ok (.putfield 178, 3) := by decide +kernel
theorem dX9_all_25 : decode cX9_all 25 = .ok (.iload_n 1, 1) := by decide +kernel
theorem dX9_all_26 : decode cX9_all 26 = .ok (.ireturn, 1) := by decide +kernel
noncomputable def p_X9_all (Y : rx_Y) : rx_P := [(0, rx_ld 2 0 1), (1, rx_get 9 9 4), (4, rx_ld 2 0 5), (5, rx_get 9 0 8), (8, rx_ld 2 0 9), (9, rx_get 9 2 12), (12, rx_cl 5 3 0 true 0 0 0 0 15), (15, rx_st 0 1 16 2), (16, rx_ld 2 0 17), (17, rx_ld 0 1 18), (18, rx_pure (rx_push (.int 0)) 19), (19, rx_m2 rx_max 0 0 164 22), (22, rx_putf 9 10 .int 25), (25, rx_ld 0 1 26), (26, rx_retv .int 0 0)]
noncomputable def m_X9_all (Y : rx_Y) : rx_M := (yX9_all, cX9_all, 2, (some .int), { frames := 6, cells := 0, slots := 0, locals := 164 }, p_X9_all Y)
theorem hd_X9_all : yX9_all.cls ≠ "java/lang/invoke/MethodHandle" ∧ yX9_all.cls ≠ "java/lang/invoke/VarHandle" ∧ (parseMethodDescriptor yX9_all.desc).map (fun d => d.parameters.length) = some 0 := by decide +kernel
abbrev cX9_arrows : ByteArray := prog_1_method_3_code
def yX9_arrows : MethodName := ⟨"SeedBench", "arrows", "(III)Z"⟩
theorem dX9_arrows_0 : decode cX9_arrows 0 = .ok (.aload_n 0, 1) := by decide +kernel
theorem dX9_arrows_1 : decode cX9_arrows 1 = .ok (.getfield 19, 3) := by decide +kernel
theorem dX9_arrows_4 : decode cX9_arrows 4 = .ok (.getfield 95, 3) := by decide +kernel
theorem dX9_arrows_7 : decode cX9_arrows 7 = .ok (.aload_n 0, 1) := by decide +kernel
theorem dX9_arrows_8 : decode cX9_arrows 8 = .ok (.getfield 19, 3) := by decide +kernel
theorem dX9_arrows_11 : decode cX9_arrows 11 = .ok (.getfield 99, 3) := by decide +kernel
theorem dX9_arrows_14 : decode cX9_arrows 14 = .ok (.iload_n 1, 1) := by decide +kernel
theorem dX9_arrows_15 : decode cX9_arrows 15 = .ok (.iload_n 2, 1) := by decide +kernel
theorem dX9_arrows_16 : decode cX9_arrows 16 = .ok (.invokestatic 102, 3) := by decide +kernel
theorem dX9_arrows_19 : decode cX9_arrows 19 = .ok (.ifCond .eq 15, 3) := by decide +kernel
theorem dX9_arrows_34 : decode cX9_arrows 34 = .ok (.iconst 0, 1) := by decide +kernel
theorem dX9_arrows_35 : decode cX9_arrows 35 = .ok (.ireturn, 1) := by decide +kernel
noncomputable def p_X9_arrows (Y : rx_Y) : rx_P := [(0, rx_ld 2 0 1), (1, rx_get 9 1 4), (4, rx_get 2 0 7), (7, rx_ld 2 0 8), (8, rx_get 9 1 11), (11, rx_get 2 1 14), (14, rx_ld 0 1 15), (15, rx_ld 0 2 16), (16, rx_cl 71 4 0 false 0 0 0 0 19), (19, rx_br (rx_cm0 Y 4) 34 22), (34, rx_pure (rx_push (.int 0)) 35), (35, rx_retv .boolean 0 0)]
noncomputable def m_X9_arrows (Y : rx_Y) : rx_M := (yX9_arrows, cX9_arrows, 4, (some .boolean), { frames := 1, cells := 0, slots := 0, locals := 23 }, p_X9_arrows Y)
theorem hd_X9_arrows : yX9_arrows.cls ≠ "java/lang/invoke/MethodHandle" ∧ yX9_arrows.cls ≠ "java/lang/invoke/VarHandle" ∧ (parseMethodDescriptor yX9_arrows.desc).map (fun d => d.parameters.length) = some 3 := by decide +kernel
abbrev cX9_b : ByteArray := prog_1_method_8_code
def yX9_b : MethodName := ⟨"SeedBench", "b", "(II)I"⟩
theorem dX9_b_0 : decode cX9_b 0 = .ok (.aload_n 0, 1) := by decide +kernel
theorem dX9_b_1 : decode cX9_b 1 = .ok (.getfield 12, 3) := by decide +kernel
theorem dX9_b_4 : decode cX9_b 4 = .ok (.getfield 137, 3) := by decide +kernel
theorem dX9_b_7 : decode cX9_b 7 = .ok (.aload_n 0, 1) := by decide +kernel
theorem dX9_b_8 : decode cX9_b 8 = .ok (.getfield 12, 3) := by decide +kernel
theorem dX9_b_11 : decode cX9_b 11 = .ok (.getfield 138, 3) := by decide +kernel
theorem dX9_b_14 : decode cX9_b 14 = .ok (.iload_n 1, 1) := by decide +kernel
theorem dX9_b_15 : decode cX9_b 15 = .ok (.iload_n 2, 1) := by decide +kernel
theorem dX9_b_16 : decode cX9_b 16 = .ok (.invokestatic 102, 3) := by decide +kernel
theorem dX9_b_19 : decode cX9_b 19 = .ok (.ifCond .eq 20, 3) := by decide +kernel
theorem dX9_b_22 : decode cX9_b 22 = .ok (.aload_n 0, 1) := by decide +kernel
theorem dX9_b_23 : decode cX9_b 23 = .ok (.getfield 12, 3) := by decide +kernel
theorem dX9_b_26 : decode cX9_b 26 = .ok (.getfield 139, 3) := by decide +kernel
theorem dX9_b_29 : decode cX9_b 29 = .ok (.iload_n 1, 1) := by decide +kernel
theorem dX9_b_30 : decode cX9_b 30 = .ok (.bipush 6, 2) := by decide +kernel
theorem dX9_b_32 : decode cX9_b 32 = .ok (.imul, 1) := by decide +kernel
theorem dX9_b_33 : decode cX9_b 33 = .ok (.iload_n 2, 1) := by decide +kernel
theorem dX9_b_34 : decode cX9_b 34 = .ok (.iadd, 1) := by decide +kernel
theorem dX9_b_35 : decode cX9_b 35 = .ok (.iaload, 1) := by decide +kernel
theorem dX9_b_36 : decode cX9_b 36 = .ok (.goto 4, 3) := by decide +kernel
theorem dX9_b_39 : decode cX9_b 39 = .ok (.iconst 0, 1) := by decide +kernel
theorem dX9_b_40 : decode cX9_b 40 = .ok (.ireturn, 1) := by decide +kernel
noncomputable def p_X9_b (Y : rx_Y) : rx_P := [(0, rx_ld 2 0 1), (1, rx_get 9 0 4), (4, rx_get 7 0 7), (7, rx_ld 2 0 8), (8, rx_get 9 0 11), (11, rx_get 7 1 14), (14, rx_ld 0 1 15), (15, rx_ld 0 2 16), (16, rx_cl 71 4 0 false 0 0 0 0 19), (19, rx_br (rx_cm0 Y 4) 39 22), (22, rx_ld 2 0 23), (23, rx_get 9 0 26), (26, rx_get 7 2 29), (29, rx_ld 0 1 30), (30, rx_pure (rx_push (.int 6)) 32), (32, rx_pure (rx_bi (fun x y => x * y)) 33), (33, rx_ld 0 2 34), (34, rx_pure (rx_bi (fun x y => x + y)) 35), (35, rx_ald 0 0 36), (36, rx_br rx_goto 40 39), (39, rx_pure (rx_push (.int 0)) 40), (40, rx_retv .int 0 0)]
noncomputable def m_X9_b (Y : rx_Y) : rx_M := (yX9_b, cX9_b, 3, (some .int), { frames := 1, cells := 0, slots := 0, locals := 23 }, p_X9_b Y)
theorem hd_X9_b : yX9_b.cls ≠ "java/lang/invoke/MethodHandle" ∧ yX9_b.cls ≠ "java/lang/invoke/VarHandle" ∧ (parseMethodDescriptor yX9_b.desc).map (fun d => d.parameters.length) = some 2 := by decide +kernel
abbrev cX9_back : ByteArray := prog_1_method_7_code
def yX9_back : MethodName := ⟨"SeedBench", "back", "()Z"⟩
theorem dX9_back_0 : decode cX9_back 0 = .ok (.aload_n 0, 1) := by decide +kernel
theorem dX9_back_1 : decode cX9_back 1 = .ok (.getfield 121, 3) := by decide +kernel
theorem dX9_back_4 : decode cX9_back 4 = .ok (.iconst 1, 1) := by decide +kernel
theorem dX9_back_5 : decode cX9_back 5 = .ok (.if_icmp .lt 12, 3) := by decide +kernel
theorem dX9_back_17 : decode cX9_back 17 = .ok (.iconst 0, 1) := by decide +kernel
theorem dX9_back_18 : decode cX9_back 18 = .ok (.ireturn, 1) := by decide +kernel
noncomputable def p_X9_back (Y : rx_Y) : rx_P := [(0, rx_ld 2 0 1), (1, rx_get 9 4 4), (4, rx_pure (rx_push (.int 1)) 5), (5, rx_br (rx_cmp Y 0) 17 8), (17, rx_pure (rx_push (.int 0)) 18), (18, rx_retv .boolean 0 0)]
noncomputable def m_X9_back (Y : rx_Y) : rx_M := (yX9_back, cX9_back, 2, (some .boolean), { frames := 0, cells := 0, slots := 0, locals := 0 }, p_X9_back Y)
theorem hd_X9_back : yX9_back.cls ≠ "java/lang/invoke/MethodHandle" ∧ yX9_back.cls ≠ "java/lang/invoke/VarHandle" ∧ (parseMethodDescriptor yX9_back.desc).map (fun d => d.parameters.length) = some 0 := by decide +kernel
abbrev cX9_begin : ByteArray := prog_1_method_4_code
def yX9_begin : MethodName := ⟨"SeedBench", "begin", "()I"⟩
theorem dX9_begin_0 : decode cX9_begin 0 = .ok (.aload_n 0, 1) := by decide +kernel
theorem dX9_begin_1 : decode cX9_begin 1 = .ok (.getfield 19, 3) := by decide +kernel
theorem dX9_begin_4 : decode cX9_begin 4 = .ok (.getfield 95, 3) := by decide +kernel
theorem dX9_begin_7 : decode cX9_begin 7 = .ok (.ifCond .ne 5, 3) := by decide +kernel
theorem dX9_begin_10 : decode cX9_begin 10 = .ok (.iconst (-1), 1) := by decide +kernel
theorem dX9_begin_11 : decode cX9_begin 11 = .ok (.ireturn, 1) := by decide +kernel
noncomputable def p_X9_begin (Y : rx_Y) : rx_P := [(0, rx_ld 2 0 1), (1, rx_get 9 1 4), (4, rx_get 2 0 7), (7, rx_br (rx_cm0 Y 5) 12 10), (10, rx_pure (rx_push (.int (-1))) 11), (11, rx_retv .int 0 0)]
noncomputable def m_X9_begin (Y : rx_Y) : rx_M := (yX9_begin, cX9_begin, 2, (some .int), { frames := 0, cells := 0, slots := 0, locals := 0 }, p_X9_begin Y)
theorem hd_X9_begin : yX9_begin.cls ≠ "java/lang/invoke/MethodHandle" ∧ yX9_begin.cls ≠ "java/lang/invoke/VarHandle" ∧ (parseMethodDescriptor yX9_begin.desc).map (fun d => d.parameters.length) = some 0 := by decide +kernel
abbrev cX9_count : ByteArray := prog_1_method_30_code
def yX9_count : MethodName := ⟨"SeedBench", "count", "(I)I"⟩
theorem dX9_count_0 : decode cX9_count 0 = .ok (.iload_n 1, 1) := by decide +kernel
theorem dX9_count_1 : decode cX9_count 1 = .ok (.tableswitch 69 0 4 #[35, 43, 51, 56, 64], 35) := by decide +kernel
theorem dX9_count_36 : decode cX9_count 36 = .ok (.aload_n 0, 1) := by decide +kernel
theorem dX9_count_37 : decode cX9_count 37 = .ok (.getfield 12, 3) := by decide +kernel
theorem dX9_count_40 : decode cX9_count 40 = .ok (.getfield 137, 3) := by decide +kernel
theorem dX9_count_43 : decode cX9_count 43 = .ok (.ireturn, 1) := by decide +kernel
theorem dX9_count_44 : decode cX9_count 44 = .ok (.aload_n 0, 1) := by decide +kernel
theorem dX9_count_45 : decode cX9_count 45 = .ok (.getfield 12, 3) := by decide +kernel
theorem dX9_count_48 : decode cX9_count 48 = .ok (.getfield 138, 3) := by decide +kernel
theorem dX9_count_51 : decode cX9_count 51 = .ok (.ireturn, 1) := by decide +kernel
theorem dX9_count_52 : decode cX9_count 52 = .ok (.aload_n 0, 1) := by decide +kernel
theorem dX9_count_53 : decode cX9_count 53 = .ok (.getfield 121, 3) := by decide +kernel
theorem dX9_count_56 : decode cX9_count 56 = .ok (.ireturn, 1) := by decide +kernel
theorem dX9_count_57 : decode cX9_count 57 = .ok (.aload_n 0, 1) := by decide +kernel
theorem dX9_count_58 : decode cX9_count 58 = .ok (.getfield 12, 3) := by decide +kernel
theorem dX9_count_61 : decode cX9_count 61 = .ok (.invokevirtual 272, 3) := by decide +kernel
theorem dX9_count_64 : decode cX9_count 64 = .ok (.ireturn, 1) := by decide +kernel
theorem dX9_count_65 : decode cX9_count 65 = .ok (.aload_n 0, 1) := by decide +kernel
theorem dX9_count_66 : decode cX9_count 66 = .ok (.getfield 178, 3) := by decide +kernel
theorem dX9_count_69 : decode cX9_count 69 = .ok (.ireturn, 1) := by decide +kernel
theorem dX9_count_70 : decode cX9_count 70 = .ok (.iconst (-1), 1) := by decide +kernel
theorem dX9_count_71 : decode cX9_count 71 = .ok (.ireturn, 1) := by decide +kernel
noncomputable def p_X9_count (Y : rx_Y) : rx_P := [(0, rx_ld 0 1 1), (1, rx_sw Y 0 4 [36, 44, 52, 57, 65] 70), (36, rx_ld 2 0 37), (37, rx_get 9 0 40), (40, rx_get 7 0 43), (43, rx_retv .int 0 0), (44, rx_ld 2 0 45), (45, rx_get 9 0 48), (48, rx_get 7 1 51), (51, rx_retv .int 0 0), (52, rx_ld 2 0 53), (53, rx_get 9 4 56), (56, rx_retv .int 0 0), (57, rx_ld 2 0 58), (58, rx_get 9 0 61), (61, rx_cl 45 1 7 true 0 0 0 0 64), (64, rx_retv .int 0 0), (65, rx_ld 2 0 66), (66, rx_get 9 10 69), (69, rx_retv .int 0 0), (70, rx_pure (rx_push (.int (-1))) 71), (71, rx_retv .int 0 0)]
noncomputable def m_X9_count (Y : rx_Y) : rx_M := (yX9_count, cX9_count, 2, (some .int), { frames := 1, cells := 0, slots := 0, locals := 22 }, p_X9_count Y)
theorem hd_X9_count : yX9_count.cls ≠ "java/lang/invoke/MethodHandle" ∧ yX9_count.cls ≠ "java/lang/invoke/VarHandle" ∧ (parseMethodDescriptor yX9_count.desc).map (fun d => d.parameters.length) = some 1 := by decide +kernel
abbrev cX9_fence : ByteArray := prog_1_method_23_code
def yX9_fence : MethodName := ⟨"SeedBench", "fence", "(III)I"⟩
theorem dX9_fence_0 : decode cX9_fence 0 = .ok (.iload_n 1, 1) := by decide +kernel
theorem dX9_fence_1 : decode cX9_fence 1 = .ok (.invokestatic 211, 3) := by decide +kernel
theorem dX9_fence_4 : decode cX9_fence 4 = .ok (.ifCond .ne 5, 3) := by decide +kernel
theorem dX9_fence_7 : decode cX9_fence 7 = .ok (.iconst (-1), 1) := by decide +kernel
theorem dX9_fence_8 : decode cX9_fence 8 = .ok (.ireturn, 1) := by decide +kernel
theorem dX9_fence_9 : decode cX9_fence 9 = .ok (.aload_n 0, 1) := by decide +kernel
theorem dX9_fence_10 : decode cX9_fence 10 = .ok (.getfield 67, 3) := by decide +kernel
theorem dX9_fence_13 : decode cX9_fence 13 = .ok (.iload_n 1, 1) := by decide +kernel
theorem dX9_fence_14 : decode cX9_fence 14 = .ok (.aaload, 1) := by decide +kernel
theorem dX9_fence_15 : decode cX9_fence 15 = .ok (.astore 4, 2) := by decide +kernel
theorem dX9_fence_17 : decode cX9_fence 17 = .ok (.aload 4, 2) := by decide +kernel
theorem dX9_fence_19 : decode cX9_fence 19 = .ok (.iload_n 2, 1) := by decide +kernel
theorem dX9_fence_20 : decode cX9_fence 20 = .ok (.invokevirtual 221, 3) := by decide +kernel
theorem dX9_fence_23 : decode cX9_fence 23 = .ok (.ifCond .eq 27, 3) := by decide +kernel
theorem dX9_fence_26 : decode cX9_fence 26 = .ok (.aload 4, 2) := by decide +kernel
theorem dX9_fence_28 : decode cX9_fence 28 = .ok (.iload_n 3, 1) := by decide +kernel
theorem dX9_fence_29 : decode cX9_fence 29 = .ok (.invokevirtual 221, 3) := by decide +kernel
theorem dX9_fence_32 : decode cX9_fence 32 = .ok (.ifCond .eq 18, 3) := by decide +kernel
theorem dX9_fence_35 : decode cX9_fence 35 = .ok (.iload_n 2, 1) := by decide +kernel
theorem dX9_fence_36 : decode cX9_fence 36 = .ok (.iload_n 3, 1) := by decide +kernel
theorem dX9_fence_37 : decode cX9_fence 37 = .ok (.if_icmp .eq 13, 3) := by decide +kernel
theorem dX9_fence_40 : decode cX9_fence 40 = .ok (.aload 4, 2) := by decide +kernel
theorem dX9_fence_42 : decode cX9_fence 42 = .ok (.iload_n 2, 1) := by decide +kernel
theorem dX9_fence_43 : decode cX9_fence 43 = .ok (.iload_n 3, 1) := by decide +kernel
theorem dX9_fence_44 : decode cX9_fence 44 = .ok (.invokevirtual 224, 3) := by decide +kernel
theorem dX9_fence_47 : decode cX9_fence 47 = .ok (.ifCond .eq 5, 3) := by decide +kernel
theorem dX9_fence_50 : decode cX9_fence 50 = .ok (.iconst (-1), 1) := by decide +kernel
theorem dX9_fence_51 : decode cX9_fence 51 = .ok (.ireturn, 1) := by decide +kernel
theorem dX9_fence_52 : decode cX9_fence 52 = .ok (.aload 4, 2) := by decide +kernel
theorem dX9_fence_54 : decode cX9_fence 54 = .ok (.iload_n 2, 1) := by decide +kernel
theorem dX9_fence_55 : decode cX9_fence 55 = .ok (.iload_n 3, 1) := by decide +kernel
theorem dX9_fence_56 : decode cX9_fence 56 = .ok (.invokevirtual 228, 3) := by decide +kernel
theorem dX9_fence_59 : decode cX9_fence 59 = .ok (.ifCond .ne 21, 3) := by decide +kernel
theorem dX9_fence_62 : decode cX9_fence 62 = .ok (.aload 4, 2) := by decide +kernel
theorem dX9_fence_64 : decode cX9_fence 64 = .ok (.iload_n 2, 1) := by decide +kernel
theorem dX9_fence_65 : decode cX9_fence 65 = .ok (.iload_n 3, 1) := by decide +kernel
theorem dX9_fence_66 : decode cX9_fence 66 = .ok (.invokestatic 231, 3) := by decide +kernel
theorem dX9_fence_69 : decode cX9_fence 69 = .ok (.iload_n 2, 1) := by decide +kernel
theorem dX9_fence_70 : decode cX9_fence 70 = .ok (.iload_n 3, 1) := by decide +kernel
theorem dX9_fence_71 : decode cX9_fence 71 = .ok (.invokestatic 172, 3) := by decide +kernel
theorem dX9_fence_74 : decode cX9_fence 74 = .ok (.invokevirtual 234, 3) := by decide +kernel
theorem dX9_fence_77 : decode cX9_fence 77 = .ok (.ifCond .eq 5, 3) := by decide +kernel
theorem dX9_fence_82 : decode cX9_fence 82 = .ok (.aload 4, 2) := by decide +kernel
theorem dX9_fence_84 : decode cX9_fence 84 = .ok (.dup, 1) := by decide +kernel
theorem dX9_fence_85 : decode cX9_fence 85 = .ok (.getfield 217, 3) := by decide +kernel
theorem dX9_fence_88 : decode cX9_fence 88 = .ok (.iload_n 2, 1) := by decide +kernel
theorem dX9_fence_89 : decode cX9_fence 89 = .ok (.iload_n 3, 1) := by decide +kernel
theorem dX9_fence_90 : decode cX9_fence 90 = .ok (.invokestatic 237, 3) := by decide +kernel
theorem dX9_fence_93 : decode cX9_fence 93 = .ok (.lor, 1) := by decide +kernel
theorem dX9_fence_94 : decode cX9_fence 94 = .ok (.putfield 217, 3) := by decide +kernel
theorem dX9_fence_97 : decode cX9_fence 97 = .ok (.aload 4, 2) := by decide +kernel
theorem dX9_fence_99 : decode cX9_fence 99 = .ok (.invokevirtual 240, 3) := by decide +kernel
theorem dX9_fence_102 : decode cX9_fence 102 = .ok (.ireturn, 1) := by decide +kernel
noncomputable def p_X9_fence (Y : rx_Y) : rx_P := [(0, rx_ld 0 1 1), (1, rx_cl 73 1 0 false 0 0 0 0 4), (4, rx_br (rx_cm0 Y 5) 9 7), (7, rx_pure (rx_push (.int (-1))) 8), (8, rx_retv .int 0 0), (9, rx_ld 2 0 10), (10, rx_get 9 13 13), (13, rx_ld 0 1 14), (14, rx_ald 3 2 15), (15, rx_st 2 4 17 5), (17, rx_ld 2 4 19), (19, rx_ld 0 2 20), (20, rx_cl 40 2 6 true 0 0 0 0 23), (23, rx_br (rx_cm0 Y 4) 50 26), (26, rx_ld 2 4 28), (28, rx_ld 0 3 29), (29, rx_cl 40 2 6 true 0 0 0 0 32), (32, rx_br (rx_cm0 Y 4) 50 35), (35, rx_ld 0 2 36), (36, rx_ld 0 3 37), (37, rx_br (rx_cmp Y 4) 50 40), (40, rx_ld 2 4 42), (42, rx_ld 0 2 43), (43, rx_ld 0 3 44), (44, rx_cl 34 3 6 true 0 0 0 0 47), (47, rx_br (rx_cm0 Y 4) 52 50), (50, rx_pure (rx_push (.int (-1))) 51), (51, rx_retv .int 0 0), (52, rx_ld 2 4 54), (54, rx_ld 0 2 55), (55, rx_ld 0 3 56), (56, rx_cl 38 3 6 true 0 0 0 0 59), (59, rx_br (rx_cm0 Y 5) 80 62), (62, rx_ld 2 4 64), (64, rx_ld 0 2 65), (65, rx_ld 0 3 66), (66, rx_m2 rx_min 0 0 69 69), (69, rx_ld 0 2 70), (70, rx_ld 0 3 71), (71, rx_m2 rx_max 0 0 69 74), (74, rx_cl 41 3 6 true 0 0 0 0 77), (77, rx_br (rx_cm0 Y 4) 82 80), (82, rx_ld 2 4 84), (84, rx_pure rx_dup 85), (85, rx_get 6 1 88), (88, rx_ld 0 2 89), (89, rx_ld 0 3 90), (90, rx_cl 35 2 0 false 0 0 0 0 93), (93, rx_pure (rx_lb (fun x y => x ||| y)) 94), (94, rx_putf 6 1 .long 97), (97, rx_ld 2 4 99), (99, rx_cl 37 1 6 true 0 0 0 0 102), (102, rx_retv .int 0 0)]
noncomputable def m_X9_fence (Y : rx_Y) : rx_M := (yX9_fence, cX9_fence, 5, (some .int), { frames := 3, cells := 0, slots := 0, locals := 69 }, p_X9_fence Y)
theorem hd_X9_fence : yX9_fence.cls ≠ "java/lang/invoke/MethodHandle" ∧ yX9_fence.cls ≠ "java/lang/invoke/VarHandle" ∧ (parseMethodDescriptor yX9_fence.desc).map (fun d => d.parameters.length) = some 3 := by decide +kernel
abbrev cX9_finite : ByteArray := prog_1_method_17_code
def yX9_finite : MethodName := ⟨"SeedBench", "finite", "()I"⟩
theorem dX9_finite_0 : decode cX9_finite 0 = .ok (.aload_n 0, 1) := by decide +kernel
theorem dX9_finite_1 : decode cX9_finite 1 = .ok (.getfield 61, 3) := by decide +kernel
theorem dX9_finite_4 : decode cX9_finite 4 = .ok (.aload_n 0, 1) := by decide +kernel
theorem dX9_finite_5 : decode cX9_finite 5 = .ok (.getfield 12, 3) := by decide +kernel
theorem dX9_finite_8 : decode cX9_finite 8 = .ok (.getfield 139, 3) := by decide +kernel
theorem dX9_finite_11 : decode cX9_finite 11 = .ok (.aload_n 0, 1) := by decide +kernel
theorem dX9_finite_12 : decode cX9_finite 12 = .ok (.getfield 12, 3) := by decide +kernel
theorem dX9_finite_15 : decode cX9_finite 15 = .ok (.getfield 137, 3) := by decide +kernel
theorem dX9_finite_18 : decode cX9_finite 18 = .ok (.aload_n 0, 1) := by decide +kernel
theorem dX9_finite_19 : decode cX9_finite 19 = .ok (.getfield 54, 3) := by decide +kernel
theorem dX9_finite_22 : decode cX9_finite 22 = .ok (.invokevirtual 185, 3) := by decide +kernel
theorem dX9_finite_25 : decode cX9_finite 25 = .ok (.ireturn, 1) := by decide +kernel
noncomputable def p_X9_finite (Y : rx_Y) : rx_P := [(0, rx_ld 2 0 1), (1, rx_get 9 12 4), (4, rx_ld 2 0 5), (5, rx_get 9 0 8), (8, rx_get 7 2 11), (11, rx_ld 2 0 12), (12, rx_get 9 0 15), (15, rx_get 7 0 18), (18, rx_ld 2 0 19), (19, rx_get 9 11 22), (22, rx_cl 23 4 4 true 0 0 0 0 25), (25, rx_retv .int 0 0)]
noncomputable def m_X9_finite (Y : rx_Y) : rx_M := (yX9_finite, cX9_finite, 1, (some .int), { frames := 3, cells := 0, slots := 0, locals := 80 }, p_X9_finite Y)
theorem hd_X9_finite : yX9_finite.cls ≠ "java/lang/invoke/MethodHandle" ∧ yX9_finite.cls ≠ "java/lang/invoke/VarHandle" ∧ (parseMethodDescriptor yX9_finite.desc).map (fun d => d.parameters.length) = some 0 := by decide +kernel
abbrev cX9_flip : ByteArray := prog_1_method_24_code
def yX9_flip : MethodName := ⟨"SeedBench", "flip", "(III)I"⟩
theorem dX9_flip_0 : decode cX9_flip 0 = .ok (.iload_n 1, 1) := by decide +kernel
theorem dX9_flip_1 : decode cX9_flip 1 = .ok (.invokestatic 211, 3) := by decide +kernel
theorem dX9_flip_4 : decode cX9_flip 4 = .ok (.ifCond .eq 15, 3) := by decide +kernel
theorem dX9_flip_7 : decode cX9_flip 7 = .ok (.aload_n 0, 1) := by decide +kernel
theorem dX9_flip_8 : decode cX9_flip 8 = .ok (.getfield 67, 3) := by decide +kernel
theorem dX9_flip_11 : decode cX9_flip 11 = .ok (.iload_n 1, 1) := by decide +kernel
theorem dX9_flip_12 : decode cX9_flip 12 = .ok (.aaload, 1) := by decide +kernel
theorem dX9_flip_13 : decode cX9_flip 13 = .ok (.invokevirtual 243, 3) := by decide +kernel
theorem dX9_flip_16 : decode cX9_flip 16 = .ok (.ifCond .ne 5, 3) := by decide +kernel
theorem dX9_flip_19 : decode cX9_flip 19 = .ok (.iconst (-1), 1) := by decide +kernel
theorem dX9_flip_20 : decode cX9_flip 20 = .ok (.ireturn, 1) := by decide +kernel
noncomputable def p_X9_flip (Y : rx_Y) : rx_P := [(0, rx_ld 0 1 1), (1, rx_cl 73 1 0 false 0 0 0 0 4), (4, rx_br (rx_cm0 Y 4) 19 7), (7, rx_ld 2 0 8), (8, rx_get 9 13 11), (11, rx_ld 0 1 12), (12, rx_ald 3 2 13), (13, rx_cl 42 1 6 true 0 0 0 0 16), (16, rx_br (rx_cm0 Y 5) 21 19), (19, rx_pure (rx_push (.int (-1))) 20), (20, rx_retv .int 0 0)]
noncomputable def m_X9_flip (Y : rx_Y) : rx_M := (yX9_flip, cX9_flip, 6, (some .int), { frames := 3, cells := 0, slots := 0, locals := 61 }, p_X9_flip Y)
theorem hd_X9_flip : yX9_flip.cls ≠ "java/lang/invoke/MethodHandle" ∧ yX9_flip.cls ≠ "java/lang/invoke/VarHandle" ∧ (parseMethodDescriptor yX9_flip.desc).map (fun d => d.parameters.length) = some 3 := by decide +kernel
abbrev cX9_frieze : ByteArray := prog_1_method_26_code
def yX9_frieze : MethodName := ⟨"SeedBench", "frieze", "(III)J"⟩
theorem dX9_frieze_0 : decode cX9_frieze 0 = .ok (.iload_n 1, 1) := by decide +kernel
theorem dX9_frieze_1 : decode cX9_frieze 1 = .ok (.invokestatic 211, 3) := by decide +kernel
theorem dX9_frieze_4 : decode cX9_frieze 4 = .ok (.ifCond .eq 28, 3) := by decide +kernel
theorem dX9_frieze_7 : decode cX9_frieze 7 = .ok (.aload_n 0, 1) := by decide +kernel
theorem dX9_frieze_8 : decode cX9_frieze 8 = .ok (.getfield 67, 3) := by decide +kernel
theorem dX9_frieze_11 : decode cX9_frieze 11 = .ok (.iload_n 1, 1) := by decide +kernel
theorem dX9_frieze_12 : decode cX9_frieze 12 = .ok (.aaload, 1) := by decide +kernel
theorem dX9_frieze_13 : decode cX9_frieze 13 = .ok (.invokevirtual 243, 3) := by decide +kernel
theorem dX9_frieze_16 : decode cX9_frieze 16 = .ok (.ifCond .eq 16, 3) := by decide +kernel
theorem dX9_frieze_32 : decode cX9_frieze 32 = .ok (.lconst 0, 1) := by decide +kernel
theorem dX9_frieze_33 : decode cX9_frieze 33 = .ok (.lreturn, 1) := by decide +kernel
noncomputable def p_X9_frieze (Y : rx_Y) : rx_P := [(0, rx_ld 0 1 1), (1, rx_cl 73 1 0 false 0 0 0 0 4), (4, rx_br (rx_cm0 Y 4) 32 7), (7, rx_ld 2 0 8), (8, rx_get 9 13 11), (11, rx_ld 0 1 12), (12, rx_ald 3 2 13), (13, rx_cl 42 1 6 true 0 0 0 0 16), (16, rx_br (rx_cm0 Y 4) 32 19), (32, rx_pure (rx_push (.long 0)) 33), (33, rx_retv .long 0 0)]
noncomputable def m_X9_frieze (Y : rx_Y) : rx_M := (yX9_frieze, cX9_frieze, 4, (some .long), { frames := 3, cells := 0, slots := 0, locals := 61 }, p_X9_frieze Y)
theorem hd_X9_frieze : yX9_frieze.cls ≠ "java/lang/invoke/MethodHandle" ∧ yX9_frieze.cls ≠ "java/lang/invoke/VarHandle" ∧ (parseMethodDescriptor yX9_frieze.desc).map (fun d => d.parameters.length) = some 3 := by decide +kernel
abbrev cX9_goes : ByteArray := prog_1_method_28_code
def yX9_goes : MethodName := ⟨"SeedBench", "goes", "(I)I"⟩
theorem dX9_goes_0 : decode cX9_goes 0 = .ok (.iload_n 1, 1) := by decide +kernel
theorem dX9_goes_1 : decode cX9_goes 1 = .ok (.ifCond .lt 14, 3) := by decide +kernel
theorem dX9_goes_4 : decode cX9_goes 4 = .ok (.iload_n 1, 1) := by decide +kernel
theorem dX9_goes_5 : decode cX9_goes 5 = .ok (.aload_n 0, 1) := by decide +kernel
theorem dX9_goes_6 : decode cX9_goes 6 = .ok (.getfield 74, 3) := by decide +kernel
theorem dX9_goes_9 : decode cX9_goes 9 = .ok (.getfield 262, 3) := by decide +kernel
theorem dX9_goes_12 : decode cX9_goes 12 = .ok (.if_icmp .lt 7, 3) := by decide +kernel
theorem dX9_goes_15 : decode cX9_goes 15 = .ok (.iconst (-1), 1) := by decide +kernel
theorem dX9_goes_16 : decode cX9_goes 16 = .ok (.goto 12, 3) := by decide +kernel
theorem dX9_goes_28 : decode cX9_goes 28 = .ok (.ireturn, 1) := by decide +kernel
noncomputable def p_X9_goes (Y : rx_Y) : rx_P := [(0, rx_ld 0 1 1), (1, rx_br (rx_cm0 Y 0) 15 4), (4, rx_ld 0 1 5), (5, rx_ld 2 0 6), (6, rx_get 9 14 9), (9, rx_get 3 0 12), (12, rx_br (rx_cmp Y 0) 19 15), (15, rx_pure (rx_push (.int (-1))) 16), (16, rx_br rx_goto 28 19), (28, rx_retv .int 0 0)]
noncomputable def m_X9_goes (Y : rx_Y) : rx_M := (yX9_goes, cX9_goes, 2, (some .int), { frames := 0, cells := 0, slots := 0, locals := 0 }, p_X9_goes Y)
theorem hd_X9_goes : yX9_goes.cls ≠ "java/lang/invoke/MethodHandle" ∧ yX9_goes.cls ≠ "java/lang/invoke/VarHandle" ∧ (parseMethodDescriptor yX9_goes.desc).map (fun d => d.parameters.length) = some 1 := by decide +kernel
abbrev cX9_init : ByteArray := prog_1_method_1_code
def yX9_init : MethodName := ⟨"SeedBench", "<init>", "()V"⟩
theorem dX9_init_0 : decode cX9_init 0 = .ok (.aload_n 0, 1) := by decide +kernel
theorem dX9_init_1 : decode cX9_init 1 = .ok (.invokespecial 3, 3) := by decide +kernel
theorem dX9_init_4 : decode cX9_init 4 = .ok (.aload_n 0, 1) := by decide +kernel
theorem dX9_init_5 : decode cX9_init 5 = .ok (.new 9, 3) := by decide +kernel
theorem dX9_init_8 : decode cX9_init 8 = .ok (.dup, 1) := by decide +kernel
theorem dX9_init_9 : decode cX9_init 9 = .ok (.invokespecial 11, 3) := by decide +kernel
theorem dX9_init_12 : decode cX9_init 12 = .ok (.putfield 12, 3) := by decide +kernel
theorem dX9_init_15 : decode cX9_init 15 = .ok (.aload_n 0, 1) := by decide +kernel
theorem dX9_init_16 : decode cX9_init 16 = .ok (.new 16, 3) := by decide +kernel
theorem dX9_init_19 : decode cX9_init 19 = .ok (.dup, 1) := by decide +kernel
theorem dX9_init_20 : decode cX9_init 20 = .ok (.invokespecial 18, 3) := by decide +kernel
theorem dX9_init_23 : decode cX9_init 23 = .ok (.putfield 19, 3) := by decide +kernel
theorem dX9_init_26 : decode cX9_init 26 = .ok (.aload_n 0, 1) := by decide +kernel
theorem dX9_init_27 : decode cX9_init 27 = .ok (.new 23, 3) := by decide +kernel
theorem dX9_init_30 : decode cX9_init 30 = .ok (.dup, 1) := by decide +kernel
theorem dX9_init_31 : decode cX9_init 31 = .ok (.invokespecial 25, 3) := by decide +kernel
theorem dX9_init_34 : decode cX9_init 34 = .ok (.putfield 26, 3) := by decide +kernel
theorem dX9_init_37 : decode cX9_init 37 = .ok (.aload_n 0, 1) := by decide +kernel
theorem dX9_init_38 : decode cX9_init 38 = .ok (.bipush 100, 2) := by decide +kernel
theorem dX9_init_40 : decode cX9_init 40 = .ok (.newarray .int, 2) := by decide +kernel
theorem dX9_init_42 : decode cX9_init 42 = .ok (.putfield 30, 3) := by decide +kernel
theorem dX9_init_45 : decode cX9_init 45 = .ok (.aload_n 0, 1) := by decide +kernel
theorem dX9_init_46 : decode cX9_init 46 = .ok (.iconst 4, 1) := by decide +kernel
theorem dX9_init_47 : decode cX9_init 47 = .ok (.anewarray 9, 3) := by decide +kernel
theorem dX9_init_50 : decode cX9_init 50 = .ok (.putfield 34, 3) := by decide +kernel
theorem dX9_init_53 : decode cX9_init 53 = .ok (.aload_n 0, 1) := by decide +kernel
theorem dX9_init_54 : decode cX9_init 54 = .ok (.bipush 12, 2) := by decide +kernel
theorem dX9_init_56 : decode cX9_init 56 = .ok (.newarray .int, 2) := by decide +kernel
theorem dX9_init_58 : decode cX9_init 58 = .ok (.putfield 38, 3) := by decide +kernel
theorem dX9_init_61 : decode cX9_init 61 = .ok (.aload_n 0, 1) := by decide +kernel
theorem dX9_init_62 : decode cX9_init 62 = .ok (.new 9, 3) := by decide +kernel
theorem dX9_init_65 : decode cX9_init 65 = .ok (.dup, 1) := by decide +kernel
theorem dX9_init_66 : decode cX9_init 66 = .ok (.invokespecial 11, 3) := by decide +kernel
theorem dX9_init_69 : decode cX9_init 69 = .ok (.putfield 41, 3) := by decide +kernel
theorem dX9_init_72 : decode cX9_init 72 = .ok (.aload_n 0, 1) := by decide +kernel
theorem dX9_init_73 : decode cX9_init 73 = .ok (.new 44, 3) := by decide +kernel
theorem dX9_init_76 : decode cX9_init 76 = .ok (.dup, 1) := by decide +kernel
theorem dX9_init_77 : decode cX9_init 77 = .ok (.invokespecial 46, 3) := by decide +kernel
theorem dX9_init_80 : decode cX9_init 80 = .ok (.putfield 47, 3) := by decide +kernel
theorem dX9_init_83 : decode cX9_init 83 = .ok (.aload_n 0, 1) := by decide +kernel
theorem dX9_init_84 : decode cX9_init 84 = .ok (.new 51, 3) := by decide +kernel
theorem dX9_init_87 : decode cX9_init 87 = .ok (.dup, 1) := by decide +kernel
theorem dX9_init_88 : decode cX9_init 88 = .ok (.invokespecial 53, 3) := by decide +kernel
theorem dX9_init_91 : decode cX9_init 91 = .ok (.putfield 54, 3) := by decide +kernel
theorem dX9_init_94 : decode cX9_init 94 = .ok (.aload_n 0, 1) := by decide +kernel
theorem dX9_init_95 : decode cX9_init 95 = .ok (.new 58, 3) := by decide +kernel
theorem dX9_init_98 : decode cX9_init 98 = .ok (.dup, 1) := by decide +kernel
theorem dX9_init_99 : decode cX9_init 99 = .ok (.invokespecial 60, 3) := by decide +kernel
theorem dX9_init_102 : decode cX9_init 102 = .ok (.putfield 61, 3) := by decide +kernel
theorem dX9_init_105 : decode cX9_init 105 = .ok (.aload_n 0, 1) := by decide +kernel
theorem dX9_init_106 : decode cX9_init 106 = .ok (.iconst 2, 1) := by decide +kernel
theorem dX9_init_107 : decode cX9_init 107 = .ok (.anewarray 65, 3) := by decide +kernel
theorem dX9_init_110 : decode cX9_init 110 = .ok (.putfield 67, 3) := by decide +kernel
theorem dX9_init_113 : decode cX9_init 113 = .ok (.aload_n 0, 1) := by decide +kernel
theorem dX9_init_114 : decode cX9_init 114 = .ok (.new 71, 3) := by decide +kernel
theorem dX9_init_117 : decode cX9_init 117 = .ok (.dup, 1) := by decide +kernel
theorem dX9_init_118 : decode cX9_init 118 = .ok (.invokespecial 73, 3) := by decide +kernel
theorem dX9_init_121 : decode cX9_init 121 = .ok (.putfield 74, 3) := by decide +kernel
theorem dX9_init_124 : decode cX9_init 124 = .ok (.aload_n 0, 1) := by decide +kernel
theorem dX9_init_125 : decode cX9_init 125 = .ok (.getfield 12, 3) := by decide +kernel
theorem dX9_init_128 : decode cX9_init 128 = .ok (.iconst 1, 1) := by decide +kernel
theorem dX9_init_129 : decode cX9_init 129 = .ok (.iconst 0, 1) := by decide +kernel
theorem dX9_init_130 : decode cX9_init 130 = .ok (.aload_n 0, 1) := by decide +kernel
theorem dX9_init_131 : decode cX9_init 131 = .ok (.getfield 19, 3) := by decide +kernel
theorem dX9_init_134 : decode cX9_init 134 = .ok (.getfield 78, 3) := by decide +kernel
theorem dX9_init_137 : decode cX9_init 137 = .ok (.aload_n 0, 1) := by decide +kernel
theorem dX9_init_138 : decode cX9_init 138 = .ok (.getfield 19, 3) := by decide +kernel
theorem dX9_init_141 : decode cX9_init 141 = .ok (.getfield 81, 3) := by decide +kernel
theorem dX9_init_144 : decode cX9_init 144 = .ok (.invokevirtual 85, 3) := by decide +kernel
theorem dX9_init_147 : decode cX9_init 147 = .ok (.aload_n 0, 1) := by decide +kernel
theorem dX9_init_148 : decode cX9_init 148 = .ok (.getfield 12, 3) := by decide +kernel
theorem dX9_init_151 : decode cX9_init 151 = .ok (.getfield 89, 3) := by decide +kernel
theorem dX9_init_154 : decode cX9_init 154 = .ok (.iconst 0, 1) := by decide +kernel
theorem dX9_init_155 : decode cX9_init 155 = .ok (.lconst 1, 1) := by decide +kernel
theorem dX9_init_156 : decode cX9_init 156 = .ok (.lastore, 1) := by decide +kernel
theorem dX9_init_157 : decode cX9_init 157 = .ok (.iconst 0, 1) := by decide +kernel
theorem dX9_init_158 : decode cX9_init 158 = .ok (.istore_n 1, 1) := by decide +kernel
theorem dX9_init_159 : decode cX9_init 159 = .ok (.iload_n 1, 1) := by decide +kernel
theorem dX9_init_160 : decode cX9_init 160 = .ok (.iconst 4, 1) := by decide +kernel
theorem dX9_init_161 : decode cX9_init 161 = .ok (.if_icmp .ge 22, 3) := by decide +kernel
theorem dX9_init_164 : decode cX9_init 164 = .ok (.aload_n 0, 1) := by decide +kernel
theorem dX9_init_165 : decode cX9_init 165 = .ok (.getfield 34, 3) := by decide +kernel
theorem dX9_init_168 : decode cX9_init 168 = .ok (.iload_n 1, 1) := by decide +kernel
theorem dX9_init_169 : decode cX9_init 169 = .ok (.new 9, 3) := by decide +kernel
theorem dX9_init_172 : decode cX9_init 172 = .ok (.dup, 1) := by decide +kernel
theorem dX9_init_173 : decode cX9_init 173 = .ok (.invokespecial 11, 3) := by decide +kernel
theorem dX9_init_176 : decode cX9_init 176 = .ok (.aastore, 1) := by decide +kernel
theorem dX9_init_177 : decode cX9_init 177 = .ok (.iinc 1 1, 3) := by decide +kernel
theorem dX9_init_180 : decode cX9_init 180 = .ok (.goto (-21), 3) := by decide +kernel
theorem dX9_init_183 : decode cX9_init 183 = .ok (.iconst 0, 1) := by decide +kernel
theorem dX9_init_184 : decode cX9_init 184 = .ok (.istore_n 1, 1) := by decide +kernel
theorem dX9_init_185 : decode cX9_init 185 = .ok (.iload_n 1, 1) := by decide +kernel
theorem dX9_init_186 : decode cX9_init 186 = .ok (.iconst 2, 1) := by decide +kernel
theorem dX9_init_187 : decode cX9_init 187 = .ok (.if_icmp .ge 22, 3) := by decide +kernel
theorem dX9_init_190 : decode cX9_init 190 = .ok (.aload_n 0, 1) := by decide +kernel
theorem dX9_init_191 : decode cX9_init 191 = .ok (.getfield 67, 3) := by decide +kernel
theorem dX9_init_194 : decode cX9_init 194 = .ok (.iload_n 1, 1) := by decide +kernel
theorem dX9_init_195 : decode cX9_init 195 = .ok (.new 65, 3) := by decide +kernel
theorem dX9_init_198 : decode cX9_init 198 = .ok (.dup, 1) := by decide +kernel
theorem dX9_init_199 : decode cX9_init 199 = .ok (.invokespecial 90, 3) := by decide +kernel
theorem dX9_init_202 : decode cX9_init 202 = .ok (.aastore, 1) := by decide +kernel
theorem dX9_init_203 : decode cX9_init 203 = .ok (.iinc 1 1, 3) := by decide +kernel
theorem dX9_init_206 : decode cX9_init 206 = .ok (.goto (-21), 3) := by decide +kernel
theorem dX9_init_209 : decode cX9_init 209 = .ok (.return_, 1) := by decide +kernel
noncomputable def p_X9_init (Y : rx_Y) : rx_P := [(0, rx_ld 2 0 1), (1, rx_obj 74 4), (4, rx_ld 2 0 5), (5, rx_new 7 fs_X7 513 421477 8), (8, rx_pure rx_dup 9), (9, rx_cl 47 1 7 true 22 15714 513 421477 12), (12, rx_putf 9 0 (.object "SeedBench$Seed") 15), (15, rx_ld 2 0 16), (16, rx_new 2 fs_X2 513 421477 19), (19, rx_pure rx_dup 20), (20, rx_cl 18 1 2 true 3 84 513 421477 23), (23, rx_putf 9 1 (.object "SeedBench$Draft") 26), (26, rx_ld 2 0 27), (27, rx_new 5 fs_X5 513 421477 30), (30, rx_pure rx_dup 31), (31, rx_cl 30 1 5 true 17 13044 513 421477 34), (34, rx_putf 9 2 (.object "SeedBench$Mill") 37), (37, rx_ld 2 0 38), (38, rx_pure (rx_push (.int 100)) 40), (40, rx_nwa 0 513 421477 42), (42, rx_putf 9 3 (.array .int) 45), (45, rx_ld 2 0 46), (46, rx_pure (rx_push (.int 4)) 47), (47, rx_nwa 4 513 421477 50), (50, rx_putf 9 5 (.array (.object "SeedBench$Seed")) 53), (53, rx_ld 2 0 54), (54, rx_pure (rx_push (.int 12)) 56), (56, rx_nwa 0 513 421477 58), (58, rx_putf 9 6 (.array .int) 61), (61, rx_ld 2 0 62), (62, rx_new 7 fs_X7 513 421477 65), (65, rx_pure rx_dup 66), (66, rx_cl 47 1 7 true 22 15714 513 421477 69), (69, rx_putf 9 8 (.object "SeedBench$Seed") 72), (72, rx_ld 2 0 73), (73, rx_new 0 fs_X0 513 421477 76), (76, rx_pure rx_dup 77), (77, rx_cl 7 1 0 true 334 290532 513 421477 80), (80, rx_putf 9 9 (.object "SeedBench$Atlas") 83), (83, rx_ld 2 0 84), (84, rx_new 1 fs_X1 513 421477 87), (87, rx_pure rx_dup 88), (88, rx_cl 16 1 1 true 5 20192 513 421477 91), (91, rx_putf 9 11 (.object "SeedBench$Book") 94), (94, rx_ld 2 0 95), (95, rx_new 4 fs_X4 513 421477 98), (98, rx_pure rx_dup 99), (99, rx_cl 21 1 4 true 2 3072 513 421477 102), (102, rx_putf 9 12 (.object "SeedBench$Kinds") 105), (105, rx_ld 2 0 106), (106, rx_pure (rx_push (.int 2)) 107), (107, rx_nwa 3 513 421477 110), (110, rx_putf 9 13 (.array (.object "SeedBench$Ring")) 113), (113, rx_ld 2 0 114), (114, rx_new 3 fs_X3 513 421477 117), (117, rx_pure rx_dup 118), (118, rx_cl 20 1 3 true 2 66 513 421477 121), (121, rx_putf 9 14 (.object "SeedBench$Guide") 124), (124, rx_ld 2 0 125), (125, rx_get 9 0 128), (128, rx_pure (rx_push (.int 1)) 129), (129, rx_pure (rx_push (.int 0)) 130), (130, rx_ld 2 0 131), (131, rx_get 9 1 134), (134, rx_get 2 2 137), (137, rx_ld 2 0 138), (138, rx_get 9 1 141), (141, rx_get 2 3 144), (144, rx_cl 48 5 7 true 0 0 513 421477 147), (147, rx_ld 2 0 148), (148, rx_get 9 0 151), (151, rx_get 7 3 154), (154, rx_pure (rx_push (.int 0)) 155), (155, rx_pure (rx_push (.long 1)) 156), (156, rx_ast Y 1 .long 157), (157, rx_pure (rx_push (.int 0)) 158), (158, rx_st 0 1 159 2), (159, rx_ld 0 1 160), (160, rx_pure (rx_push (.int 4)) 161), (161, rx_br (rx_cmp Y 1) 183 164), (164, rx_ld 2 0 165), (165, rx_get 9 5 168), (168, rx_ld 0 1 169), (169, rx_new 7 fs_X7 513 421477 172), (172, rx_pure rx_dup 173), (173, rx_cl 47 1 7 true 22 15714 513 421477 176), (176, rx_asq 4 7 177), (177, rx_inc 1 1 180 2), (180, rx_br rx_goto 159 183), (183, rx_pure (rx_push (.int 0)) 184), (184, rx_st 0 1 185 2), (185, rx_ld 0 1 186), (186, rx_pure (rx_push (.int 2)) 187), (187, rx_br (rx_cmp Y 1) 209 190), (190, rx_ld 2 0 191), (191, rx_get 9 13 194), (194, rx_ld 0 1 195), (195, rx_new 6 fs_X6 513 421477 198), (198, rx_pure rx_dup 199), (199, rx_cl 39 1 6 true 0 0 513 421477 202), (202, rx_asq 3 6 203), (203, rx_inc 1 1 206 2), (206, rx_br rx_goto 185 209), (209, rx_ret0 513 421477)]
noncomputable def m_X9_init (Y : rx_Y) : rx_M := (yX9_init, cX9_init, 2, none, { frames := 4, cells := 513, slots := 421477, locals := 74 }, p_X9_init Y)
theorem hd_X9_init : yX9_init.cls ≠ "java/lang/invoke/MethodHandle" ∧ yX9_init.cls ≠ "java/lang/invoke/VarHandle" ∧ (parseMethodDescriptor yX9_init.desc).map (fun d => d.parameters.length) = some 0 := by decide +kernel
abbrev cX9_isCell : ByteArray := prog_1_method_32_code
def yX9_isCell : MethodName := ⟨"SeedBench", "isCell", "(IIII)Z"⟩
theorem dX9_isCell_0 : decode cX9_isCell 0 = .ok (.iload_n 2, 1) := by decide +kernel
theorem dX9_isCell_1 : decode cX9_isCell 1 = .ok (.ifCond .lt 23, 3) := by decide +kernel
theorem dX9_isCell_4 : decode cX9_isCell 4 = .ok (.iload_n 2, 1) := by decide +kernel
theorem dX9_isCell_5 : decode cX9_isCell 5 = .ok (.iload_n 0, 1) := by decide +kernel
theorem dX9_isCell_6 : decode cX9_isCell 6 = .ok (.iload_n 1, 1) := by decide +kernel
theorem dX9_isCell_7 : decode cX9_isCell 7 = .ok (.iadd, 1) := by decide +kernel
theorem dX9_isCell_8 : decode cX9_isCell 8 = .ok (.if_icmp .ge 16, 3) := by decide +kernel
theorem dX9_isCell_11 : decode cX9_isCell 11 = .ok (.iload_n 3, 1) := by decide +kernel
theorem dX9_isCell_12 : decode cX9_isCell 12 = .ok (.ifCond .lt 12, 3) := by decide +kernel
theorem dX9_isCell_15 : decode cX9_isCell 15 = .ok (.iload_n 3, 1) := by decide +kernel
theorem dX9_isCell_16 : decode cX9_isCell 16 = .ok (.iload_n 0, 1) := by decide +kernel
theorem dX9_isCell_17 : decode cX9_isCell 17 = .ok (.if_icmp .ge 7, 3) := by decide +kernel
theorem dX9_isCell_20 : decode cX9_isCell 20 = .ok (.iconst 1, 1) := by decide +kernel
theorem dX9_isCell_21 : decode cX9_isCell 21 = .ok (.goto 4, 3) := by decide +kernel
theorem dX9_isCell_24 : decode cX9_isCell 24 = .ok (.iconst 0, 1) := by decide +kernel
theorem dX9_isCell_25 : decode cX9_isCell 25 = .ok (.ireturn, 1) := by decide +kernel
noncomputable def p_X9_isCell (Y : rx_Y) : rx_P := [(0, rx_ld 0 2 1), (1, rx_br (rx_cm0 Y 0) 24 4), (4, rx_ld 0 2 5), (5, rx_ld 0 0 6), (6, rx_ld 0 1 7), (7, rx_pure (rx_bi (fun x y => x + y)) 8), (8, rx_br (rx_cmp Y 1) 24 11), (11, rx_ld 0 3 12), (12, rx_br (rx_cm0 Y 0) 24 15), (15, rx_ld 0 3 16), (16, rx_ld 0 0 17), (17, rx_br (rx_cmp Y 1) 24 20), (20, rx_pure (rx_push (.int 1)) 21), (21, rx_br rx_goto 25 24), (24, rx_pure (rx_push (.int 0)) 25), (25, rx_retv .boolean 0 0)]
noncomputable def m_X9_isCell (Y : rx_Y) : rx_M := (yX9_isCell, cX9_isCell, 4, (some .boolean), { frames := 0, cells := 0, slots := 0, locals := 0 }, p_X9_isCell Y)
theorem hd_X9_isCell : yX9_isCell.cls ≠ "java/lang/invoke/MethodHandle" ∧ yX9_isCell.cls ≠ "java/lang/invoke/VarHandle" ∧ (parseMethodDescriptor yX9_isCell.desc).map (fun d => d.parameters.length) = some 4 := by decide +kernel
abbrev cX9_isPlace : ByteArray := prog_1_method_31_code
def yX9_isPlace : MethodName := ⟨"SeedBench", "isPlace", "(I)Z"⟩
theorem dX9_isPlace_0 : decode cX9_isPlace 0 = .ok (.iload_n 1, 1) := by decide +kernel
theorem dX9_isPlace_1 : decode cX9_isPlace 1 = .ok (.ifCond .lt 18, 3) := by decide +kernel
theorem dX9_isPlace_4 : decode cX9_isPlace 4 = .ok (.iload_n 1, 1) := by decide +kernel
theorem dX9_isPlace_5 : decode cX9_isPlace 5 = .ok (.aload_n 0, 1) := by decide +kernel
theorem dX9_isPlace_6 : decode cX9_isPlace 6 = .ok (.getfield 12, 3) := by decide +kernel
theorem dX9_isPlace_9 : decode cX9_isPlace 9 = .ok (.getfield 137, 3) := by decide +kernel
theorem dX9_isPlace_12 : decode cX9_isPlace 12 = .ok (.if_icmp .ge 7, 3) := by decide +kernel
theorem dX9_isPlace_15 : decode cX9_isPlace 15 = .ok (.iconst 1, 1) := by decide +kernel
theorem dX9_isPlace_16 : decode cX9_isPlace 16 = .ok (.goto 4, 3) := by decide +kernel
theorem dX9_isPlace_19 : decode cX9_isPlace 19 = .ok (.iconst 0, 1) := by decide +kernel
theorem dX9_isPlace_20 : decode cX9_isPlace 20 = .ok (.ireturn, 1) := by decide +kernel
noncomputable def p_X9_isPlace (Y : rx_Y) : rx_P := [(0, rx_ld 0 1 1), (1, rx_br (rx_cm0 Y 0) 19 4), (4, rx_ld 0 1 5), (5, rx_ld 2 0 6), (6, rx_get 9 0 9), (9, rx_get 7 0 12), (12, rx_br (rx_cmp Y 1) 19 15), (15, rx_pure (rx_push (.int 1)) 16), (16, rx_br rx_goto 20 19), (19, rx_pure (rx_push (.int 0)) 20), (20, rx_retv .boolean 0 0)]
noncomputable def m_X9_isPlace (Y : rx_Y) : rx_M := (yX9_isPlace, cX9_isPlace, 2, (some .boolean), { frames := 0, cells := 0, slots := 0, locals := 0 }, p_X9_isPlace Y)
theorem hd_X9_isPlace : yX9_isPlace.cls ≠ "java/lang/invoke/MethodHandle" ∧ yX9_isPlace.cls ≠ "java/lang/invoke/VarHandle" ∧ (parseMethodDescriptor yX9_isPlace.desc).map (fun d => d.parameters.length) = some 1 := by decide +kernel
abbrev cX9_isSlot : ByteArray := prog_1_method_33_code
def yX9_isSlot : MethodName := ⟨"SeedBench", "isSlot", "(I)Z"⟩
theorem dX9_isSlot_0 : decode cX9_isSlot 0 = .ok (.iload_n 0, 1) := by decide +kernel
theorem dX9_isSlot_1 : decode cX9_isSlot 1 = .ok (.ifCond .lt 12, 3) := by decide +kernel
theorem dX9_isSlot_4 : decode cX9_isSlot 4 = .ok (.iload_n 0, 1) := by decide +kernel
theorem dX9_isSlot_5 : decode cX9_isSlot 5 = .ok (.iconst 2, 1) := by decide +kernel
theorem dX9_isSlot_6 : decode cX9_isSlot 6 = .ok (.if_icmp .ge 7, 3) := by decide +kernel
theorem dX9_isSlot_9 : decode cX9_isSlot 9 = .ok (.iconst 1, 1) := by decide +kernel
theorem dX9_isSlot_10 : decode cX9_isSlot 10 = .ok (.goto 4, 3) := by decide +kernel
theorem dX9_isSlot_13 : decode cX9_isSlot 13 = .ok (.iconst 0, 1) := by decide +kernel
theorem dX9_isSlot_14 : decode cX9_isSlot 14 = .ok (.ireturn, 1) := by decide +kernel
noncomputable def p_X9_isSlot (Y : rx_Y) : rx_P := [(0, rx_ld 0 0 1), (1, rx_br (rx_cm0 Y 0) 13 4), (4, rx_ld 0 0 5), (5, rx_pure (rx_push (.int 2)) 6), (6, rx_br (rx_cmp Y 1) 13 9), (9, rx_pure (rx_push (.int 1)) 10), (10, rx_br rx_goto 14 13), (13, rx_pure (rx_push (.int 0)) 14), (14, rx_retv .boolean 0 0)]
noncomputable def m_X9_isSlot (Y : rx_Y) : rx_M := (yX9_isSlot, cX9_isSlot, 1, (some .boolean), { frames := 0, cells := 0, slots := 0, locals := 0 }, p_X9_isSlot Y)
theorem hd_X9_isSlot : yX9_isSlot.cls ≠ "java/lang/invoke/MethodHandle" ∧ yX9_isSlot.cls ≠ "java/lang/invoke/VarHandle" ∧ (parseMethodDescriptor yX9_isSlot.desc).map (fun d => d.parameters.length) = some 1 := by decide +kernel
abbrev cX9_isTableTurnable : ByteArray := prog_1_method_37_code
def yX9_isTableTurnable : MethodName := ⟨"SeedBench", "isTableTurnable", "([IIII)Z"⟩
theorem dX9_isTableTurnable_0 : decode cX9_isTableTurnable 0 = .ok (.iconst 0, 1) := by decide +kernel
theorem dX9_isTableTurnable_1 : decode cX9_isTableTurnable 1 = .ok (.istore 4, 2) := by decide +kernel
theorem dX9_isTableTurnable_3 : decode cX9_isTableTurnable 3 = .ok (.iload 4, 2) := by decide +kernel
theorem dX9_isTableTurnable_5 : decode cX9_isTableTurnable 5 = .ok (.iload_n 1, 1) := by decide +kernel
theorem dX9_isTableTurnable_6 : decode cX9_isTableTurnable 6 = .ok (.if_icmp .ge 56, 3) := by decide +kernel
theorem dX9_isTableTurnable_9 : decode cX9_isTableTurnable 9 = .ok (.iconst 0, 1) := by decide +kernel
theorem dX9_isTableTurnable_10 : decode cX9_isTableTurnable 10 = .ok (.istore 5, 2) := by decide +kernel
theorem dX9_isTableTurnable_12 : decode cX9_isTableTurnable 12 = .ok (.iload 5, 2) := by decide +kernel
theorem dX9_isTableTurnable_14 : decode cX9_isTableTurnable 14 = .ok (.iload_n 2, 1) := by decide +kernel
theorem dX9_isTableTurnable_15 : decode cX9_isTableTurnable 15 = .ok (.if_icmp .ge 41, 3) := by decide +kernel
theorem dX9_isTableTurnable_18 : decode cX9_isTableTurnable 18 = .ok (.iload 4, 2) := by decide +kernel
theorem dX9_isTableTurnable_20 : decode cX9_isTableTurnable 20 = .ok (.iload_n 3, 1) := by decide +kernel
theorem dX9_isTableTurnable_21 : decode cX9_isTableTurnable 21 = .ok (.if_icmp .eq 29, 3) := by decide +kernel
theorem dX9_isTableTurnable_50 : decode cX9_isTableTurnable 50 = .ok (.iinc 5 1, 3) := by decide +kernel
theorem dX9_isTableTurnable_53 : decode cX9_isTableTurnable 53 = .ok (.goto (-41), 3) := by decide +kernel
theorem dX9_isTableTurnable_56 : decode cX9_isTableTurnable 56 = .ok (.iinc 4 1, 3) := by decide +kernel
theorem dX9_isTableTurnable_59 : decode cX9_isTableTurnable 59 = .ok (.goto (-56), 3) := by decide +kernel
theorem dX9_isTableTurnable_62 : decode cX9_isTableTurnable 62 = .ok (.iconst 1, 1) := by decide +kernel
theorem dX9_isTableTurnable_63 : decode cX9_isTableTurnable 63 = .ok (.ireturn, 1) := by decide +kernel
noncomputable def p_X9_isTableTurnable (Y : rx_Y) : rx_P := [(0, rx_pure (rx_push (.int 0)) 1), (1, rx_st 0 4 3 6), (3, rx_ld 0 4 5), (5, rx_ld 0 1 6), (6, rx_br (rx_cmp Y 1) 62 9), (9, rx_pure (rx_push (.int 0)) 10), (10, rx_st 0 5 12 6), (12, rx_ld 0 5 14), (14, rx_ld 0 2 15), (15, rx_br (rx_cmp Y 1) 56 18), (18, rx_ld 0 4 20), (20, rx_ld 0 3 21), (21, rx_br (rx_cmp Y 4) 50 24), (50, rx_inc 5 1 53 6), (53, rx_br rx_goto 12 56), (56, rx_inc 4 1 59 6), (59, rx_br rx_goto 3 62), (62, rx_pure (rx_push (.int 1)) 63), (63, rx_retv .boolean 0 0)]
noncomputable def m_X9_isTableTurnable (Y : rx_Y) : rx_M := (yX9_isTableTurnable, cX9_isTableTurnable, 6, (some .boolean), { frames := 0, cells := 0, slots := 0, locals := 0 }, p_X9_isTableTurnable Y)
theorem hd_X9_isTableTurnable : yX9_isTableTurnable.cls ≠ "java/lang/invoke/MethodHandle" ∧ yX9_isTableTurnable.cls ≠ "java/lang/invoke/VarHandle" ∧ (parseMethodDescriptor yX9_isTableTurnable.desc).map (fun d => d.parameters.length) = some 4 := by decide +kernel
abbrev cX9_keep : ByteArray := prog_1_method_13_code
def yX9_keep : MethodName := ⟨"SeedBench", "keep", "(I)Z"⟩
theorem dX9_keep_0 : decode cX9_keep 0 = .ok (.iload_n 1, 1) := by decide +kernel
theorem dX9_keep_1 : decode cX9_keep 1 = .ok (.ifCond .lt 8, 3) := by decide +kernel
theorem dX9_keep_4 : decode cX9_keep 4 = .ok (.iload_n 1, 1) := by decide +kernel
theorem dX9_keep_5 : decode cX9_keep 5 = .ok (.iconst 4, 1) := by decide +kernel
theorem dX9_keep_6 : decode cX9_keep 6 = .ok (.if_icmp .lt 5, 3) := by decide +kernel
theorem dX9_keep_9 : decode cX9_keep 9 = .ok (.iconst 0, 1) := by decide +kernel
theorem dX9_keep_10 : decode cX9_keep 10 = .ok (.ireturn, 1) := by decide +kernel
theorem dX9_keep_11 : decode cX9_keep 11 = .ok (.aload_n 0, 1) := by decide +kernel
theorem dX9_keep_12 : decode cX9_keep 12 = .ok (.getfield 34, 3) := by decide +kernel
theorem dX9_keep_15 : decode cX9_keep 15 = .ok (.iload_n 1, 1) := by decide +kernel
theorem dX9_keep_16 : decode cX9_keep 16 = .ok (.aaload, 1) := by decide +kernel
theorem dX9_keep_17 : decode cX9_keep 17 = .ok (.aload_n 0, 1) := by decide +kernel
theorem dX9_keep_18 : decode cX9_keep 18 = .ok (.getfield 12, 3) := by decide +kernel
theorem dX9_keep_21 : decode cX9_keep 21 = .ok (.invokevirtual 160, 3) := by decide +kernel
theorem dX9_keep_24 : decode cX9_keep 24 = .ok (.iconst 1, 1) := by decide +kernel
theorem dX9_keep_25 : decode cX9_keep 25 = .ok (.ireturn, 1) := by decide +kernel
noncomputable def p_X9_keep (Y : rx_Y) : rx_P := [(0, rx_ld 0 1 1), (1, rx_br (rx_cm0 Y 0) 9 4), (4, rx_ld 0 1 5), (5, rx_pure (rx_push (.int 4)) 6), (6, rx_br (rx_cmp Y 0) 11 9), (9, rx_pure (rx_push (.int 0)) 10), (10, rx_retv .boolean 0 0), (11, rx_ld 2 0 12), (12, rx_get 9 5 15), (15, rx_ld 0 1 16), (16, rx_ald 4 2 17), (17, rx_ld 2 0 18), (18, rx_get 9 0 21), (21, rx_cl 46 2 7 true 0 0 0 0 24), (24, rx_pure (rx_push (.int 1)) 25), (25, rx_retv .boolean 0 0)]
noncomputable def m_X9_keep (Y : rx_Y) : rx_M := (yX9_keep, cX9_keep, 2, (some .boolean), { frames := 3, cells := 0, slots := 0, locals := 64 }, p_X9_keep Y)
theorem hd_X9_keep : yX9_keep.cls ≠ "java/lang/invoke/MethodHandle" ∧ yX9_keep.cls ≠ "java/lang/invoke/VarHandle" ∧ (parseMethodDescriptor yX9_keep.desc).map (fun d => d.parameters.length) = some 1 := by decide +kernel
abbrev cX9_least : ByteArray := prog_1_method_11_code
def yX9_least : MethodName := ⟨"SeedBench", "least", "(II)I"⟩
theorem dX9_least_0 : decode cX9_least 0 = .ok (.aload_n 0, 1) := by decide +kernel
theorem dX9_least_1 : decode cX9_least 1 = .ok (.iload_n 1, 1) := by decide +kernel
theorem dX9_least_2 : decode cX9_least 2 = .ok (.invokevirtual 113, 3) := by decide +kernel
theorem dX9_least_5 : decode cX9_least 5 = .ok (.ifCond .eq 35, 3) := by decide +kernel
theorem dX9_least_8 : decode cX9_least 8 = .ok (.aload_n 0, 1) := by decide +kernel
theorem dX9_least_9 : decode cX9_least 9 = .ok (.getfield 12, 3) := by decide +kernel
theorem dX9_least_12 : decode cX9_least 12 = .ok (.getfield 128, 3) := by decide +kernel
theorem dX9_least_15 : decode cX9_least 15 = .ok (.iload_n 1, 1) := by decide +kernel
theorem dX9_least_16 : decode cX9_least 16 = .ok (.aaload, 1) := by decide +kernel
theorem dX9_least_17 : decode cX9_least 17 = .ok (.iload_n 2, 1) := by decide +kernel
theorem dX9_least_18 : decode cX9_least 18 = .ok (.invokevirtual 143, 3) := by decide +kernel
theorem dX9_least_21 : decode cX9_least 21 = .ok (.ifCond .eq 19, 3) := by decide +kernel
theorem dX9_least_24 : decode cX9_least 24 = .ok (.aload_n 0, 1) := by decide +kernel
theorem dX9_least_25 : decode cX9_least 25 = .ok (.getfield 12, 3) := by decide +kernel
theorem dX9_least_28 : decode cX9_least 28 = .ok (.getfield 128, 3) := by decide +kernel
theorem dX9_least_31 : decode cX9_least 31 = .ok (.iload_n 1, 1) := by decide +kernel
theorem dX9_least_32 : decode cX9_least 32 = .ok (.aaload, 1) := by decide +kernel
theorem dX9_least_33 : decode cX9_least 33 = .ok (.iload_n 2, 1) := by decide +kernel
theorem dX9_least_34 : decode cX9_least 34 = .ok (.invokevirtual 152, 3) := by decide +kernel
theorem dX9_least_37 : decode cX9_least 37 = .ok (.goto 4, 3) := by decide +kernel
theorem dX9_least_40 : decode cX9_least 40 = .ok (.iconst 0, 1) := by decide +kernel
theorem dX9_least_41 : decode cX9_least 41 = .ok (.ireturn, 1) := by decide +kernel
noncomputable def p_X9_least (Y : rx_Y) : rx_P := [(0, rx_ld 2 0 1), (1, rx_ld 0 1 2), (2, rx_cl 72 2 9 true 0 0 0 0 5), (5, rx_br (rx_cm0 Y 4) 40 8), (8, rx_ld 2 0 9), (9, rx_get 9 0 12), (12, rx_get 7 4 15), (15, rx_ld 0 1 16), (16, rx_ald 5 2 17), (17, rx_ld 0 2 18), (18, rx_cl 54 2 8 true 0 0 0 0 21), (21, rx_br (rx_cm0 Y 4) 40 24), (24, rx_ld 2 0 25), (25, rx_get 9 0 28), (28, rx_get 7 4 31), (31, rx_ld 0 1 32), (32, rx_ald 5 2 33), (33, rx_ld 0 2 34), (34, rx_cl 57 2 8 true 0 0 0 0 37), (37, rx_br rx_goto 41 40), (40, rx_pure (rx_push (.int 0)) 41), (41, rx_retv .int 0 0)]
noncomputable def m_X9_least (Y : rx_Y) : rx_M := (yX9_least, cX9_least, 3, (some .int), { frames := 1, cells := 0, slots := 0, locals := 23 }, p_X9_least Y)
theorem hd_X9_least : yX9_least.cls ≠ "java/lang/invoke/MethodHandle" ∧ yX9_least.cls ≠ "java/lang/invoke/VarHandle" ∧ (parseMethodDescriptor yX9_least.desc).map (fun d => d.parameters.length) = some 2 := by decide +kernel
abbrev cX9_ones : ByteArray := prog_1_method_12_code
def yX9_ones : MethodName := ⟨"SeedBench", "ones", "(I)J"⟩
theorem dX9_ones_0 : decode cX9_ones 0 = .ok (.aload_n 0, 1) := by decide +kernel
theorem dX9_ones_1 : decode cX9_ones 1 = .ok (.iload_n 1, 1) := by decide +kernel
theorem dX9_ones_2 : decode cX9_ones 2 = .ok (.invokevirtual 113, 3) := by decide +kernel
theorem dX9_ones_5 : decode cX9_ones 5 = .ok (.ifCond .eq 18, 3) := by decide +kernel
theorem dX9_ones_8 : decode cX9_ones 8 = .ok (.aload_n 0, 1) := by decide +kernel
theorem dX9_ones_9 : decode cX9_ones 9 = .ok (.getfield 12, 3) := by decide +kernel
theorem dX9_ones_12 : decode cX9_ones 12 = .ok (.getfield 128, 3) := by decide +kernel
theorem dX9_ones_15 : decode cX9_ones 15 = .ok (.iload_n 1, 1) := by decide +kernel
theorem dX9_ones_16 : decode cX9_ones 16 = .ok (.aaload, 1) := by decide +kernel
theorem dX9_ones_17 : decode cX9_ones 17 = .ok (.invokevirtual 156, 3) := by decide +kernel
theorem dX9_ones_20 : decode cX9_ones 20 = .ok (.goto 4, 3) := by decide +kernel
theorem dX9_ones_23 : decode cX9_ones 23 = .ok (.lconst 0, 1) := by decide +kernel
theorem dX9_ones_24 : decode cX9_ones 24 = .ok (.lreturn, 1) := by decide +kernel
noncomputable def p_X9_ones (Y : rx_Y) : rx_P := [(0, rx_ld 2 0 1), (1, rx_ld 0 1 2), (2, rx_cl 72 2 9 true 0 0 0 0 5), (5, rx_br (rx_cm0 Y 4) 23 8), (8, rx_ld 2 0 9), (9, rx_get 9 0 12), (12, rx_get 7 4 15), (15, rx_ld 0 1 16), (16, rx_ald 5 2 17), (17, rx_cl 58 1 8 true 0 0 0 0 20), (20, rx_br rx_goto 24 23), (23, rx_pure (rx_push (.long 0)) 24), (24, rx_retv .long 0 0)]
noncomputable def m_X9_ones (Y : rx_Y) : rx_M := (yX9_ones, cX9_ones, 2, (some .long), { frames := 1, cells := 0, slots := 0, locals := 23 }, p_X9_ones Y)
theorem hd_X9_ones : yX9_ones.cls ≠ "java/lang/invoke/MethodHandle" ∧ yX9_ones.cls ≠ "java/lang/invoke/VarHandle" ∧ (parseMethodDescriptor yX9_ones.desc).map (fun d => d.parameters.length) = some 1 := by decide +kernel
abbrev cX9_order : ByteArray := prog_1_method_21_code
def yX9_order : MethodName := ⟨"SeedBench", "order", "()I"⟩
theorem dX9_order_0 : decode cX9_order 0 = .ok (.aload_n 0, 1) := by decide +kernel
theorem dX9_order_1 : decode cX9_order 1 = .ok (.getfield 198, 3) := by decide +kernel
theorem dX9_order_4 : decode cX9_order 4 = .ok (.ifCond .ne 5, 3) := by decide +kernel
theorem dX9_order_7 : decode cX9_order 7 = .ok (.iconst (-1), 1) := by decide +kernel
theorem dX9_order_8 : decode cX9_order 8 = .ok (.ireturn, 1) := by decide +kernel
noncomputable def p_X9_order (Y : rx_Y) : rx_P := [(0, rx_ld 2 0 1), (1, rx_get 9 7 4), (4, rx_br (rx_cm0 Y 5) 9 7), (7, rx_pure (rx_push (.int (-1))) 8), (8, rx_retv .int 0 0)]
noncomputable def m_X9_order (Y : rx_Y) : rx_M := (yX9_order, cX9_order, 2, (some .int), { frames := 0, cells := 0, slots := 0, locals := 0 }, p_X9_order Y)
theorem hd_X9_order : yX9_order.cls ≠ "java/lang/invoke/MethodHandle" ∧ yX9_order.cls ≠ "java/lang/invoke/VarHandle" ∧ (parseMethodDescriptor yX9_order.desc).map (fun d => d.parameters.length) = some 0 := by decide +kernel
abbrev cX9_ring : ByteArray := prog_1_method_22_code
def yX9_ring : MethodName := ⟨"SeedBench", "ring", "(II)Z"⟩
theorem dX9_ring_0 : decode cX9_ring 0 = .ok (.iload_n 1, 1) := by decide +kernel
theorem dX9_ring_1 : decode cX9_ring 1 = .ok (.invokestatic 211, 3) := by decide +kernel
theorem dX9_ring_4 : decode cX9_ring 4 = .ok (.ifCond .eq 14, 3) := by decide +kernel
theorem dX9_ring_7 : decode cX9_ring 7 = .ok (.iload_n 2, 1) := by decide +kernel
theorem dX9_ring_8 : decode cX9_ring 8 = .ok (.iconst 4, 1) := by decide +kernel
theorem dX9_ring_9 : decode cX9_ring 9 = .ok (.if_icmp .lt 9, 3) := by decide +kernel
theorem dX9_ring_12 : decode cX9_ring 12 = .ok (.iload_n 2, 1) := by decide +kernel
theorem dX9_ring_13 : decode cX9_ring 13 = .ok (.bipush 10, 2) := by decide +kernel
theorem dX9_ring_15 : decode cX9_ring 15 = .ok (.if_icmp .le 5, 3) := by decide +kernel
theorem dX9_ring_18 : decode cX9_ring 18 = .ok (.iconst 0, 1) := by decide +kernel
theorem dX9_ring_19 : decode cX9_ring 19 = .ok (.ireturn, 1) := by decide +kernel
theorem dX9_ring_20 : decode cX9_ring 20 = .ok (.aload_n 0, 1) := by decide +kernel
theorem dX9_ring_21 : decode cX9_ring 21 = .ok (.getfield 67, 3) := by decide +kernel
theorem dX9_ring_24 : decode cX9_ring 24 = .ok (.iload_n 1, 1) := by decide +kernel
theorem dX9_ring_25 : decode cX9_ring 25 = .ok (.aaload, 1) := by decide +kernel
theorem dX9_ring_26 : decode cX9_ring 26 = .ok (.iload_n 2, 1) := by decide +kernel
theorem dX9_ring_27 : decode cX9_ring 27 = .ok (.putfield 214, 3) := by decide +kernel
theorem dX9_ring_30 : decode cX9_ring 30 = .ok (.aload_n 0, 1) := by decide +kernel
theorem dX9_ring_31 : decode cX9_ring 31 = .ok (.getfield 67, 3) := by decide +kernel
theorem dX9_ring_34 : decode cX9_ring 34 = .ok (.iload_n 1, 1) := by decide +kernel
theorem dX9_ring_35 : decode cX9_ring 35 = .ok (.aaload, 1) := by decide +kernel
theorem dX9_ring_36 : decode cX9_ring 36 = .ok (.lconst 0, 1) := by decide +kernel
theorem dX9_ring_37 : decode cX9_ring 37 = .ok (.putfield 217, 3) := by decide +kernel
theorem dX9_ring_40 : decode cX9_ring 40 = .ok (.iconst 1, 1) := by decide +kernel
theorem dX9_ring_41 : decode cX9_ring 41 = .ok (.ireturn, 1) := by decide +kernel
noncomputable def p_X9_ring (Y : rx_Y) : rx_P := [(0, rx_ld 0 1 1), (1, rx_cl 73 1 0 false 0 0 0 0 4), (4, rx_br (rx_cm0 Y 4) 18 7), (7, rx_ld 0 2 8), (8, rx_pure (rx_push (.int 4)) 9), (9, rx_br (rx_cmp Y 0) 18 12), (12, rx_ld 0 2 13), (13, rx_pure (rx_push (.int 10)) 15), (15, rx_br (rx_cmp Y 3) 20 18), (18, rx_pure (rx_push (.int 0)) 19), (19, rx_retv .boolean 0 0), (20, rx_ld 2 0 21), (21, rx_get 9 13 24), (24, rx_ld 0 1 25), (25, rx_ald 3 2 26), (26, rx_ld 0 2 27), (27, rx_putf 6 0 .int 30), (30, rx_ld 2 0 31), (31, rx_get 9 13 34), (34, rx_ld 0 1 35), (35, rx_ald 3 2 36), (36, rx_pure (rx_push (.long 0)) 37), (37, rx_putf 6 1 .long 40), (40, rx_pure (rx_push (.int 1)) 41), (41, rx_retv .boolean 0 0)]
noncomputable def m_X9_ring (Y : rx_Y) : rx_M := (yX9_ring, cX9_ring, 3, (some .boolean), { frames := 1, cells := 0, slots := 0, locals := 20 }, p_X9_ring Y)
theorem hd_X9_ring : yX9_ring.cls ≠ "java/lang/invoke/MethodHandle" ∧ yX9_ring.cls ≠ "java/lang/invoke/VarHandle" ∧ (parseMethodDescriptor yX9_ring.desc).map (fun d => d.parameters.length) = some 2 := by decide +kernel
abbrev cX9_ringOf : ByteArray := prog_1_method_25_code
def yX9_ringOf : MethodName := ⟨"SeedBench", "ringOf", "(II)I"⟩
theorem dX9_ringOf_0 : decode cX9_ringOf 0 = .ok (.iload_n 1, 1) := by decide +kernel
theorem dX9_ringOf_1 : decode cX9_ringOf 1 = .ok (.invokestatic 211, 3) := by decide +kernel
theorem dX9_ringOf_4 : decode cX9_ringOf 4 = .ok (.ifCond .eq 16, 3) := by decide +kernel
theorem dX9_ringOf_7 : decode cX9_ringOf 7 = .ok (.aload_n 0, 1) := by decide +kernel
theorem dX9_ringOf_8 : decode cX9_ringOf 8 = .ok (.getfield 67, 3) := by decide +kernel
theorem dX9_ringOf_11 : decode cX9_ringOf 11 = .ok (.iload_n 1, 1) := by decide +kernel
theorem dX9_ringOf_12 : decode cX9_ringOf 12 = .ok (.aaload, 1) := by decide +kernel
theorem dX9_ringOf_13 : decode cX9_ringOf 13 = .ok (.iload_n 2, 1) := by decide +kernel
theorem dX9_ringOf_14 : decode cX9_ringOf 14 = .ok (.invokevirtual 249, 3) := by decide +kernel
theorem dX9_ringOf_17 : decode cX9_ringOf 17 = .ok (.goto 4, 3) := by decide +kernel
theorem dX9_ringOf_20 : decode cX9_ringOf 20 = .ok (.iconst (-1), 1) := by decide +kernel
theorem dX9_ringOf_21 : decode cX9_ringOf 21 = .ok (.ireturn, 1) := by decide +kernel
noncomputable def p_X9_ringOf (Y : rx_Y) : rx_P := [(0, rx_ld 0 1 1), (1, rx_cl 73 1 0 false 0 0 0 0 4), (4, rx_br (rx_cm0 Y 4) 20 7), (7, rx_ld 2 0 8), (8, rx_get 9 13 11), (11, rx_ld 0 1 12), (12, rx_ald 3 2 13), (13, rx_ld 0 2 14), (14, rx_cl 43 2 6 true 0 0 0 0 17), (17, rx_br rx_goto 21 20), (20, rx_pure (rx_push (.int (-1))) 21), (21, rx_retv .int 0 0)]
noncomputable def m_X9_ringOf (Y : rx_Y) : rx_M := (yX9_ringOf, cX9_ringOf, 3, (some .int), { frames := 4, cells := 0, slots := 0, locals := 90 }, p_X9_ringOf Y)
theorem hd_X9_ringOf : yX9_ringOf.cls ≠ "java/lang/invoke/MethodHandle" ∧ yX9_ringOf.cls ≠ "java/lang/invoke/VarHandle" ∧ (parseMethodDescriptor yX9_ringOf.desc).map (fun d => d.parameters.length) = some 2 := by decide +kernel
abbrev cX9_row : ByteArray := prog_1_method_20_code
def yX9_row : MethodName := ⟨"SeedBench", "row", "(III)Z"⟩
theorem dX9_row_0 : decode cX9_row 0 = .ok (.iload_n 1, 1) := by decide +kernel
theorem dX9_row_1 : decode cX9_row 1 = .ok (.iconst 1, 1) := by decide +kernel
theorem dX9_row_2 : decode cX9_row 2 = .ok (.if_icmp .lt 28, 3) := by decide +kernel
theorem dX9_row_5 : decode cX9_row 5 = .ok (.iload_n 1, 1) := by decide +kernel
theorem dX9_row_6 : decode cX9_row 6 = .ok (.bipush 12, 2) := by decide +kernel
theorem dX9_row_8 : decode cX9_row 8 = .ok (.if_icmp .gt 22, 3) := by decide +kernel
theorem dX9_row_11 : decode cX9_row 11 = .ok (.iload_n 2, 1) := by decide +kernel
theorem dX9_row_12 : decode cX9_row 12 = .ok (.ifCond .lt 18, 3) := by decide +kernel
theorem dX9_row_15 : decode cX9_row 15 = .ok (.iload_n 2, 1) := by decide +kernel
theorem dX9_row_16 : decode cX9_row 16 = .ok (.iload_n 1, 1) := by decide +kernel
theorem dX9_row_17 : decode cX9_row 17 = .ok (.if_icmp .ge 13, 3) := by decide +kernel
theorem dX9_row_20 : decode cX9_row 20 = .ok (.iload_n 3, 1) := by decide +kernel
theorem dX9_row_21 : decode cX9_row 21 = .ok (.ifCond .lt 9, 3) := by decide +kernel
theorem dX9_row_24 : decode cX9_row 24 = .ok (.iload_n 3, 1) := by decide +kernel
theorem dX9_row_25 : decode cX9_row 25 = .ok (.bipush 6, 2) := by decide +kernel
theorem dX9_row_27 : decode cX9_row 27 = .ok (.if_icmp .lt 5, 3) := by decide +kernel
theorem dX9_row_30 : decode cX9_row 30 = .ok (.iconst 0, 1) := by decide +kernel
theorem dX9_row_31 : decode cX9_row 31 = .ok (.ireturn, 1) := by decide +kernel
theorem dX9_row_32 : decode cX9_row 32 = .ok (.iload_n 1, 1) := by decide +kernel
theorem dX9_row_33 : decode cX9_row 33 = .ok (.aload_n 0, 1) := by decide +kernel
theorem dX9_row_34 : decode cX9_row 34 = .ok (.getfield 198, 3) := by decide +kernel
theorem dX9_row_37 : decode cX9_row 37 = .ok (.if_icmp .eq 16, 3) := by decide +kernel
theorem dX9_row_40 : decode cX9_row 40 = .ok (.aload_n 0, 1) := by decide +kernel
theorem dX9_row_41 : decode cX9_row 41 = .ok (.iload_n 1, 1) := by decide +kernel
theorem dX9_row_42 : decode cX9_row 42 = .ok (.putfield 198, 3) := by decide +kernel
theorem dX9_row_45 : decode cX9_row 45 = .ok (.aload_n 0, 1) := by decide +kernel
theorem dX9_row_46 : decode cX9_row 46 = .ok (.getfield 38, 3) := by decide +kernel
theorem dX9_row_49 : decode cX9_row 49 = .ok (.iconst 0, 1) := by decide +kernel
theorem dX9_row_50 : decode cX9_row 50 = .ok (.invokestatic 201, 3) := by decide +kernel
theorem dX9_row_53 : decode cX9_row 53 = .ok (.aload_n 0, 1) := by decide +kernel
theorem dX9_row_54 : decode cX9_row 54 = .ok (.getfield 38, 3) := by decide +kernel
theorem dX9_row_57 : decode cX9_row 57 = .ok (.iload_n 2, 1) := by decide +kernel
theorem dX9_row_58 : decode cX9_row 58 = .ok (.iload_n 3, 1) := by decide +kernel
theorem dX9_row_59 : decode cX9_row 59 = .ok (.iastore, 1) := by decide +kernel
theorem dX9_row_60 : decode cX9_row 60 = .ok (.iconst 1, 1) := by decide +kernel
theorem dX9_row_61 : decode cX9_row 61 = .ok (.ireturn, 1) := by decide +kernel
noncomputable def p_X9_row (Y : rx_Y) : rx_P := [(0, rx_ld 0 1 1), (1, rx_pure (rx_push (.int 1)) 2), (2, rx_br (rx_cmp Y 0) 30 5), (5, rx_ld 0 1 6), (6, rx_pure (rx_push (.int 12)) 8), (8, rx_br (rx_cmp Y 2) 30 11), (11, rx_ld 0 2 12), (12, rx_br (rx_cm0 Y 0) 30 15), (15, rx_ld 0 2 16), (16, rx_ld 0 1 17), (17, rx_br (rx_cmp Y 1) 30 20), (20, rx_ld 0 3 21), (21, rx_br (rx_cm0 Y 0) 30 24), (24, rx_ld 0 3 25), (25, rx_pure (rx_push (.int 6)) 27), (27, rx_br (rx_cmp Y 0) 32 30), (30, rx_pure (rx_push (.int 0)) 31), (31, rx_retv .boolean 0 0), (32, rx_ld 0 1 33), (33, rx_ld 2 0 34), (34, rx_get 9 7 37), (37, rx_br (rx_cmp Y 4) 53 40), (40, rx_ld 2 0 41), (41, rx_ld 0 1 42), (42, rx_putf 9 7 .int 45), (45, rx_ld 2 0 46), (46, rx_get 9 6 49), (49, rx_pure (rx_push (.int 0)) 50), (50, rx_cl 0 2 0 false 0 0 0 0 53), (53, rx_ld 2 0 54), (54, rx_get 9 6 57), (57, rx_ld 0 2 58), (58, rx_ld 0 3 59), (59, rx_ast Y 0 .int 60), (60, rx_pure (rx_push (.int 1)) 61), (61, rx_retv .boolean 0 0)]
noncomputable def m_X9_row (Y : rx_Y) : rx_M := (yX9_row, cX9_row, 4, (some .boolean), { frames := 1, cells := 0, slots := 0, locals := 23 }, p_X9_row Y)
theorem hd_X9_row : yX9_row.cls ≠ "java/lang/invoke/MethodHandle" ∧ yX9_row.cls ≠ "java/lang/invoke/VarHandle" ∧ (parseMethodDescriptor yX9_row.desc).map (fun d => d.parameters.length) = some 3 := by decide +kernel
abbrev cX9_same : ByteArray := prog_1_method_14_code
def yX9_same : MethodName := ⟨"SeedBench", "same", "(I)I"⟩
theorem dX9_same_0 : decode cX9_same 0 = .ok (.iload_n 1, 1) := by decide +kernel
theorem dX9_same_1 : decode cX9_same 1 = .ok (.ifCond .lt 20, 3) := by decide +kernel
theorem dX9_same_4 : decode cX9_same 4 = .ok (.iload_n 1, 1) := by decide +kernel
theorem dX9_same_5 : decode cX9_same 5 = .ok (.iconst 4, 1) := by decide +kernel
theorem dX9_same_6 : decode cX9_same 6 = .ok (.if_icmp .ge 15, 3) := by decide +kernel
theorem dX9_same_9 : decode cX9_same 9 = .ok (.aload_n 0, 1) := by decide +kernel
theorem dX9_same_10 : decode cX9_same 10 = .ok (.getfield 34, 3) := by decide +kernel
theorem dX9_same_13 : decode cX9_same 13 = .ok (.iload_n 1, 1) := by decide +kernel
theorem dX9_same_14 : decode cX9_same 14 = .ok (.aaload, 1) := by decide +kernel
theorem dX9_same_15 : decode cX9_same 15 = .ok (.getfield 137, 3) := by decide +kernel
theorem dX9_same_18 : decode cX9_same 18 = .ok (.ifCond .ne 5, 3) := by decide +kernel
theorem dX9_same_21 : decode cX9_same 21 = .ok (.iconst (-1), 1) := by decide +kernel
theorem dX9_same_22 : decode cX9_same 22 = .ok (.ireturn, 1) := by decide +kernel
noncomputable def p_X9_same (Y : rx_Y) : rx_P := [(0, rx_ld 0 1 1), (1, rx_br (rx_cm0 Y 0) 21 4), (4, rx_ld 0 1 5), (5, rx_pure (rx_push (.int 4)) 6), (6, rx_br (rx_cmp Y 1) 21 9), (9, rx_ld 2 0 10), (10, rx_get 9 5 13), (13, rx_ld 0 1 14), (14, rx_ald 4 2 15), (15, rx_get 7 0 18), (18, rx_br (rx_cm0 Y 5) 23 21), (21, rx_pure (rx_push (.int (-1))) 22), (22, rx_retv .int 0 0)]
noncomputable def m_X9_same (Y : rx_Y) : rx_M := (yX9_same, cX9_same, 2, (some .int), { frames := 0, cells := 0, slots := 0, locals := 0 }, p_X9_same Y)
theorem hd_X9_same : yX9_same.cls ≠ "java/lang/invoke/MethodHandle" ∧ yX9_same.cls ≠ "java/lang/invoke/VarHandle" ∧ (parseMethodDescriptor yX9_same.desc).map (fun d => d.parameters.length) = some 1 := by decide +kernel
abbrev cX9_seed : ByteArray := prog_1_method_29_code
def yX9_seed : MethodName := ⟨"SeedBench", "seed", "(I)Z"⟩
theorem dX9_seed_0 : decode cX9_seed 0 = .ok (.iload_n 1, 1) := by decide +kernel
theorem dX9_seed_1 : decode cX9_seed 1 = .ok (.invokestatic 211, 3) := by decide +kernel
theorem dX9_seed_4 : decode cX9_seed 4 = .ok (.ifCond .eq 31, 3) := by decide +kernel
theorem dX9_seed_7 : decode cX9_seed 7 = .ok (.aload_n 0, 1) := by decide +kernel
theorem dX9_seed_8 : decode cX9_seed 8 = .ok (.getfield 67, 3) := by decide +kernel
theorem dX9_seed_11 : decode cX9_seed 11 = .ok (.iload_n 1, 1) := by decide +kernel
theorem dX9_seed_12 : decode cX9_seed 12 = .ok (.aaload, 1) := by decide +kernel
theorem dX9_seed_13 : decode cX9_seed 13 = .ok (.invokevirtual 243, 3) := by decide +kernel
theorem dX9_seed_16 : decode cX9_seed 16 = .ok (.ifCond .eq 19, 3) := by decide +kernel
theorem dX9_seed_35 : decode cX9_seed 35 = .ok (.iconst 0, 1) := by decide +kernel
theorem dX9_seed_36 : decode cX9_seed 36 = .ok (.ireturn, 1) := by decide +kernel
noncomputable def p_X9_seed (Y : rx_Y) : rx_P := [(0, rx_ld 0 1 1), (1, rx_cl 73 1 0 false 0 0 0 0 4), (4, rx_br (rx_cm0 Y 4) 35 7), (7, rx_ld 2 0 8), (8, rx_get 9 13 11), (11, rx_ld 0 1 12), (12, rx_ald 3 2 13), (13, rx_cl 42 1 6 true 0 0 0 0 16), (16, rx_br (rx_cm0 Y 4) 35 19), (35, rx_pure (rx_push (.int 0)) 36), (36, rx_retv .boolean 0 0)]
noncomputable def m_X9_seed (Y : rx_Y) : rx_M := (yX9_seed, cX9_seed, 2, (some .boolean), { frames := 3, cells := 0, slots := 0, locals := 61 }, p_X9_seed Y)
theorem hd_X9_seed : yX9_seed.cls ≠ "java/lang/invoke/MethodHandle" ∧ yX9_seed.cls ≠ "java/lang/invoke/VarHandle" ∧ (parseMethodDescriptor yX9_seed.desc).map (fun d => d.parameters.length) = some 1 := by decide +kernel
abbrev cX9_size : ByteArray := prog_1_method_5_code
def yX9_size : MethodName := ⟨"SeedBench", "size", "(I)I"⟩
theorem dX9_size_0 : decode cX9_size 0 = .ok (.aload_n 0, 1) := by decide +kernel
theorem dX9_size_1 : decode cX9_size 1 = .ok (.iload_n 1, 1) := by decide +kernel
theorem dX9_size_2 : decode cX9_size 2 = .ok (.invokevirtual 113, 3) := by decide +kernel
theorem dX9_size_5 : decode cX9_size 5 = .ok (.ifCond .eq 16, 3) := by decide +kernel
theorem dX9_size_8 : decode cX9_size 8 = .ok (.aload_n 0, 1) := by decide +kernel
theorem dX9_size_9 : decode cX9_size 9 = .ok (.getfield 12, 3) := by decide +kernel
theorem dX9_size_12 : decode cX9_size 12 = .ok (.getfield 89, 3) := by decide +kernel
theorem dX9_size_15 : decode cX9_size 15 = .ok (.iload_n 1, 1) := by decide +kernel
theorem dX9_size_16 : decode cX9_size 16 = .ok (.laload, 1) := by decide +kernel
theorem dX9_size_17 : decode cX9_size 17 = .ok (.l2i, 1) := by decide +kernel
theorem dX9_size_18 : decode cX9_size 18 = .ok (.goto 4, 3) := by decide +kernel
theorem dX9_size_21 : decode cX9_size 21 = .ok (.iconst 0, 1) := by decide +kernel
theorem dX9_size_22 : decode cX9_size 22 = .ok (.ireturn, 1) := by decide +kernel
noncomputable def p_X9_size (Y : rx_Y) : rx_P := [(0, rx_ld 2 0 1), (1, rx_ld 0 1 2), (2, rx_cl 72 2 9 true 0 0 0 0 5), (5, rx_br (rx_cm0 Y 4) 21 8), (8, rx_ld 2 0 9), (9, rx_get 9 0 12), (12, rx_get 7 3 15), (15, rx_ld 0 1 16), (16, rx_ald 1 1 17), (17, rx_pure rx_l2i 18), (18, rx_br rx_goto 22 21), (21, rx_pure (rx_push (.int 0)) 22), (22, rx_retv .int 0 0)]
noncomputable def m_X9_size (Y : rx_Y) : rx_M := (yX9_size, cX9_size, 2, (some .int), { frames := 1, cells := 0, slots := 0, locals := 21 }, p_X9_size Y)
theorem hd_X9_size : yX9_size.cls ≠ "java/lang/invoke/MethodHandle" ∧ yX9_size.cls ≠ "java/lang/invoke/VarHandle" ∧ (parseMethodDescriptor yX9_size.desc).map (fun d => d.parameters.length) = some 1 := by decide +kernel
abbrev cX9_step : ByteArray := prog_1_method_18_code
def yX9_step : MethodName := ⟨"SeedBench", "step", "(I)I"⟩
theorem dX9_step_0 : decode cX9_step 0 = .ok (.iload_n 1, 1) := by decide +kernel
theorem dX9_step_1 : decode cX9_step 1 = .ok (.ifCond .lt 14, 3) := by decide +kernel
theorem dX9_step_4 : decode cX9_step 4 = .ok (.iload_n 1, 1) := by decide +kernel
theorem dX9_step_5 : decode cX9_step 5 = .ok (.aload_n 0, 1) := by decide +kernel
theorem dX9_step_6 : decode cX9_step 6 = .ok (.getfield 61, 3) := by decide +kernel
theorem dX9_step_9 : decode cX9_step 9 = .ok (.getfield 189, 3) := by decide +kernel
theorem dX9_step_12 : decode cX9_step 12 = .ok (.if_icmp .lt 7, 3) := by decide +kernel
theorem dX9_step_15 : decode cX9_step 15 = .ok (.iconst (-1), 1) := by decide +kernel
theorem dX9_step_16 : decode cX9_step 16 = .ok (.goto 12, 3) := by decide +kernel
theorem dX9_step_28 : decode cX9_step 28 = .ok (.ireturn, 1) := by decide +kernel
noncomputable def p_X9_step (Y : rx_Y) : rx_P := [(0, rx_ld 0 1 1), (1, rx_br (rx_cm0 Y 0) 15 4), (4, rx_ld 0 1 5), (5, rx_ld 2 0 6), (6, rx_get 9 12 9), (9, rx_get 4 0 12), (12, rx_br (rx_cmp Y 0) 19 15), (15, rx_pure (rx_push (.int (-1))) 16), (16, rx_br rx_goto 28 19), (28, rx_retv .int 0 0)]
noncomputable def m_X9_step (Y : rx_Y) : rx_M := (yX9_step, cX9_step, 2, (some .int), { frames := 0, cells := 0, slots := 0, locals := 0 }, p_X9_step Y)
theorem hd_X9_step : yX9_step.cls ≠ "java/lang/invoke/MethodHandle" ∧ yX9_step.cls ≠ "java/lang/invoke/VarHandle" ∧ (parseMethodDescriptor yX9_step.desc).map (fun d => d.parameters.length) = some 1 := by decide +kernel
abbrev cX9_table : ByteArray := prog_1_method_2_code
def yX9_table : MethodName := ⟨"SeedBench", "table", "(II)Z"⟩
theorem dX9_table_0 : decode cX9_table 0 = .ok (.iload_n 1, 1) := by decide +kernel
theorem dX9_table_1 : decode cX9_table 1 = .ok (.iconst 1, 1) := by decide +kernel
theorem dX9_table_2 : decode cX9_table 2 = .ok (.if_icmp .lt 19, 3) := by decide +kernel
theorem dX9_table_5 : decode cX9_table 5 = .ok (.iload_n 1, 1) := by decide +kernel
theorem dX9_table_6 : decode cX9_table 6 = .ok (.bipush 6, 2) := by decide +kernel
theorem dX9_table_8 : decode cX9_table 8 = .ok (.if_icmp .gt 13, 3) := by decide +kernel
theorem dX9_table_11 : decode cX9_table 11 = .ok (.iload_n 2, 1) := by decide +kernel
theorem dX9_table_12 : decode cX9_table 12 = .ok (.ifCond .lt 9, 3) := by decide +kernel
theorem dX9_table_15 : decode cX9_table 15 = .ok (.iload_n 2, 1) := by decide +kernel
theorem dX9_table_16 : decode cX9_table 16 = .ok (.bipush 6, 2) := by decide +kernel
theorem dX9_table_18 : decode cX9_table 18 = .ok (.if_icmp .le 5, 3) := by decide +kernel
theorem dX9_table_21 : decode cX9_table 21 = .ok (.iconst 0, 1) := by decide +kernel
theorem dX9_table_22 : decode cX9_table 22 = .ok (.ireturn, 1) := by decide +kernel
theorem dX9_table_23 : decode cX9_table 23 = .ok (.aload_n 0, 1) := by decide +kernel
theorem dX9_table_24 : decode cX9_table 24 = .ok (.getfield 19, 3) := by decide +kernel
theorem dX9_table_27 : decode cX9_table 27 = .ok (.iload_n 1, 1) := by decide +kernel
theorem dX9_table_28 : decode cX9_table 28 = .ok (.iload_n 2, 1) := by decide +kernel
theorem dX9_table_29 : decode cX9_table 29 = .ok (.invokevirtual 91, 3) := by decide +kernel
theorem dX9_table_32 : decode cX9_table 32 = .ok (.iconst 1, 1) := by decide +kernel
theorem dX9_table_33 : decode cX9_table 33 = .ok (.ireturn, 1) := by decide +kernel
noncomputable def p_X9_table (Y : rx_Y) : rx_P := [(0, rx_ld 0 1 1), (1, rx_pure (rx_push (.int 1)) 2), (2, rx_br (rx_cmp Y 0) 21 5), (5, rx_ld 0 1 6), (6, rx_pure (rx_push (.int 6)) 8), (8, rx_br (rx_cmp Y 2) 21 11), (11, rx_ld 0 2 12), (12, rx_br (rx_cm0 Y 0) 21 15), (15, rx_ld 0 2 16), (16, rx_pure (rx_push (.int 6)) 18), (18, rx_br (rx_cmp Y 3) 23 21), (21, rx_pure (rx_push (.int 0)) 22), (22, rx_retv .boolean 0 0), (23, rx_ld 2 0 24), (24, rx_get 9 1 27), (27, rx_ld 0 1 28), (28, rx_ld 0 2 29), (29, rx_cl 19 3 2 true 0 0 0 0 32), (32, rx_pure (rx_push (.int 1)) 33), (33, rx_retv .boolean 0 0)]
noncomputable def m_X9_table (Y : rx_Y) : rx_M := (yX9_table, cX9_table, 3, (some .boolean), { frames := 2, cells := 0, slots := 0, locals := 45 }, p_X9_table Y)
theorem hd_X9_table : yX9_table.cls ≠ "java/lang/invoke/MethodHandle" ∧ yX9_table.cls ≠ "java/lang/invoke/VarHandle" ∧ (parseMethodDescriptor yX9_table.desc).map (fun d => d.parameters.length) = some 2 := by decide +kernel
abbrev cX9_tables : ByteArray := prog_1_method_19_code
def yX9_tables : MethodName := ⟨"SeedBench", "tables", "()I"⟩
theorem dX9_tables_0 : decode cX9_tables 0 = .ok (.aload_n 0, 1) := by decide +kernel
theorem dX9_tables_1 : decode cX9_tables 1 = .ok (.getfield 61, 3) := by decide +kernel
theorem dX9_tables_4 : decode cX9_tables 4 = .ok (.getfield 195, 3) := by decide +kernel
theorem dX9_tables_7 : decode cX9_tables 7 = .ok (.ireturn, 1) := by decide +kernel
noncomputable def p_X9_tables (Y : rx_Y) : rx_P := [(0, rx_ld 2 0 1), (1, rx_get 9 12 4), (4, rx_get 4 1 7), (7, rx_retv .int 0 0)]
noncomputable def m_X9_tables (Y : rx_Y) : rx_M := (yX9_tables, cX9_tables, 1, (some .int), { frames := 0, cells := 0, slots := 0, locals := 0 }, p_X9_tables Y)
theorem hd_X9_tables : yX9_tables.cls ≠ "java/lang/invoke/MethodHandle" ∧ yX9_tables.cls ≠ "java/lang/invoke/VarHandle" ∧ (parseMethodDescriptor yX9_tables.desc).map (fun d => d.parameters.length) = some 0 := by decide +kernel
abbrev cX9_term : ByteArray := prog_1_method_10_code
def yX9_term : MethodName := ⟨"SeedBench", "term", "(III)J"⟩
theorem dX9_term_0 : decode cX9_term 0 = .ok (.aload_n 0, 1) := by decide +kernel
theorem dX9_term_1 : decode cX9_term 1 = .ok (.iload_n 1, 1) := by decide +kernel
theorem dX9_term_2 : decode cX9_term 2 = .ok (.invokevirtual 113, 3) := by decide +kernel
theorem dX9_term_5 : decode cX9_term 5 = .ok (.ifCond .ne 5, 3) := by decide +kernel
theorem dX9_term_8 : decode cX9_term 8 = .ok (.lconst 0, 1) := by decide +kernel
theorem dX9_term_9 : decode cX9_term 9 = .ok (.lreturn, 1) := by decide +kernel
theorem dX9_term_10 : decode cX9_term 10 = .ok (.aload_n 0, 1) := by decide +kernel
theorem dX9_term_11 : decode cX9_term 11 = .ok (.getfield 12, 3) := by decide +kernel
theorem dX9_term_14 : decode cX9_term 14 = .ok (.getfield 128, 3) := by decide +kernel
theorem dX9_term_17 : decode cX9_term 17 = .ok (.iload_n 1, 1) := by decide +kernel
theorem dX9_term_18 : decode cX9_term 18 = .ok (.aaload, 1) := by decide +kernel
theorem dX9_term_19 : decode cX9_term 19 = .ok (.astore 4, 2) := by decide +kernel
theorem dX9_term_21 : decode cX9_term 21 = .ok (.iload_n 2, 1) := by decide +kernel
theorem dX9_term_22 : decode cX9_term 22 = .ok (.ifCond .lt 12, 3) := by decide +kernel
theorem dX9_term_25 : decode cX9_term 25 = .ok (.iload_n 2, 1) := by decide +kernel
theorem dX9_term_26 : decode cX9_term 26 = .ok (.aload 4, 2) := by decide +kernel
theorem dX9_term_28 : decode cX9_term 28 = .ok (.getfield 132, 3) := by decide +kernel
theorem dX9_term_31 : decode cX9_term 31 = .ok (.if_icmp .lt 5, 3) := by decide +kernel
theorem dX9_term_34 : decode cX9_term 34 = .ok (.lconst 0, 1) := by decide +kernel
theorem dX9_term_35 : decode cX9_term 35 = .ok (.lreturn, 1) := by decide +kernel
theorem dX9_term_36 : decode cX9_term 36 = .ok (.iload_n 3, 1) := by decide +kernel
theorem dX9_term_37 : decode cX9_term 37 = .ok (.iconst (-1), 1) := by decide +kernel
theorem dX9_term_38 : decode cX9_term 38 = .ok (.if_icmp .ne 11, 3) := by decide +kernel
theorem dX9_term_41 : decode cX9_term 41 = .ok (.aload 4, 2) := by decide +kernel
theorem dX9_term_43 : decode cX9_term 43 = .ok (.getfield 140, 3) := by decide +kernel
theorem dX9_term_46 : decode cX9_term 46 = .ok (.iload_n 2, 1) := by decide +kernel
theorem dX9_term_47 : decode cX9_term 47 = .ok (.laload, 1) := by decide +kernel
theorem dX9_term_48 : decode cX9_term 48 = .ok (.lreturn, 1) := by decide +kernel
theorem dX9_term_49 : decode cX9_term 49 = .ok (.aload 4, 2) := by decide +kernel
theorem dX9_term_51 : decode cX9_term 51 = .ok (.iload_n 3, 1) := by decide +kernel
theorem dX9_term_52 : decode cX9_term 52 = .ok (.invokevirtual 143, 3) := by decide +kernel
theorem dX9_term_55 : decode cX9_term 55 = .ok (.ifCond .eq 22, 3) := by decide +kernel
theorem dX9_term_58 : decode cX9_term 58 = .ok (.aload 4, 2) := by decide +kernel
theorem dX9_term_60 : decode cX9_term 60 = .ok (.getfield 146, 3) := by decide +kernel
theorem dX9_term_63 : decode cX9_term 63 = .ok (.iload_n 2, 1) := by decide +kernel
theorem dX9_term_64 : decode cX9_term 64 = .ok (.aload 4, 2) := by decide +kernel
theorem dX9_term_66 : decode cX9_term 66 = .ok (.getfield 149, 3) := by decide +kernel
theorem dX9_term_69 : decode cX9_term 69 = .ok (.imul, 1) := by decide +kernel
theorem dX9_term_70 : decode cX9_term 70 = .ok (.iload_n 3, 1) := by decide +kernel
theorem dX9_term_71 : decode cX9_term 71 = .ok (.iadd, 1) := by decide +kernel
theorem dX9_term_72 : decode cX9_term 72 = .ok (.iaload, 1) := by decide +kernel
theorem dX9_term_73 : decode cX9_term 73 = .ok (.i2l, 1) := by decide +kernel
theorem dX9_term_74 : decode cX9_term 74 = .ok (.goto 4, 3) := by decide +kernel
theorem dX9_term_77 : decode cX9_term 77 = .ok (.lconst 0, 1) := by decide +kernel
theorem dX9_term_78 : decode cX9_term 78 = .ok (.lreturn, 1) := by decide +kernel
noncomputable def p_X9_term (Y : rx_Y) : rx_P := [(0, rx_ld 2 0 1), (1, rx_ld 0 1 2), (2, rx_cl 72 2 9 true 0 0 0 0 5), (5, rx_br (rx_cm0 Y 5) 10 8), (8, rx_pure (rx_push (.long 0)) 9), (9, rx_retv .long 0 0), (10, rx_ld 2 0 11), (11, rx_get 9 0 14), (14, rx_get 7 4 17), (17, rx_ld 0 1 18), (18, rx_ald 5 2 19), (19, rx_st 2 4 21 5), (21, rx_ld 0 2 22), (22, rx_br (rx_cm0 Y 0) 34 25), (25, rx_ld 0 2 26), (26, rx_ld 2 4 28), (28, rx_get 8 1 31), (31, rx_br (rx_cmp Y 0) 36 34), (34, rx_pure (rx_push (.long 0)) 35), (35, rx_retv .long 0 0), (36, rx_ld 0 3 37), (37, rx_pure (rx_push (.int (-1))) 38), (38, rx_br (rx_cmp Y 5) 49 41), (41, rx_ld 2 4 43), (43, rx_get 8 2 46), (46, rx_ld 0 2 47), (47, rx_ald 1 1 48), (48, rx_retv .long 0 0), (49, rx_ld 2 4 51), (51, rx_ld 0 3 52), (52, rx_cl 54 2 8 true 0 0 0 0 55), (55, rx_br (rx_cm0 Y 4) 77 58), (58, rx_ld 2 4 60), (60, rx_get 8 3 63), (63, rx_ld 0 2 64), (64, rx_ld 2 4 66), (66, rx_get 8 0 69), (69, rx_pure (rx_bi (fun x y => x * y)) 70), (70, rx_ld 0 3 71), (71, rx_pure (rx_bi (fun x y => x + y)) 72), (72, rx_ald 0 0 73), (73, rx_pure rx_i2l 74), (74, rx_br rx_goto 78 77), (77, rx_pure (rx_push (.long 0)) 78), (78, rx_retv .long 0 0)]
noncomputable def m_X9_term (Y : rx_Y) : rx_M := (yX9_term, cX9_term, 5, (some .long), { frames := 1, cells := 0, slots := 0, locals := 21 }, p_X9_term Y)
theorem hd_X9_term : yX9_term.cls ≠ "java/lang/invoke/MethodHandle" ∧ yX9_term.cls ≠ "java/lang/invoke/VarHandle" ∧ (parseMethodDescriptor yX9_term.desc).map (fun d => d.parameters.length) = some 3 := by decide +kernel
abbrev cX9_terms : ByteArray := prog_1_method_9_code
def yX9_terms : MethodName := ⟨"SeedBench", "terms", "(I)I"⟩
theorem dX9_terms_0 : decode cX9_terms 0 = .ok (.aload_n 0, 1) := by decide +kernel
theorem dX9_terms_1 : decode cX9_terms 1 = .ok (.iload_n 1, 1) := by decide +kernel
theorem dX9_terms_2 : decode cX9_terms 2 = .ok (.invokevirtual 113, 3) := by decide +kernel
theorem dX9_terms_5 : decode cX9_terms 5 = .ok (.ifCond .eq 18, 3) := by decide +kernel
theorem dX9_terms_8 : decode cX9_terms 8 = .ok (.aload_n 0, 1) := by decide +kernel
theorem dX9_terms_9 : decode cX9_terms 9 = .ok (.getfield 12, 3) := by decide +kernel
theorem dX9_terms_12 : decode cX9_terms 12 = .ok (.getfield 128, 3) := by decide +kernel
theorem dX9_terms_15 : decode cX9_terms 15 = .ok (.iload_n 1, 1) := by decide +kernel
theorem dX9_terms_16 : decode cX9_terms 16 = .ok (.aaload, 1) := by decide +kernel
theorem dX9_terms_17 : decode cX9_terms 17 = .ok (.getfield 132, 3) := by decide +kernel
theorem dX9_terms_20 : decode cX9_terms 20 = .ok (.goto 4, 3) := by decide +kernel
theorem dX9_terms_23 : decode cX9_terms 23 = .ok (.iconst 0, 1) := by decide +kernel
theorem dX9_terms_24 : decode cX9_terms 24 = .ok (.ireturn, 1) := by decide +kernel
noncomputable def p_X9_terms (Y : rx_Y) : rx_P := [(0, rx_ld 2 0 1), (1, rx_ld 0 1 2), (2, rx_cl 72 2 9 true 0 0 0 0 5), (5, rx_br (rx_cm0 Y 4) 23 8), (8, rx_ld 2 0 9), (9, rx_get 9 0 12), (12, rx_get 7 4 15), (15, rx_ld 0 1 16), (16, rx_ald 5 2 17), (17, rx_get 8 1 20), (20, rx_br rx_goto 24 23), (23, rx_pure (rx_push (.int 0)) 24), (24, rx_retv .int 0 0)]
noncomputable def m_X9_terms (Y : rx_Y) : rx_M := (yX9_terms, cX9_terms, 2, (some .int), { frames := 1, cells := 0, slots := 0, locals := 21 }, p_X9_terms Y)
theorem hd_X9_terms : yX9_terms.cls ≠ "java/lang/invoke/MethodHandle" ∧ yX9_terms.cls ≠ "java/lang/invoke/VarHandle" ∧ (parseMethodDescriptor yX9_terms.desc).map (fun d => d.parameters.length) = some 1 := by decide +kernel
abbrev cX9_turn : ByteArray := prog_1_method_6_code
def yX9_turn : MethodName := ⟨"SeedBench", "turn", "(I)I"⟩
theorem dX9_turn_0 : decode cX9_turn 0 = .ok (.aload_n 0, 1) := by decide +kernel
theorem dX9_turn_1 : decode cX9_turn 1 = .ok (.iload_n 1, 1) := by decide +kernel
theorem dX9_turn_2 : decode cX9_turn 2 = .ok (.invokevirtual 113, 3) := by decide +kernel
theorem dX9_turn_5 : decode cX9_turn 5 = .ok (.ifCond .ne 5, 3) := by decide +kernel
theorem dX9_turn_8 : decode cX9_turn 8 = .ok (.iconst (-1), 1) := by decide +kernel
theorem dX9_turn_9 : decode cX9_turn 9 = .ok (.ireturn, 1) := by decide +kernel
theorem dX9_turn_10 : decode cX9_turn 10 = .ok (.aload_n 0, 1) := by decide +kernel
theorem dX9_turn_11 : decode cX9_turn 11 = .ok (.getfield 26, 3) := by decide +kernel
theorem dX9_turn_14 : decode cX9_turn 14 = .ok (.aload_n 0, 1) := by decide +kernel
theorem dX9_turn_15 : decode cX9_turn 15 = .ok (.getfield 12, 3) := by decide +kernel
theorem dX9_turn_18 : decode cX9_turn 18 = .ok (.iload_n 1, 1) := by decide +kernel
theorem dX9_turn_19 : decode cX9_turn 19 = .ok (.invokevirtual 117, 3) := by decide +kernel
theorem dX9_turn_22 : decode cX9_turn 22 = .ok (.ifCond .ne 6, 3) := by decide +kernel
theorem dX9_turn_28 : decode cX9_turn 28 = .ok (.aload_n 0, 1) := by decide +kernel
theorem dX9_turn_29 : decode cX9_turn 29 = .ok (.getfield 121, 3) := by decide +kernel
theorem dX9_turn_32 : decode cX9_turn 32 = .ok (.bipush 100, 2) := by decide +kernel
theorem dX9_turn_34 : decode cX9_turn 34 = .ok (.if_icmp .lt 6, 3) := by decide +kernel
theorem dX9_turn_40 : decode cX9_turn 40 = .ok (.aload_n 0, 1) := by decide +kernel
theorem dX9_turn_41 : decode cX9_turn 41 = .ok (.getfield 26, 3) := by decide +kernel
theorem dX9_turn_44 : decode cX9_turn 44 = .ok (.aload_n 0, 1) := by decide +kernel
theorem dX9_turn_45 : decode cX9_turn 45 = .ok (.getfield 12, 3) := by decide +kernel
theorem dX9_turn_48 : decode cX9_turn 48 = .ok (.iload_n 1, 1) := by decide +kernel
theorem dX9_turn_49 : decode cX9_turn 49 = .ok (.invokevirtual 124, 3) := by decide +kernel
theorem dX9_turn_52 : decode cX9_turn 52 = .ok (.aload_n 0, 1) := by decide +kernel
theorem dX9_turn_53 : decode cX9_turn 53 = .ok (.getfield 30, 3) := by decide +kernel
theorem dX9_turn_56 : decode cX9_turn 56 = .ok (.aload_n 0, 1) := by decide +kernel
theorem dX9_turn_57 : decode cX9_turn 57 = .ok (.getfield 121, 3) := by decide +kernel
theorem dX9_turn_60 : decode cX9_turn 60 = .ok (.iload_n 1, 1) := by decide +kernel
theorem dX9_turn_61 : decode cX9_turn 61 = .ok (.iastore, 1) := by decide +kernel
theorem dX9_turn_62 : decode cX9_turn 62 = .ok (.aload_n 0, 1) := by decide +kernel
theorem dX9_turn_63 : decode cX9_turn 63 = .ok (.dup, 1) := by decide +kernel
theorem dX9_turn_64 : decode cX9_turn 64 = .ok (.getfield 121, 3) := by decide +kernel
theorem dX9_turn_67 : decode cX9_turn 67 = .ok (.iconst 1, 1) := by decide +kernel
theorem dX9_turn_68 : decode cX9_turn 68 = .ok (.iadd, 1) := by decide +kernel
theorem dX9_turn_69 : decode cX9_turn 69 = .ok (.putfield 121, 3) := by decide +kernel
theorem dX9_turn_72 : decode cX9_turn 72 = .ok (.aload_n 0, 1) := by decide +kernel
theorem dX9_turn_73 : decode cX9_turn 73 = .ok (.getfield 12, 3) := by decide +kernel
theorem dX9_turn_76 : decode cX9_turn 76 = .ok (.getfield 128, 3) := by decide +kernel
theorem dX9_turn_79 : decode cX9_turn 79 = .ok (.iload_n 1, 1) := by decide +kernel
theorem dX9_turn_80 : decode cX9_turn 80 = .ok (.aaload, 1) := by decide +kernel
theorem dX9_turn_81 : decode cX9_turn 81 = .ok (.getfield 132, 3) := by decide +kernel
theorem dX9_turn_84 : decode cX9_turn 84 = .ok (.ireturn, 1) := by decide +kernel
noncomputable def p_X9_turn (Y : rx_Y) : rx_P := [(0, rx_ld 2 0 1), (1, rx_ld 0 1 2), (2, rx_cl 72 2 9 true 0 0 0 0 5), (5, rx_br (rx_cm0 Y 5) 10 8), (8, rx_pure (rx_push (.int (-1))) 9), (9, rx_retv .int 0 0), (10, rx_ld 2 0 11), (11, rx_get 9 2 14), (14, rx_ld 2 0 15), (15, rx_get 9 0 18), (18, rx_ld 0 1 19), (19, rx_cl 29 3 5 true 0 0 0 0 22), (22, rx_br (rx_cm0 Y 5) 28 25), (28, rx_ld 2 0 29), (29, rx_get 9 4 32), (32, rx_pure (rx_push (.int 100)) 34), (34, rx_br (rx_cmp Y 0) 40 37), (40, rx_ld 2 0 41), (41, rx_get 9 2 44), (44, rx_ld 2 0 45), (45, rx_get 9 0 48), (48, rx_ld 0 1 49), (49, rx_cl 32 3 5 true 0 0 0 0 52), (52, rx_ld 2 0 53), (53, rx_get 9 3 56), (56, rx_ld 2 0 57), (57, rx_get 9 4 60), (60, rx_ld 0 1 61), (61, rx_ast Y 0 .int 62), (62, rx_ld 2 0 63), (63, rx_pure rx_dup 64), (64, rx_get 9 4 67), (67, rx_pure (rx_push (.int 1)) 68), (68, rx_pure (rx_bi (fun x y => x + y)) 69), (69, rx_putf 9 4 .int 72), (72, rx_ld 2 0 73), (73, rx_get 9 0 76), (76, rx_get 7 4 79), (79, rx_ld 0 1 80), (80, rx_ald 5 2 81), (81, rx_get 8 1 84), (84, rx_retv .int 0 0)]
noncomputable def m_X9_turn (Y : rx_Y) : rx_M := (yX9_turn, cX9_turn, 2, (some .int), { frames := 5, cells := 0, slots := 0, locals := 140 }, p_X9_turn Y)
theorem hd_X9_turn : yX9_turn.cls ≠ "java/lang/invoke/MethodHandle" ∧ yX9_turn.cls ≠ "java/lang/invoke/VarHandle" ∧ (parseMethodDescriptor yX9_turn.desc).map (fun d => d.parameters.length) = some 1 := by decide +kernel
abbrev cX9_turnTable : ByteArray := prog_1_method_38_code
def yX9_turnTable : MethodName := ⟨"SeedBench", "turnTable", "([IIII)V"⟩
theorem dX9_turnTable_0 : decode cX9_turnTable 0 = .ok (.iconst 0, 1) := by decide +kernel
theorem dX9_turnTable_1 : decode cX9_turnTable 1 = .ok (.istore 4, 2) := by decide +kernel
theorem dX9_turnTable_3 : decode cX9_turnTable 3 = .ok (.iload 4, 2) := by decide +kernel
theorem dX9_turnTable_5 : decode cX9_turnTable 5 = .ok (.iload_n 1, 1) := by decide +kernel
theorem dX9_turnTable_6 : decode cX9_turnTable 6 = .ok (.if_icmp .ge 55, 3) := by decide +kernel
theorem dX9_turnTable_9 : decode cX9_turnTable 9 = .ok (.iconst 0, 1) := by decide +kernel
theorem dX9_turnTable_10 : decode cX9_turnTable 10 = .ok (.istore 5, 2) := by decide +kernel
theorem dX9_turnTable_12 : decode cX9_turnTable 12 = .ok (.iload 5, 2) := by decide +kernel
theorem dX9_turnTable_14 : decode cX9_turnTable 14 = .ok (.iload_n 2, 1) := by decide +kernel
theorem dX9_turnTable_15 : decode cX9_turnTable 15 = .ok (.if_icmp .ge 40, 3) := by decide +kernel
theorem dX9_turnTable_18 : decode cX9_turnTable 18 = .ok (.iload 4, 2) := by decide +kernel
theorem dX9_turnTable_20 : decode cX9_turnTable 20 = .ok (.iload_n 3, 1) := by decide +kernel
theorem dX9_turnTable_21 : decode cX9_turnTable 21 = .ok (.if_icmp .eq 28, 3) := by decide +kernel
theorem dX9_turnTable_49 : decode cX9_turnTable 49 = .ok (.iinc 5 1, 3) := by decide +kernel
theorem dX9_turnTable_52 : decode cX9_turnTable 52 = .ok (.goto (-40), 3) := by decide +kernel
theorem dX9_turnTable_55 : decode cX9_turnTable 55 = .ok (.iinc 4 1, 3) := by decide +kernel
theorem dX9_turnTable_58 : decode cX9_turnTable 58 = .ok (.goto (-55), 3) := by decide +kernel
theorem dX9_turnTable_61 : decode cX9_turnTable 61 = .ok (.iconst 0, 1) := by decide +kernel
theorem dX9_turnTable_62 : decode cX9_turnTable 62 = .ok (.istore 4, 2) := by decide +kernel
theorem dX9_turnTable_64 : decode cX9_turnTable 64 = .ok (.iload 4, 2) := by decide +kernel
theorem dX9_turnTable_66 : decode cX9_turnTable 66 = .ok (.iload_n 1, 1) := by decide +kernel
theorem dX9_turnTable_67 : decode cX9_turnTable 67 = .ok (.if_icmp .ge 28, 3) := by decide +kernel
theorem dX9_turnTable_70 : decode cX9_turnTable 70 = .ok (.aload_n 0, 1) := by decide +kernel
theorem dX9_turnTable_71 : decode cX9_turnTable 71 = .ok (.iload 4, 2) := by decide +kernel
theorem dX9_turnTable_73 : decode cX9_turnTable 73 = .ok (.bipush 6, 2) := by decide +kernel
theorem dX9_turnTable_75 : decode cX9_turnTable 75 = .ok (.imul, 1) := by decide +kernel
theorem dX9_turnTable_76 : decode cX9_turnTable 76 = .ok (.iload_n 3, 1) := by decide +kernel
theorem dX9_turnTable_77 : decode cX9_turnTable 77 = .ok (.iadd, 1) := by decide +kernel
theorem dX9_turnTable_78 : decode cX9_turnTable 78 = .ok (.aload_n 0, 1) := by decide +kernel
theorem dX9_turnTable_79 : decode cX9_turnTable 79 = .ok (.iload 4, 2) := by decide +kernel
theorem dX9_turnTable_81 : decode cX9_turnTable 81 = .ok (.bipush 6, 2) := by decide +kernel
theorem dX9_turnTable_83 : decode cX9_turnTable 83 = .ok (.imul, 1) := by decide +kernel
theorem dX9_turnTable_84 : decode cX9_turnTable 84 = .ok (.iload_n 3, 1) := by decide +kernel
theorem dX9_turnTable_85 : decode cX9_turnTable 85 = .ok (.iadd, 1) := by decide +kernel
theorem dX9_turnTable_86 : decode cX9_turnTable 86 = .ok (.iaload, 1) := by decide +kernel
theorem dX9_turnTable_87 : decode cX9_turnTable 87 = .ok (.ineg, 1) := by decide +kernel
theorem dX9_turnTable_88 : decode cX9_turnTable 88 = .ok (.iastore, 1) := by decide +kernel
theorem dX9_turnTable_89 : decode cX9_turnTable 89 = .ok (.iinc 4 1, 3) := by decide +kernel
theorem dX9_turnTable_92 : decode cX9_turnTable 92 = .ok (.goto (-28), 3) := by decide +kernel
theorem dX9_turnTable_95 : decode cX9_turnTable 95 = .ok (.iconst 0, 1) := by decide +kernel
theorem dX9_turnTable_96 : decode cX9_turnTable 96 = .ok (.istore 4, 2) := by decide +kernel
theorem dX9_turnTable_98 : decode cX9_turnTable 98 = .ok (.iload 4, 2) := by decide +kernel
theorem dX9_turnTable_100 : decode cX9_turnTable 100 = .ok (.iload_n 2, 1) := by decide +kernel
theorem dX9_turnTable_101 : decode cX9_turnTable 101 = .ok (.if_icmp .ge 34, 3) := by decide +kernel
theorem dX9_turnTable_104 : decode cX9_turnTable 104 = .ok (.iload 4, 2) := by decide +kernel
theorem dX9_turnTable_106 : decode cX9_turnTable 106 = .ok (.iload_n 3, 1) := by decide +kernel
theorem dX9_turnTable_107 : decode cX9_turnTable 107 = .ok (.if_icmp .eq 22, 3) := by decide +kernel
theorem dX9_turnTable_129 : decode cX9_turnTable 129 = .ok (.iinc 4 1, 3) := by decide +kernel
theorem dX9_turnTable_132 : decode cX9_turnTable 132 = .ok (.goto (-34), 3) := by decide +kernel
theorem dX9_turnTable_135 : decode cX9_turnTable 135 = .ok (.return_, 1) := by decide +kernel
noncomputable def p_X9_turnTable (Y : rx_Y) : rx_P := [(0, rx_pure (rx_push (.int 0)) 1), (1, rx_st 0 4 3 6), (3, rx_ld 0 4 5), (5, rx_ld 0 1 6), (6, rx_br (rx_cmp Y 1) 61 9), (9, rx_pure (rx_push (.int 0)) 10), (10, rx_st 0 5 12 6), (12, rx_ld 0 5 14), (14, rx_ld 0 2 15), (15, rx_br (rx_cmp Y 1) 55 18), (18, rx_ld 0 4 20), (20, rx_ld 0 3 21), (21, rx_br (rx_cmp Y 4) 49 24), (49, rx_inc 5 1 52 6), (52, rx_br rx_goto 12 55), (55, rx_inc 4 1 58 6), (58, rx_br rx_goto 3 61), (61, rx_pure (rx_push (.int 0)) 62), (62, rx_st 0 4 64 6), (64, rx_ld 0 4 66), (66, rx_ld 0 1 67), (67, rx_br (rx_cmp Y 1) 95 70), (70, rx_ld 2 0 71), (71, rx_ld 0 4 73), (73, rx_pure (rx_push (.int 6)) 75), (75, rx_pure (rx_bi (fun x y => x * y)) 76), (76, rx_ld 0 3 77), (77, rx_pure (rx_bi (fun x y => x + y)) 78), (78, rx_ld 2 0 79), (79, rx_ld 0 4 81), (81, rx_pure (rx_push (.int 6)) 83), (83, rx_pure (rx_bi (fun x y => x * y)) 84), (84, rx_ld 0 3 85), (85, rx_pure (rx_bi (fun x y => x + y)) 86), (86, rx_ald 0 0 87), (87, rx_pure rx_ineg 88), (88, rx_ast Y 0 .int 89), (89, rx_inc 4 1 92 6), (92, rx_br rx_goto 64 95), (95, rx_pure (rx_push (.int 0)) 96), (96, rx_st 0 4 98 6), (98, rx_ld 0 4 100), (100, rx_ld 0 2 101), (101, rx_br (rx_cmp Y 1) 135 104), (104, rx_ld 0 4 106), (106, rx_ld 0 3 107), (107, rx_br (rx_cmp Y 4) 129 110), (129, rx_inc 4 1 132 6), (132, rx_br rx_goto 98 135), (135, rx_ret0 0 0)]
noncomputable def m_X9_turnTable (Y : rx_Y) : rx_M := (yX9_turnTable, cX9_turnTable, 6, none, { frames := 0, cells := 0, slots := 0, locals := 0 }, p_X9_turnTable Y)
theorem hd_X9_turnTable : yX9_turnTable.cls ≠ "java/lang/invoke/MethodHandle" ∧ yX9_turnTable.cls ≠ "java/lang/invoke/VarHandle" ∧ (parseMethodDescriptor yX9_turnTable.desc).map (fun d => d.parameters.length) = some 4 := by decide +kernel
abbrev cX9_way : ByteArray := prog_1_method_27_code
def yX9_way : MethodName := ⟨"SeedBench", "way", "()I"⟩
theorem dX9_way_0 : decode cX9_way 0 = .ok (.aload_n 0, 1) := by decide +kernel
theorem dX9_way_1 : decode cX9_way 1 = .ok (.getfield 67, 3) := by decide +kernel
theorem dX9_way_4 : decode cX9_way 4 = .ok (.iconst 0, 1) := by decide +kernel
theorem dX9_way_5 : decode cX9_way 5 = .ok (.aaload, 1) := by decide +kernel
theorem dX9_way_6 : decode cX9_way 6 = .ok (.invokevirtual 243, 3) := by decide +kernel
theorem dX9_way_9 : decode cX9_way 9 = .ok (.ifCond .eq 36, 3) := by decide +kernel
theorem dX9_way_45 : decode cX9_way 45 = .ok (.iconst (-1), 1) := by decide +kernel
theorem dX9_way_46 : decode cX9_way 46 = .ok (.ireturn, 1) := by decide +kernel
noncomputable def p_X9_way (Y : rx_Y) : rx_P := [(0, rx_ld 2 0 1), (1, rx_get 9 13 4), (4, rx_pure (rx_push (.int 0)) 5), (5, rx_ald 3 2 6), (6, rx_cl 42 1 6 true 0 0 0 0 9), (9, rx_br (rx_cm0 Y 4) 45 12), (45, rx_pure (rx_push (.int (-1))) 46), (46, rx_retv .int 0 0)]
noncomputable def m_X9_way (Y : rx_Y) : rx_M := (yX9_way, cX9_way, 1, (some .int), { frames := 3, cells := 0, slots := 0, locals := 61 }, p_X9_way Y)
theorem hd_X9_way : yX9_way.cls ≠ "java/lang/invoke/MethodHandle" ∧ yX9_way.cls ≠ "java/lang/invoke/VarHandle" ∧ (parseMethodDescriptor yX9_way.desc).map (fun d => d.parameters.length) = some 0 := by decide +kernel
abbrev cX9_what : ByteArray := prog_1_method_16_code
def yX9_what : MethodName := ⟨"SeedBench", "what", "(II)J"⟩
theorem dX9_what_0 : decode cX9_what 0 = .ok (.aload_n 0, 1) := by decide +kernel
theorem dX9_what_1 : decode cX9_what 1 = .ok (.getfield 47, 3) := by decide +kernel
theorem dX9_what_4 : decode cX9_what 4 = .ok (.iload_n 1, 1) := by decide +kernel
theorem dX9_what_5 : decode cX9_what 5 = .ok (.iload_n 2, 1) := by decide +kernel
theorem dX9_what_6 : decode cX9_what 6 = .ok (.invokevirtual 181, 3) := by decide +kernel
theorem dX9_what_9 : decode cX9_what 9 = .ok (.lreturn, 1) := by decide +kernel
noncomputable def p_X9_what (Y : rx_Y) : rx_P := [(0, rx_ld 2 0 1), (1, rx_get 9 9 4), (4, rx_ld 0 1 5), (5, rx_ld 0 2 6), (6, rx_cl 12 3 0 true 0 0 0 0 9), (9, rx_retv .long 0 0)]
noncomputable def m_X9_what (Y : rx_Y) : rx_M := (yX9_what, cX9_what, 3, (some .long), { frames := 1, cells := 0, slots := 0, locals := 22 }, p_X9_what Y)
theorem hd_X9_what : yX9_what.cls ≠ "java/lang/invoke/MethodHandle" ∧ yX9_what.cls ≠ "java/lang/invoke/VarHandle" ∧ (parseMethodDescriptor yX9_what.desc).map (fun d => d.parameters.length) = some 2 := by decide +kernel
abbrev cX10_add : ByteArray := prog_12_method_7_code
def yX10_add : MethodName := ⟨"SeedBenchModel", "add", "(I)V"⟩
theorem dX10_add_0 : decode cX10_add 0 = .ok (.aload_n 0, 1) := by decide +kernel
theorem dX10_add_1 : decode cX10_add 1 = .ok (.iload_n 1, 1) := by decide +kernel
theorem dX10_add_2 : decode cX10_add 2 = .ok (.invokevirtual 142, 3) := by decide +kernel
theorem dX10_add_5 : decode cX10_add 5 = .ok (.istore_n 2, 1) := by decide +kernel
theorem dX10_add_6 : decode cX10_add 6 = .ok (.iload_n 2, 1) := by decide +kernel
theorem dX10_add_7 : decode cX10_add 7 = .ok (.aload_n 0, 1) := by decide +kernel
theorem dX10_add_8 : decode cX10_add 8 = .ok (.getfield 13, 3) := by decide +kernel
theorem dX10_add_11 : decode cX10_add 11 = .ok (.iload_n 1, 1) := by decide +kernel
theorem dX10_add_12 : decode cX10_add 12 = .ok (.iaload, 1) := by decide +kernel
theorem dX10_add_13 : decode cX10_add 13 = .ok (.if_icmp .ge 34, 3) := by decide +kernel
theorem dX10_add_16 : decode cX10_add 16 = .ok (.aload_n 0, 1) := by decide +kernel
theorem dX10_add_17 : decode cX10_add 17 = .ok (.iload_n 1, 1) := by decide +kernel
theorem dX10_add_18 : decode cX10_add 18 = .ok (.iload_n 2, 1) := by decide +kernel
theorem dX10_add_19 : decode cX10_add 19 = .ok (.invokevirtual 138, 3) := by decide +kernel
theorem dX10_add_22 : decode cX10_add 22 = .ok (.ifCond .ne 25, 3) := by decide +kernel
theorem dX10_add_25 : decode cX10_add 25 = .ok (.aload_n 0, 1) := by decide +kernel
theorem dX10_add_26 : decode cX10_add 26 = .ok (.getfield 17, 3) := by decide +kernel
theorem dX10_add_29 : decode cX10_add 29 = .ok (.sipush 200, 3) := by decide +kernel
theorem dX10_add_32 : decode cX10_add 32 = .ok (.iload_n 1, 1) := by decide +kernel
theorem dX10_add_33 : decode cX10_add 33 = .ok (.imul, 1) := by decide +kernel
theorem dX10_add_34 : decode cX10_add 34 = .ok (.iload_n 2, 1) := by decide +kernel
theorem dX10_add_35 : decode cX10_add 35 = .ok (.iadd, 1) := by decide +kernel
theorem dX10_add_36 : decode cX10_add 36 = .ok (.dup2, 1) := by decide +kernel
theorem dX10_add_37 : decode cX10_add 37 = .ok (.laload, 1) := by decide +kernel
theorem dX10_add_38 : decode cX10_add 38 = .ok (.aload_n 0, 1) := by decide +kernel
theorem dX10_add_39 : decode cX10_add 39 = .ok (.getfield 146, 3) := by decide +kernel
theorem dX10_add_42 : decode cX10_add 42 = .ok (.ladd, 1) := by decide +kernel
theorem dX10_add_43 : decode cX10_add 43 = .ok (.lastore, 1) := by decide +kernel
theorem dX10_add_44 : decode cX10_add 44 = .ok (.goto 182, 3) := by decide +kernel
theorem dX10_add_226 : decode cX10_add 226 = .ok (.aload_n 0, 1) := by decide +kernel
theorem dX10_add_227 : decode cX10_add 227 = .ok (.getfield 17, 3) := by decide +kernel
theorem dX10_add_230 : decode cX10_add 230 = .ok (.sipush 200, 3) := by decide +kernel
theorem dX10_add_233 : decode cX10_add 233 = .ok (.iload_n 1, 1) := by decide +kernel
theorem dX10_add_234 : decode cX10_add 234 = .ok (.imul, 1) := by decide +kernel
theorem dX10_add_235 : decode cX10_add 235 = .ok (.iload_n 2, 1) := by decide +kernel
theorem dX10_add_236 : decode cX10_add 236 = .ok (.iadd, 1) := by decide +kernel
theorem dX10_add_237 : decode cX10_add 237 = .ok (.laload, 1) := by decide +kernel
theorem dX10_add_238 : decode cX10_add 238 = .ok (.ldc2_w 154, 3) := by decide +kernel
theorem dX10_add_241 : decode cX10_add 241 = .ok (.lcmp, 1) := by decide +kernel
theorem dX10_add_242 : decode cX10_add 242 = .ok (.ifCond .le 8, 3) := by decide +kernel
theorem dX10_add_250 : decode cX10_add 250 = .ok (.return_, 1) := by decide +kernel
noncomputable def p_X10_add (Y : rx_Y) : rx_P := [(0, rx_ld 2 0 1), (1, rx_ld 0 1 2), (2, rx_cl 131 2 10 true 0 0 0 0 5), (5, rx_st 0 2 6 5), (6, rx_ld 0 2 7), (7, rx_ld 2 0 8), (8, rx_get 10 1 11), (11, rx_ld 0 1 12), (12, rx_ald 0 0 13), (13, rx_br (rx_cmp Y 1) 47 16), (16, rx_ld 2 0 17), (17, rx_ld 0 1 18), (18, rx_ld 0 2 19), (19, rx_cl 95 3 10 true 0 0 0 0 22), (22, rx_br (rx_cm0 Y 5) 47 25), (25, rx_ld 2 0 26), (26, rx_get 10 2 29), (29, rx_pure (rx_push (.int 200)) 32), (32, rx_ld 0 1 33), (33, rx_pure (rx_bi (fun x y => x * y)) 34), (34, rx_ld 0 2 35), (35, rx_pure (rx_bi (fun x y => x + y)) 36), (36, rx_pure rx_dup2 37), (37, rx_ald 1 1 38), (38, rx_ld 2 0 39), (39, rx_get 10 5 42), (42, rx_pure (rx_lb (fun x y => x + y)) 43), (43, rx_ast Y 1 .long 44), (44, rx_br rx_goto 226 47), (226, rx_ld 2 0 227), (227, rx_get 10 2 230), (230, rx_pure (rx_push (.int 200)) 233), (233, rx_ld 0 1 234), (234, rx_pure (rx_bi (fun x y => x * y)) 235), (235, rx_ld 0 2 236), (236, rx_pure (rx_bi (fun x y => x + y)) 237), (237, rx_ald 1 1 238), (238, rx_con (.long 1000000000000) 241), (241, rx_pure rx_lcmp 242), (242, rx_br (rx_cm0 Y 3) 250 245), (250, rx_ret0 0 0)]
noncomputable def m_X10_add (Y : rx_Y) : rx_M := (yX10_add, cX10_add, 5, none, { frames := 2, cells := 0, slots := 0, locals := 48 }, p_X10_add Y)
theorem hd_X10_add : yX10_add.cls ≠ "java/lang/invoke/MethodHandle" ∧ yX10_add.cls ≠ "java/lang/invoke/VarHandle" ∧ (parseMethodDescriptor yX10_add.desc).map (fun d => d.parameters.length) = some 1 := by decide +kernel
