abbrev cX4_unpack : ByteArray := prog_6_method_5_code
def yX4_unpack : MethodName := ⟨"SeedBench$Kinds", "unpack", "(LSeedBench$Book;II)V"⟩
theorem dX4_unpack_0 : decode cX4_unpack 0 = .ok (.aload_n 1, 1) := by decide +kernel
theorem dX4_unpack_1 : decode cX4_unpack 1 = .ok (.getfield 73, 3) := by decide +kernel
theorem dX4_unpack_4 : decode cX4_unpack 4 = .ok (.iload_n 2, 1) := by decide +kernel
theorem dX4_unpack_5 : decode cX4_unpack 5 = .ok (.laload, 1) := by decide +kernel
theorem dX4_unpack_6 : decode cX4_unpack 6 = .ok (.lstore 4, 2) := by decide +kernel
theorem dX4_unpack_8 : decode cX4_unpack 8 = .ok (.aload_n 1, 1) := by decide +kernel
theorem dX4_unpack_9 : decode cX4_unpack 9 = .ok (.getfield 77, 3) := by decide +kernel
theorem dX4_unpack_12 : decode cX4_unpack 12 = .ok (.iload_n 2, 1) := by decide +kernel
theorem dX4_unpack_13 : decode cX4_unpack 13 = .ok (.laload, 1) := by decide +kernel
theorem dX4_unpack_14 : decode cX4_unpack 14 = .ok (.lstore 6, 2) := by decide +kernel
theorem dX4_unpack_16 : decode cX4_unpack 16 = .ok (.iload_n 3, 1) := by decide +kernel
theorem dX4_unpack_17 : decode cX4_unpack 17 = .ok (.iconst 1, 1) := by decide +kernel
theorem dX4_unpack_18 : decode cX4_unpack 18 = .ok (.isub, 1) := by decide +kernel
theorem dX4_unpack_19 : decode cX4_unpack 19 = .ok (.istore 8, 2) := by decide +kernel
theorem dX4_unpack_21 : decode cX4_unpack 21 = .ok (.iload 8, 2) := by decide +kernel
theorem dX4_unpack_23 : decode cX4_unpack 23 = .ok (.ifCond .lt 90, 3) := by decide +kernel
theorem dX4_unpack_26 : decode cX4_unpack 26 = .ok (.iload_n 3, 1) := by decide +kernel
theorem dX4_unpack_27 : decode cX4_unpack 27 = .ok (.iconst 1, 1) := by decide +kernel
theorem dX4_unpack_28 : decode cX4_unpack 28 = .ok (.isub, 1) := by decide +kernel
theorem dX4_unpack_29 : decode cX4_unpack 29 = .ok (.istore 9, 2) := by decide +kernel
theorem dX4_unpack_31 : decode cX4_unpack 31 = .ok (.iload 9, 2) := by decide +kernel
theorem dX4_unpack_33 : decode cX4_unpack 33 = .ok (.ifCond .lt 74, 3) := by decide +kernel
theorem dX4_unpack_36 : decode cX4_unpack 36 = .ok (.iload 8, 2) := by decide +kernel
theorem dX4_unpack_38 : decode cX4_unpack 38 = .ok (.iconst 3, 1) := by decide +kernel
theorem dX4_unpack_39 : decode cX4_unpack 39 = .ok (.if_icmp .ge 34, 3) := by decide +kernel
theorem dX4_unpack_42 : decode cX4_unpack 42 = .ok (.aload_n 0, 1) := by decide +kernel
theorem dX4_unpack_43 : decode cX4_unpack 43 = .ok (.getfield 15, 3) := by decide +kernel
theorem dX4_unpack_46 : decode cX4_unpack 46 = .ok (.iload 8, 2) := by decide +kernel
theorem dX4_unpack_48 : decode cX4_unpack 48 = .ok (.bipush 6, 2) := by decide +kernel
theorem dX4_unpack_50 : decode cX4_unpack 50 = .ok (.imul, 1) := by decide +kernel
theorem dX4_unpack_51 : decode cX4_unpack 51 = .ok (.iload 9, 2) := by decide +kernel
theorem dX4_unpack_53 : decode cX4_unpack 53 = .ok (.iadd, 1) := by decide +kernel
theorem dX4_unpack_54 : decode cX4_unpack 54 = .ok (.lload 4, 2) := by decide +kernel
theorem dX4_unpack_56 : decode cX4_unpack 56 = .ok (.ldc2_w 80, 3) := by decide +kernel
theorem dX4_unpack_59 : decode cX4_unpack 59 = .ok (.land, 1) := by decide +kernel
theorem dX4_unpack_60 : decode cX4_unpack 60 = .ok (.l2i, 1) := by decide +kernel
theorem dX4_unpack_61 : decode cX4_unpack 61 = .ok (.iconst 3, 1) := by decide +kernel
theorem dX4_unpack_62 : decode cX4_unpack 62 = .ok (.isub, 1) := by decide +kernel
theorem dX4_unpack_63 : decode cX4_unpack 63 = .ok (.iastore, 1) := by decide +kernel
theorem dX4_unpack_64 : decode cX4_unpack 64 = .ok (.lload 4, 2) := by decide +kernel
theorem dX4_unpack_66 : decode cX4_unpack 66 = .ok (.iconst 3, 1) := by decide +kernel
theorem dX4_unpack_67 : decode cX4_unpack 67 = .ok (.lushr, 1) := by decide +kernel
theorem dX4_unpack_68 : decode cX4_unpack 68 = .ok (.lstore 4, 2) := by decide +kernel
theorem dX4_unpack_70 : decode cX4_unpack 70 = .ok (.goto 31, 3) := by decide +kernel
theorem dX4_unpack_101 : decode cX4_unpack 101 = .ok (.iinc 9 (-1), 3) := by decide +kernel
theorem dX4_unpack_104 : decode cX4_unpack 104 = .ok (.goto (-73), 3) := by decide +kernel
theorem dX4_unpack_107 : decode cX4_unpack 107 = .ok (.iinc 8 (-1), 3) := by decide +kernel
theorem dX4_unpack_110 : decode cX4_unpack 110 = .ok (.goto (-89), 3) := by decide +kernel
theorem dX4_unpack_113 : decode cX4_unpack 113 = .ok (.return_, 1) := by decide +kernel
noncomputable def p_X4_unpack (Y : rx_Y) : rx_P := [(0, rx_ld 2 1 1), (1, rx_get 1 0 4), (4, rx_ld 0 2 5), (5, rx_ald 1 1 6), (6, rx_st 1 4 8 10), (8, rx_ld 2 1 9), (9, rx_get 1 1 12), (12, rx_ld 0 2 13), (13, rx_ald 1 1 14), (14, rx_st 1 6 16 10), (16, rx_ld 0 3 17), (17, rx_pure (rx_push (.int 1)) 18), (18, rx_pure (rx_bi (fun x y => x - y)) 19), (19, rx_st 0 8 21 10), (21, rx_ld 0 8 23), (23, rx_br (rx_cm0 Y 0) 113 26), (26, rx_ld 0 3 27), (27, rx_pure (rx_push (.int 1)) 28), (28, rx_pure (rx_bi (fun x y => x - y)) 29), (29, rx_st 0 9 31 10), (31, rx_ld 0 9 33), (33, rx_br (rx_cm0 Y 0) 107 36), (36, rx_ld 0 8 38), (38, rx_pure (rx_push (.int 3)) 39), (39, rx_br (rx_cmp Y 1) 73 42), (42, rx_ld 2 0 43), (43, rx_get 4 3 46), (46, rx_ld 0 8 48), (48, rx_pure (rx_push (.int 6)) 50), (50, rx_pure (rx_bi (fun x y => x * y)) 51), (51, rx_ld 0 9 53), (53, rx_pure (rx_bi (fun x y => x + y)) 54), (54, rx_ld 1 4 56), (56, rx_con (.long 7) 59), (59, rx_pure (rx_lb (fun x y => x &&& y)) 60), (60, rx_pure rx_l2i 61), (61, rx_pure (rx_push (.int 3)) 62), (62, rx_pure (rx_bi (fun x y => x - y)) 63), (63, rx_ast Y 0 .int 64), (64, rx_ld 1 4 66), (66, rx_pure (rx_push (.int 3)) 67), (67, rx_pure (rx_ls (fun x y => (x.toUInt64 >>> (y.toInt64.toUInt64 &&& Int64.toUInt64 63)).toInt64)) 68), (68, rx_st 1 4 70 10), (70, rx_br rx_goto 101 73), (101, rx_inc 9 (-1) 104 10), (104, rx_br rx_goto 31 107), (107, rx_inc 8 (-1) 110 10), (110, rx_br rx_goto 21 113), (113, rx_ret0 0 0)]
noncomputable def m_X4_unpack (Y : rx_Y) : rx_M := (yX4_unpack, cX4_unpack, 10, none, { frames := 0, cells := 0, slots := 0, locals := 0 }, p_X4_unpack Y)
theorem hd_X4_unpack : yX4_unpack.cls ≠ "java/lang/invoke/MethodHandle" ∧ yX4_unpack.cls ≠ "java/lang/invoke/VarHandle" ∧ (parseMethodDescriptor yX4_unpack.desc).map (fun d => d.parameters.length) = some 3 := by decide +kernel
abbrev cX5_addAll : ByteArray := prog_7_method_8_code
def yX5_addAll : MethodName := ⟨"SeedBench$Mill", "addAll", "(LSeedBench$Share;LSeedBench$Share;)Z"⟩
theorem dX5_addAll_0 : decode cX5_addAll 0 = .ok (.aload_n 1, 1) := by decide +kernel
theorem dX5_addAll_1 : decode cX5_addAll 1 = .ok (.getfield 108, 3) := by decide +kernel
theorem dX5_addAll_4 : decode cX5_addAll 4 = .ok (.istore_n 3, 1) := by decide +kernel
theorem dX5_addAll_5 : decode cX5_addAll 5 = .ok (.iconst 0, 1) := by decide +kernel
theorem dX5_addAll_6 : decode cX5_addAll 6 = .ok (.istore 4, 2) := by decide +kernel
theorem dX5_addAll_8 : decode cX5_addAll 8 = .ok (.iload 4, 2) := by decide +kernel
theorem dX5_addAll_10 : decode cX5_addAll 10 = .ok (.aload_n 2, 1) := by decide +kernel
theorem dX5_addAll_11 : decode cX5_addAll 11 = .ok (.getfield 76, 3) := by decide +kernel
theorem dX5_addAll_14 : decode cX5_addAll 14 = .ok (.if_icmp .ge 48, 3) := by decide +kernel
theorem dX5_addAll_17 : decode cX5_addAll 17 = .ok (.aload_n 2, 1) := by decide +kernel
theorem dX5_addAll_18 : decode cX5_addAll 18 = .ok (.getfield 89, 3) := by decide +kernel
theorem dX5_addAll_21 : decode cX5_addAll 21 = .ok (.iload 4, 2) := by decide +kernel
theorem dX5_addAll_23 : decode cX5_addAll 23 = .ok (.iload_n 3, 1) := by decide +kernel
theorem dX5_addAll_24 : decode cX5_addAll 24 = .ok (.imul, 1) := by decide +kernel
theorem dX5_addAll_25 : decode cX5_addAll 25 = .ok (.aload_n 0, 1) := by decide +kernel
theorem dX5_addAll_26 : decode cX5_addAll 26 = .ok (.getfield 30, 3) := by decide +kernel
theorem dX5_addAll_29 : decode cX5_addAll 29 = .ok (.iconst 0, 1) := by decide +kernel
theorem dX5_addAll_30 : decode cX5_addAll 30 = .ok (.iload_n 3, 1) := by decide +kernel
theorem dX5_addAll_31 : decode cX5_addAll 31 = .ok (.invokestatic 115, 3) := by decide +kernel
theorem dX5_addAll_34 : decode cX5_addAll 34 = .ok (.aload_n 1, 1) := by decide +kernel
theorem dX5_addAll_35 : decode cX5_addAll 35 = .ok (.aload_n 0, 1) := by decide +kernel
theorem dX5_addAll_36 : decode cX5_addAll 36 = .ok (.getfield 30, 3) := by decide +kernel
theorem dX5_addAll_39 : decode cX5_addAll 39 = .ok (.aload_n 2, 1) := by decide +kernel
theorem dX5_addAll_40 : decode cX5_addAll 40 = .ok (.getfield 92, 3) := by decide +kernel
theorem dX5_addAll_43 : decode cX5_addAll 43 = .ok (.iload 4, 2) := by decide +kernel
theorem dX5_addAll_45 : decode cX5_addAll 45 = .ok (.laload, 1) := by decide +kernel
theorem dX5_addAll_46 : decode cX5_addAll 46 = .ok (.iconst 0, 1) := by decide +kernel
theorem dX5_addAll_47 : decode cX5_addAll 47 = .ok (.invokevirtual 104, 3) := by decide +kernel
theorem dX5_addAll_50 : decode cX5_addAll 50 = .ok (.iconst (-1), 1) := by decide +kernel
theorem dX5_addAll_51 : decode cX5_addAll 51 = .ok (.if_icmp .ne 5, 3) := by decide +kernel
theorem dX5_addAll_56 : decode cX5_addAll 56 = .ok (.iinc 4 1, 3) := by decide +kernel
theorem dX5_addAll_59 : decode cX5_addAll 59 = .ok (.goto (-51), 3) := by decide +kernel
theorem dX5_addAll_62 : decode cX5_addAll 62 = .ok (.iconst 1, 1) := by decide +kernel
theorem dX5_addAll_63 : decode cX5_addAll 63 = .ok (.ireturn, 1) := by decide +kernel
noncomputable def p_X5_addAll (Y : rx_Y) : rx_P := [(0, rx_ld 2 1 1), (1, rx_get 8 0 4), (4, rx_st 0 3 5 5), (5, rx_pure (rx_push (.int 0)) 6), (6, rx_st 0 4 8 5), (8, rx_ld 0 4 10), (10, rx_ld 2 2 11), (11, rx_get 8 1 14), (14, rx_br (rx_cmp Y 1) 62 17), (17, rx_ld 2 2 18), (18, rx_get 8 3 21), (21, rx_ld 0 4 23), (23, rx_ld 0 3 24), (24, rx_pure (rx_bi (fun x y => x * y)) 25), (25, rx_ld 2 0 26), (26, rx_get 5 5 29), (29, rx_pure (rx_push (.int 0)) 30), (30, rx_ld 0 3 31), (31, rx_acp 0 54 34), (34, rx_ld 2 1 35), (35, rx_ld 2 0 36), (36, rx_get 5 5 39), (39, rx_ld 2 2 40), (40, rx_get 8 2 43), (43, rx_ld 0 4 45), (45, rx_ald 1 1 46), (46, rx_pure (rx_push (.int 0)) 47), (47, rx_cl 49 4 8 true 0 0 0 0 50), (50, rx_pure (rx_push (.int (-1))) 51), (51, rx_br (rx_cmp Y 5) 56 54), (56, rx_inc 4 1 59 5), (59, rx_br rx_goto 8 62), (62, rx_pure (rx_push (.int 1)) 63), (63, rx_retv .boolean 0 0)]
noncomputable def m_X5_addAll (Y : rx_Y) : rx_M := (yX5_addAll, cX5_addAll, 5, (some .boolean), { frames := 2, cells := 0, slots := 0, locals := 54 }, p_X5_addAll Y)
theorem hd_X5_addAll : yX5_addAll.cls ≠ "java/lang/invoke/MethodHandle" ∧ yX5_addAll.cls ≠ "java/lang/invoke/VarHandle" ∧ (parseMethodDescriptor yX5_addAll.desc).map (fun d => d.parameters.length) = some 2 := by decide +kernel
abbrev cX5_beginProduct : ByteArray := prog_7_method_5_code
def yX5_beginProduct : MethodName := ⟨"SeedBench$Mill", "beginProduct", "(LSeedBench$Seed;IILSeedBench$Share;)Z"⟩
theorem dX5_beginProduct_0 : decode cX5_beginProduct 0 = .ok (.aload_n 1, 1) := by decide +kernel
theorem dX5_beginProduct_1 : decode cX5_beginProduct 1 = .ok (.getfield 42, 3) := by decide +kernel
theorem dX5_beginProduct_4 : decode cX5_beginProduct 4 = .ok (.aload_n 1, 1) := by decide +kernel
theorem dX5_beginProduct_5 : decode cX5_beginProduct 5 = .ok (.getfield 46, 3) := by decide +kernel
theorem dX5_beginProduct_8 : decode cX5_beginProduct 8 = .ok (.iadd, 1) := by decide +kernel
theorem dX5_beginProduct_9 : decode cX5_beginProduct 9 = .ok (.istore 5, 2) := by decide +kernel
theorem dX5_beginProduct_11 : decode cX5_beginProduct 11 = .ok (.lconst 1, 1) := by decide +kernel
theorem dX5_beginProduct_12 : decode cX5_beginProduct 12 = .ok (.lstore 6, 2) := by decide +kernel
theorem dX5_beginProduct_14 : decode cX5_beginProduct 14 = .ok (.aload_n 0, 1) := by decide +kernel
theorem dX5_beginProduct_15 : decode cX5_beginProduct 15 = .ok (.getfield 30, 3) := by decide +kernel
theorem dX5_beginProduct_18 : decode cX5_beginProduct 18 = .ok (.iconst 0, 1) := by decide +kernel
theorem dX5_beginProduct_19 : decode cX5_beginProduct 19 = .ok (.invokestatic 83, 3) := by decide +kernel
theorem dX5_beginProduct_22 : decode cX5_beginProduct 22 = .ok (.iconst 0, 1) := by decide +kernel
theorem dX5_beginProduct_23 : decode cX5_beginProduct 23 = .ok (.istore 8, 2) := by decide +kernel
theorem dX5_beginProduct_25 : decode cX5_beginProduct 25 = .ok (.iload 8, 2) := by decide +kernel
theorem dX5_beginProduct_27 : decode cX5_beginProduct 27 = .ok (.iload 5, 2) := by decide +kernel
theorem dX5_beginProduct_29 : decode cX5_beginProduct 29 = .ok (.if_icmp .ge 168, 3) := by decide +kernel
theorem dX5_beginProduct_32 : decode cX5_beginProduct 32 = .ok (.iload_n 3, 1) := by decide +kernel
theorem dX5_beginProduct_33 : decode cX5_beginProduct 33 = .ok (.aload_n 1, 1) := by decide +kernel
theorem dX5_beginProduct_34 : decode cX5_beginProduct 34 = .ok (.getfield 37, 3) := by decide +kernel
theorem dX5_beginProduct_37 : decode cX5_beginProduct 37 = .ok (.iload 8, 2) := by decide +kernel
theorem dX5_beginProduct_39 : decode cX5_beginProduct 39 = .ok (.bipush 6, 2) := by decide +kernel
theorem dX5_beginProduct_41 : decode cX5_beginProduct 41 = .ok (.imul, 1) := by decide +kernel
theorem dX5_beginProduct_42 : decode cX5_beginProduct 42 = .ok (.iload_n 2, 1) := by decide +kernel
theorem dX5_beginProduct_43 : decode cX5_beginProduct 43 = .ok (.iadd, 1) := by decide +kernel
theorem dX5_beginProduct_44 : decode cX5_beginProduct 44 = .ok (.iaload, 1) := by decide +kernel
theorem dX5_beginProduct_45 : decode cX5_beginProduct 45 = .ok (.imul, 1) := by decide +kernel
theorem dX5_beginProduct_46 : decode cX5_beginProduct 46 = .ok (.istore 9, 2) := by decide +kernel
theorem dX5_beginProduct_48 : decode cX5_beginProduct 48 = .ok (.iload 9, 2) := by decide +kernel
theorem dX5_beginProduct_50 : decode cX5_beginProduct 50 = .ok (.ifCond .le 27, 3) := by decide +kernel
theorem dX5_beginProduct_77 : decode cX5_beginProduct 77 = .ok (.iload 9, 2) := by decide +kernel
theorem dX5_beginProduct_79 : decode cX5_beginProduct 79 = .ok (.ifCond .le 112, 3) := by decide +kernel
theorem dX5_beginProduct_191 : decode cX5_beginProduct 191 = .ok (.iinc 8 1, 3) := by decide +kernel
theorem dX5_beginProduct_194 : decode cX5_beginProduct 194 = .ok (.goto (-169), 3) := by decide +kernel
theorem dX5_beginProduct_197 : decode cX5_beginProduct 197 = .ok (.aload 4, 2) := by decide +kernel
theorem dX5_beginProduct_199 : decode cX5_beginProduct 199 = .ok (.iload 5, 2) := by decide +kernel
theorem dX5_beginProduct_201 : decode cX5_beginProduct 201 = .ok (.invokevirtual 100, 3) := by decide +kernel
theorem dX5_beginProduct_204 : decode cX5_beginProduct 204 = .ok (.lload 6, 2) := by decide +kernel
theorem dX5_beginProduct_206 : decode cX5_beginProduct 206 = .ok (.lconst 0, 1) := by decide +kernel
theorem dX5_beginProduct_207 : decode cX5_beginProduct 207 = .ok (.lcmp, 1) := by decide +kernel
theorem dX5_beginProduct_208 : decode cX5_beginProduct 208 = .ok (.ifCond .le 23, 3) := by decide +kernel
theorem dX5_beginProduct_211 : decode cX5_beginProduct 211 = .ok (.aload 4, 2) := by decide +kernel
theorem dX5_beginProduct_213 : decode cX5_beginProduct 213 = .ok (.aload_n 0, 1) := by decide +kernel
theorem dX5_beginProduct_214 : decode cX5_beginProduct 214 = .ok (.getfield 30, 3) := by decide +kernel
theorem dX5_beginProduct_217 : decode cX5_beginProduct 217 = .ok (.lload 6, 2) := by decide +kernel
theorem dX5_beginProduct_219 : decode cX5_beginProduct 219 = .ok (.iconst 0, 1) := by decide +kernel
theorem dX5_beginProduct_220 : decode cX5_beginProduct 220 = .ok (.invokevirtual 104, 3) := by decide +kernel
theorem dX5_beginProduct_223 : decode cX5_beginProduct 223 = .ok (.iconst (-1), 1) := by decide +kernel
theorem dX5_beginProduct_224 : decode cX5_beginProduct 224 = .ok (.if_icmp .eq 7, 3) := by decide +kernel
theorem dX5_beginProduct_227 : decode cX5_beginProduct 227 = .ok (.iconst 1, 1) := by decide +kernel
theorem dX5_beginProduct_228 : decode cX5_beginProduct 228 = .ok (.goto 4, 3) := by decide +kernel
theorem dX5_beginProduct_232 : decode cX5_beginProduct 232 = .ok (.ireturn, 1) := by decide +kernel
noncomputable def p_X5_beginProduct (Y : rx_Y) : rx_P := [(0, rx_ld 2 1 1), (1, rx_get 7 0 4), (4, rx_ld 2 1 5), (5, rx_get 7 1 8), (8, rx_pure (rx_bi (fun x y => x + y)) 9), (9, rx_st 0 5 11 12), (11, rx_pure (rx_push (.long 1)) 12), (12, rx_st 1 6 14 12), (14, rx_ld 2 0 15), (15, rx_get 5 5 18), (18, rx_pure (rx_push (.int 0)) 19), (19, rx_cl 0 2 0 false 0 0 0 0 22), (22, rx_pure (rx_push (.int 0)) 23), (23, rx_st 0 8 25 12), (25, rx_ld 0 8 27), (27, rx_ld 0 5 29), (29, rx_br (rx_cmp Y 1) 197 32), (32, rx_ld 0 3 33), (33, rx_ld 2 1 34), (34, rx_get 7 2 37), (37, rx_ld 0 8 39), (39, rx_pure (rx_push (.int 6)) 41), (41, rx_pure (rx_bi (fun x y => x * y)) 42), (42, rx_ld 0 2 43), (43, rx_pure (rx_bi (fun x y => x + y)) 44), (44, rx_ald 0 0 45), (45, rx_pure (rx_bi (fun x y => x * y)) 46), (46, rx_st 0 9 48 12), (48, rx_ld 0 9 50), (50, rx_br (rx_cm0 Y 3) 77 53), (77, rx_ld 0 9 79), (79, rx_br (rx_cm0 Y 3) 191 82), (191, rx_inc 8 1 194 12), (194, rx_br rx_goto 25 197), (197, rx_ld 2 4 199), (199, rx_ld 0 5 201), (201, rx_cl 51 2 8 true 0 0 0 0 204), (204, rx_ld 1 6 206), (206, rx_pure (rx_push (.long 0)) 207), (207, rx_pure rx_lcmp 208), (208, rx_br (rx_cm0 Y 3) 231 211), (211, rx_ld 2 4 213), (213, rx_ld 2 0 214), (214, rx_get 5 5 217), (217, rx_ld 1 6 219), (219, rx_pure (rx_push (.int 0)) 220), (220, rx_cl 49 4 8 true 0 0 0 0 223), (223, rx_pure (rx_push (.int (-1))) 224), (224, rx_br (rx_cmp Y 4) 231 227), (227, rx_pure (rx_push (.int 1)) 228), (228, rx_br rx_goto 232 231), (232, rx_retv .boolean 0 0)]
noncomputable def m_X5_beginProduct (Y : rx_Y) : rx_M := (yX5_beginProduct, cX5_beginProduct, 12, (some .boolean), { frames := 2, cells := 0, slots := 0, locals := 54 }, p_X5_beginProduct Y)
theorem hd_X5_beginProduct : yX5_beginProduct.cls ≠ "java/lang/invoke/MethodHandle" ∧ yX5_beginProduct.cls ≠ "java/lang/invoke/VarHandle" ∧ (parseMethodDescriptor yX5_beginProduct.desc).map (fun d => d.parameters.length) = some 4 := by decide +kernel
abbrev cX5_divide : ByteArray := prog_7_method_9_code
def yX5_divide : MethodName := ⟨"SeedBench$Mill", "divide", "(LSeedBench$Share;LSeedBench$Share;)Z"⟩
theorem dX5_divide_0 : decode cX5_divide 0 = .ok (.aload_n 1, 1) := by decide +kernel
theorem dX5_divide_1 : decode cX5_divide 1 = .ok (.getfield 108, 3) := by decide +kernel
theorem dX5_divide_4 : decode cX5_divide 4 = .ok (.istore_n 3, 1) := by decide +kernel
theorem dX5_divide_5 : decode cX5_divide 5 = .ok (.aload_n 0, 1) := by decide +kernel
theorem dX5_divide_6 : decode cX5_divide 6 = .ok (.getfield 12, 3) := by decide +kernel
theorem dX5_divide_9 : decode cX5_divide 9 = .ok (.iload_n 3, 1) := by decide +kernel
theorem dX5_divide_10 : decode cX5_divide 10 = .ok (.invokevirtual 100, 3) := by decide +kernel
theorem dX5_divide_13 : decode cX5_divide 13 = .ok (.aload_n 2, 1) := by decide +kernel
theorem dX5_divide_14 : decode cX5_divide 14 = .ok (.getfield 76, 3) := by decide +kernel
theorem dX5_divide_17 : decode cX5_divide 17 = .ok (.ifCond .eq 14, 3) := by decide +kernel
theorem dX5_divide_20 : decode cX5_divide 20 = .ok (.aload_n 2, 1) := by decide +kernel
theorem dX5_divide_21 : decode cX5_divide 21 = .ok (.getfield 92, 3) := by decide +kernel
theorem dX5_divide_24 : decode cX5_divide 24 = .ok (.iconst 0, 1) := by decide +kernel
theorem dX5_divide_25 : decode cX5_divide 25 = .ok (.laload, 1) := by decide +kernel
theorem dX5_divide_26 : decode cX5_divide 26 = .ok (.lconst 0, 1) := by decide +kernel
theorem dX5_divide_27 : decode cX5_divide 27 = .ok (.lcmp, 1) := by decide +kernel
theorem dX5_divide_28 : decode cX5_divide 28 = .ok (.ifCond .gt 5, 3) := by decide +kernel
theorem dX5_divide_33 : decode cX5_divide 33 = .ok (.iconst 0, 1) := by decide +kernel
theorem dX5_divide_34 : decode cX5_divide 34 = .ok (.istore 4, 2) := by decide +kernel
theorem dX5_divide_36 : decode cX5_divide 36 = .ok (.iload 4, 2) := by decide +kernel
theorem dX5_divide_38 : decode cX5_divide 38 = .ok (.aload_n 1, 1) := by decide +kernel
theorem dX5_divide_39 : decode cX5_divide 39 = .ok (.getfield 76, 3) := by decide +kernel
theorem dX5_divide_42 : decode cX5_divide 42 = .ok (.if_icmp .ge 121, 3) := by decide +kernel
theorem dX5_divide_45 : decode cX5_divide 45 = .ok (.aload_n 1, 1) := by decide +kernel
theorem dX5_divide_46 : decode cX5_divide 46 = .ok (.getfield 92, 3) := by decide +kernel
theorem dX5_divide_49 : decode cX5_divide 49 = .ok (.iload 4, 2) := by decide +kernel
theorem dX5_divide_51 : decode cX5_divide 51 = .ok (.laload, 1) := by decide +kernel
theorem dX5_divide_52 : decode cX5_divide 52 = .ok (.lconst 0, 1) := by decide +kernel
theorem dX5_divide_53 : decode cX5_divide 53 = .ok (.lcmp, 1) := by decide +kernel
theorem dX5_divide_54 : decode cX5_divide 54 = .ok (.ifCond .ne 6, 3) := by decide +kernel
theorem dX5_divide_60 : decode cX5_divide 60 = .ok (.iconst 0, 1) := by decide +kernel
theorem dX5_divide_61 : decode cX5_divide 61 = .ok (.istore 5, 2) := by decide +kernel
theorem dX5_divide_63 : decode cX5_divide 63 = .ok (.iload 5, 2) := by decide +kernel
theorem dX5_divide_65 : decode cX5_divide 65 = .ok (.iload_n 3, 1) := by decide +kernel
theorem dX5_divide_66 : decode cX5_divide 66 = .ok (.if_icmp .ge 36, 3) := by decide +kernel
theorem dX5_divide_69 : decode cX5_divide 69 = .ok (.aload_n 0, 1) := by decide +kernel
theorem dX5_divide_70 : decode cX5_divide 70 = .ok (.getfield 34, 3) := by decide +kernel
theorem dX5_divide_73 : decode cX5_divide 73 = .ok (.iload 5, 2) := by decide +kernel
theorem dX5_divide_75 : decode cX5_divide 75 = .ok (.aload_n 1, 1) := by decide +kernel
theorem dX5_divide_76 : decode cX5_divide 76 = .ok (.getfield 89, 3) := by decide +kernel
theorem dX5_divide_79 : decode cX5_divide 79 = .ok (.iload 4, 2) := by decide +kernel
theorem dX5_divide_81 : decode cX5_divide 81 = .ok (.iload_n 3, 1) := by decide +kernel
theorem dX5_divide_82 : decode cX5_divide 82 = .ok (.imul, 1) := by decide +kernel
theorem dX5_divide_83 : decode cX5_divide 83 = .ok (.iload 5, 2) := by decide +kernel
theorem dX5_divide_85 : decode cX5_divide 85 = .ok (.iadd, 1) := by decide +kernel
theorem dX5_divide_86 : decode cX5_divide 86 = .ok (.iaload, 1) := by decide +kernel
theorem dX5_divide_87 : decode cX5_divide 87 = .ok (.aload_n 2, 1) := by decide +kernel
theorem dX5_divide_88 : decode cX5_divide 88 = .ok (.getfield 89, 3) := by decide +kernel
theorem dX5_divide_91 : decode cX5_divide 91 = .ok (.iload 5, 2) := by decide +kernel
theorem dX5_divide_93 : decode cX5_divide 93 = .ok (.iaload, 1) := by decide +kernel
theorem dX5_divide_94 : decode cX5_divide 94 = .ok (.isub, 1) := by decide +kernel
theorem dX5_divide_95 : decode cX5_divide 95 = .ok (.iastore, 1) := by decide +kernel
theorem dX5_divide_96 : decode cX5_divide 96 = .ok (.iinc 5 1, 3) := by decide +kernel
theorem dX5_divide_99 : decode cX5_divide 99 = .ok (.goto (-36), 3) := by decide +kernel
theorem dX5_divide_102 : decode cX5_divide 102 = .ok (.aload_n 1, 1) := by decide +kernel
theorem dX5_divide_103 : decode cX5_divide 103 = .ok (.getfield 92, 3) := by decide +kernel
theorem dX5_divide_106 : decode cX5_divide 106 = .ok (.iload 4, 2) := by decide +kernel
theorem dX5_divide_108 : decode cX5_divide 108 = .ok (.laload, 1) := by decide +kernel
theorem dX5_divide_109 : decode cX5_divide 109 = .ok (.aload_n 2, 1) := by decide +kernel
theorem dX5_divide_110 : decode cX5_divide 110 = .ok (.getfield 92, 3) := by decide +kernel
theorem dX5_divide_113 : decode cX5_divide 113 = .ok (.iconst 0, 1) := by decide +kernel
theorem dX5_divide_114 : decode cX5_divide 114 = .ok (.laload, 1) := by decide +kernel
theorem dX5_divide_115 : decode cX5_divide 115 = .ok (.ldiv, 1) := by decide +kernel
theorem dX5_divide_116 : decode cX5_divide 116 = .ok (.lstore 5, 2) := by decide +kernel
theorem dX5_divide_118 : decode cX5_divide 118 = .ok (.aload_n 0, 1) := by decide +kernel
theorem dX5_divide_119 : decode cX5_divide 119 = .ok (.getfield 12, 3) := by decide +kernel
theorem dX5_divide_122 : decode cX5_divide 122 = .ok (.aload_n 0, 1) := by decide +kernel
theorem dX5_divide_123 : decode cX5_divide 123 = .ok (.getfield 34, 3) := by decide +kernel
theorem dX5_divide_126 : decode cX5_divide 126 = .ok (.lload 5, 2) := by decide +kernel
theorem dX5_divide_128 : decode cX5_divide 128 = .ok (.aload_n 0, 1) := by decide +kernel
theorem dX5_divide_129 : decode cX5_divide 129 = .ok (.getfield 12, 3) := by decide +kernel
theorem dX5_divide_132 : decode cX5_divide 132 = .ok (.getfield 76, 3) := by decide +kernel
theorem dX5_divide_135 : decode cX5_divide 135 = .ok (.invokevirtual 104, 3) := by decide +kernel
theorem dX5_divide_138 : decode cX5_divide 138 = .ok (.iconst (-1), 1) := by decide +kernel
theorem dX5_divide_139 : decode cX5_divide 139 = .ok (.if_icmp .eq 16, 3) := by decide +kernel
theorem dX5_divide_142 : decode cX5_divide 142 = .ok (.aload_n 0, 1) := by decide +kernel
theorem dX5_divide_143 : decode cX5_divide 143 = .ok (.aload_n 1, 1) := by decide +kernel
theorem dX5_divide_144 : decode cX5_divide 144 = .ok (.iload 4, 2) := by decide +kernel
theorem dX5_divide_146 : decode cX5_divide 146 = .ok (.aload_n 2, 1) := by decide +kernel
theorem dX5_divide_147 : decode cX5_divide 147 = .ok (.lload 5, 2) := by decide +kernel
theorem dX5_divide_149 : decode cX5_divide 149 = .ok (.invokevirtual 121, 3) := by decide +kernel
theorem dX5_divide_152 : decode cX5_divide 152 = .ok (.ifCond .ne 5, 3) := by decide +kernel
theorem dX5_divide_157 : decode cX5_divide 157 = .ok (.iinc 4 1, 3) := by decide +kernel
theorem dX5_divide_160 : decode cX5_divide 160 = .ok (.goto (-124), 3) := by decide +kernel
theorem dX5_divide_163 : decode cX5_divide 163 = .ok (.iconst 1, 1) := by decide +kernel
theorem dX5_divide_164 : decode cX5_divide 164 = .ok (.ireturn, 1) := by decide +kernel
noncomputable def p_X5_divide (Y : rx_Y) : rx_P := [(0, rx_ld 2 1 1), (1, rx_get 8 0 4), (4, rx_st 0 3 5 7), (5, rx_ld 2 0 6), (6, rx_get 5 0 9), (9, rx_ld 0 3 10), (10, rx_cl 51 2 8 true 0 0 0 0 13), (13, rx_ld 2 2 14), (14, rx_get 8 1 17), (17, rx_br (rx_cm0 Y 4) 31 20), (20, rx_ld 2 2 21), (21, rx_get 8 2 24), (24, rx_pure (rx_push (.int 0)) 25), (25, rx_ald 1 1 26), (26, rx_pure (rx_push (.long 0)) 27), (27, rx_pure rx_lcmp 28), (28, rx_br (rx_cm0 Y 2) 33 31), (33, rx_pure (rx_push (.int 0)) 34), (34, rx_st 0 4 36 7), (36, rx_ld 0 4 38), (38, rx_ld 2 1 39), (39, rx_get 8 1 42), (42, rx_br (rx_cmp Y 1) 163 45), (45, rx_ld 2 1 46), (46, rx_get 8 2 49), (49, rx_ld 0 4 51), (51, rx_ald 1 1 52), (52, rx_pure (rx_push (.long 0)) 53), (53, rx_pure rx_lcmp 54), (54, rx_br (rx_cm0 Y 5) 60 57), (60, rx_pure (rx_push (.int 0)) 61), (61, rx_st 0 5 63 7), (63, rx_ld 0 5 65), (65, rx_ld 0 3 66), (66, rx_br (rx_cmp Y 1) 102 69), (69, rx_ld 2 0 70), (70, rx_get 5 6 73), (73, rx_ld 0 5 75), (75, rx_ld 2 1 76), (76, rx_get 8 3 79), (79, rx_ld 0 4 81), (81, rx_ld 0 3 82), (82, rx_pure (rx_bi (fun x y => x * y)) 83), (83, rx_ld 0 5 85), (85, rx_pure (rx_bi (fun x y => x + y)) 86), (86, rx_ald 0 0 87), (87, rx_ld 2 2 88), (88, rx_get 8 3 91), (91, rx_ld 0 5 93), (93, rx_ald 0 0 94), (94, rx_pure (rx_bi (fun x y => x - y)) 95), (95, rx_ast Y 0 .int 96), (96, rx_inc 5 1 99 7), (99, rx_br rx_goto 63 102), (102, rx_ld 2 1 103), (103, rx_get 8 2 106), (106, rx_ld 0 4 108), (108, rx_ald 1 1 109), (109, rx_ld 2 2 110), (110, rx_get 8 2 113), (113, rx_pure (rx_push (.int 0)) 114), (114, rx_ald 1 1 115), (115, rx_pure (rx_lbd (fun x y => x / y)) 116), (116, rx_st 1 5 118 7), (118, rx_ld 2 0 119), (119, rx_get 5 0 122), (122, rx_ld 2 0 123), (123, rx_get 5 6 126), (126, rx_ld 1 5 128), (128, rx_ld 2 0 129), (129, rx_get 5 0 132), (132, rx_get 8 1 135), (135, rx_cl 49 4 8 true 0 0 0 0 138), (138, rx_pure (rx_push (.int (-1))) 139), (139, rx_br (rx_cmp Y 4) 155 142), (142, rx_ld 2 0 143), (143, rx_ld 2 1 144), (144, rx_ld 0 4 146), (146, rx_ld 2 2 147), (147, rx_ld 1 5 149), (149, rx_cl 33 5 5 true 0 0 0 0 152), (152, rx_br (rx_cm0 Y 5) 157 155), (157, rx_inc 4 1 160 7), (160, rx_br rx_goto 36 163), (163, rx_pure (rx_push (.int 1)) 164), (164, rx_retv .boolean 0 0)]
noncomputable def m_X5_divide (Y : rx_Y) : rx_M := (yX5_divide, cX5_divide, 7, (some .boolean), { frames := 2, cells := 0, slots := 0, locals := 57 }, p_X5_divide Y)
theorem hd_X5_divide : yX5_divide.cls ≠ "java/lang/invoke/MethodHandle" ∧ yX5_divide.cls ≠ "java/lang/invoke/VarHandle" ∧ (parseMethodDescriptor yX5_divide.desc).map (fun d => d.parameters.length) = some 2 := by decide +kernel
abbrev cX5_exchange : ByteArray := prog_7_method_2_code
def yX5_exchange : MethodName := ⟨"SeedBench$Mill", "exchange", "(LSeedBench$Seed;I)Z"⟩
theorem dX5_exchange_0 : decode cX5_exchange 0 = .ok (.aload_n 1, 1) := by decide +kernel
theorem dX5_exchange_1 : decode cX5_exchange 1 = .ok (.getfield 37, 3) := by decide +kernel
theorem dX5_exchange_4 : decode cX5_exchange 4 = .ok (.aload_n 1, 1) := by decide +kernel
theorem dX5_exchange_5 : decode cX5_exchange 5 = .ok (.getfield 42, 3) := by decide +kernel
theorem dX5_exchange_8 : decode cX5_exchange 8 = .ok (.aload_n 1, 1) := by decide +kernel
theorem dX5_exchange_9 : decode cX5_exchange 9 = .ok (.getfield 46, 3) := by decide +kernel
theorem dX5_exchange_12 : decode cX5_exchange 12 = .ok (.iadd, 1) := by decide +kernel
theorem dX5_exchange_13 : decode cX5_exchange 13 = .ok (.aload_n 1, 1) := by decide +kernel
theorem dX5_exchange_14 : decode cX5_exchange 14 = .ok (.getfield 42, 3) := by decide +kernel
theorem dX5_exchange_17 : decode cX5_exchange 17 = .ok (.iload_n 2, 1) := by decide +kernel
theorem dX5_exchange_18 : decode cX5_exchange 18 = .ok (.invokestatic 49, 3) := by decide +kernel
theorem dX5_exchange_21 : decode cX5_exchange 21 = .ok (.ifCond .ne 5, 3) := by decide +kernel
theorem dX5_exchange_26 : decode cX5_exchange 26 = .ok (.aload_n 0, 1) := by decide +kernel
theorem dX5_exchange_27 : decode cX5_exchange 27 = .ok (.aload_n 1, 1) := by decide +kernel
theorem dX5_exchange_28 : decode cX5_exchange 28 = .ok (.iload_n 2, 1) := by decide +kernel
theorem dX5_exchange_29 : decode cX5_exchange 29 = .ok (.iconst 1, 1) := by decide +kernel
theorem dX5_exchange_30 : decode cX5_exchange 30 = .ok (.aload_n 0, 1) := by decide +kernel
theorem dX5_exchange_31 : decode cX5_exchange 31 = .ok (.getfield 18, 3) := by decide +kernel
theorem dX5_exchange_34 : decode cX5_exchange 34 = .ok (.aload_n 0, 1) := by decide +kernel
theorem dX5_exchange_35 : decode cX5_exchange 35 = .ok (.getfield 21, 3) := by decide +kernel
theorem dX5_exchange_38 : decode cX5_exchange 38 = .ok (.invokevirtual 53, 3) := by decide +kernel
theorem dX5_exchange_41 : decode cX5_exchange 41 = .ok (.astore_n 3, 1) := by decide +kernel
theorem dX5_exchange_42 : decode cX5_exchange 42 = .ok (.aload_n 0, 1) := by decide +kernel
theorem dX5_exchange_43 : decode cX5_exchange 43 = .ok (.aload_n 1, 1) := by decide +kernel
theorem dX5_exchange_44 : decode cX5_exchange 44 = .ok (.iload_n 2, 1) := by decide +kernel
theorem dX5_exchange_45 : decode cX5_exchange 45 = .ok (.iconst (-1), 1) := by decide +kernel
theorem dX5_exchange_46 : decode cX5_exchange 46 = .ok (.aload_n 0, 1) := by decide +kernel
theorem dX5_exchange_47 : decode cX5_exchange 47 = .ok (.getfield 24, 3) := by decide +kernel
theorem dX5_exchange_50 : decode cX5_exchange 50 = .ok (.aload_n 0, 1) := by decide +kernel
theorem dX5_exchange_51 : decode cX5_exchange 51 = .ok (.getfield 27, 3) := by decide +kernel
theorem dX5_exchange_54 : decode cX5_exchange 54 = .ok (.invokevirtual 53, 3) := by decide +kernel
theorem dX5_exchange_57 : decode cX5_exchange 57 = .ok (.astore 4, 2) := by decide +kernel
theorem dX5_exchange_59 : decode cX5_exchange 59 = .ok (.aload_n 3, 1) := by decide +kernel
theorem dX5_exchange_60 : decode cX5_exchange 60 = .ok (.ifnull 18, 3) := by decide +kernel
theorem dX5_exchange_63 : decode cX5_exchange 63 = .ok (.aload 4, 2) := by decide +kernel
theorem dX5_exchange_65 : decode cX5_exchange 65 = .ok (.ifnull 13, 3) := by decide +kernel
theorem dX5_exchange_68 : decode cX5_exchange 68 = .ok (.aload_n 0, 1) := by decide +kernel
theorem dX5_exchange_69 : decode cX5_exchange 69 = .ok (.aload_n 3, 1) := by decide +kernel
theorem dX5_exchange_70 : decode cX5_exchange 70 = .ok (.aload 4, 2) := by decide +kernel
theorem dX5_exchange_72 : decode cX5_exchange 72 = .ok (.invokevirtual 57, 3) := by decide +kernel
theorem dX5_exchange_75 : decode cX5_exchange 75 = .ok (.ifCond .ne 5, 3) := by decide +kernel
theorem dX5_exchange_80 : decode cX5_exchange 80 = .ok (.aload_n 0, 1) := by decide +kernel
theorem dX5_exchange_81 : decode cX5_exchange 81 = .ok (.aload_n 3, 1) := by decide +kernel
theorem dX5_exchange_82 : decode cX5_exchange 82 = .ok (.aload_n 1, 1) := by decide +kernel
theorem dX5_exchange_83 : decode cX5_exchange 83 = .ok (.getfield 61, 3) := by decide +kernel
theorem dX5_exchange_86 : decode cX5_exchange 86 = .ok (.iload_n 2, 1) := by decide +kernel
theorem dX5_exchange_87 : decode cX5_exchange 87 = .ok (.aaload, 1) := by decide +kernel
theorem dX5_exchange_88 : decode cX5_exchange 88 = .ok (.invokevirtual 65, 3) := by decide +kernel
theorem dX5_exchange_91 : decode cX5_exchange 91 = .ok (.ireturn, 1) := by decide +kernel
noncomputable def p_X5_exchange (Y : rx_Y) : rx_P := [(0, rx_ld 2 1 1), (1, rx_get 7 2 4), (4, rx_ld 2 1 5), (5, rx_get 7 0 8), (8, rx_ld 2 1 9), (9, rx_get 7 1 12), (12, rx_pure (rx_bi (fun x y => x + y)) 13), (13, rx_ld 2 1 14), (14, rx_get 7 0 17), (17, rx_ld 0 2 18), (18, rx_cl 74 4 0 false 0 0 0 0 21), (21, rx_br (rx_cm0 Y 5) 26 24), (26, rx_ld 2 0 27), (27, rx_ld 2 1 28), (28, rx_ld 0 2 29), (29, rx_pure (rx_push (.int 1)) 30), (30, rx_ld 2 0 31), (31, rx_get 5 1 34), (34, rx_ld 2 0 35), (35, rx_get 5 2 38), (38, rx_cl 31 6 5 true 0 0 0 0 41), (41, rx_st 2 3 42 5), (42, rx_ld 2 0 43), (43, rx_ld 2 1 44), (44, rx_ld 0 2 45), (45, rx_pure (rx_push (.int (-1))) 46), (46, rx_ld 2 0 47), (47, rx_get 5 3 50), (50, rx_ld 2 0 51), (51, rx_get 5 4 54), (54, rx_cl 31 6 5 true 0 0 0 0 57), (57, rx_st 2 4 59 5), (59, rx_ld 2 3 60), (60, rx_br rx_nul 78 63), (63, rx_ld 2 4 65), (65, rx_br rx_nul 78 68), (68, rx_ld 2 0 69), (69, rx_ld 2 3 70), (70, rx_ld 2 4 72), (72, rx_cl 26 3 5 true 0 0 0 0 75), (75, rx_br (rx_cm0 Y 5) 80 78), (80, rx_ld 2 0 81), (81, rx_ld 2 3 82), (82, rx_ld 2 1 83), (83, rx_get 7 4 86), (86, rx_ld 0 2 87), (87, rx_ald 5 2 88), (88, rx_cl 28 3 5 true 0 0 0 0 91), (91, rx_retv .boolean 0 0)]
noncomputable def m_X5_exchange (Y : rx_Y) : rx_M := (yX5_exchange, cX5_exchange, 5, (some .boolean), { frames := 4, cells := 0, slots := 0, locals := 116 }, p_X5_exchange Y)
theorem hd_X5_exchange : yX5_exchange.cls ≠ "java/lang/invoke/MethodHandle" ∧ yX5_exchange.cls ≠ "java/lang/invoke/VarHandle" ∧ (parseMethodDescriptor yX5_exchange.desc).map (fun d => d.parameters.length) = some 2 := by decide +kernel
abbrev cX5_init : ByteArray := prog_7_method_1_code
def yX5_init : MethodName := ⟨"SeedBench$Mill", "<init>", "()V"⟩
theorem dX5_init_0 : decode cX5_init 0 = .ok (.aload_n 0, 1) := by decide +kernel
theorem dX5_init_1 : decode cX5_init 1 = .ok (.invokespecial 3, 3) := by decide +kernel
theorem dX5_init_4 : decode cX5_init 4 = .ok (.aload_n 0, 1) := by decide +kernel
theorem dX5_init_5 : decode cX5_init 5 = .ok (.new 9, 3) := by decide +kernel
theorem dX5_init_8 : decode cX5_init 8 = .ok (.dup, 1) := by decide +kernel
theorem dX5_init_9 : decode cX5_init 9 = .ok (.invokespecial 11, 3) := by decide +kernel
theorem dX5_init_12 : decode cX5_init 12 = .ok (.putfield 12, 3) := by decide +kernel
theorem dX5_init_15 : decode cX5_init 15 = .ok (.aload_n 0, 1) := by decide +kernel
theorem dX5_init_16 : decode cX5_init 16 = .ok (.new 9, 3) := by decide +kernel
theorem dX5_init_19 : decode cX5_init 19 = .ok (.dup, 1) := by decide +kernel
theorem dX5_init_20 : decode cX5_init 20 = .ok (.invokespecial 11, 3) := by decide +kernel
theorem dX5_init_23 : decode cX5_init 23 = .ok (.putfield 18, 3) := by decide +kernel
theorem dX5_init_26 : decode cX5_init 26 = .ok (.aload_n 0, 1) := by decide +kernel
theorem dX5_init_27 : decode cX5_init 27 = .ok (.new 9, 3) := by decide +kernel
theorem dX5_init_30 : decode cX5_init 30 = .ok (.dup, 1) := by decide +kernel
theorem dX5_init_31 : decode cX5_init 31 = .ok (.invokespecial 11, 3) := by decide +kernel
theorem dX5_init_34 : decode cX5_init 34 = .ok (.putfield 21, 3) := by decide +kernel
theorem dX5_init_37 : decode cX5_init 37 = .ok (.aload_n 0, 1) := by decide +kernel
theorem dX5_init_38 : decode cX5_init 38 = .ok (.new 9, 3) := by decide +kernel
theorem dX5_init_41 : decode cX5_init 41 = .ok (.dup, 1) := by decide +kernel
theorem dX5_init_42 : decode cX5_init 42 = .ok (.invokespecial 11, 3) := by decide +kernel
theorem dX5_init_45 : decode cX5_init 45 = .ok (.putfield 24, 3) := by decide +kernel
theorem dX5_init_48 : decode cX5_init 48 = .ok (.aload_n 0, 1) := by decide +kernel
theorem dX5_init_49 : decode cX5_init 49 = .ok (.new 9, 3) := by decide +kernel
theorem dX5_init_52 : decode cX5_init 52 = .ok (.dup, 1) := by decide +kernel
theorem dX5_init_53 : decode cX5_init 53 = .ok (.invokespecial 11, 3) := by decide +kernel
theorem dX5_init_56 : decode cX5_init 56 = .ok (.putfield 27, 3) := by decide +kernel
theorem dX5_init_59 : decode cX5_init 59 = .ok (.aload_n 0, 1) := by decide +kernel
theorem dX5_init_60 : decode cX5_init 60 = .ok (.bipush 12, 2) := by decide +kernel
theorem dX5_init_62 : decode cX5_init 62 = .ok (.newarray .int, 2) := by decide +kernel
theorem dX5_init_64 : decode cX5_init 64 = .ok (.putfield 30, 3) := by decide +kernel
theorem dX5_init_67 : decode cX5_init 67 = .ok (.aload_n 0, 1) := by decide +kernel
theorem dX5_init_68 : decode cX5_init 68 = .ok (.bipush 12, 2) := by decide +kernel
theorem dX5_init_70 : decode cX5_init 70 = .ok (.newarray .int, 2) := by decide +kernel
theorem dX5_init_72 : decode cX5_init 72 = .ok (.putfield 34, 3) := by decide +kernel
theorem dX5_init_75 : decode cX5_init 75 = .ok (.return_, 1) := by decide +kernel
noncomputable def p_X5_init (Y : rx_Y) : rx_P := [(0, rx_ld 2 0 1), (1, rx_obj 32 4), (4, rx_ld 2 0 5), (5, rx_new 8 fs_X8 17 13044 8), (8, rx_pure rx_dup 9), (9, rx_cl 55 1 8 true 2 2600 17 13044 12), (12, rx_putf 5 0 (.object "SeedBench$Share") 15), (15, rx_ld 2 0 16), (16, rx_new 8 fs_X8 17 13044 19), (19, rx_pure rx_dup 20), (20, rx_cl 55 1 8 true 2 2600 17 13044 23), (23, rx_putf 5 1 (.object "SeedBench$Share") 26), (26, rx_ld 2 0 27), (27, rx_new 8 fs_X8 17 13044 30), (30, rx_pure rx_dup 31), (31, rx_cl 55 1 8 true 2 2600 17 13044 34), (34, rx_putf 5 2 (.object "SeedBench$Share") 37), (37, rx_ld 2 0 38), (38, rx_new 8 fs_X8 17 13044 41), (41, rx_pure rx_dup 42), (42, rx_cl 55 1 8 true 2 2600 17 13044 45), (45, rx_putf 5 3 (.object "SeedBench$Share") 48), (48, rx_ld 2 0 49), (49, rx_new 8 fs_X8 17 13044 52), (52, rx_pure rx_dup 53), (53, rx_cl 55 1 8 true 2 2600 17 13044 56), (56, rx_putf 5 4 (.object "SeedBench$Share") 59), (59, rx_ld 2 0 60), (60, rx_pure (rx_push (.int 12)) 62), (62, rx_nwa 0 17 13044 64), (64, rx_putf 5 5 (.array .int) 67), (67, rx_ld 2 0 68), (68, rx_pure (rx_push (.int 12)) 70), (70, rx_nwa 0 17 13044 72), (72, rx_putf 5 6 (.array .int) 75), (75, rx_ret0 17 13044)]
noncomputable def m_X5_init (Y : rx_Y) : rx_M := (yX5_init, cX5_init, 1, none, { frames := 2, cells := 17, slots := 13044, locals := 32 }, p_X5_init Y)
theorem hd_X5_init : yX5_init.cls ≠ "java/lang/invoke/MethodHandle" ∧ yX5_init.cls ≠ "java/lang/invoke/VarHandle" ∧ (parseMethodDescriptor yX5_init.desc).map (fun d => d.parameters.length) = some 0 := by decide +kernel
abbrev cX5_product : ByteArray := prog_7_method_4_code
def yX5_product : MethodName := ⟨"SeedBench$Mill", "product", "(LSeedBench$Seed;IILSeedBench$Share;LSeedBench$Share;)LSeedBench$Share;"⟩
theorem dX5_product_0 : decode cX5_product 0 = .ok (.aload 4, 2) := by decide +kernel
theorem dX5_product_2 : decode cX5_product 2 = .ok (.astore 6, 2) := by decide +kernel
theorem dX5_product_4 : decode cX5_product 4 = .ok (.aload 5, 2) := by decide +kernel
theorem dX5_product_6 : decode cX5_product 6 = .ok (.astore 7, 2) := by decide +kernel
theorem dX5_product_8 : decode cX5_product 8 = .ok (.aload_n 0, 1) := by decide +kernel
theorem dX5_product_9 : decode cX5_product 9 = .ok (.aload_n 1, 1) := by decide +kernel
theorem dX5_product_10 : decode cX5_product 10 = .ok (.iload_n 2, 1) := by decide +kernel
theorem dX5_product_11 : decode cX5_product 11 = .ok (.iload_n 3, 1) := by decide +kernel
theorem dX5_product_12 : decode cX5_product 12 = .ok (.aload 6, 2) := by decide +kernel
theorem dX5_product_14 : decode cX5_product 14 = .ok (.invokevirtual 72, 3) := by decide +kernel
theorem dX5_product_17 : decode cX5_product 17 = .ok (.ifCond .ne 5, 3) := by decide +kernel
theorem dX5_product_22 : decode cX5_product 22 = .ok (.iconst 0, 1) := by decide +kernel
theorem dX5_product_23 : decode cX5_product 23 = .ok (.istore 8, 2) := by decide +kernel
theorem dX5_product_25 : decode cX5_product 25 = .ok (.iload 8, 2) := by decide +kernel
theorem dX5_product_27 : decode cX5_product 27 = .ok (.aload_n 1, 1) := by decide +kernel
theorem dX5_product_28 : decode cX5_product 28 = .ok (.getfield 42, 3) := by decide +kernel
theorem dX5_product_31 : decode cX5_product 31 = .ok (.if_icmp .ge 91, 3) := by decide +kernel
theorem dX5_product_34 : decode cX5_product 34 = .ok (.aload_n 1, 1) := by decide +kernel
theorem dX5_product_35 : decode cX5_product 35 = .ok (.getfield 61, 3) := by decide +kernel
theorem dX5_product_38 : decode cX5_product 38 = .ok (.iload 8, 2) := by decide +kernel
theorem dX5_product_40 : decode cX5_product 40 = .ok (.aaload, 1) := by decide +kernel
theorem dX5_product_41 : decode cX5_product 41 = .ok (.getfield 76, 3) := by decide +kernel
theorem dX5_product_44 : decode cX5_product 44 = .ok (.iconst 1, 1) := by decide +kernel
theorem dX5_product_45 : decode cX5_product 45 = .ok (.if_icmp .le 20, 3) := by decide +kernel
theorem dX5_product_65 : decode cX5_product 65 = .ok (.iconst 0, 1) := by decide +kernel
theorem dX5_product_66 : decode cX5_product 66 = .ok (.istore 9, 2) := by decide +kernel
theorem dX5_product_68 : decode cX5_product 68 = .ok (.iconst 0, 1) := by decide +kernel
theorem dX5_product_69 : decode cX5_product 69 = .ok (.istore 10, 2) := by decide +kernel
theorem dX5_product_71 : decode cX5_product 71 = .ok (.iload 10, 2) := by decide +kernel
theorem dX5_product_73 : decode cX5_product 73 = .ok (.iload 9, 2) := by decide +kernel
theorem dX5_product_75 : decode cX5_product 75 = .ok (.if_icmp .ge 41, 3) := by decide +kernel
theorem dX5_product_116 : decode cX5_product 116 = .ok (.iinc 8 1, 3) := by decide +kernel
theorem dX5_product_119 : decode cX5_product 119 = .ok (.goto (-94), 3) := by decide +kernel
theorem dX5_product_122 : decode cX5_product 122 = .ok (.aload 6, 2) := by decide +kernel
theorem dX5_product_124 : decode cX5_product 124 = .ok (.areturn, 1) := by decide +kernel
noncomputable def p_X5_product (Y : rx_Y) : rx_P := [(0, rx_ld 2 4 2), (2, rx_st 2 6 4 12), (4, rx_ld 2 5 6), (6, rx_st 2 7 8 12), (8, rx_ld 2 0 9), (9, rx_ld 2 1 10), (10, rx_ld 0 2 11), (11, rx_ld 0 3 12), (12, rx_ld 2 6 14), (14, rx_cl 27 5 5 true 0 0 0 0 17), (17, rx_br (rx_cm0 Y 5) 22 20), (22, rx_pure (rx_push (.int 0)) 23), (23, rx_st 0 8 25 12), (25, rx_ld 0 8 27), (27, rx_ld 2 1 28), (28, rx_get 7 0 31), (31, rx_br (rx_cmp Y 1) 122 34), (34, rx_ld 2 1 35), (35, rx_get 7 4 38), (38, rx_ld 0 8 40), (40, rx_ald 5 2 41), (41, rx_get 8 1 44), (44, rx_pure (rx_push (.int 1)) 45), (45, rx_br (rx_cmp Y 3) 65 48), (65, rx_pure (rx_push (.int 0)) 66), (66, rx_st 0 9 68 12), (68, rx_pure (rx_push (.int 0)) 69), (69, rx_st 0 10 71 12), (71, rx_ld 0 10 73), (73, rx_ld 0 9 75), (75, rx_br (rx_cmp Y 1) 116 78), (116, rx_inc 8 1 119 12), (119, rx_br rx_goto 25 122), (122, rx_ld 2 6 124), (124, rx_retv (.object "SeedBench$Share") 0 0)]
noncomputable def m_X5_product (Y : rx_Y) : rx_M := (yX5_product, cX5_product, 12, (some (.object "SeedBench$Share")), { frames := 3, cells := 0, slots := 0, locals := 85 }, p_X5_product Y)
theorem hd_X5_product : yX5_product.cls ≠ "java/lang/invoke/MethodHandle" ∧ yX5_product.cls ≠ "java/lang/invoke/VarHandle" ∧ (parseMethodDescriptor yX5_product.desc).map (fun d => d.parameters.length) = some 5 := by decide +kernel
abbrev cX5_settle : ByteArray := prog_7_method_3_code
def yX5_settle : MethodName := ⟨"SeedBench$Mill", "settle", "(LSeedBench$Seed;I)V"⟩
theorem dX5_settle_0 : decode cX5_settle 0 = .ok (.aload_n 1, 1) := by decide +kernel
theorem dX5_settle_1 : decode cX5_settle 1 = .ok (.getfield 61, 3) := by decide +kernel
theorem dX5_settle_4 : decode cX5_settle 4 = .ok (.iload_n 2, 1) := by decide +kernel
theorem dX5_settle_5 : decode cX5_settle 5 = .ok (.aaload, 1) := by decide +kernel
theorem dX5_settle_6 : decode cX5_settle 6 = .ok (.astore_n 3, 1) := by decide +kernel
theorem dX5_settle_7 : decode cX5_settle 7 = .ok (.aload_n 1, 1) := by decide +kernel
theorem dX5_settle_8 : decode cX5_settle 8 = .ok (.getfield 61, 3) := by decide +kernel
theorem dX5_settle_11 : decode cX5_settle 11 = .ok (.iload_n 2, 1) := by decide +kernel
theorem dX5_settle_12 : decode cX5_settle 12 = .ok (.aload_n 0, 1) := by decide +kernel
theorem dX5_settle_13 : decode cX5_settle 13 = .ok (.getfield 12, 3) := by decide +kernel
theorem dX5_settle_16 : decode cX5_settle 16 = .ok (.aastore, 1) := by decide +kernel
theorem dX5_settle_17 : decode cX5_settle 17 = .ok (.aload_n 0, 1) := by decide +kernel
theorem dX5_settle_18 : decode cX5_settle 18 = .ok (.aload_n 3, 1) := by decide +kernel
theorem dX5_settle_19 : decode cX5_settle 19 = .ok (.putfield 12, 3) := by decide +kernel
theorem dX5_settle_22 : decode cX5_settle 22 = .ok (.aload_n 1, 1) := by decide +kernel
theorem dX5_settle_23 : decode cX5_settle 23 = .ok (.getfield 37, 3) := by decide +kernel
theorem dX5_settle_26 : decode cX5_settle 26 = .ok (.aload_n 1, 1) := by decide +kernel
theorem dX5_settle_27 : decode cX5_settle 27 = .ok (.getfield 42, 3) := by decide +kernel
theorem dX5_settle_30 : decode cX5_settle 30 = .ok (.aload_n 1, 1) := by decide +kernel
theorem dX5_settle_31 : decode cX5_settle 31 = .ok (.getfield 46, 3) := by decide +kernel
theorem dX5_settle_34 : decode cX5_settle 34 = .ok (.iadd, 1) := by decide +kernel
theorem dX5_settle_35 : decode cX5_settle 35 = .ok (.aload_n 1, 1) := by decide +kernel
theorem dX5_settle_36 : decode cX5_settle 36 = .ok (.getfield 42, 3) := by decide +kernel
theorem dX5_settle_39 : decode cX5_settle 39 = .ok (.iload_n 2, 1) := by decide +kernel
theorem dX5_settle_40 : decode cX5_settle 40 = .ok (.invokestatic 68, 3) := by decide +kernel
theorem dX5_settle_43 : decode cX5_settle 43 = .ok (.return_, 1) := by decide +kernel
noncomputable def p_X5_settle (Y : rx_Y) : rx_P := [(0, rx_ld 2 1 1), (1, rx_get 7 4 4), (4, rx_ld 0 2 5), (5, rx_ald 5 2 6), (6, rx_st 2 3 7 4), (7, rx_ld 2 1 8), (8, rx_get 7 4 11), (11, rx_ld 0 2 12), (12, rx_ld 2 0 13), (13, rx_get 5 0 16), (16, rx_asq 5 8 17), (17, rx_ld 2 0 18), (18, rx_ld 2 3 19), (19, rx_putf 5 0 (.object "SeedBench$Share") 22), (22, rx_ld 2 1 23), (23, rx_get 7 2 26), (26, rx_ld 2 1 27), (27, rx_get 7 0 30), (30, rx_ld 2 1 31), (31, rx_get 7 1 34), (34, rx_pure (rx_bi (fun x y => x + y)) 35), (35, rx_ld 2 1 36), (36, rx_get 7 0 39), (39, rx_ld 0 2 40), (40, rx_cl 91 4 0 false 0 0 0 0 43), (43, rx_ret0 0 0)]
noncomputable def m_X5_settle (Y : rx_Y) : rx_M := (yX5_settle, cX5_settle, 4, none, { frames := 1, cells := 0, slots := 0, locals := 25 }, p_X5_settle Y)
theorem hd_X5_settle : yX5_settle.cls ≠ "java/lang/invoke/MethodHandle" ∧ yX5_settle.cls ≠ "java/lang/invoke/VarHandle" ∧ (parseMethodDescriptor yX5_settle.desc).map (fun d => d.parameters.length) = some 2 := by decide +kernel
abbrev cX5_takeAway : ByteArray := prog_7_method_10_code
def yX5_takeAway : MethodName := ⟨"SeedBench$Mill", "takeAway", "(LSeedBench$Share;ILSeedBench$Share;J)Z"⟩
theorem dX5_takeAway_0 : decode cX5_takeAway 0 = .ok (.aload_n 1, 1) := by decide +kernel
theorem dX5_takeAway_1 : decode cX5_takeAway 1 = .ok (.getfield 108, 3) := by decide +kernel
theorem dX5_takeAway_4 : decode cX5_takeAway 4 = .ok (.istore 6, 2) := by decide +kernel
theorem dX5_takeAway_6 : decode cX5_takeAway 6 = .ok (.iload_n 2, 1) := by decide +kernel
theorem dX5_takeAway_7 : decode cX5_takeAway 7 = .ok (.istore 7, 2) := by decide +kernel
theorem dX5_takeAway_9 : decode cX5_takeAway 9 = .ok (.iconst 0, 1) := by decide +kernel
theorem dX5_takeAway_10 : decode cX5_takeAway 10 = .ok (.istore 8, 2) := by decide +kernel
theorem dX5_takeAway_12 : decode cX5_takeAway 12 = .ok (.iload 8, 2) := by decide +kernel
theorem dX5_takeAway_14 : decode cX5_takeAway 14 = .ok (.aload_n 3, 1) := by decide +kernel
theorem dX5_takeAway_15 : decode cX5_takeAway 15 = .ok (.getfield 76, 3) := by decide +kernel
theorem dX5_takeAway_18 : decode cX5_takeAway 18 = .ok (.if_icmp .ge 98, 3) := by decide +kernel
theorem dX5_takeAway_21 : decode cX5_takeAway 21 = .ok (.iconst 0, 1) := by decide +kernel
theorem dX5_takeAway_22 : decode cX5_takeAway 22 = .ok (.istore 9, 2) := by decide +kernel
theorem dX5_takeAway_24 : decode cX5_takeAway 24 = .ok (.iload 9, 2) := by decide +kernel
theorem dX5_takeAway_26 : decode cX5_takeAway 26 = .ok (.iload 6, 2) := by decide +kernel
theorem dX5_takeAway_28 : decode cX5_takeAway 28 = .ok (.if_icmp .ge 37, 3) := by decide +kernel
theorem dX5_takeAway_31 : decode cX5_takeAway 31 = .ok (.aload_n 0, 1) := by decide +kernel
theorem dX5_takeAway_32 : decode cX5_takeAway 32 = .ok (.getfield 30, 3) := by decide +kernel
theorem dX5_takeAway_35 : decode cX5_takeAway 35 = .ok (.iload 9, 2) := by decide +kernel
theorem dX5_takeAway_37 : decode cX5_takeAway 37 = .ok (.aload_n 0, 1) := by decide +kernel
theorem dX5_takeAway_38 : decode cX5_takeAway 38 = .ok (.getfield 34, 3) := by decide +kernel
theorem dX5_takeAway_41 : decode cX5_takeAway 41 = .ok (.iload 9, 2) := by decide +kernel
theorem dX5_takeAway_43 : decode cX5_takeAway 43 = .ok (.iaload, 1) := by decide +kernel
theorem dX5_takeAway_44 : decode cX5_takeAway 44 = .ok (.aload_n 3, 1) := by decide +kernel
theorem dX5_takeAway_45 : decode cX5_takeAway 45 = .ok (.getfield 89, 3) := by decide +kernel
theorem dX5_takeAway_48 : decode cX5_takeAway 48 = .ok (.iload 8, 2) := by decide +kernel
theorem dX5_takeAway_50 : decode cX5_takeAway 50 = .ok (.iload 6, 2) := by decide +kernel
theorem dX5_takeAway_52 : decode cX5_takeAway 52 = .ok (.imul, 1) := by decide +kernel
theorem dX5_takeAway_53 : decode cX5_takeAway 53 = .ok (.iload 9, 2) := by decide +kernel
theorem dX5_takeAway_55 : decode cX5_takeAway 55 = .ok (.iadd, 1) := by decide +kernel
theorem dX5_takeAway_56 : decode cX5_takeAway 56 = .ok (.iaload, 1) := by decide +kernel
theorem dX5_takeAway_57 : decode cX5_takeAway 57 = .ok (.iadd, 1) := by decide +kernel
theorem dX5_takeAway_58 : decode cX5_takeAway 58 = .ok (.iastore, 1) := by decide +kernel
theorem dX5_takeAway_59 : decode cX5_takeAway 59 = .ok (.iinc 9 1, 3) := by decide +kernel
theorem dX5_takeAway_62 : decode cX5_takeAway 62 = .ok (.goto (-38), 3) := by decide +kernel
theorem dX5_takeAway_65 : decode cX5_takeAway 65 = .ok (.aload_n 1, 1) := by decide +kernel
theorem dX5_takeAway_66 : decode cX5_takeAway 66 = .ok (.aload_n 0, 1) := by decide +kernel
theorem dX5_takeAway_67 : decode cX5_takeAway 67 = .ok (.getfield 30, 3) := by decide +kernel
theorem dX5_takeAway_70 : decode cX5_takeAway 70 = .ok (.iload 7, 2) := by decide +kernel
theorem dX5_takeAway_72 : decode cX5_takeAway 72 = .ok (.invokevirtual 125, 3) := by decide +kernel
theorem dX5_takeAway_75 : decode cX5_takeAway 75 = .ok (.istore 9, 2) := by decide +kernel
theorem dX5_takeAway_77 : decode cX5_takeAway 77 = .ok (.iload 9, 2) := by decide +kernel
theorem dX5_takeAway_79 : decode cX5_takeAway 79 = .ok (.ifCond .ge 5, 3) := by decide +kernel
theorem dX5_takeAway_84 : decode cX5_takeAway 84 = .ok (.aload_n 1, 1) := by decide +kernel
theorem dX5_takeAway_85 : decode cX5_takeAway 85 = .ok (.getfield 92, 3) := by decide +kernel
theorem dX5_takeAway_88 : decode cX5_takeAway 88 = .ok (.iload 9, 2) := by decide +kernel
theorem dX5_takeAway_90 : decode cX5_takeAway 90 = .ok (.dup2, 1) := by decide +kernel
theorem dX5_takeAway_91 : decode cX5_takeAway 91 = .ok (.laload, 1) := by decide +kernel
theorem dX5_takeAway_92 : decode cX5_takeAway 92 = .ok (.lload 4, 2) := by decide +kernel
theorem dX5_takeAway_94 : decode cX5_takeAway 94 = .ok (.aload_n 3, 1) := by decide +kernel
theorem dX5_takeAway_95 : decode cX5_takeAway 95 = .ok (.getfield 92, 3) := by decide +kernel
theorem dX5_takeAway_98 : decode cX5_takeAway 98 = .ok (.iload 8, 2) := by decide +kernel
theorem dX5_takeAway_100 : decode cX5_takeAway 100 = .ok (.laload, 1) := by decide +kernel
theorem dX5_takeAway_101 : decode cX5_takeAway 101 = .ok (.lmul, 1) := by decide +kernel
theorem dX5_takeAway_102 : decode cX5_takeAway 102 = .ok (.lsub, 1) := by decide +kernel
theorem dX5_takeAway_103 : decode cX5_takeAway 103 = .ok (.lastore, 1) := by decide +kernel
theorem dX5_takeAway_104 : decode cX5_takeAway 104 = .ok (.iload 9, 2) := by decide +kernel
theorem dX5_takeAway_106 : decode cX5_takeAway 106 = .ok (.iconst 1, 1) := by decide +kernel
theorem dX5_takeAway_107 : decode cX5_takeAway 107 = .ok (.iadd, 1) := by decide +kernel
theorem dX5_takeAway_108 : decode cX5_takeAway 108 = .ok (.istore 7, 2) := by decide +kernel
theorem dX5_takeAway_110 : decode cX5_takeAway 110 = .ok (.iinc 8 1, 3) := by decide +kernel
theorem dX5_takeAway_113 : decode cX5_takeAway 113 = .ok (.goto (-101), 3) := by decide +kernel
theorem dX5_takeAway_116 : decode cX5_takeAway 116 = .ok (.aload_n 1, 1) := by decide +kernel
theorem dX5_takeAway_117 : decode cX5_takeAway 117 = .ok (.getfield 92, 3) := by decide +kernel
theorem dX5_takeAway_120 : decode cX5_takeAway 120 = .ok (.iload_n 2, 1) := by decide +kernel
theorem dX5_takeAway_121 : decode cX5_takeAway 121 = .ok (.laload, 1) := by decide +kernel
theorem dX5_takeAway_122 : decode cX5_takeAway 122 = .ok (.lconst 0, 1) := by decide +kernel
theorem dX5_takeAway_123 : decode cX5_takeAway 123 = .ok (.lcmp, 1) := by decide +kernel
theorem dX5_takeAway_124 : decode cX5_takeAway 124 = .ok (.ifCond .ne 7, 3) := by decide +kernel
theorem dX5_takeAway_127 : decode cX5_takeAway 127 = .ok (.iconst 1, 1) := by decide +kernel
theorem dX5_takeAway_128 : decode cX5_takeAway 128 = .ok (.goto 4, 3) := by decide +kernel
theorem dX5_takeAway_132 : decode cX5_takeAway 132 = .ok (.ireturn, 1) := by decide +kernel
noncomputable def p_X5_takeAway (Y : rx_Y) : rx_P := [(0, rx_ld 2 1 1), (1, rx_get 8 0 4), (4, rx_st 0 6 6 10), (6, rx_ld 0 2 7), (7, rx_st 0 7 9 10), (9, rx_pure (rx_push (.int 0)) 10), (10, rx_st 0 8 12 10), (12, rx_ld 0 8 14), (14, rx_ld 2 3 15), (15, rx_get 8 1 18), (18, rx_br (rx_cmp Y 1) 116 21), (21, rx_pure (rx_push (.int 0)) 22), (22, rx_st 0 9 24 10), (24, rx_ld 0 9 26), (26, rx_ld 0 6 28), (28, rx_br (rx_cmp Y 1) 65 31), (31, rx_ld 2 0 32), (32, rx_get 5 5 35), (35, rx_ld 0 9 37), (37, rx_ld 2 0 38), (38, rx_get 5 6 41), (41, rx_ld 0 9 43), (43, rx_ald 0 0 44), (44, rx_ld 2 3 45), (45, rx_get 8 3 48), (48, rx_ld 0 8 50), (50, rx_ld 0 6 52), (52, rx_pure (rx_bi (fun x y => x * y)) 53), (53, rx_ld 0 9 55), (55, rx_pure (rx_bi (fun x y => x + y)) 56), (56, rx_ald 0 0 57), (57, rx_pure (rx_bi (fun x y => x + y)) 58), (58, rx_ast Y 0 .int 59), (59, rx_inc 9 1 62 10), (62, rx_br rx_goto 24 65), (65, rx_ld 2 1 66), (66, rx_ld 2 0 67), (67, rx_get 5 5 70), (70, rx_ld 0 7 72), (72, rx_cl 53 3 8 true 0 0 0 0 75), (75, rx_st 0 9 77 10), (77, rx_ld 0 9 79), (79, rx_br (rx_cm0 Y 1) 84 82), (84, rx_ld 2 1 85), (85, rx_get 8 2 88), (88, rx_ld 0 9 90), (90, rx_pure rx_dup2 91), (91, rx_ald 1 1 92), (92, rx_ld 1 4 94), (94, rx_ld 2 3 95), (95, rx_get 8 2 98), (98, rx_ld 0 8 100), (100, rx_ald 1 1 101), (101, rx_pure (rx_lb (fun x y => x * y)) 102), (102, rx_pure (rx_lb (fun x y => x - y)) 103), (103, rx_ast Y 1 .long 104), (104, rx_ld 0 9 106), (106, rx_pure (rx_push (.int 1)) 107), (107, rx_pure (rx_bi (fun x y => x + y)) 108), (108, rx_st 0 7 110 10), (110, rx_inc 8 1 113 10), (113, rx_br rx_goto 12 116), (116, rx_ld 2 1 117), (117, rx_get 8 2 120), (120, rx_ld 0 2 121), (121, rx_ald 1 1 122), (122, rx_pure (rx_push (.long 0)) 123), (123, rx_pure rx_lcmp 124), (124, rx_br (rx_cm0 Y 5) 131 127), (127, rx_pure (rx_push (.int 1)) 128), (128, rx_br rx_goto 132 131), (132, rx_retv .boolean 0 0)]
noncomputable def m_X5_takeAway (Y : rx_Y) : rx_M := (yX5_takeAway, cX5_takeAway, 10, (some .boolean), { frames := 1, cells := 0, slots := 0, locals := 28 }, p_X5_takeAway Y)
theorem hd_X5_takeAway : yX5_takeAway.cls ≠ "java/lang/invoke/MethodHandle" ∧ yX5_takeAway.cls ≠ "java/lang/invoke/VarHandle" ∧ (parseMethodDescriptor yX5_takeAway.desc).map (fun d => d.parameters.length) = some 4 := by decide +kernel
abbrev cX6_areNeighbours : ByteArray := prog_8_method_4_code
def yX6_areNeighbours : MethodName := ⟨"SeedBench$Ring", "areNeighbours", "(II)Z"⟩
theorem dX6_areNeighbours_0 : decode cX6_areNeighbours 0 = .ok (.iload_n 1, 1) := by decide +kernel
theorem dX6_areNeighbours_1 : decode cX6_areNeighbours 1 = .ok (.iload_n 2, 1) := by decide +kernel
theorem dX6_areNeighbours_2 : decode cX6_areNeighbours 2 = .ok (.isub, 1) := by decide +kernel
theorem dX6_areNeighbours_3 : decode cX6_areNeighbours 3 = .ok (.invokestatic 15, 3) := by decide +kernel
theorem dX6_areNeighbours_6 : decode cX6_areNeighbours 6 = .ok (.istore_n 3, 1) := by decide +kernel
theorem dX6_areNeighbours_7 : decode cX6_areNeighbours 7 = .ok (.iload_n 3, 1) := by decide +kernel
theorem dX6_areNeighbours_8 : decode cX6_areNeighbours 8 = .ok (.iconst 1, 1) := by decide +kernel
theorem dX6_areNeighbours_9 : decode cX6_areNeighbours 9 = .ok (.if_icmp .eq 13, 3) := by decide +kernel
theorem dX6_areNeighbours_12 : decode cX6_areNeighbours 12 = .ok (.iload_n 3, 1) := by decide +kernel
theorem dX6_areNeighbours_13 : decode cX6_areNeighbours 13 = .ok (.aload_n 0, 1) := by decide +kernel
theorem dX6_areNeighbours_14 : decode cX6_areNeighbours 14 = .ok (.getfield 9, 3) := by decide +kernel
theorem dX6_areNeighbours_17 : decode cX6_areNeighbours 17 = .ok (.iconst 1, 1) := by decide +kernel
theorem dX6_areNeighbours_18 : decode cX6_areNeighbours 18 = .ok (.isub, 1) := by decide +kernel
theorem dX6_areNeighbours_19 : decode cX6_areNeighbours 19 = .ok (.if_icmp .ne 7, 3) := by decide +kernel
theorem dX6_areNeighbours_22 : decode cX6_areNeighbours 22 = .ok (.iconst 1, 1) := by decide +kernel
theorem dX6_areNeighbours_23 : decode cX6_areNeighbours 23 = .ok (.goto 4, 3) := by decide +kernel
theorem dX6_areNeighbours_26 : decode cX6_areNeighbours 26 = .ok (.iconst 0, 1) := by decide +kernel
theorem dX6_areNeighbours_27 : decode cX6_areNeighbours 27 = .ok (.ireturn, 1) := by decide +kernel
noncomputable def p_X6_areNeighbours (Y : rx_Y) : rx_P := [(0, rx_ld 0 1 1), (1, rx_ld 0 2 2), (2, rx_pure (rx_bi (fun x y => x - y)) 3), (3, rx_m1 rx_abs 0 0 13 6), (6, rx_st 0 3 7 4), (7, rx_ld 0 3 8), (8, rx_pure (rx_push (.int 1)) 9), (9, rx_br (rx_cmp Y 4) 22 12), (12, rx_ld 0 3 13), (13, rx_ld 2 0 14), (14, rx_get 6 0 17), (17, rx_pure (rx_push (.int 1)) 18), (18, rx_pure (rx_bi (fun x y => x - y)) 19), (19, rx_br (rx_cmp Y 5) 26 22), (22, rx_pure (rx_push (.int 1)) 23), (23, rx_br rx_goto 27 26), (26, rx_pure (rx_push (.int 0)) 27), (27, rx_retv .boolean 0 0)]
noncomputable def m_X6_areNeighbours (Y : rx_Y) : rx_M := (yX6_areNeighbours, cX6_areNeighbours, 4, (some .boolean), { frames := 1, cells := 0, slots := 0, locals := 13 }, p_X6_areNeighbours Y)
theorem hd_X6_areNeighbours : yX6_areNeighbours.cls ≠ "java/lang/invoke/MethodHandle" ∧ yX6_areNeighbours.cls ≠ "java/lang/invoke/VarHandle" ∧ (parseMethodDescriptor yX6_areNeighbours.desc).map (fun d => d.parameters.length) = some 2 := by decide +kernel
abbrev cX6_bit : ByteArray := prog_8_method_2_code
def yX6_bit : MethodName := ⟨"SeedBench$Ring", "bit", "(II)J"⟩
theorem dX6_bit_0 : decode cX6_bit 0 = .ok (.iload_n 0, 1) := by decide +kernel
theorem dX6_bit_1 : decode cX6_bit 1 = .ok (.iload_n 1, 1) := by decide +kernel
theorem dX6_bit_2 : decode cX6_bit 2 = .ok (.if_icmp .ge 7, 3) := by decide +kernel
theorem dX6_bit_5 : decode cX6_bit 5 = .ok (.iload_n 0, 1) := by decide +kernel
theorem dX6_bit_6 : decode cX6_bit 6 = .ok (.goto 4, 3) := by decide +kernel
theorem dX6_bit_9 : decode cX6_bit 9 = .ok (.iload_n 1, 1) := by decide +kernel
theorem dX6_bit_10 : decode cX6_bit 10 = .ok (.istore_n 2, 1) := by decide +kernel
theorem dX6_bit_11 : decode cX6_bit 11 = .ok (.iload_n 0, 1) := by decide +kernel
theorem dX6_bit_12 : decode cX6_bit 12 = .ok (.iload_n 1, 1) := by decide +kernel
theorem dX6_bit_13 : decode cX6_bit 13 = .ok (.if_icmp .ge 7, 3) := by decide +kernel
theorem dX6_bit_16 : decode cX6_bit 16 = .ok (.iload_n 1, 1) := by decide +kernel
theorem dX6_bit_17 : decode cX6_bit 17 = .ok (.goto 4, 3) := by decide +kernel
theorem dX6_bit_20 : decode cX6_bit 20 = .ok (.iload_n 0, 1) := by decide +kernel
theorem dX6_bit_21 : decode cX6_bit 21 = .ok (.istore_n 3, 1) := by decide +kernel
theorem dX6_bit_22 : decode cX6_bit 22 = .ok (.lconst 1, 1) := by decide +kernel
theorem dX6_bit_23 : decode cX6_bit 23 = .ok (.iload_n 2, 1) := by decide +kernel
theorem dX6_bit_24 : decode cX6_bit 24 = .ok (.bipush 19, 2) := by decide +kernel
theorem dX6_bit_26 : decode cX6_bit 26 = .ok (.iload_n 2, 1) := by decide +kernel
theorem dX6_bit_27 : decode cX6_bit 27 = .ok (.isub, 1) := by decide +kernel
theorem dX6_bit_28 : decode cX6_bit 28 = .ok (.imul, 1) := by decide +kernel
theorem dX6_bit_29 : decode cX6_bit 29 = .ok (.iconst 2, 1) := by decide +kernel
theorem dX6_bit_30 : decode cX6_bit 30 = .ok (.idiv, 1) := by decide +kernel
theorem dX6_bit_31 : decode cX6_bit 31 = .ok (.iload_n 3, 1) := by decide +kernel
theorem dX6_bit_32 : decode cX6_bit 32 = .ok (.iadd, 1) := by decide +kernel
theorem dX6_bit_33 : decode cX6_bit 33 = .ok (.iload_n 2, 1) := by decide +kernel
theorem dX6_bit_34 : decode cX6_bit 34 = .ok (.isub, 1) := by decide +kernel
theorem dX6_bit_35 : decode cX6_bit 35 = .ok (.iconst 1, 1) := by decide +kernel
theorem dX6_bit_36 : decode cX6_bit 36 = .ok (.isub, 1) := by decide +kernel
theorem dX6_bit_37 : decode cX6_bit 37 = .ok (.lshl, 1) := by decide +kernel
theorem dX6_bit_38 : decode cX6_bit 38 = .ok (.lreturn, 1) := by decide +kernel
noncomputable def p_X6_bit (Y : rx_Y) : rx_P := [(0, rx_ld 0 0 1), (1, rx_ld 0 1 2), (2, rx_br (rx_cmp Y 1) 9 5), (5, rx_ld 0 0 6), (6, rx_br rx_goto 10 9), (9, rx_ld 0 1 10), (10, rx_st 0 2 11 4), (11, rx_ld 0 0 12), (12, rx_ld 0 1 13), (13, rx_br (rx_cmp Y 1) 20 16), (16, rx_ld 0 1 17), (17, rx_br rx_goto 21 20), (20, rx_ld 0 0 21), (21, rx_st 0 3 22 4), (22, rx_pure (rx_push (.long 1)) 23), (23, rx_ld 0 2 24), (24, rx_pure (rx_push (.int 19)) 26), (26, rx_ld 0 2 27), (27, rx_pure (rx_bi (fun x y => x - y)) 28), (28, rx_pure (rx_bi (fun x y => x * y)) 29), (29, rx_pure (rx_push (.int 2)) 30), (30, rx_pure (rx_bid (fun x y => x / y)) 31), (31, rx_ld 0 3 32), (32, rx_pure (rx_bi (fun x y => x + y)) 33), (33, rx_ld 0 2 34), (34, rx_pure (rx_bi (fun x y => x - y)) 35), (35, rx_pure (rx_push (.int 1)) 36), (36, rx_pure (rx_bi (fun x y => x - y)) 37), (37, rx_pure (rx_ls (fun x y => x <<< (y.toInt64 &&& 63))) 38), (38, rx_retv .long 0 0)]
noncomputable def m_X6_bit (Y : rx_Y) : rx_M := (yX6_bit, cX6_bit, 4, (some .long), { frames := 0, cells := 0, slots := 0, locals := 0 }, p_X6_bit Y)
theorem hd_X6_bit : yX6_bit.cls ≠ "java/lang/invoke/MethodHandle" ∧ yX6_bit.cls ≠ "java/lang/invoke/VarHandle" ∧ (parseMethodDescriptor yX6_bit.desc).map (fun d => d.parameters.length) = some 2 := by decide +kernel
abbrev cX6_fenceAt : ByteArray := prog_8_method_12_code
def yX6_fenceAt : MethodName := ⟨"SeedBench$Ring", "fenceAt", "(I)I"⟩
theorem dX6_fenceAt_0 : decode cX6_fenceAt 0 = .ok (.iconst 0, 1) := by decide +kernel
theorem dX6_fenceAt_1 : decode cX6_fenceAt 1 = .ok (.istore_n 2, 1) := by decide +kernel
theorem dX6_fenceAt_2 : decode cX6_fenceAt 2 = .ok (.iconst 0, 1) := by decide +kernel
theorem dX6_fenceAt_3 : decode cX6_fenceAt 3 = .ok (.istore_n 3, 1) := by decide +kernel
theorem dX6_fenceAt_4 : decode cX6_fenceAt 4 = .ok (.iload_n 3, 1) := by decide +kernel
theorem dX6_fenceAt_5 : decode cX6_fenceAt 5 = .ok (.aload_n 0, 1) := by decide +kernel
theorem dX6_fenceAt_6 : decode cX6_fenceAt 6 = .ok (.getfield 9, 3) := by decide +kernel
theorem dX6_fenceAt_9 : decode cX6_fenceAt 9 = .ok (.if_icmp .ge 55, 3) := by decide +kernel
theorem dX6_fenceAt_12 : decode cX6_fenceAt 12 = .ok (.iload_n 3, 1) := by decide +kernel
theorem dX6_fenceAt_13 : decode cX6_fenceAt 13 = .ok (.iconst 1, 1) := by decide +kernel
theorem dX6_fenceAt_14 : decode cX6_fenceAt 14 = .ok (.iadd, 1) := by decide +kernel
theorem dX6_fenceAt_15 : decode cX6_fenceAt 15 = .ok (.istore 4, 2) := by decide +kernel
theorem dX6_fenceAt_17 : decode cX6_fenceAt 17 = .ok (.iload 4, 2) := by decide +kernel
theorem dX6_fenceAt_19 : decode cX6_fenceAt 19 = .ok (.aload_n 0, 1) := by decide +kernel
theorem dX6_fenceAt_20 : decode cX6_fenceAt 20 = .ok (.getfield 9, 3) := by decide +kernel
theorem dX6_fenceAt_23 : decode cX6_fenceAt 23 = .ok (.if_icmp .ge 35, 3) := by decide +kernel
theorem dX6_fenceAt_26 : decode cX6_fenceAt 26 = .ok (.aload_n 0, 1) := by decide +kernel
theorem dX6_fenceAt_27 : decode cX6_fenceAt 27 = .ok (.iload_n 3, 1) := by decide +kernel
theorem dX6_fenceAt_28 : decode cX6_fenceAt 28 = .ok (.iload 4, 2) := by decide +kernel
theorem dX6_fenceAt_30 : decode cX6_fenceAt 30 = .ok (.invokevirtual 33, 3) := by decide +kernel
theorem dX6_fenceAt_33 : decode cX6_fenceAt 33 = .ok (.ifCond .eq 19, 3) := by decide +kernel
theorem dX6_fenceAt_52 : decode cX6_fenceAt 52 = .ok (.iinc 4 1, 3) := by decide +kernel
theorem dX6_fenceAt_55 : decode cX6_fenceAt 55 = .ok (.goto (-38), 3) := by decide +kernel
theorem dX6_fenceAt_58 : decode cX6_fenceAt 58 = .ok (.iinc 3 1, 3) := by decide +kernel
theorem dX6_fenceAt_61 : decode cX6_fenceAt 61 = .ok (.goto (-57), 3) := by decide +kernel
theorem dX6_fenceAt_64 : decode cX6_fenceAt 64 = .ok (.iconst (-1), 1) := by decide +kernel
theorem dX6_fenceAt_65 : decode cX6_fenceAt 65 = .ok (.ireturn, 1) := by decide +kernel
noncomputable def p_X6_fenceAt (Y : rx_Y) : rx_P := [(0, rx_pure (rx_push (.int 0)) 1), (1, rx_st 0 2 2 5), (2, rx_pure (rx_push (.int 0)) 3), (3, rx_st 0 3 4 5), (4, rx_ld 0 3 5), (5, rx_ld 2 0 6), (6, rx_get 6 0 9), (9, rx_br (rx_cmp Y 1) 64 12), (12, rx_ld 0 3 13), (13, rx_pure (rx_push (.int 1)) 14), (14, rx_pure (rx_bi (fun x y => x + y)) 15), (15, rx_st 0 4 17 5), (17, rx_ld 0 4 19), (19, rx_ld 2 0 20), (20, rx_get 6 0 23), (23, rx_br (rx_cmp Y 1) 58 26), (26, rx_ld 2 0 27), (27, rx_ld 0 3 28), (28, rx_ld 0 4 30), (30, rx_cl 38 3 6 true 0 0 0 0 33), (33, rx_br (rx_cm0 Y 4) 52 36), (52, rx_inc 4 1 55 5), (55, rx_br rx_goto 17 58), (58, rx_inc 3 1 61 5), (61, rx_br rx_goto 4 64), (64, rx_pure (rx_push (.int (-1))) 65), (65, rx_retv .int 0 0)]
noncomputable def m_X6_fenceAt (Y : rx_Y) : rx_M := (yX6_fenceAt, cX6_fenceAt, 5, (some .int), { frames := 2, cells := 0, slots := 0, locals := 45 }, p_X6_fenceAt Y)
theorem hd_X6_fenceAt : yX6_fenceAt.cls ≠ "java/lang/invoke/MethodHandle" ∧ yX6_fenceAt.cls ≠ "java/lang/invoke/VarHandle" ∧ (parseMethodDescriptor yX6_fenceAt.desc).map (fun d => d.parameters.length) = some 1 := by decide +kernel
abbrev cX6_fenceCount : ByteArray := prog_8_method_8_code
def yX6_fenceCount : MethodName := ⟨"SeedBench$Ring", "fenceCount", "()I"⟩
theorem dX6_fenceCount_0 : decode cX6_fenceCount 0 = .ok (.aload_n 0, 1) := by decide +kernel
theorem dX6_fenceCount_1 : decode cX6_fenceCount 1 = .ok (.getfield 21, 3) := by decide +kernel
theorem dX6_fenceCount_4 : decode cX6_fenceCount 4 = .ok (.invokestatic 36, 3) := by decide +kernel
theorem dX6_fenceCount_7 : decode cX6_fenceCount 7 = .ok (.ireturn, 1) := by decide +kernel
noncomputable def p_X6_fenceCount (Y : rx_Y) : rx_P := [(0, rx_ld 2 0 1), (1, rx_get 6 1 4), (4, rx_cl 1 1 0 false 0 0 0 0 7), (7, rx_retv .int 0 0)]
noncomputable def m_X6_fenceCount (Y : rx_Y) : rx_M := (yX6_fenceCount, cX6_fenceCount, 1, (some .int), { frames := 1, cells := 0, slots := 0, locals := 21 }, p_X6_fenceCount Y)
theorem hd_X6_fenceCount : yX6_fenceCount.cls ≠ "java/lang/invoke/MethodHandle" ∧ yX6_fenceCount.cls ≠ "java/lang/invoke/VarHandle" ∧ (parseMethodDescriptor yX6_fenceCount.desc).map (fun d => d.parameters.length) = some 0 := by decide +kernel
abbrev cX6_has : ByteArray := prog_8_method_5_code
def yX6_has : MethodName := ⟨"SeedBench$Ring", "has", "(II)Z"⟩
theorem dX6_has_0 : decode cX6_has 0 = .ok (.iload_n 1, 1) := by decide +kernel
theorem dX6_has_1 : decode cX6_has 1 = .ok (.iload_n 2, 1) := by decide +kernel
theorem dX6_has_2 : decode cX6_has 2 = .ok (.if_icmp .eq 22, 3) := by decide +kernel
theorem dX6_has_5 : decode cX6_has 5 = .ok (.aload_n 0, 1) := by decide +kernel
theorem dX6_has_6 : decode cX6_has 6 = .ok (.getfield 21, 3) := by decide +kernel
theorem dX6_has_9 : decode cX6_has 9 = .ok (.iload_n 1, 1) := by decide +kernel
theorem dX6_has_10 : decode cX6_has 10 = .ok (.iload_n 2, 1) := by decide +kernel
theorem dX6_has_11 : decode cX6_has 11 = .ok (.invokestatic 25, 3) := by decide +kernel
theorem dX6_has_14 : decode cX6_has 14 = .ok (.land, 1) := by decide +kernel
theorem dX6_has_15 : decode cX6_has 15 = .ok (.lconst 0, 1) := by decide +kernel
theorem dX6_has_16 : decode cX6_has 16 = .ok (.lcmp, 1) := by decide +kernel
theorem dX6_has_17 : decode cX6_has 17 = .ok (.ifCond .eq 7, 3) := by decide +kernel
theorem dX6_has_24 : decode cX6_has 24 = .ok (.iconst 0, 1) := by decide +kernel
theorem dX6_has_25 : decode cX6_has 25 = .ok (.ireturn, 1) := by decide +kernel
noncomputable def p_X6_has (Y : rx_Y) : rx_P := [(0, rx_ld 0 1 1), (1, rx_ld 0 2 2), (2, rx_br (rx_cmp Y 4) 24 5), (5, rx_ld 2 0 6), (6, rx_get 6 1 9), (9, rx_ld 0 1 10), (10, rx_ld 0 2 11), (11, rx_cl 35 2 0 false 0 0 0 0 14), (14, rx_pure (rx_lb (fun x y => x &&& y)) 15), (15, rx_pure (rx_push (.long 0)) 16), (16, rx_pure rx_lcmp 17), (17, rx_br (rx_cm0 Y 4) 24 20), (24, rx_pure (rx_push (.int 0)) 25), (25, rx_retv .boolean 0 0)]
noncomputable def m_X6_has (Y : rx_Y) : rx_M := (yX6_has, cX6_has, 3, (some .boolean), { frames := 1, cells := 0, slots := 0, locals := 23 }, p_X6_has Y)
theorem hd_X6_has : yX6_has.cls ≠ "java/lang/invoke/MethodHandle" ∧ yX6_has.cls ≠ "java/lang/invoke/VarHandle" ∧ (parseMethodDescriptor yX6_has.desc).map (fun d => d.parameters.length) = some 2 := by decide +kernel
abbrev cX6_init : ByteArray := prog_8_method_1_code
def yX6_init : MethodName := ⟨"SeedBench$Ring", "<init>", "()V"⟩
theorem dX6_init_0 : decode cX6_init 0 = .ok (.aload_n 0, 1) := by decide +kernel
theorem dX6_init_1 : decode cX6_init 1 = .ok (.invokespecial 3, 3) := by decide +kernel
theorem dX6_init_4 : decode cX6_init 4 = .ok (.aload_n 0, 1) := by decide +kernel
theorem dX6_init_5 : decode cX6_init 5 = .ok (.iconst 4, 1) := by decide +kernel
theorem dX6_init_6 : decode cX6_init 6 = .ok (.putfield 9, 3) := by decide +kernel
theorem dX6_init_9 : decode cX6_init 9 = .ok (.return_, 1) := by decide +kernel
noncomputable def p_X6_init (Y : rx_Y) : rx_P := [(0, rx_ld 2 0 1), (1, rx_obj 12 4), (4, rx_ld 2 0 5), (5, rx_pure (rx_push (.int 4)) 6), (6, rx_putf 6 0 .int 9), (9, rx_ret0 0 0)]
noncomputable def m_X6_init (Y : rx_Y) : rx_M := (yX6_init, cX6_init, 1, none, { frames := 1, cells := 0, slots := 0, locals := 12 }, p_X6_init Y)
theorem hd_X6_init : yX6_init.cls ≠ "java/lang/invoke/MethodHandle" ∧ yX6_init.cls ≠ "java/lang/invoke/VarHandle" ∧ (parseMethodDescriptor yX6_init.desc).map (fun d => d.parameters.length) = some 0 := by decide +kernel
abbrev cX6_isCorner : ByteArray := prog_8_method_3_code
def yX6_isCorner : MethodName := ⟨"SeedBench$Ring", "isCorner", "(I)Z"⟩
theorem dX6_isCorner_0 : decode cX6_isCorner 0 = .ok (.iload_n 1, 1) := by decide +kernel
theorem dX6_isCorner_1 : decode cX6_isCorner 1 = .ok (.ifCond .lt 15, 3) := by decide +kernel
theorem dX6_isCorner_4 : decode cX6_isCorner 4 = .ok (.iload_n 1, 1) := by decide +kernel
theorem dX6_isCorner_5 : decode cX6_isCorner 5 = .ok (.aload_n 0, 1) := by decide +kernel
theorem dX6_isCorner_6 : decode cX6_isCorner 6 = .ok (.getfield 9, 3) := by decide +kernel
theorem dX6_isCorner_9 : decode cX6_isCorner 9 = .ok (.if_icmp .ge 7, 3) := by decide +kernel
theorem dX6_isCorner_12 : decode cX6_isCorner 12 = .ok (.iconst 1, 1) := by decide +kernel
theorem dX6_isCorner_13 : decode cX6_isCorner 13 = .ok (.goto 4, 3) := by decide +kernel
theorem dX6_isCorner_16 : decode cX6_isCorner 16 = .ok (.iconst 0, 1) := by decide +kernel
theorem dX6_isCorner_17 : decode cX6_isCorner 17 = .ok (.ireturn, 1) := by decide +kernel
noncomputable def p_X6_isCorner (Y : rx_Y) : rx_P := [(0, rx_ld 0 1 1), (1, rx_br (rx_cm0 Y 0) 16 4), (4, rx_ld 0 1 5), (5, rx_ld 2 0 6), (6, rx_get 6 0 9), (9, rx_br (rx_cmp Y 1) 16 12), (12, rx_pure (rx_push (.int 1)) 13), (13, rx_br rx_goto 17 16), (16, rx_pure (rx_push (.int 0)) 17), (17, rx_retv .boolean 0 0)]
noncomputable def m_X6_isCorner (Y : rx_Y) : rx_M := (yX6_isCorner, cX6_isCorner, 2, (some .boolean), { frames := 0, cells := 0, slots := 0, locals := 0 }, p_X6_isCorner Y)
theorem hd_X6_isCorner : yX6_isCorner.cls ≠ "java/lang/invoke/MethodHandle" ∧ yX6_isCorner.cls ≠ "java/lang/invoke/VarHandle" ∧ (parseMethodDescriptor yX6_isCorner.desc).map (fun d => d.parameters.length) = some 1 := by decide +kernel
abbrev cX6_isCrossed : ByteArray := prog_8_method_7_code
def yX6_isCrossed : MethodName := ⟨"SeedBench$Ring", "isCrossed", "(II)Z"⟩
theorem dX6_isCrossed_0 : decode cX6_isCrossed 0 = .ok (.iload_n 1, 1) := by decide +kernel
theorem dX6_isCrossed_1 : decode cX6_isCrossed 1 = .ok (.iconst 1, 1) := by decide +kernel
theorem dX6_isCrossed_2 : decode cX6_isCrossed 2 = .ok (.iadd, 1) := by decide +kernel
theorem dX6_isCrossed_3 : decode cX6_isCrossed 3 = .ok (.istore_n 3, 1) := by decide +kernel
theorem dX6_isCrossed_4 : decode cX6_isCrossed 4 = .ok (.iload_n 3, 1) := by decide +kernel
theorem dX6_isCrossed_5 : decode cX6_isCrossed 5 = .ok (.iload_n 2, 1) := by decide +kernel
theorem dX6_isCrossed_6 : decode cX6_isCrossed 6 = .ok (.if_icmp .ge 51, 3) := by decide +kernel
theorem dX6_isCrossed_9 : decode cX6_isCrossed 9 = .ok (.iconst 0, 1) := by decide +kernel
theorem dX6_isCrossed_10 : decode cX6_isCrossed 10 = .ok (.istore 4, 2) := by decide +kernel
theorem dX6_isCrossed_12 : decode cX6_isCrossed 12 = .ok (.iload 4, 2) := by decide +kernel
theorem dX6_isCrossed_14 : decode cX6_isCrossed 14 = .ok (.aload_n 0, 1) := by decide +kernel
theorem dX6_isCrossed_15 : decode cX6_isCrossed 15 = .ok (.getfield 9, 3) := by decide +kernel
theorem dX6_isCrossed_18 : decode cX6_isCrossed 18 = .ok (.if_icmp .ge 33, 3) := by decide +kernel
theorem dX6_isCrossed_21 : decode cX6_isCrossed 21 = .ok (.iload 4, 2) := by decide +kernel
theorem dX6_isCrossed_23 : decode cX6_isCrossed 23 = .ok (.iload_n 1, 1) := by decide +kernel
theorem dX6_isCrossed_24 : decode cX6_isCrossed 24 = .ok (.if_icmp .lt 9, 3) := by decide +kernel
theorem dX6_isCrossed_27 : decode cX6_isCrossed 27 = .ok (.iload 4, 2) := by decide +kernel
theorem dX6_isCrossed_29 : decode cX6_isCrossed 29 = .ok (.iload_n 2, 1) := by decide +kernel
theorem dX6_isCrossed_30 : decode cX6_isCrossed 30 = .ok (.if_icmp .le 15, 3) := by decide +kernel
theorem dX6_isCrossed_33 : decode cX6_isCrossed 33 = .ok (.aload_n 0, 1) := by decide +kernel
theorem dX6_isCrossed_34 : decode cX6_isCrossed 34 = .ok (.iload_n 3, 1) := by decide +kernel
theorem dX6_isCrossed_35 : decode cX6_isCrossed 35 = .ok (.iload 4, 2) := by decide +kernel
theorem dX6_isCrossed_37 : decode cX6_isCrossed 37 = .ok (.invokevirtual 33, 3) := by decide +kernel
theorem dX6_isCrossed_40 : decode cX6_isCrossed 40 = .ok (.ifCond .eq 5, 3) := by decide +kernel
theorem dX6_isCrossed_45 : decode cX6_isCrossed 45 = .ok (.iinc 4 1, 3) := by decide +kernel
theorem dX6_isCrossed_48 : decode cX6_isCrossed 48 = .ok (.goto (-36), 3) := by decide +kernel
theorem dX6_isCrossed_51 : decode cX6_isCrossed 51 = .ok (.iinc 3 1, 3) := by decide +kernel
theorem dX6_isCrossed_54 : decode cX6_isCrossed 54 = .ok (.goto (-50), 3) := by decide +kernel
theorem dX6_isCrossed_57 : decode cX6_isCrossed 57 = .ok (.iconst 0, 1) := by decide +kernel
theorem dX6_isCrossed_58 : decode cX6_isCrossed 58 = .ok (.ireturn, 1) := by decide +kernel
noncomputable def p_X6_isCrossed (Y : rx_Y) : rx_P := [(0, rx_ld 0 1 1), (1, rx_pure (rx_push (.int 1)) 2), (2, rx_pure (rx_bi (fun x y => x + y)) 3), (3, rx_st 0 3 4 5), (4, rx_ld 0 3 5), (5, rx_ld 0 2 6), (6, rx_br (rx_cmp Y 1) 57 9), (9, rx_pure (rx_push (.int 0)) 10), (10, rx_st 0 4 12 5), (12, rx_ld 0 4 14), (14, rx_ld 2 0 15), (15, rx_get 6 0 18), (18, rx_br (rx_cmp Y 1) 51 21), (21, rx_ld 0 4 23), (23, rx_ld 0 1 24), (24, rx_br (rx_cmp Y 0) 33 27), (27, rx_ld 0 4 29), (29, rx_ld 0 2 30), (30, rx_br (rx_cmp Y 3) 45 33), (33, rx_ld 2 0 34), (34, rx_ld 0 3 35), (35, rx_ld 0 4 37), (37, rx_cl 38 3 6 true 0 0 0 0 40), (40, rx_br (rx_cm0 Y 4) 45 43), (45, rx_inc 4 1 48 5), (48, rx_br rx_goto 12 51), (51, rx_inc 3 1 54 5), (54, rx_br rx_goto 4 57), (57, rx_pure (rx_push (.int 0)) 58), (58, rx_retv .boolean 0 0)]
noncomputable def m_X6_isCrossed (Y : rx_Y) : rx_M := (yX6_isCrossed, cX6_isCrossed, 5, (some .boolean), { frames := 2, cells := 0, slots := 0, locals := 45 }, p_X6_isCrossed Y)
theorem hd_X6_isCrossed : yX6_isCrossed.cls ≠ "java/lang/invoke/MethodHandle" ∧ yX6_isCrossed.cls ≠ "java/lang/invoke/VarHandle" ∧ (parseMethodDescriptor yX6_isCrossed.desc).map (fun d => d.parameters.length) = some 2 := by decide +kernel
abbrev cX6_isCut : ByteArray := prog_8_method_9_code
def yX6_isCut : MethodName := ⟨"SeedBench$Ring", "isCut", "()Z"⟩
theorem dX6_isCut_0 : decode cX6_isCut 0 = .ok (.aload_n 0, 1) := by decide +kernel
theorem dX6_isCut_1 : decode cX6_isCut 1 = .ok (.invokevirtual 42, 3) := by decide +kernel
theorem dX6_isCut_4 : decode cX6_isCut 4 = .ok (.aload_n 0, 1) := by decide +kernel
theorem dX6_isCut_5 : decode cX6_isCut 5 = .ok (.getfield 9, 3) := by decide +kernel
theorem dX6_isCut_8 : decode cX6_isCut 8 = .ok (.iconst 3, 1) := by decide +kernel
theorem dX6_isCut_9 : decode cX6_isCut 9 = .ok (.isub, 1) := by decide +kernel
theorem dX6_isCut_10 : decode cX6_isCut 10 = .ok (.if_icmp .ne 7, 3) := by decide +kernel
theorem dX6_isCut_17 : decode cX6_isCut 17 = .ok (.iconst 0, 1) := by decide +kernel
theorem dX6_isCut_18 : decode cX6_isCut 18 = .ok (.ireturn, 1) := by decide +kernel
noncomputable def p_X6_isCut (Y : rx_Y) : rx_P := [(0, rx_ld 2 0 1), (1, rx_cl 37 1 6 true 0 0 0 0 4), (4, rx_ld 2 0 5), (5, rx_get 6 0 8), (8, rx_pure (rx_push (.int 3)) 9), (9, rx_pure (rx_bi (fun x y => x - y)) 10), (10, rx_br (rx_cmp Y 5) 17 13), (17, rx_pure (rx_push (.int 0)) 18), (18, rx_retv .boolean 0 0)]
noncomputable def m_X6_isCut (Y : rx_Y) : rx_M := (yX6_isCut, cX6_isCut, 1, (some .boolean), { frames := 2, cells := 0, slots := 0, locals := 41 }, p_X6_isCut Y)
theorem hd_X6_isCut : yX6_isCut.cls ≠ "java/lang/invoke/MethodHandle" ∧ yX6_isCut.cls ≠ "java/lang/invoke/VarHandle" ∧ (parseMethodDescriptor yX6_isCut.desc).map (fun d => d.parameters.length) = some 0 := by decide +kernel
abbrev cX6_tell : ByteArray := prog_8_method_11_code
def yX6_tell : MethodName := ⟨"SeedBench$Ring", "tell", "(I)I"⟩
theorem dX6_tell_0 : decode cX6_tell 0 = .ok (.iload_n 1, 1) := by decide +kernel
theorem dX6_tell_1 : decode cX6_tell 1 = .ok (.ifCond .ne 8, 3) := by decide +kernel
theorem dX6_tell_4 : decode cX6_tell 4 = .ok (.aload_n 0, 1) := by decide +kernel
theorem dX6_tell_5 : decode cX6_tell 5 = .ok (.getfield 9, 3) := by decide +kernel
theorem dX6_tell_8 : decode cX6_tell 8 = .ok (.ireturn, 1) := by decide +kernel
theorem dX6_tell_9 : decode cX6_tell 9 = .ok (.iload_n 1, 1) := by decide +kernel
theorem dX6_tell_10 : decode cX6_tell 10 = .ok (.iconst 1, 1) := by decide +kernel
theorem dX6_tell_11 : decode cX6_tell 11 = .ok (.if_icmp .ne 8, 3) := by decide +kernel
theorem dX6_tell_14 : decode cX6_tell 14 = .ok (.aload_n 0, 1) := by decide +kernel
theorem dX6_tell_15 : decode cX6_tell 15 = .ok (.invokevirtual 42, 3) := by decide +kernel
theorem dX6_tell_18 : decode cX6_tell 18 = .ok (.ireturn, 1) := by decide +kernel
theorem dX6_tell_19 : decode cX6_tell 19 = .ok (.iload_n 1, 1) := by decide +kernel
theorem dX6_tell_20 : decode cX6_tell 20 = .ok (.iconst 2, 1) := by decide +kernel
theorem dX6_tell_21 : decode cX6_tell 21 = .ok (.if_icmp .ne 16, 3) := by decide +kernel
theorem dX6_tell_24 : decode cX6_tell 24 = .ok (.aload_n 0, 1) := by decide +kernel
theorem dX6_tell_25 : decode cX6_tell 25 = .ok (.invokevirtual 46, 3) := by decide +kernel
theorem dX6_tell_28 : decode cX6_tell 28 = .ok (.ifCond .eq 7, 3) := by decide +kernel
theorem dX6_tell_35 : decode cX6_tell 35 = .ok (.iconst 0, 1) := by decide +kernel
theorem dX6_tell_36 : decode cX6_tell 36 = .ok (.ireturn, 1) := by decide +kernel
theorem dX6_tell_37 : decode cX6_tell 37 = .ok (.iload_n 1, 1) := by decide +kernel
theorem dX6_tell_38 : decode cX6_tell 38 = .ok (.bipush 10, 2) := by decide +kernel
theorem dX6_tell_40 : decode cX6_tell 40 = .ok (.if_icmp .lt 23, 3) := by decide +kernel
theorem dX6_tell_43 : decode cX6_tell 43 = .ok (.iload_n 1, 1) := by decide +kernel
theorem dX6_tell_44 : decode cX6_tell 44 = .ok (.bipush 10, 2) := by decide +kernel
theorem dX6_tell_46 : decode cX6_tell 46 = .ok (.aload_n 0, 1) := by decide +kernel
theorem dX6_tell_47 : decode cX6_tell 47 = .ok (.getfield 9, 3) := by decide +kernel
theorem dX6_tell_50 : decode cX6_tell 50 = .ok (.iadd, 1) := by decide +kernel
theorem dX6_tell_51 : decode cX6_tell 51 = .ok (.if_icmp .ge 12, 3) := by decide +kernel
theorem dX6_tell_54 : decode cX6_tell 54 = .ok (.aload_n 0, 1) := by decide +kernel
theorem dX6_tell_55 : decode cX6_tell 55 = .ok (.iload_n 1, 1) := by decide +kernel
theorem dX6_tell_56 : decode cX6_tell 56 = .ok (.bipush 10, 2) := by decide +kernel
theorem dX6_tell_58 : decode cX6_tell 58 = .ok (.isub, 1) := by decide +kernel
theorem dX6_tell_59 : decode cX6_tell 59 = .ok (.invokevirtual 50, 3) := by decide +kernel
theorem dX6_tell_62 : decode cX6_tell 62 = .ok (.ireturn, 1) := by decide +kernel
theorem dX6_tell_63 : decode cX6_tell 63 = .ok (.iload_n 1, 1) := by decide +kernel
theorem dX6_tell_64 : decode cX6_tell 64 = .ok (.bipush 100, 2) := by decide +kernel
theorem dX6_tell_66 : decode cX6_tell 66 = .ok (.if_icmp .lt 25, 3) := by decide +kernel
theorem dX6_tell_69 : decode cX6_tell 69 = .ok (.iload_n 1, 1) := by decide +kernel
theorem dX6_tell_70 : decode cX6_tell 70 = .ok (.bipush 100, 2) := by decide +kernel
theorem dX6_tell_72 : decode cX6_tell 72 = .ok (.aload_n 0, 1) := by decide +kernel
theorem dX6_tell_73 : decode cX6_tell 73 = .ok (.getfield 9, 3) := by decide +kernel
theorem dX6_tell_76 : decode cX6_tell 76 = .ok (.iadd, 1) := by decide +kernel
theorem dX6_tell_77 : decode cX6_tell 77 = .ok (.if_icmp .ge 14, 3) := by decide +kernel
theorem dX6_tell_80 : decode cX6_tell 80 = .ok (.aload_n 0, 1) := by decide +kernel
theorem dX6_tell_81 : decode cX6_tell 81 = .ok (.iload_n 1, 1) := by decide +kernel
theorem dX6_tell_82 : decode cX6_tell 82 = .ok (.bipush 100, 2) := by decide +kernel
theorem dX6_tell_84 : decode cX6_tell 84 = .ok (.isub, 1) := by decide +kernel
theorem dX6_tell_85 : decode cX6_tell 85 = .ok (.invokevirtual 53, 3) := by decide +kernel
theorem dX6_tell_88 : decode cX6_tell 88 = .ok (.goto 4, 3) := by decide +kernel
theorem dX6_tell_91 : decode cX6_tell 91 = .ok (.iconst (-1), 1) := by decide +kernel
theorem dX6_tell_92 : decode cX6_tell 92 = .ok (.ireturn, 1) := by decide +kernel
noncomputable def p_X6_tell (Y : rx_Y) : rx_P := [(0, rx_ld 0 1 1), (1, rx_br (rx_cm0 Y 5) 9 4), (4, rx_ld 2 0 5), (5, rx_get 6 0 8), (8, rx_retv .int 0 0), (9, rx_ld 0 1 10), (10, rx_pure (rx_push (.int 1)) 11), (11, rx_br (rx_cmp Y 5) 19 14), (14, rx_ld 2 0 15), (15, rx_cl 37 1 6 true 0 0 0 0 18), (18, rx_retv .int 0 0), (19, rx_ld 0 1 20), (20, rx_pure (rx_push (.int 2)) 21), (21, rx_br (rx_cmp Y 5) 37 24), (24, rx_ld 2 0 25), (25, rx_cl 42 1 6 true 0 0 0 0 28), (28, rx_br (rx_cm0 Y 4) 35 31), (35, rx_pure (rx_push (.int 0)) 36), (36, rx_retv .int 0 0), (37, rx_ld 0 1 38), (38, rx_pure (rx_push (.int 10)) 40), (40, rx_br (rx_cmp Y 0) 63 43), (43, rx_ld 0 1 44), (44, rx_pure (rx_push (.int 10)) 46), (46, rx_ld 2 0 47), (47, rx_get 6 0 50), (50, rx_pure (rx_bi (fun x y => x + y)) 51), (51, rx_br (rx_cmp Y 1) 63 54), (54, rx_ld 2 0 55), (55, rx_ld 0 1 56), (56, rx_pure (rx_push (.int 10)) 58), (58, rx_pure (rx_bi (fun x y => x - y)) 59), (59, rx_cl 44 2 6 true 0 0 0 0 62), (62, rx_retv .int 0 0), (63, rx_ld 0 1 64), (64, rx_pure (rx_push (.int 100)) 66), (66, rx_br (rx_cmp Y 0) 91 69), (69, rx_ld 0 1 70), (70, rx_pure (rx_push (.int 100)) 72), (72, rx_ld 2 0 73), (73, rx_get 6 0 76), (76, rx_pure (rx_bi (fun x y => x + y)) 77), (77, rx_br (rx_cmp Y 1) 91 80), (80, rx_ld 2 0 81), (81, rx_ld 0 1 82), (82, rx_pure (rx_push (.int 100)) 84), (84, rx_pure (rx_bi (fun x y => x - y)) 85), (85, rx_cl 36 2 6 true 0 0 0 0 88), (88, rx_br rx_goto 92 91), (91, rx_pure (rx_push (.int (-1))) 92), (92, rx_retv .int 0 0)]
noncomputable def m_X6_tell (Y : rx_Y) : rx_M := (yX6_tell, cX6_tell, 2, (some .int), { frames := 3, cells := 0, slots := 0, locals := 69 }, p_X6_tell Y)
theorem hd_X6_tell : yX6_tell.cls ≠ "java/lang/invoke/MethodHandle" ∧ yX6_tell.cls ≠ "java/lang/invoke/VarHandle" ∧ (parseMethodDescriptor yX6_tell.desc).map (fun d => d.parameters.length) = some 1 := by decide +kernel
abbrev cX6_thirds : ByteArray := prog_8_method_10_code
def yX6_thirds : MethodName := ⟨"SeedBench$Ring", "thirds", "(I)I"⟩
theorem dX6_thirds_0 : decode cX6_thirds 0 = .ok (.iconst 1, 1) := by decide +kernel
theorem dX6_thirds_1 : decode cX6_thirds 1 = .ok (.istore_n 2, 1) := by decide +kernel
theorem dX6_thirds_2 : decode cX6_thirds 2 = .ok (.iconst 0, 1) := by decide +kernel
theorem dX6_thirds_3 : decode cX6_thirds 3 = .ok (.istore_n 3, 1) := by decide +kernel
theorem dX6_thirds_4 : decode cX6_thirds 4 = .ok (.iload_n 3, 1) := by decide +kernel
theorem dX6_thirds_5 : decode cX6_thirds 5 = .ok (.aload_n 0, 1) := by decide +kernel
theorem dX6_thirds_6 : decode cX6_thirds 6 = .ok (.getfield 9, 3) := by decide +kernel
theorem dX6_thirds_9 : decode cX6_thirds 9 = .ok (.if_icmp .ge 21, 3) := by decide +kernel
theorem dX6_thirds_12 : decode cX6_thirds 12 = .ok (.aload_n 0, 1) := by decide +kernel
theorem dX6_thirds_13 : decode cX6_thirds 13 = .ok (.iload_n 1, 1) := by decide +kernel
theorem dX6_thirds_14 : decode cX6_thirds 14 = .ok (.iload_n 3, 1) := by decide +kernel
theorem dX6_thirds_15 : decode cX6_thirds 15 = .ok (.invokevirtual 33, 3) := by decide +kernel
theorem dX6_thirds_18 : decode cX6_thirds 18 = .ok (.ifCond .eq 6, 3) := by decide +kernel
theorem dX6_thirds_24 : decode cX6_thirds 24 = .ok (.iinc 3 1, 3) := by decide +kernel
theorem dX6_thirds_27 : decode cX6_thirds 27 = .ok (.goto (-23), 3) := by decide +kernel
theorem dX6_thirds_30 : decode cX6_thirds 30 = .ok (.iload_n 2, 1) := by decide +kernel
theorem dX6_thirds_31 : decode cX6_thirds 31 = .ok (.ireturn, 1) := by decide +kernel
noncomputable def p_X6_thirds (Y : rx_Y) : rx_P := [(0, rx_pure (rx_push (.int 1)) 1), (1, rx_st 0 2 2 4), (2, rx_pure (rx_push (.int 0)) 3), (3, rx_st 0 3 4 4), (4, rx_ld 0 3 5), (5, rx_ld 2 0 6), (6, rx_get 6 0 9), (9, rx_br (rx_cmp Y 1) 30 12), (12, rx_ld 2 0 13), (13, rx_ld 0 1 14), (14, rx_ld 0 3 15), (15, rx_cl 38 3 6 true 0 0 0 0 18), (18, rx_br (rx_cm0 Y 4) 24 21), (24, rx_inc 3 1 27 4), (27, rx_br rx_goto 4 30), (30, rx_ld 0 2 31), (31, rx_retv .int 0 0)]
noncomputable def m_X6_thirds (Y : rx_Y) : rx_M := (yX6_thirds, cX6_thirds, 4, (some .int), { frames := 2, cells := 0, slots := 0, locals := 45 }, p_X6_thirds Y)
theorem hd_X6_thirds : yX6_thirds.cls ≠ "java/lang/invoke/MethodHandle" ∧ yX6_thirds.cls ≠ "java/lang/invoke/VarHandle" ∧ (parseMethodDescriptor yX6_thirds.desc).map (fun d => d.parameters.length) = some 1 := by decide +kernel
abbrev cX7_allTerms : ByteArray := prog_9_method_4_code
def yX7_allTerms : MethodName := ⟨"SeedBench$Seed", "allTerms", "()I"⟩
theorem dX7_allTerms_0 : decode cX7_allTerms 0 = .ok (.iconst 0, 1) := by decide +kernel
theorem dX7_allTerms_1 : decode cX7_allTerms 1 = .ok (.istore_n 1, 1) := by decide +kernel
theorem dX7_allTerms_2 : decode cX7_allTerms 2 = .ok (.iconst 0, 1) := by decide +kernel
theorem dX7_allTerms_3 : decode cX7_allTerms 3 = .ok (.istore_n 2, 1) := by decide +kernel
theorem dX7_allTerms_4 : decode cX7_allTerms 4 = .ok (.iload_n 2, 1) := by decide +kernel
theorem dX7_allTerms_5 : decode cX7_allTerms 5 = .ok (.aload_n 0, 1) := by decide +kernel
theorem dX7_allTerms_6 : decode cX7_allTerms 6 = .ok (.getfield 29, 3) := by decide +kernel
theorem dX7_allTerms_9 : decode cX7_allTerms 9 = .ok (.if_icmp .ge 21, 3) := by decide +kernel
theorem dX7_allTerms_12 : decode cX7_allTerms 12 = .ok (.iload_n 1, 1) := by decide +kernel
theorem dX7_allTerms_13 : decode cX7_allTerms 13 = .ok (.aload_n 0, 1) := by decide +kernel
theorem dX7_allTerms_14 : decode cX7_allTerms 14 = .ok (.getfield 21, 3) := by decide +kernel
theorem dX7_allTerms_17 : decode cX7_allTerms 17 = .ok (.iload_n 2, 1) := by decide +kernel
theorem dX7_allTerms_18 : decode cX7_allTerms 18 = .ok (.aaload, 1) := by decide +kernel
theorem dX7_allTerms_19 : decode cX7_allTerms 19 = .ok (.getfield 50, 3) := by decide +kernel
theorem dX7_allTerms_22 : decode cX7_allTerms 22 = .ok (.iadd, 1) := by decide +kernel
theorem dX7_allTerms_23 : decode cX7_allTerms 23 = .ok (.istore_n 1, 1) := by decide +kernel
theorem dX7_allTerms_24 : decode cX7_allTerms 24 = .ok (.iinc 2 1, 3) := by decide +kernel
theorem dX7_allTerms_27 : decode cX7_allTerms 27 = .ok (.goto (-23), 3) := by decide +kernel
theorem dX7_allTerms_30 : decode cX7_allTerms 30 = .ok (.iload_n 1, 1) := by decide +kernel
theorem dX7_allTerms_31 : decode cX7_allTerms 31 = .ok (.ireturn, 1) := by decide +kernel
noncomputable def p_X7_allTerms (Y : rx_Y) : rx_P := [(0, rx_pure (rx_push (.int 0)) 1), (1, rx_st 0 1 2 3), (2, rx_pure (rx_push (.int 0)) 3), (3, rx_st 0 2 4 3), (4, rx_ld 0 2 5), (5, rx_ld 2 0 6), (6, rx_get 7 0 9), (9, rx_br (rx_cmp Y 1) 30 12), (12, rx_ld 0 1 13), (13, rx_ld 2 0 14), (14, rx_get 7 4 17), (17, rx_ld 0 2 18), (18, rx_ald 5 2 19), (19, rx_get 8 1 22), (22, rx_pure (rx_bi (fun x y => x + y)) 23), (23, rx_st 0 1 24 3), (24, rx_inc 2 1 27 3), (27, rx_br rx_goto 4 30), (30, rx_ld 0 1 31), (31, rx_retv .int 0 0)]
noncomputable def m_X7_allTerms (Y : rx_Y) : rx_M := (yX7_allTerms, cX7_allTerms, 3, (some .int), { frames := 0, cells := 0, slots := 0, locals := 0 }, p_X7_allTerms Y)
theorem hd_X7_allTerms : yX7_allTerms.cls ≠ "java/lang/invoke/MethodHandle" ∧ yX7_allTerms.cls ≠ "java/lang/invoke/VarHandle" ∧ (parseMethodDescriptor yX7_allTerms.desc).map (fun d => d.parameters.length) = some 0 := by decide +kernel
abbrev cX7_copyFrom : ByteArray := prog_9_method_3_code
def yX7_copyFrom : MethodName := ⟨"SeedBench$Seed", "copyFrom", "(LSeedBench$Seed;)V"⟩
theorem dX7_copyFrom_0 : decode cX7_copyFrom 0 = .ok (.aload_n 0, 1) := by decide +kernel
theorem dX7_copyFrom_1 : decode cX7_copyFrom 1 = .ok (.aload_n 1, 1) := by decide +kernel
theorem dX7_copyFrom_2 : decode cX7_copyFrom 2 = .ok (.getfield 29, 3) := by decide +kernel
theorem dX7_copyFrom_5 : decode cX7_copyFrom 5 = .ok (.putfield 29, 3) := by decide +kernel
theorem dX7_copyFrom_8 : decode cX7_copyFrom 8 = .ok (.aload_n 0, 1) := by decide +kernel
theorem dX7_copyFrom_9 : decode cX7_copyFrom 9 = .ok (.aload_n 1, 1) := by decide +kernel
theorem dX7_copyFrom_10 : decode cX7_copyFrom 10 = .ok (.getfield 33, 3) := by decide +kernel
theorem dX7_copyFrom_13 : decode cX7_copyFrom 13 = .ok (.putfield 33, 3) := by decide +kernel
theorem dX7_copyFrom_16 : decode cX7_copyFrom 16 = .ok (.aload_n 1, 1) := by decide +kernel
theorem dX7_copyFrom_17 : decode cX7_copyFrom 17 = .ok (.getfield 9, 3) := by decide +kernel
theorem dX7_copyFrom_20 : decode cX7_copyFrom 20 = .ok (.iconst 0, 1) := by decide +kernel
theorem dX7_copyFrom_21 : decode cX7_copyFrom 21 = .ok (.aload_n 0, 1) := by decide +kernel
theorem dX7_copyFrom_22 : decode cX7_copyFrom 22 = .ok (.getfield 9, 3) := by decide +kernel
theorem dX7_copyFrom_25 : decode cX7_copyFrom 25 = .ok (.iconst 0, 1) := by decide +kernel
theorem dX7_copyFrom_26 : decode cX7_copyFrom 26 = .ok (.bipush 72, 2) := by decide +kernel
theorem dX7_copyFrom_28 : decode cX7_copyFrom 28 = .ok (.invokestatic 36, 3) := by decide +kernel
theorem dX7_copyFrom_31 : decode cX7_copyFrom 31 = .ok (.aload_n 1, 1) := by decide +kernel
theorem dX7_copyFrom_32 : decode cX7_copyFrom 32 = .ok (.getfield 15, 3) := by decide +kernel
theorem dX7_copyFrom_35 : decode cX7_copyFrom 35 = .ok (.iconst 0, 1) := by decide +kernel
theorem dX7_copyFrom_36 : decode cX7_copyFrom 36 = .ok (.aload_n 0, 1) := by decide +kernel
theorem dX7_copyFrom_37 : decode cX7_copyFrom 37 = .ok (.getfield 15, 3) := by decide +kernel
theorem dX7_copyFrom_40 : decode cX7_copyFrom 40 = .ok (.iconst 0, 1) := by decide +kernel
theorem dX7_copyFrom_41 : decode cX7_copyFrom 41 = .ok (.bipush 6, 2) := by decide +kernel
theorem dX7_copyFrom_43 : decode cX7_copyFrom 43 = .ok (.invokestatic 36, 3) := by decide +kernel
theorem dX7_copyFrom_46 : decode cX7_copyFrom 46 = .ok (.iconst 0, 1) := by decide +kernel
theorem dX7_copyFrom_47 : decode cX7_copyFrom 47 = .ok (.istore_n 2, 1) := by decide +kernel
theorem dX7_copyFrom_48 : decode cX7_copyFrom 48 = .ok (.iload_n 2, 1) := by decide +kernel
theorem dX7_copyFrom_49 : decode cX7_copyFrom 49 = .ok (.aload_n 0, 1) := by decide +kernel
theorem dX7_copyFrom_50 : decode cX7_copyFrom 50 = .ok (.getfield 29, 3) := by decide +kernel
theorem dX7_copyFrom_53 : decode cX7_copyFrom 53 = .ok (.if_icmp .ge 24, 3) := by decide +kernel
theorem dX7_copyFrom_56 : decode cX7_copyFrom 56 = .ok (.aload_n 0, 1) := by decide +kernel
theorem dX7_copyFrom_57 : decode cX7_copyFrom 57 = .ok (.getfield 21, 3) := by decide +kernel
theorem dX7_copyFrom_60 : decode cX7_copyFrom 60 = .ok (.iload_n 2, 1) := by decide +kernel
theorem dX7_copyFrom_61 : decode cX7_copyFrom 61 = .ok (.aaload, 1) := by decide +kernel
theorem dX7_copyFrom_62 : decode cX7_copyFrom 62 = .ok (.aload_n 1, 1) := by decide +kernel
theorem dX7_copyFrom_63 : decode cX7_copyFrom 63 = .ok (.getfield 21, 3) := by decide +kernel
theorem dX7_copyFrom_66 : decode cX7_copyFrom 66 = .ok (.iload_n 2, 1) := by decide +kernel
theorem dX7_copyFrom_67 : decode cX7_copyFrom 67 = .ok (.aaload, 1) := by decide +kernel
theorem dX7_copyFrom_68 : decode cX7_copyFrom 68 = .ok (.invokevirtual 46, 3) := by decide +kernel
theorem dX7_copyFrom_71 : decode cX7_copyFrom 71 = .ok (.iinc 2 1, 3) := by decide +kernel
theorem dX7_copyFrom_74 : decode cX7_copyFrom 74 = .ok (.goto (-26), 3) := by decide +kernel
theorem dX7_copyFrom_77 : decode cX7_copyFrom 77 = .ok (.return_, 1) := by decide +kernel
noncomputable def p_X7_copyFrom (Y : rx_Y) : rx_P := [(0, rx_ld 2 0 1), (1, rx_ld 2 1 2), (2, rx_get 7 0 5), (5, rx_putf 7 0 .int 8), (8, rx_ld 2 0 9), (9, rx_ld 2 1 10), (10, rx_get 7 1 13), (13, rx_putf 7 1 .int 16), (16, rx_ld 2 1 17), (17, rx_get 7 2 20), (20, rx_pure (rx_push (.int 0)) 21), (21, rx_ld 2 0 22), (22, rx_get 7 2 25), (25, rx_pure (rx_push (.int 0)) 26), (26, rx_pure (rx_push (.int 72)) 28), (28, rx_acp 0 42 31), (31, rx_ld 2 1 32), (32, rx_get 7 3 35), (35, rx_pure (rx_push (.int 0)) 36), (36, rx_ld 2 0 37), (37, rx_get 7 3 40), (40, rx_pure (rx_push (.int 0)) 41), (41, rx_pure (rx_push (.int 6)) 43), (43, rx_acp 1 42 46), (46, rx_pure (rx_push (.int 0)) 47), (47, rx_st 0 2 48 3), (48, rx_ld 0 2 49), (49, rx_ld 2 0 50), (50, rx_get 7 0 53), (53, rx_br (rx_cmp Y 1) 77 56), (56, rx_ld 2 0 57), (57, rx_get 7 4 60), (60, rx_ld 0 2 61), (61, rx_ald 5 2 62), (62, rx_ld 2 1 63), (63, rx_get 7 4 66), (66, rx_ld 0 2 67), (67, rx_ald 5 2 68), (68, rx_cl 52 2 8 true 0 0 0 0 71), (71, rx_inc 2 1 74 3), (74, rx_br rx_goto 48 77), (77, rx_ret0 0 0)]
noncomputable def m_X7_copyFrom (Y : rx_Y) : rx_M := (yX7_copyFrom, cX7_copyFrom, 3, none, { frames := 2, cells := 0, slots := 0, locals := 42 }, p_X7_copyFrom Y)
theorem hd_X7_copyFrom : yX7_copyFrom.cls ≠ "java/lang/invoke/MethodHandle" ∧ yX7_copyFrom.cls ≠ "java/lang/invoke/VarHandle" ∧ (parseMethodDescriptor yX7_copyFrom.desc).map (fun d => d.parameters.length) = some 1 := by decide +kernel
abbrev cX7_init : ByteArray := prog_9_method_1_code
def yX7_init : MethodName := ⟨"SeedBench$Seed", "<init>", "()V"⟩
theorem dX7_init_0 : decode cX7_init 0 = .ok (.aload_n 0, 1) := by decide +kernel
theorem dX7_init_1 : decode cX7_init 1 = .ok (.invokespecial 3, 3) := by decide +kernel
theorem dX7_init_4 : decode cX7_init 4 = .ok (.aload_n 0, 1) := by decide +kernel
theorem dX7_init_5 : decode cX7_init 5 = .ok (.bipush 72, 2) := by decide +kernel
theorem dX7_init_7 : decode cX7_init 7 = .ok (.newarray .int, 2) := by decide +kernel
theorem dX7_init_9 : decode cX7_init 9 = .ok (.putfield 9, 3) := by decide +kernel
theorem dX7_init_12 : decode cX7_init 12 = .ok (.aload_n 0, 1) := by decide +kernel
theorem dX7_init_13 : decode cX7_init 13 = .ok (.bipush 6, 2) := by decide +kernel
theorem dX7_init_15 : decode cX7_init 15 = .ok (.newarray .long, 2) := by decide +kernel
theorem dX7_init_17 : decode cX7_init 17 = .ok (.putfield 15, 3) := by decide +kernel
theorem dX7_init_20 : decode cX7_init 20 = .ok (.aload_n 0, 1) := by decide +kernel
theorem dX7_init_21 : decode cX7_init 21 = .ok (.bipush 6, 2) := by decide +kernel
theorem dX7_init_23 : decode cX7_init 23 = .ok (.anewarray 19, 3) := by decide +kernel
theorem dX7_init_26 : decode cX7_init 26 = .ok (.putfield 21, 3) := by decide +kernel
theorem dX7_init_29 : decode cX7_init 29 = .ok (.aload_n 0, 1) := by decide +kernel
theorem dX7_init_30 : decode cX7_init 30 = .ok (.bipush 6, 2) := by decide +kernel
theorem dX7_init_32 : decode cX7_init 32 = .ok (.newarray .int, 2) := by decide +kernel
theorem dX7_init_34 : decode cX7_init 34 = .ok (.putfield 25, 3) := by decide +kernel
theorem dX7_init_37 : decode cX7_init 37 = .ok (.iconst 0, 1) := by decide +kernel
theorem dX7_init_38 : decode cX7_init 38 = .ok (.istore_n 1, 1) := by decide +kernel
theorem dX7_init_39 : decode cX7_init 39 = .ok (.iload_n 1, 1) := by decide +kernel
theorem dX7_init_40 : decode cX7_init 40 = .ok (.bipush 6, 2) := by decide +kernel
theorem dX7_init_42 : decode cX7_init 42 = .ok (.if_icmp .ge 22, 3) := by decide +kernel
theorem dX7_init_45 : decode cX7_init 45 = .ok (.aload_n 0, 1) := by decide +kernel
theorem dX7_init_46 : decode cX7_init 46 = .ok (.getfield 21, 3) := by decide +kernel
theorem dX7_init_49 : decode cX7_init 49 = .ok (.iload_n 1, 1) := by decide +kernel
theorem dX7_init_50 : decode cX7_init 50 = .ok (.new 19, 3) := by decide +kernel
theorem dX7_init_53 : decode cX7_init 53 = .ok (.dup, 1) := by decide +kernel
theorem dX7_init_54 : decode cX7_init 54 = .ok (.invokespecial 28, 3) := by decide +kernel
theorem dX7_init_57 : decode cX7_init 57 = .ok (.aastore, 1) := by decide +kernel
theorem dX7_init_58 : decode cX7_init 58 = .ok (.iinc 1 1, 3) := by decide +kernel
theorem dX7_init_61 : decode cX7_init 61 = .ok (.goto (-22), 3) := by decide +kernel
theorem dX7_init_64 : decode cX7_init 64 = .ok (.return_, 1) := by decide +kernel
noncomputable def p_X7_init (Y : rx_Y) : rx_P := [(0, rx_ld 2 0 1), (1, rx_obj 32 4), (4, rx_ld 2 0 5), (5, rx_pure (rx_push (.int 72)) 7), (7, rx_nwa 0 22 15714 9), (9, rx_putf 7 2 (.array .int) 12), (12, rx_ld 2 0 13), (13, rx_pure (rx_push (.int 6)) 15), (15, rx_nwa 1 22 15714 17), (17, rx_putf 7 3 (.array .long) 20), (20, rx_ld 2 0 21), (21, rx_pure (rx_push (.int 6)) 23), (23, rx_nwa 5 22 15714 26), (26, rx_putf 7 4 (.array (.object "SeedBench$Share")) 29), (29, rx_ld 2 0 30), (30, rx_pure (rx_push (.int 6)) 32), (32, rx_nwa 0 22 15714 34), (34, rx_putf 7 5 (.array .int) 37), (37, rx_pure (rx_push (.int 0)) 38), (38, rx_st 0 1 39 2), (39, rx_ld 0 1 40), (40, rx_pure (rx_push (.int 6)) 42), (42, rx_br (rx_cmp Y 1) 64 45), (45, rx_ld 2 0 46), (46, rx_get 7 4 49), (49, rx_ld 0 1 50), (50, rx_new 8 fs_X8 22 15714 53), (53, rx_pure rx_dup 54), (54, rx_cl 55 1 8 true 2 2600 22 15714 57), (57, rx_asq 5 8 58), (58, rx_inc 1 1 61 2), (61, rx_br rx_goto 39 64), (64, rx_ret0 22 15714)]
noncomputable def m_X7_init (Y : rx_Y) : rx_M := (yX7_init, cX7_init, 2, none, { frames := 2, cells := 22, slots := 15714, locals := 32 }, p_X7_init Y)
theorem hd_X7_init : yX7_init.cls ≠ "java/lang/invoke/MethodHandle" ∧ yX7_init.cls ≠ "java/lang/invoke/VarHandle" ∧ (parseMethodDescriptor yX7_init.desc).map (fun d => d.parameters.length) = some 0 := by decide +kernel
abbrev cX7_start : ByteArray := prog_9_method_2_code
def yX7_start : MethodName := ⟨"SeedBench$Seed", "start", "(II[I[J)V"⟩
theorem dX7_start_0 : decode cX7_start 0 = .ok (.aload_n 0, 1) := by decide +kernel
theorem dX7_start_1 : decode cX7_start 1 = .ok (.iload_n 1, 1) := by decide +kernel
theorem dX7_start_2 : decode cX7_start 2 = .ok (.putfield 29, 3) := by decide +kernel
theorem dX7_start_5 : decode cX7_start 5 = .ok (.aload_n 0, 1) := by decide +kernel
theorem dX7_start_6 : decode cX7_start 6 = .ok (.iload_n 2, 1) := by decide +kernel
theorem dX7_start_7 : decode cX7_start 7 = .ok (.putfield 33, 3) := by decide +kernel
theorem dX7_start_10 : decode cX7_start 10 = .ok (.aload_n 3, 1) := by decide +kernel
theorem dX7_start_11 : decode cX7_start 11 = .ok (.iconst 0, 1) := by decide +kernel
theorem dX7_start_12 : decode cX7_start 12 = .ok (.aload_n 0, 1) := by decide +kernel
theorem dX7_start_13 : decode cX7_start 13 = .ok (.getfield 9, 3) := by decide +kernel
theorem dX7_start_16 : decode cX7_start 16 = .ok (.iconst 0, 1) := by decide +kernel
theorem dX7_start_17 : decode cX7_start 17 = .ok (.bipush 72, 2) := by decide +kernel
theorem dX7_start_19 : decode cX7_start 19 = .ok (.invokestatic 36, 3) := by decide +kernel
theorem dX7_start_22 : decode cX7_start 22 = .ok (.aload 4, 2) := by decide +kernel
theorem dX7_start_24 : decode cX7_start 24 = .ok (.iconst 0, 1) := by decide +kernel
theorem dX7_start_25 : decode cX7_start 25 = .ok (.aload_n 0, 1) := by decide +kernel
theorem dX7_start_26 : decode cX7_start 26 = .ok (.getfield 15, 3) := by decide +kernel
theorem dX7_start_29 : decode cX7_start 29 = .ok (.iconst 0, 1) := by decide +kernel
theorem dX7_start_30 : decode cX7_start 30 = .ok (.bipush 6, 2) := by decide +kernel
theorem dX7_start_32 : decode cX7_start 32 = .ok (.invokestatic 36, 3) := by decide +kernel
theorem dX7_start_35 : decode cX7_start 35 = .ok (.iconst 0, 1) := by decide +kernel
theorem dX7_start_36 : decode cX7_start 36 = .ok (.istore 5, 2) := by decide +kernel
theorem dX7_start_38 : decode cX7_start 38 = .ok (.iload 5, 2) := by decide +kernel
theorem dX7_start_40 : decode cX7_start 40 = .ok (.iload_n 1, 1) := by decide +kernel
theorem dX7_start_41 : decode cX7_start 41 = .ok (.if_icmp .ge 24, 3) := by decide +kernel
theorem dX7_start_44 : decode cX7_start 44 = .ok (.aload_n 0, 1) := by decide +kernel
theorem dX7_start_45 : decode cX7_start 45 = .ok (.getfield 21, 3) := by decide +kernel
theorem dX7_start_48 : decode cX7_start 48 = .ok (.iload 5, 2) := by decide +kernel
theorem dX7_start_50 : decode cX7_start 50 = .ok (.aaload, 1) := by decide +kernel
theorem dX7_start_51 : decode cX7_start 51 = .ok (.iload 5, 2) := by decide +kernel
theorem dX7_start_53 : decode cX7_start 53 = .ok (.iload_n 1, 1) := by decide +kernel
theorem dX7_start_54 : decode cX7_start 54 = .ok (.iload_n 2, 1) := by decide +kernel
theorem dX7_start_55 : decode cX7_start 55 = .ok (.iadd, 1) := by decide +kernel
theorem dX7_start_56 : decode cX7_start 56 = .ok (.invokevirtual 42, 3) := by decide +kernel
theorem dX7_start_59 : decode cX7_start 59 = .ok (.iinc 5 1, 3) := by decide +kernel
theorem dX7_start_62 : decode cX7_start 62 = .ok (.goto (-24), 3) := by decide +kernel
theorem dX7_start_65 : decode cX7_start 65 = .ok (.return_, 1) := by decide +kernel
noncomputable def p_X7_start (Y : rx_Y) : rx_P := [(0, rx_ld 2 0 1), (1, rx_ld 0 1 2), (2, rx_putf 7 0 .int 5), (5, rx_ld 2 0 6), (6, rx_ld 0 2 7), (7, rx_putf 7 1 .int 10), (10, rx_ld 2 3 11), (11, rx_pure (rx_push (.int 0)) 12), (12, rx_ld 2 0 13), (13, rx_get 7 2 16), (16, rx_pure (rx_push (.int 0)) 17), (17, rx_pure (rx_push (.int 72)) 19), (19, rx_acp 0 44 22), (22, rx_ld 2 4 24), (24, rx_pure (rx_push (.int 0)) 25), (25, rx_ld 2 0 26), (26, rx_get 7 3 29), (29, rx_pure (rx_push (.int 0)) 30), (30, rx_pure (rx_push (.int 6)) 32), (32, rx_acp 1 44 35), (35, rx_pure (rx_push (.int 0)) 36), (36, rx_st 0 5 38 6), (38, rx_ld 0 5 40), (40, rx_ld 0 1 41), (41, rx_br (rx_cmp Y 1) 65 44), (44, rx_ld 2 0 45), (45, rx_get 7 4 48), (48, rx_ld 0 5 50), (50, rx_ald 5 2 51), (51, rx_ld 0 5 53), (53, rx_ld 0 1 54), (54, rx_ld 0 2 55), (55, rx_pure (rx_bi (fun x y => x + y)) 56), (56, rx_cl 50 3 8 true 0 0 0 0 59), (59, rx_inc 5 1 62 6), (62, rx_br rx_goto 38 65), (65, rx_ret0 0 0)]
noncomputable def m_X7_start (Y : rx_Y) : rx_M := (yX7_start, cX7_start, 6, none, { frames := 2, cells := 0, slots := 0, locals := 44 }, p_X7_start Y)
theorem hd_X7_start : yX7_start.cls ≠ "java/lang/invoke/MethodHandle" ∧ yX7_start.cls ≠ "java/lang/invoke/VarHandle" ∧ (parseMethodDescriptor yX7_start.desc).map (fun d => d.parameters.length) = some 4 := by decide +kernel
abbrev cX8_add : ByteArray := prog_10_method_7_code
def yX8_add : MethodName := ⟨"SeedBench$Share", "add", "([IJI)I"⟩
theorem dX8_add_0 : decode cX8_add 0 = .ok (.aload_n 0, 1) := by decide +kernel
theorem dX8_add_1 : decode cX8_add 1 = .ok (.aload_n 1, 1) := by decide +kernel
theorem dX8_add_2 : decode cX8_add 2 = .ok (.iload 4, 2) := by decide +kernel
theorem dX8_add_4 : decode cX8_add 4 = .ok (.invokevirtual 36, 3) := by decide +kernel
theorem dX8_add_7 : decode cX8_add 7 = .ok (.istore 5, 2) := by decide +kernel
theorem dX8_add_9 : decode cX8_add 9 = .ok (.iload 5, 2) := by decide +kernel
theorem dX8_add_11 : decode cX8_add 11 = .ok (.ifCond .lt 35, 3) := by decide +kernel
theorem dX8_add_14 : decode cX8_add 14 = .ok (.aload_n 0, 1) := by decide +kernel
theorem dX8_add_15 : decode cX8_add 15 = .ok (.getfield 9, 3) := by decide +kernel
theorem dX8_add_18 : decode cX8_add 18 = .ok (.iload 5, 2) := by decide +kernel
theorem dX8_add_20 : decode cX8_add 20 = .ok (.dup2, 1) := by decide +kernel
theorem dX8_add_21 : decode cX8_add 21 = .ok (.laload, 1) := by decide +kernel
theorem dX8_add_22 : decode cX8_add 22 = .ok (.lload_n 2, 1) := by decide +kernel
theorem dX8_add_23 : decode cX8_add 23 = .ok (.ladd, 1) := by decide +kernel
theorem dX8_add_24 : decode cX8_add 24 = .ok (.lastore, 1) := by decide +kernel
theorem dX8_add_25 : decode cX8_add 25 = .ok (.aload_n 0, 1) := by decide +kernel
theorem dX8_add_26 : decode cX8_add 26 = .ok (.getfield 9, 3) := by decide +kernel
theorem dX8_add_29 : decode cX8_add 29 = .ok (.iload 5, 2) := by decide +kernel
theorem dX8_add_31 : decode cX8_add 31 = .ok (.laload, 1) := by decide +kernel
theorem dX8_add_32 : decode cX8_add 32 = .ok (.ldc2_w 40, 3) := by decide +kernel
theorem dX8_add_35 : decode cX8_add 35 = .ok (.lcmp, 1) := by decide +kernel
theorem dX8_add_36 : decode cX8_add 36 = .ok (.ifCond .le 7, 3) := by decide +kernel
theorem dX8_add_43 : decode cX8_add 43 = .ok (.iload 5, 2) := by decide +kernel
theorem dX8_add_45 : decode cX8_add 45 = .ok (.ireturn, 1) := by decide +kernel
theorem dX8_add_46 : decode cX8_add 46 = .ok (.aload_n 0, 1) := by decide +kernel
theorem dX8_add_47 : decode cX8_add 47 = .ok (.getfield 23, 3) := by decide +kernel
theorem dX8_add_50 : decode cX8_add 50 = .ok (.sipush 200, 3) := by decide +kernel
theorem dX8_add_53 : decode cX8_add 53 = .ok (.if_icmp .ge 11, 3) := by decide +kernel
theorem dX8_add_56 : decode cX8_add 56 = .ok (.lload_n 2, 1) := by decide +kernel
theorem dX8_add_57 : decode cX8_add 57 = .ok (.ldc2_w 40, 3) := by decide +kernel
theorem dX8_add_60 : decode cX8_add 60 = .ok (.lcmp, 1) := by decide +kernel
theorem dX8_add_61 : decode cX8_add 61 = .ok (.ifCond .le 5, 3) := by decide +kernel
theorem dX8_add_66 : decode cX8_add 66 = .ok (.iconst (-1), 1) := by decide +kernel
theorem dX8_add_67 : decode cX8_add 67 = .ok (.iload 5, 2) := by decide +kernel
theorem dX8_add_69 : decode cX8_add 69 = .ok (.isub, 1) := by decide +kernel
theorem dX8_add_70 : decode cX8_add 70 = .ok (.istore 6, 2) := by decide +kernel
theorem dX8_add_72 : decode cX8_add 72 = .ok (.aload_n 0, 1) := by decide +kernel
theorem dX8_add_73 : decode cX8_add 73 = .ok (.getfield 9, 3) := by decide +kernel
theorem dX8_add_76 : decode cX8_add 76 = .ok (.iload 6, 2) := by decide +kernel
theorem dX8_add_78 : decode cX8_add 78 = .ok (.aload_n 0, 1) := by decide +kernel
theorem dX8_add_79 : decode cX8_add 79 = .ok (.getfield 9, 3) := by decide +kernel
theorem dX8_add_82 : decode cX8_add 82 = .ok (.iload 6, 2) := by decide +kernel
theorem dX8_add_84 : decode cX8_add 84 = .ok (.iconst 1, 1) := by decide +kernel
theorem dX8_add_85 : decode cX8_add 85 = .ok (.iadd, 1) := by decide +kernel
theorem dX8_add_86 : decode cX8_add 86 = .ok (.aload_n 0, 1) := by decide +kernel
theorem dX8_add_87 : decode cX8_add 87 = .ok (.getfield 23, 3) := by decide +kernel
theorem dX8_add_90 : decode cX8_add 90 = .ok (.iload 6, 2) := by decide +kernel
theorem dX8_add_92 : decode cX8_add 92 = .ok (.isub, 1) := by decide +kernel
theorem dX8_add_93 : decode cX8_add 93 = .ok (.invokestatic 30, 3) := by decide +kernel
theorem dX8_add_96 : decode cX8_add 96 = .ok (.aload_n 0, 1) := by decide +kernel
theorem dX8_add_97 : decode cX8_add 97 = .ok (.getfield 15, 3) := by decide +kernel
theorem dX8_add_100 : decode cX8_add 100 = .ok (.iload 6, 2) := by decide +kernel
theorem dX8_add_102 : decode cX8_add 102 = .ok (.aload_n 0, 1) := by decide +kernel
theorem dX8_add_103 : decode cX8_add 103 = .ok (.getfield 19, 3) := by decide +kernel
theorem dX8_add_106 : decode cX8_add 106 = .ok (.imul, 1) := by decide +kernel
theorem dX8_add_107 : decode cX8_add 107 = .ok (.aload_n 0, 1) := by decide +kernel
theorem dX8_add_108 : decode cX8_add 108 = .ok (.getfield 15, 3) := by decide +kernel
theorem dX8_add_111 : decode cX8_add 111 = .ok (.iload 6, 2) := by decide +kernel
theorem dX8_add_113 : decode cX8_add 113 = .ok (.iconst 1, 1) := by decide +kernel
theorem dX8_add_114 : decode cX8_add 114 = .ok (.iadd, 1) := by decide +kernel
theorem dX8_add_115 : decode cX8_add 115 = .ok (.aload_n 0, 1) := by decide +kernel
theorem dX8_add_116 : decode cX8_add 116 = .ok (.getfield 19, 3) := by decide +kernel
theorem dX8_add_119 : decode cX8_add 119 = .ok (.imul, 1) := by decide +kernel
theorem dX8_add_120 : decode cX8_add 120 = .ok (.aload_n 0, 1) := by decide +kernel
theorem dX8_add_121 : decode cX8_add 121 = .ok (.getfield 23, 3) := by decide +kernel
theorem dX8_add_124 : decode cX8_add 124 = .ok (.iload 6, 2) := by decide +kernel
theorem dX8_add_126 : decode cX8_add 126 = .ok (.isub, 1) := by decide +kernel
theorem dX8_add_127 : decode cX8_add 127 = .ok (.aload_n 0, 1) := by decide +kernel
theorem dX8_add_128 : decode cX8_add 128 = .ok (.getfield 19, 3) := by decide +kernel
theorem dX8_add_131 : decode cX8_add 131 = .ok (.imul, 1) := by decide +kernel
theorem dX8_add_132 : decode cX8_add 132 = .ok (.invokestatic 30, 3) := by decide +kernel
theorem dX8_add_135 : decode cX8_add 135 = .ok (.aload_n 0, 1) := by decide +kernel
theorem dX8_add_136 : decode cX8_add 136 = .ok (.getfield 9, 3) := by decide +kernel
theorem dX8_add_139 : decode cX8_add 139 = .ok (.iload 6, 2) := by decide +kernel
theorem dX8_add_141 : decode cX8_add 141 = .ok (.lload_n 2, 1) := by decide +kernel
theorem dX8_add_142 : decode cX8_add 142 = .ok (.lastore, 1) := by decide +kernel
theorem dX8_add_143 : decode cX8_add 143 = .ok (.aload_n 1, 1) := by decide +kernel
theorem dX8_add_144 : decode cX8_add 144 = .ok (.iconst 0, 1) := by decide +kernel
theorem dX8_add_145 : decode cX8_add 145 = .ok (.aload_n 0, 1) := by decide +kernel
theorem dX8_add_146 : decode cX8_add 146 = .ok (.getfield 15, 3) := by decide +kernel
theorem dX8_add_149 : decode cX8_add 149 = .ok (.iload 6, 2) := by decide +kernel
theorem dX8_add_151 : decode cX8_add 151 = .ok (.aload_n 0, 1) := by decide +kernel
theorem dX8_add_152 : decode cX8_add 152 = .ok (.getfield 19, 3) := by decide +kernel
theorem dX8_add_155 : decode cX8_add 155 = .ok (.imul, 1) := by decide +kernel
theorem dX8_add_156 : decode cX8_add 156 = .ok (.aload_n 0, 1) := by decide +kernel
theorem dX8_add_157 : decode cX8_add 157 = .ok (.getfield 19, 3) := by decide +kernel
theorem dX8_add_160 : decode cX8_add 160 = .ok (.invokestatic 30, 3) := by decide +kernel
theorem dX8_add_163 : decode cX8_add 163 = .ok (.aload_n 0, 1) := by decide +kernel
theorem dX8_add_164 : decode cX8_add 164 = .ok (.dup, 1) := by decide +kernel
theorem dX8_add_165 : decode cX8_add 165 = .ok (.getfield 23, 3) := by decide +kernel
theorem dX8_add_168 : decode cX8_add 168 = .ok (.iconst 1, 1) := by decide +kernel
theorem dX8_add_169 : decode cX8_add 169 = .ok (.iadd, 1) := by decide +kernel
theorem dX8_add_170 : decode cX8_add 170 = .ok (.putfield 23, 3) := by decide +kernel
theorem dX8_add_173 : decode cX8_add 173 = .ok (.iload 6, 2) := by decide +kernel
theorem dX8_add_175 : decode cX8_add 175 = .ok (.ireturn, 1) := by decide +kernel
noncomputable def p_X8_add (Y : rx_Y) : rx_P := [(0, rx_ld 2 0 1), (1, rx_ld 2 1 2), (2, rx_ld 0 4 4), (4, rx_cl 53 3 8 true 0 0 0 0 7), (7, rx_st 0 5 9 7), (9, rx_ld 0 5 11), (11, rx_br (rx_cm0 Y 0) 46 14), (14, rx_ld 2 0 15), (15, rx_get 8 2 18), (18, rx_ld 0 5 20), (20, rx_pure rx_dup2 21), (21, rx_ald 1 1 22), (22, rx_ld 1 2 23), (23, rx_pure (rx_lb (fun x y => x + y)) 24), (24, rx_ast Y 1 .long 25), (25, rx_ld 2 0 26), (26, rx_get 8 2 29), (29, rx_ld 0 5 31), (31, rx_ald 1 1 32), (32, rx_con (.long 1000000000000) 35), (35, rx_pure rx_lcmp 36), (36, rx_br (rx_cm0 Y 3) 43 39), (43, rx_ld 0 5 45), (45, rx_retv .int 0 0), (46, rx_ld 2 0 47), (47, rx_get 8 1 50), (50, rx_pure (rx_push (.int 200)) 53), (53, rx_br (rx_cmp Y 1) 64 56), (56, rx_ld 1 2 57), (57, rx_con (.long 1000000000000) 60), (60, rx_pure rx_lcmp 61), (61, rx_br (rx_cm0 Y 3) 66 64), (66, rx_pure (rx_push (.int (-1))) 67), (67, rx_ld 0 5 69), (69, rx_pure (rx_bi (fun x y => x - y)) 70), (70, rx_st 0 6 72 7), (72, rx_ld 2 0 73), (73, rx_get 8 2 76), (76, rx_ld 0 6 78), (78, rx_ld 2 0 79), (79, rx_get 8 2 82), (82, rx_ld 0 6 84), (84, rx_pure (rx_push (.int 1)) 85), (85, rx_pure (rx_bi (fun x y => x + y)) 86), (86, rx_ld 2 0 87), (87, rx_get 8 1 90), (90, rx_ld 0 6 92), (92, rx_pure (rx_bi (fun x y => x - y)) 93), (93, rx_acp 1 28 96), (96, rx_ld 2 0 97), (97, rx_get 8 3 100), (100, rx_ld 0 6 102), (102, rx_ld 2 0 103), (103, rx_get 8 0 106), (106, rx_pure (rx_bi (fun x y => x * y)) 107), (107, rx_ld 2 0 108), (108, rx_get 8 3 111), (111, rx_ld 0 6 113), (113, rx_pure (rx_push (.int 1)) 114), (114, rx_pure (rx_bi (fun x y => x + y)) 115), (115, rx_ld 2 0 116), (116, rx_get 8 0 119), (119, rx_pure (rx_bi (fun x y => x * y)) 120), (120, rx_ld 2 0 121), (121, rx_get 8 1 124), (124, rx_ld 0 6 126), (126, rx_pure (rx_bi (fun x y => x - y)) 127), (127, rx_ld 2 0 128), (128, rx_get 8 0 131), (131, rx_pure (rx_bi (fun x y => x * y)) 132), (132, rx_acp 0 28 135), (135, rx_ld 2 0 136), (136, rx_get 8 2 139), (139, rx_ld 0 6 141), (141, rx_ld 1 2 142), (142, rx_ast Y 1 .long 143), (143, rx_ld 2 1 144), (144, rx_pure (rx_push (.int 0)) 145), (145, rx_ld 2 0 146), (146, rx_get 8 3 149), (149, rx_ld 0 6 151), (151, rx_ld 2 0 152), (152, rx_get 8 0 155), (155, rx_pure (rx_bi (fun x y => x * y)) 156), (156, rx_ld 2 0 157), (157, rx_get 8 0 160), (160, rx_acp 0 28 163), (163, rx_ld 2 0 164), (164, rx_pure rx_dup 165), (165, rx_get 8 1 168), (168, rx_pure (rx_push (.int 1)) 169), (169, rx_pure (rx_bi (fun x y => x + y)) 170), (170, rx_putf 8 1 .int 173), (173, rx_ld 0 6 175), (175, rx_retv .int 0 0)]
noncomputable def m_X8_add (Y : rx_Y) : rx_M := (yX8_add, cX8_add, 7, (some .int), { frames := 1, cells := 0, slots := 0, locals := 28 }, p_X8_add Y)
theorem hd_X8_add : yX8_add.cls ≠ "java/lang/invoke/MethodHandle" ∧ yX8_add.cls ≠ "java/lang/invoke/VarHandle" ∧ (parseMethodDescriptor yX8_add.desc).map (fun d => d.parameters.length) = some 3 := by decide +kernel
abbrev cX8_becomeVariable : ByteArray := prog_10_method_3_code
def yX8_becomeVariable : MethodName := ⟨"SeedBench$Share", "becomeVariable", "(II)V"⟩
theorem dX8_becomeVariable_0 : decode cX8_becomeVariable 0 = .ok (.aload_n 0, 1) := by decide +kernel
theorem dX8_becomeVariable_1 : decode cX8_becomeVariable 1 = .ok (.iload_n 2, 1) := by decide +kernel
theorem dX8_becomeVariable_2 : decode cX8_becomeVariable 2 = .ok (.invokevirtual 26, 3) := by decide +kernel
theorem dX8_becomeVariable_5 : decode cX8_becomeVariable 5 = .ok (.aload_n 0, 1) := by decide +kernel
theorem dX8_becomeVariable_6 : decode cX8_becomeVariable 6 = .ok (.iconst 1, 1) := by decide +kernel
theorem dX8_becomeVariable_7 : decode cX8_becomeVariable 7 = .ok (.putfield 23, 3) := by decide +kernel
theorem dX8_becomeVariable_10 : decode cX8_becomeVariable 10 = .ok (.aload_n 0, 1) := by decide +kernel
theorem dX8_becomeVariable_11 : decode cX8_becomeVariable 11 = .ok (.getfield 9, 3) := by decide +kernel
theorem dX8_becomeVariable_14 : decode cX8_becomeVariable 14 = .ok (.iconst 0, 1) := by decide +kernel
theorem dX8_becomeVariable_15 : decode cX8_becomeVariable 15 = .ok (.lconst 1, 1) := by decide +kernel
theorem dX8_becomeVariable_16 : decode cX8_becomeVariable 16 = .ok (.lastore, 1) := by decide +kernel
theorem dX8_becomeVariable_17 : decode cX8_becomeVariable 17 = .ok (.iconst 0, 1) := by decide +kernel
theorem dX8_becomeVariable_18 : decode cX8_becomeVariable 18 = .ok (.istore_n 3, 1) := by decide +kernel
theorem dX8_becomeVariable_19 : decode cX8_becomeVariable 19 = .ok (.iload_n 3, 1) := by decide +kernel
theorem dX8_becomeVariable_20 : decode cX8_becomeVariable 20 = .ok (.iload_n 2, 1) := by decide +kernel
theorem dX8_becomeVariable_21 : decode cX8_becomeVariable 21 = .ok (.if_icmp .ge 25, 3) := by decide +kernel
theorem dX8_becomeVariable_24 : decode cX8_becomeVariable 24 = .ok (.aload_n 0, 1) := by decide +kernel
theorem dX8_becomeVariable_25 : decode cX8_becomeVariable 25 = .ok (.getfield 15, 3) := by decide +kernel
theorem dX8_becomeVariable_28 : decode cX8_becomeVariable 28 = .ok (.iload_n 3, 1) := by decide +kernel
theorem dX8_becomeVariable_29 : decode cX8_becomeVariable 29 = .ok (.iload_n 3, 1) := by decide +kernel
theorem dX8_becomeVariable_30 : decode cX8_becomeVariable 30 = .ok (.iload_n 1, 1) := by decide +kernel
theorem dX8_becomeVariable_31 : decode cX8_becomeVariable 31 = .ok (.if_icmp .ne 7, 3) := by decide +kernel
theorem dX8_becomeVariable_34 : decode cX8_becomeVariable 34 = .ok (.iconst 1, 1) := by decide +kernel
theorem dX8_becomeVariable_35 : decode cX8_becomeVariable 35 = .ok (.goto 4, 3) := by decide +kernel
theorem dX8_becomeVariable_39 : decode cX8_becomeVariable 39 = .ok (.iastore, 1) := by decide +kernel
theorem dX8_becomeVariable_40 : decode cX8_becomeVariable 40 = .ok (.iinc 3 1, 3) := by decide +kernel
theorem dX8_becomeVariable_43 : decode cX8_becomeVariable 43 = .ok (.goto (-24), 3) := by decide +kernel
theorem dX8_becomeVariable_46 : decode cX8_becomeVariable 46 = .ok (.return_, 1) := by decide +kernel
noncomputable def p_X8_becomeVariable (Y : rx_Y) : rx_P := [(0, rx_ld 2 0 1), (1, rx_ld 0 2 2), (2, rx_cl 51 2 8 true 0 0 0 0 5), (5, rx_ld 2 0 6), (6, rx_pure (rx_push (.int 1)) 7), (7, rx_putf 8 1 .int 10), (10, rx_ld 2 0 11), (11, rx_get 8 2 14), (14, rx_pure (rx_push (.int 0)) 15), (15, rx_pure (rx_push (.long 1)) 16), (16, rx_ast Y 1 .long 17), (17, rx_pure (rx_push (.int 0)) 18), (18, rx_st 0 3 19 4), (19, rx_ld 0 3 20), (20, rx_ld 0 2 21), (21, rx_br (rx_cmp Y 1) 46 24), (24, rx_ld 2 0 25), (25, rx_get 8 3 28), (28, rx_ld 0 3 29), (29, rx_ld 0 3 30), (30, rx_ld 0 1 31), (31, rx_br (rx_cmp Y 5) 38 34), (34, rx_pure (rx_push (.int 1)) 35), (35, rx_br rx_goto 39 38), (39, rx_ast Y 0 .int 40), (40, rx_inc 3 1 43 4), (43, rx_br rx_goto 19 46), (46, rx_ret0 0 0)]
noncomputable def m_X8_becomeVariable (Y : rx_Y) : rx_M := (yX8_becomeVariable, cX8_becomeVariable, 4, none, { frames := 1, cells := 0, slots := 0, locals := 21 }, p_X8_becomeVariable Y)
theorem hd_X8_becomeVariable : yX8_becomeVariable.cls ≠ "java/lang/invoke/MethodHandle" ∧ yX8_becomeVariable.cls ≠ "java/lang/invoke/VarHandle" ∧ (parseMethodDescriptor yX8_becomeVariable.desc).map (fun d => d.parameters.length) = some 2 := by decide +kernel
