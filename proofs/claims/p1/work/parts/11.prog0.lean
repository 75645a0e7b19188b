abbrev cJ7_fill_53178 : ByteArray := prog_17_method_103_code
def yJ7_fill_53178 : MethodName := ⟨"java/util/Arrays", "fill", "([II)V"⟩
theorem dJ7_fill_53178_0 : decode cJ7_fill_53178 0 = .ok (.iconst 0, 1) := by decide +kernel
theorem dJ7_fill_53178_1 : decode cJ7_fill_53178 1 = .ok (.istore_n 2, 1) := by decide +kernel
theorem dJ7_fill_53178_2 : decode cJ7_fill_53178 2 = .ok (.aload_n 0, 1) := by decide +kernel
theorem dJ7_fill_53178_3 : decode cJ7_fill_53178 3 = .ok (.arraylength, 1) := by decide +kernel
theorem dJ7_fill_53178_4 : decode cJ7_fill_53178 4 = .ok (.istore_n 3, 1) := by decide +kernel
theorem dJ7_fill_53178_5 : decode cJ7_fill_53178 5 = .ok (.iload_n 2, 1) := by decide +kernel
theorem dJ7_fill_53178_6 : decode cJ7_fill_53178 6 = .ok (.iload_n 3, 1) := by decide +kernel
theorem dJ7_fill_53178_7 : decode cJ7_fill_53178 7 = .ok (.if_icmp .ge 13, 3) := by decide +kernel
theorem dJ7_fill_53178_10 : decode cJ7_fill_53178 10 = .ok (.aload_n 0, 1) := by decide +kernel
theorem dJ7_fill_53178_11 : decode cJ7_fill_53178 11 = .ok (.iload_n 2, 1) := by decide +kernel
theorem dJ7_fill_53178_12 : decode cJ7_fill_53178 12 = .ok (.iload_n 1, 1) := by decide +kernel
theorem dJ7_fill_53178_13 : decode cJ7_fill_53178 13 = .ok (.iastore, 1) := by decide +kernel
theorem dJ7_fill_53178_14 : decode cJ7_fill_53178 14 = .ok (.iinc 2 1, 3) := by decide +kernel
theorem dJ7_fill_53178_17 : decode cJ7_fill_53178 17 = .ok (.goto (-12), 3) := by decide +kernel
theorem dJ7_fill_53178_20 : decode cJ7_fill_53178 20 = .ok (.return_, 1) := by decide +kernel
noncomputable def p_J7_fill_53178 (Y : rx_Y) : rx_P := [(0, rx_pure (rx_push (.int 0)) 1), (1, rx_st 0 2 2 4), (2, rx_ld 2 0 3), (3, rx_aln 0 4), (4, rx_st 0 3 5 4), (5, rx_fil), (20, rx_ret0 0 0)]
noncomputable def m_J7_fill_53178 (Y : rx_Y) : rx_M := (yJ7_fill_53178, cJ7_fill_53178, 4, none, { frames := 0, cells := 0, slots := 0, locals := 0 }, p_J7_fill_53178 Y)
theorem hd_J7_fill_53178 : yJ7_fill_53178.cls ≠ "java/lang/invoke/MethodHandle" ∧ yJ7_fill_53178.cls ≠ "java/lang/invoke/VarHandle" ∧ (parseMethodDescriptor yJ7_fill_53178.desc).map (fun d => d.parameters.length) = some 2 := by decide +kernel
abbrev cJ13_bitCount_95d88 : ByteArray := prog_14_method_50_code
def yJ13_bitCount_95d88 : MethodName := ⟨"java/lang/Long", "bitCount", "(J)I"⟩
theorem dJ13_bitCount_95d88_0 : decode cJ13_bitCount_95d88 0 = .ok (.lload_n 0, 1) := by decide +kernel
theorem dJ13_bitCount_95d88_1 : decode cJ13_bitCount_95d88 1 = .ok (.lload_n 0, 1) := by decide +kernel
theorem dJ13_bitCount_95d88_2 : decode cJ13_bitCount_95d88 2 = .ok (.iconst 1, 1) := by decide +kernel
theorem dJ13_bitCount_95d88_3 : decode cJ13_bitCount_95d88 3 = .ok (.lushr, 1) := by decide +kernel
theorem dJ13_bitCount_95d88_4 : decode cJ13_bitCount_95d88 4 = .ok (.ldc2_w 314, 3) := by decide +kernel
theorem dJ13_bitCount_95d88_7 : decode cJ13_bitCount_95d88 7 = .ok (.land, 1) := by decide +kernel
theorem dJ13_bitCount_95d88_8 : decode cJ13_bitCount_95d88 8 = .ok (.lsub, 1) := by decide +kernel
theorem dJ13_bitCount_95d88_9 : decode cJ13_bitCount_95d88 9 = .ok (.lstore_n 0, 1) := by decide +kernel
theorem dJ13_bitCount_95d88_10 : decode cJ13_bitCount_95d88 10 = .ok (.lload_n 0, 1) := by decide +kernel
theorem dJ13_bitCount_95d88_11 : decode cJ13_bitCount_95d88 11 = .ok (.ldc2_w 316, 3) := by decide +kernel
theorem dJ13_bitCount_95d88_14 : decode cJ13_bitCount_95d88 14 = .ok (.land, 1) := by decide +kernel
theorem dJ13_bitCount_95d88_15 : decode cJ13_bitCount_95d88 15 = .ok (.lload_n 0, 1) := by decide +kernel
theorem dJ13_bitCount_95d88_16 : decode cJ13_bitCount_95d88 16 = .ok (.iconst 2, 1) := by decide +kernel
theorem dJ13_bitCount_95d88_17 : decode cJ13_bitCount_95d88 17 = .ok (.lushr, 1) := by decide +kernel
theorem dJ13_bitCount_95d88_18 : decode cJ13_bitCount_95d88 18 = .ok (.ldc2_w 316, 3) := by decide +kernel
theorem dJ13_bitCount_95d88_21 : decode cJ13_bitCount_95d88 21 = .ok (.land, 1) := by decide +kernel
theorem dJ13_bitCount_95d88_22 : decode cJ13_bitCount_95d88 22 = .ok (.ladd, 1) := by decide +kernel
theorem dJ13_bitCount_95d88_23 : decode cJ13_bitCount_95d88 23 = .ok (.lstore_n 0, 1) := by decide +kernel
theorem dJ13_bitCount_95d88_24 : decode cJ13_bitCount_95d88 24 = .ok (.lload_n 0, 1) := by decide +kernel
theorem dJ13_bitCount_95d88_25 : decode cJ13_bitCount_95d88 25 = .ok (.lload_n 0, 1) := by decide +kernel
theorem dJ13_bitCount_95d88_26 : decode cJ13_bitCount_95d88 26 = .ok (.iconst 4, 1) := by decide +kernel
theorem dJ13_bitCount_95d88_27 : decode cJ13_bitCount_95d88 27 = .ok (.lushr, 1) := by decide +kernel
theorem dJ13_bitCount_95d88_28 : decode cJ13_bitCount_95d88 28 = .ok (.ladd, 1) := by decide +kernel
theorem dJ13_bitCount_95d88_29 : decode cJ13_bitCount_95d88 29 = .ok (.ldc2_w 318, 3) := by decide +kernel
theorem dJ13_bitCount_95d88_32 : decode cJ13_bitCount_95d88 32 = .ok (.land, 1) := by decide +kernel
theorem dJ13_bitCount_95d88_33 : decode cJ13_bitCount_95d88 33 = .ok (.lstore_n 0, 1) := by decide +kernel
theorem dJ13_bitCount_95d88_34 : decode cJ13_bitCount_95d88 34 = .ok (.lload_n 0, 1) := by decide +kernel
theorem dJ13_bitCount_95d88_35 : decode cJ13_bitCount_95d88 35 = .ok (.lload_n 0, 1) := by decide +kernel
theorem dJ13_bitCount_95d88_36 : decode cJ13_bitCount_95d88 36 = .ok (.bipush 8, 2) := by decide +kernel
theorem dJ13_bitCount_95d88_38 : decode cJ13_bitCount_95d88 38 = .ok (.lushr, 1) := by decide +kernel
theorem dJ13_bitCount_95d88_39 : decode cJ13_bitCount_95d88 39 = .ok (.ladd, 1) := by decide +kernel
theorem dJ13_bitCount_95d88_40 : decode cJ13_bitCount_95d88 40 = .ok (.lstore_n 0, 1) := by decide +kernel
theorem dJ13_bitCount_95d88_41 : decode cJ13_bitCount_95d88 41 = .ok (.lload_n 0, 1) := by decide +kernel
theorem dJ13_bitCount_95d88_42 : decode cJ13_bitCount_95d88 42 = .ok (.lload_n 0, 1) := by decide +kernel
theorem dJ13_bitCount_95d88_43 : decode cJ13_bitCount_95d88 43 = .ok (.bipush 16, 2) := by decide +kernel
theorem dJ13_bitCount_95d88_45 : decode cJ13_bitCount_95d88 45 = .ok (.lushr, 1) := by decide +kernel
theorem dJ13_bitCount_95d88_46 : decode cJ13_bitCount_95d88 46 = .ok (.ladd, 1) := by decide +kernel
theorem dJ13_bitCount_95d88_47 : decode cJ13_bitCount_95d88 47 = .ok (.lstore_n 0, 1) := by decide +kernel
theorem dJ13_bitCount_95d88_48 : decode cJ13_bitCount_95d88 48 = .ok (.lload_n 0, 1) := by decide +kernel
theorem dJ13_bitCount_95d88_49 : decode cJ13_bitCount_95d88 49 = .ok (.lload_n 0, 1) := by decide +kernel
theorem dJ13_bitCount_95d88_50 : decode cJ13_bitCount_95d88 50 = .ok (.bipush 32, 2) := by decide +kernel
theorem dJ13_bitCount_95d88_52 : decode cJ13_bitCount_95d88 52 = .ok (.lushr, 1) := by decide +kernel
theorem dJ13_bitCount_95d88_53 : decode cJ13_bitCount_95d88 53 = .ok (.ladd, 1) := by decide +kernel
theorem dJ13_bitCount_95d88_54 : decode cJ13_bitCount_95d88 54 = .ok (.lstore_n 0, 1) := by decide +kernel
theorem dJ13_bitCount_95d88_55 : decode cJ13_bitCount_95d88 55 = .ok (.lload_n 0, 1) := by decide +kernel
theorem dJ13_bitCount_95d88_56 : decode cJ13_bitCount_95d88 56 = .ok (.l2i, 1) := by decide +kernel
theorem dJ13_bitCount_95d88_57 : decode cJ13_bitCount_95d88 57 = .ok (.bipush 127, 2) := by decide +kernel
theorem dJ13_bitCount_95d88_59 : decode cJ13_bitCount_95d88 59 = .ok (.iand, 1) := by decide +kernel
theorem dJ13_bitCount_95d88_60 : decode cJ13_bitCount_95d88 60 = .ok (.ireturn, 1) := by decide +kernel
noncomputable def p_J13_bitCount_95d88 (Y : rx_Y) : rx_P := [(0, rx_ld 1 0 1), (1, rx_ld 1 0 2), (2, rx_pure (rx_push (.int 1)) 3), (3, rx_pure (rx_ls (fun x y => (x.toUInt64 >>> (y.toInt64.toUInt64 &&& Int64.toUInt64 63)).toInt64)) 4), (4, rx_con (.long 6148914691236517205) 7), (7, rx_pure (rx_lb (fun x y => x &&& y)) 8), (8, rx_pure (rx_lb (fun x y => x - y)) 9), (9, rx_st 1 0 10 2), (10, rx_ld 1 0 11), (11, rx_con (.long 3689348814741910323) 14), (14, rx_pure (rx_lb (fun x y => x &&& y)) 15), (15, rx_ld 1 0 16), (16, rx_pure (rx_push (.int 2)) 17), (17, rx_pure (rx_ls (fun x y => (x.toUInt64 >>> (y.toInt64.toUInt64 &&& Int64.toUInt64 63)).toInt64)) 18), (18, rx_con (.long 3689348814741910323) 21), (21, rx_pure (rx_lb (fun x y => x &&& y)) 22), (22, rx_pure (rx_lb (fun x y => x + y)) 23), (23, rx_st 1 0 24 2), (24, rx_ld 1 0 25), (25, rx_ld 1 0 26), (26, rx_pure (rx_push (.int 4)) 27), (27, rx_pure (rx_ls (fun x y => (x.toUInt64 >>> (y.toInt64.toUInt64 &&& Int64.toUInt64 63)).toInt64)) 28), (28, rx_pure (rx_lb (fun x y => x + y)) 29), (29, rx_con (.long 1085102592571150095) 32), (32, rx_pure (rx_lb (fun x y => x &&& y)) 33), (33, rx_st 1 0 34 2), (34, rx_ld 1 0 35), (35, rx_ld 1 0 36), (36, rx_pure (rx_push (.int 8)) 38), (38, rx_pure (rx_ls (fun x y => (x.toUInt64 >>> (y.toInt64.toUInt64 &&& Int64.toUInt64 63)).toInt64)) 39), (39, rx_pure (rx_lb (fun x y => x + y)) 40), (40, rx_st 1 0 41 2), (41, rx_ld 1 0 42), (42, rx_ld 1 0 43), (43, rx_pure (rx_push (.int 16)) 45), (45, rx_pure (rx_ls (fun x y => (x.toUInt64 >>> (y.toInt64.toUInt64 &&& Int64.toUInt64 63)).toInt64)) 46), (46, rx_pure (rx_lb (fun x y => x + y)) 47), (47, rx_st 1 0 48 2), (48, rx_ld 1 0 49), (49, rx_ld 1 0 50), (50, rx_pure (rx_push (.int 32)) 52), (52, rx_pure (rx_ls (fun x y => (x.toUInt64 >>> (y.toInt64.toUInt64 &&& Int64.toUInt64 63)).toInt64)) 53), (53, rx_pure (rx_lb (fun x y => x + y)) 54), (54, rx_st 1 0 55 2), (55, rx_ld 1 0 56), (56, rx_pure rx_l2i 57), (57, rx_pure (rx_push (.int 127)) 59), (59, rx_pure (rx_bi (fun x y => x &&& y)) 60), (60, rx_retv .int 0 0)]
noncomputable def m_J13_bitCount_95d88 (Y : rx_Y) : rx_M := (yJ13_bitCount_95d88, cJ13_bitCount_95d88, 2, (some .int), { frames := 0, cells := 0, slots := 0, locals := 0 }, p_J13_bitCount_95d88 Y)
theorem hd_J13_bitCount_95d88 : yJ13_bitCount_95d88.cls ≠ "java/lang/invoke/MethodHandle" ∧ yJ13_bitCount_95d88.cls ≠ "java/lang/invoke/VarHandle" ∧ (parseMethodDescriptor yJ13_bitCount_95d88.desc).map (fun d => d.parameters.length) = some 1 := by decide +kernel
abbrev cX0_arrive : ByteArray := prog_2_method_6_code
def yX0_arrive : MethodName := ⟨"SeedBench$Atlas", "arrive", "(I)Z"⟩
theorem dX0_arrive_0 : decode cX0_arrive 0 = .ok (.aload_n 0, 1) := by decide +kernel
theorem dX0_arrive_1 : decode cX0_arrive 1 = .ok (.invokevirtual 117, 3) := by decide +kernel
theorem dX0_arrive_4 : decode cX0_arrive 4 = .ok (.aload_n 0, 1) := by decide +kernel
theorem dX0_arrive_5 : decode cX0_arrive 5 = .ok (.invokevirtual 132, 3) := by decide +kernel
theorem dX0_arrive_8 : decode cX0_arrive 8 = .ok (.istore_n 2, 1) := by decide +kernel
theorem dX0_arrive_9 : decode cX0_arrive 9 = .ok (.iload_n 2, 1) := by decide +kernel
theorem dX0_arrive_10 : decode cX0_arrive 10 = .ok (.iconst (-1), 1) := by decide +kernel
theorem dX0_arrive_11 : decode cX0_arrive 11 = .ok (.if_icmp .ne 17, 3) := by decide +kernel
theorem dX0_arrive_14 : decode cX0_arrive 14 = .ok (.aload_n 0, 1) := by decide +kernel
theorem dX0_arrive_15 : decode cX0_arrive 15 = .ok (.getfield 66, 3) := by decide +kernel
theorem dX0_arrive_18 : decode cX0_arrive 18 = .ok (.istore_n 2, 1) := by decide +kernel
theorem dX0_arrive_19 : decode cX0_arrive 19 = .ok (.aload_n 0, 1) := by decide +kernel
theorem dX0_arrive_20 : decode cX0_arrive 20 = .ok (.invokevirtual 120, 3) := by decide +kernel
theorem dX0_arrive_23 : decode cX0_arrive 23 = .ok (.ifCond .ne 5, 3) := by decide +kernel
theorem dX0_arrive_28 : decode cX0_arrive 28 = .ok (.aload_n 0, 1) := by decide +kernel
theorem dX0_arrive_29 : decode cX0_arrive 29 = .ok (.getfield 21, 3) := by decide +kernel
theorem dX0_arrive_32 : decode cX0_arrive 32 = .ok (.iload_n 2, 1) := by decide +kernel
theorem dX0_arrive_33 : decode cX0_arrive 33 = .ok (.bipush 6, 2) := by decide +kernel
theorem dX0_arrive_35 : decode cX0_arrive 35 = .ok (.imul, 1) := by decide +kernel
theorem dX0_arrive_36 : decode cX0_arrive 36 = .ok (.aload_n 0, 1) := by decide +kernel
theorem dX0_arrive_37 : decode cX0_arrive 37 = .ok (.getfield 45, 3) := by decide +kernel
theorem dX0_arrive_40 : decode cX0_arrive 40 = .ok (.iload_n 1, 1) := by decide +kernel
theorem dX0_arrive_41 : decode cX0_arrive 41 = .ok (.iaload, 1) := by decide +kernel
theorem dX0_arrive_42 : decode cX0_arrive 42 = .ok (.iadd, 1) := by decide +kernel
theorem dX0_arrive_43 : decode cX0_arrive 43 = .ok (.iconst 1, 1) := by decide +kernel
theorem dX0_arrive_44 : decode cX0_arrive 44 = .ok (.bastore, 1) := by decide +kernel
theorem dX0_arrive_45 : decode cX0_arrive 45 = .ok (.iconst 1, 1) := by decide +kernel
theorem dX0_arrive_46 : decode cX0_arrive 46 = .ok (.ireturn, 1) := by decide +kernel
noncomputable def p_X0_arrive (Y : rx_Y) : rx_P := [(0, rx_ld 2 0 1), (1, rx_cl 6 1 0 true 0 0 0 0 4), (4, rx_ld 2 0 5), (5, rx_cl 11 1 0 true 0 0 0 0 8), (8, rx_st 0 2 9 3), (9, rx_ld 0 2 10), (10, rx_pure (rx_push (.int (-1))) 11), (11, rx_br (rx_cmp Y 5) 28 14), (14, rx_ld 2 0 15), (15, rx_get 0 7 18), (18, rx_st 0 2 19 3), (19, rx_ld 2 0 20), (20, rx_cl 3 1 0 true 0 0 0 0 23), (23, rx_br (rx_cm0 Y 5) 28 26), (28, rx_ld 2 0 29), (29, rx_get 0 3 32), (32, rx_ld 0 2 33), (33, rx_pure (rx_push (.int 6)) 35), (35, rx_pure (rx_bi (fun x y => x * y)) 36), (36, rx_ld 2 0 37), (37, rx_get 0 12 40), (40, rx_ld 0 1 41), (41, rx_ald 0 0 42), (42, rx_pure (rx_bi (fun x y => x + y)) 43), (43, rx_pure (rx_push (.int 1)) 44), (44, rx_ast Y 2 .boolean 45), (45, rx_pure (rx_push (.int 1)) 46), (46, rx_retv .boolean 0 0)]
noncomputable def m_X0_arrive (Y : rx_Y) : rx_M := (yX0_arrive, cX0_arrive, 3, (some .boolean), { frames := 2, cells := 0, slots := 0, locals := 39 }, p_X0_arrive Y)
theorem hd_X0_arrive : yX0_arrive.cls ≠ "java/lang/invoke/MethodHandle" ∧ yX0_arrive.cls ≠ "java/lang/invoke/VarHandle" ∧ (parseMethodDescriptor yX0_arrive.desc).map (fun d => d.parameters.length) = some 1 := by decide +kernel
abbrev cX0_enter : ByteArray := prog_2_method_10_code
def yX0_enter : MethodName := ⟨"SeedBench$Atlas", "enter", "()Z"⟩
theorem dX0_enter_0 : decode cX0_enter 0 = .ok (.aload_n 0, 1) := by decide +kernel
theorem dX0_enter_1 : decode cX0_enter 1 = .ok (.getfield 66, 3) := by decide +kernel
theorem dX0_enter_4 : decode cX0_enter 4 = .ok (.sipush 150, 3) := by decide +kernel
theorem dX0_enter_7 : decode cX0_enter 7 = .ok (.if_icmp .lt 5, 3) := by decide +kernel
theorem dX0_enter_12 : decode cX0_enter 12 = .ok (.iconst 0, 1) := by decide +kernel
theorem dX0_enter_13 : decode cX0_enter 13 = .ok (.istore_n 1, 1) := by decide +kernel
theorem dX0_enter_14 : decode cX0_enter 14 = .ok (.iload_n 1, 1) := by decide +kernel
theorem dX0_enter_15 : decode cX0_enter 15 = .ok (.aload_n 0, 1) := by decide +kernel
theorem dX0_enter_16 : decode cX0_enter 16 = .ok (.getfield 38, 3) := by decide +kernel
theorem dX0_enter_19 : decode cX0_enter 19 = .ok (.getfield 69, 3) := by decide +kernel
theorem dX0_enter_22 : decode cX0_enter 22 = .ok (.if_icmp .ge 51, 3) := by decide +kernel
theorem dX0_enter_25 : decode cX0_enter 25 = .ok (.aload_n 0, 1) := by decide +kernel
theorem dX0_enter_26 : decode cX0_enter 26 = .ok (.getfield 45, 3) := by decide +kernel
theorem dX0_enter_29 : decode cX0_enter 29 = .ok (.iload_n 1, 1) := by decide +kernel
theorem dX0_enter_30 : decode cX0_enter 30 = .ok (.iload_n 1, 1) := by decide +kernel
theorem dX0_enter_31 : decode cX0_enter 31 = .ok (.iastore, 1) := by decide +kernel
theorem dX0_enter_32 : decode cX0_enter 32 = .ok (.aload_n 0, 1) := by decide +kernel
theorem dX0_enter_33 : decode cX0_enter 33 = .ok (.getfield 17, 3) := by decide +kernel
theorem dX0_enter_36 : decode cX0_enter 36 = .ok (.aload_n 0, 1) := by decide +kernel
theorem dX0_enter_37 : decode cX0_enter 37 = .ok (.getfield 66, 3) := by decide +kernel
theorem dX0_enter_40 : decode cX0_enter 40 = .ok (.bipush 6, 2) := by decide +kernel
theorem dX0_enter_42 : decode cX0_enter 42 = .ok (.imul, 1) := by decide +kernel
theorem dX0_enter_43 : decode cX0_enter 43 = .ok (.iload_n 1, 1) := by decide +kernel
theorem dX0_enter_44 : decode cX0_enter 44 = .ok (.iadd, 1) := by decide +kernel
theorem dX0_enter_45 : decode cX0_enter 45 = .ok (.aload_n 0, 1) := by decide +kernel
theorem dX0_enter_46 : decode cX0_enter 46 = .ok (.getfield 42, 3) := by decide +kernel
theorem dX0_enter_49 : decode cX0_enter 49 = .ok (.iload_n 1, 1) := by decide +kernel
theorem dX0_enter_50 : decode cX0_enter 50 = .ok (.iaload, 1) := by decide +kernel
theorem dX0_enter_51 : decode cX0_enter 51 = .ok (.iastore, 1) := by decide +kernel
theorem dX0_enter_52 : decode cX0_enter 52 = .ok (.aload_n 0, 1) := by decide +kernel
theorem dX0_enter_53 : decode cX0_enter 53 = .ok (.getfield 21, 3) := by decide +kernel
theorem dX0_enter_56 : decode cX0_enter 56 = .ok (.aload_n 0, 1) := by decide +kernel
theorem dX0_enter_57 : decode cX0_enter 57 = .ok (.getfield 66, 3) := by decide +kernel
theorem dX0_enter_60 : decode cX0_enter 60 = .ok (.bipush 6, 2) := by decide +kernel
theorem dX0_enter_62 : decode cX0_enter 62 = .ok (.imul, 1) := by decide +kernel
theorem dX0_enter_63 : decode cX0_enter 63 = .ok (.iload_n 1, 1) := by decide +kernel
theorem dX0_enter_64 : decode cX0_enter 64 = .ok (.iadd, 1) := by decide +kernel
theorem dX0_enter_65 : decode cX0_enter 65 = .ok (.iconst 0, 1) := by decide +kernel
theorem dX0_enter_66 : decode cX0_enter 66 = .ok (.bastore, 1) := by decide +kernel
theorem dX0_enter_67 : decode cX0_enter 67 = .ok (.iinc 1 1, 3) := by decide +kernel
theorem dX0_enter_70 : decode cX0_enter 70 = .ok (.goto (-56), 3) := by decide +kernel
theorem dX0_enter_73 : decode cX0_enter 73 = .ok (.aload_n 0, 1) := by decide +kernel
theorem dX0_enter_74 : decode cX0_enter 74 = .ok (.getfield 38, 3) := by decide +kernel
theorem dX0_enter_77 : decode cX0_enter 77 = .ok (.getfield 82, 3) := by decide +kernel
theorem dX0_enter_80 : decode cX0_enter 80 = .ok (.iconst 0, 1) := by decide +kernel
theorem dX0_enter_81 : decode cX0_enter 81 = .ok (.aload_n 0, 1) := by decide +kernel
theorem dX0_enter_82 : decode cX0_enter 82 = .ok (.getfield 25, 3) := by decide +kernel
theorem dX0_enter_85 : decode cX0_enter 85 = .ok (.aload_n 0, 1) := by decide +kernel
theorem dX0_enter_86 : decode cX0_enter 86 = .ok (.getfield 66, 3) := by decide +kernel
theorem dX0_enter_89 : decode cX0_enter 89 = .ok (.bipush 72, 2) := by decide +kernel
theorem dX0_enter_91 : decode cX0_enter 91 = .ok (.imul, 1) := by decide +kernel
theorem dX0_enter_92 : decode cX0_enter 92 = .ok (.bipush 72, 2) := by decide +kernel
theorem dX0_enter_94 : decode cX0_enter 94 = .ok (.invokestatic 110, 3) := by decide +kernel
theorem dX0_enter_97 : decode cX0_enter 97 = .ok (.aload_n 0, 1) := by decide +kernel
theorem dX0_enter_98 : decode cX0_enter 98 = .ok (.getfield 28, 3) := by decide +kernel
theorem dX0_enter_101 : decode cX0_enter 101 = .ok (.aload_n 0, 1) := by decide +kernel
theorem dX0_enter_102 : decode cX0_enter 102 = .ok (.getfield 66, 3) := by decide +kernel
theorem dX0_enter_105 : decode cX0_enter 105 = .ok (.aload_n 0, 1) := by decide +kernel
theorem dX0_enter_106 : decode cX0_enter 106 = .ok (.getfield 136, 3) := by decide +kernel
theorem dX0_enter_109 : decode cX0_enter 109 = .ok (.lastore, 1) := by decide +kernel
theorem dX0_enter_110 : decode cX0_enter 110 = .ok (.aload_n 0, 1) := by decide +kernel
theorem dX0_enter_111 : decode cX0_enter 111 = .ok (.getfield 32, 3) := by decide +kernel
theorem dX0_enter_114 : decode cX0_enter 114 = .ok (.aload_n 0, 1) := by decide +kernel
theorem dX0_enter_115 : decode cX0_enter 115 = .ok (.getfield 66, 3) := by decide +kernel
theorem dX0_enter_118 : decode cX0_enter 118 = .ok (.aload_n 0, 1) := by decide +kernel
theorem dX0_enter_119 : decode cX0_enter 119 = .ok (.getfield 140, 3) := by decide +kernel
theorem dX0_enter_122 : decode cX0_enter 122 = .ok (.lastore, 1) := by decide +kernel
theorem dX0_enter_123 : decode cX0_enter 123 = .ok (.aload_n 0, 1) := by decide +kernel
theorem dX0_enter_124 : decode cX0_enter 124 = .ok (.dup, 1) := by decide +kernel
theorem dX0_enter_125 : decode cX0_enter 125 = .ok (.getfield 66, 3) := by decide +kernel
theorem dX0_enter_128 : decode cX0_enter 128 = .ok (.iconst 1, 1) := by decide +kernel
theorem dX0_enter_129 : decode cX0_enter 129 = .ok (.iadd, 1) := by decide +kernel
theorem dX0_enter_130 : decode cX0_enter 130 = .ok (.putfield 66, 3) := by decide +kernel
theorem dX0_enter_133 : decode cX0_enter 133 = .ok (.iconst 1, 1) := by decide +kernel
theorem dX0_enter_134 : decode cX0_enter 134 = .ok (.ireturn, 1) := by decide +kernel
noncomputable def p_X0_enter (Y : rx_Y) : rx_P := [(0, rx_ld 2 0 1), (1, rx_get 0 7 4), (4, rx_pure (rx_push (.int 150)) 7), (7, rx_br (rx_cmp Y 0) 12 10), (12, rx_pure (rx_push (.int 0)) 13), (13, rx_st 0 1 14 2), (14, rx_ld 0 1 15), (15, rx_ld 2 0 16), (16, rx_get 0 8 19), (19, rx_get 7 0 22), (22, rx_br (rx_cmp Y 1) 73 25), (25, rx_ld 2 0 26), (26, rx_get 0 12 29), (29, rx_ld 0 1 30), (30, rx_ld 0 1 31), (31, rx_ast Y 0 .int 32), (32, rx_ld 2 0 33), (33, rx_get 0 2 36), (36, rx_ld 2 0 37), (37, rx_get 0 7 40), (40, rx_pure (rx_push (.int 6)) 42), (42, rx_pure (rx_bi (fun x y => x * y)) 43), (43, rx_ld 0 1 44), (44, rx_pure (rx_bi (fun x y => x + y)) 45), (45, rx_ld 2 0 46), (46, rx_get 0 9 49), (49, rx_ld 0 1 50), (50, rx_ald 0 0 51), (51, rx_ast Y 0 .int 52), (52, rx_ld 2 0 53), (53, rx_get 0 3 56), (56, rx_ld 2 0 57), (57, rx_get 0 7 60), (60, rx_pure (rx_push (.int 6)) 62), (62, rx_pure (rx_bi (fun x y => x * y)) 63), (63, rx_ld 0 1 64), (64, rx_pure (rx_bi (fun x y => x + y)) 65), (65, rx_pure (rx_push (.int 0)) 66), (66, rx_ast Y 2 .boolean 67), (67, rx_inc 1 1 70 2), (70, rx_br rx_goto 14 73), (73, rx_ld 2 0 74), (74, rx_get 0 8 77), (77, rx_get 7 2 80), (80, rx_pure (rx_push (.int 0)) 81), (81, rx_ld 2 0 82), (82, rx_get 0 4 85), (85, rx_ld 2 0 86), (86, rx_get 0 7 89), (89, rx_pure (rx_push (.int 72)) 91), (91, rx_pure (rx_bi (fun x y => x * y)) 92), (92, rx_pure (rx_push (.int 72)) 94), (94, rx_acp 0 18 97), (97, rx_ld 2 0 98), (98, rx_get 0 5 101), (101, rx_ld 2 0 102), (102, rx_get 0 7 105), (105, rx_ld 2 0 106), (106, rx_get 0 10 109), (109, rx_ast Y 1 .long 110), (110, rx_ld 2 0 111), (111, rx_get 0 6 114), (114, rx_ld 2 0 115), (115, rx_get 0 7 118), (118, rx_ld 2 0 119), (119, rx_get 0 11 122), (122, rx_ast Y 1 .long 123), (123, rx_ld 2 0 124), (124, rx_pure rx_dup 125), (125, rx_get 0 7 128), (128, rx_pure (rx_push (.int 1)) 129), (129, rx_pure (rx_bi (fun x y => x + y)) 130), (130, rx_putf 0 7 .int 133), (133, rx_pure (rx_push (.int 1)) 134), (134, rx_retv .boolean 0 0)]
noncomputable def m_X0_enter (Y : rx_Y) : rx_M := (yX0_enter, cX0_enter, 2, (some .boolean), { frames := 1, cells := 0, slots := 0, locals := 18 }, p_X0_enter Y)
theorem hd_X0_enter : yX0_enter.cls ≠ "java/lang/invoke/MethodHandle" ∧ yX0_enter.cls ≠ "java/lang/invoke/VarHandle" ∧ (parseMethodDescriptor yX0_enter.desc).map (fun d => d.parameters.length) = some 0 := by decide +kernel
abbrev cX0_enterFirst : ByteArray := prog_2_method_3_code
def yX0_enterFirst : MethodName := ⟨"SeedBench$Atlas", "enterFirst", "(LSeedBench$Seed;)Z"⟩
theorem dX0_enterFirst_0 : decode cX0_enterFirst 0 = .ok (.aload_n 0, 1) := by decide +kernel
theorem dX0_enterFirst_1 : decode cX0_enterFirst 1 = .ok (.iconst 0, 1) := by decide +kernel
theorem dX0_enterFirst_2 : decode cX0_enterFirst 2 = .ok (.putfield 107, 3) := by decide +kernel
theorem dX0_enterFirst_5 : decode cX0_enterFirst 5 = .ok (.aload_n 0, 1) := by decide +kernel
theorem dX0_enterFirst_6 : decode cX0_enterFirst 6 = .ok (.iconst 0, 1) := by decide +kernel
theorem dX0_enterFirst_7 : decode cX0_enterFirst 7 = .ok (.putfield 66, 3) := by decide +kernel
theorem dX0_enterFirst_10 : decode cX0_enterFirst 10 = .ok (.aload_n 0, 1) := by decide +kernel
theorem dX0_enterFirst_11 : decode cX0_enterFirst 11 = .ok (.getfield 38, 3) := by decide +kernel
theorem dX0_enterFirst_14 : decode cX0_enterFirst 14 = .ok (.aload_n 1, 1) := by decide +kernel
theorem dX0_enterFirst_15 : decode cX0_enterFirst 15 = .ok (.getfield 69, 3) := by decide +kernel
theorem dX0_enterFirst_18 : decode cX0_enterFirst 18 = .ok (.putfield 69, 3) := by decide +kernel
theorem dX0_enterFirst_21 : decode cX0_enterFirst 21 = .ok (.aload_n 0, 1) := by decide +kernel
theorem dX0_enterFirst_22 : decode cX0_enterFirst 22 = .ok (.getfield 38, 3) := by decide +kernel
theorem dX0_enterFirst_25 : decode cX0_enterFirst 25 = .ok (.aload_n 1, 1) := by decide +kernel
theorem dX0_enterFirst_26 : decode cX0_enterFirst 26 = .ok (.getfield 85, 3) := by decide +kernel
theorem dX0_enterFirst_29 : decode cX0_enterFirst 29 = .ok (.putfield 85, 3) := by decide +kernel
theorem dX0_enterFirst_32 : decode cX0_enterFirst 32 = .ok (.aload_n 1, 1) := by decide +kernel
theorem dX0_enterFirst_33 : decode cX0_enterFirst 33 = .ok (.getfield 82, 3) := by decide +kernel
theorem dX0_enterFirst_36 : decode cX0_enterFirst 36 = .ok (.iconst 0, 1) := by decide +kernel
theorem dX0_enterFirst_37 : decode cX0_enterFirst 37 = .ok (.aload_n 0, 1) := by decide +kernel
theorem dX0_enterFirst_38 : decode cX0_enterFirst 38 = .ok (.getfield 38, 3) := by decide +kernel
theorem dX0_enterFirst_41 : decode cX0_enterFirst 41 = .ok (.getfield 82, 3) := by decide +kernel
theorem dX0_enterFirst_44 : decode cX0_enterFirst 44 = .ok (.iconst 0, 1) := by decide +kernel
theorem dX0_enterFirst_45 : decode cX0_enterFirst 45 = .ok (.bipush 72, 2) := by decide +kernel
theorem dX0_enterFirst_47 : decode cX0_enterFirst 47 = .ok (.invokestatic 110, 3) := by decide +kernel
theorem dX0_enterFirst_50 : decode cX0_enterFirst 50 = .ok (.iconst 0, 1) := by decide +kernel
theorem dX0_enterFirst_51 : decode cX0_enterFirst 51 = .ok (.istore_n 2, 1) := by decide +kernel
theorem dX0_enterFirst_52 : decode cX0_enterFirst 52 = .ok (.iload_n 2, 1) := by decide +kernel
theorem dX0_enterFirst_53 : decode cX0_enterFirst 53 = .ok (.aload_n 1, 1) := by decide +kernel
theorem dX0_enterFirst_54 : decode cX0_enterFirst 54 = .ok (.getfield 69, 3) := by decide +kernel
theorem dX0_enterFirst_57 : decode cX0_enterFirst 57 = .ok (.if_icmp .ge 37, 3) := by decide +kernel
theorem dX0_enterFirst_60 : decode cX0_enterFirst 60 = .ok (.aload_n 0, 1) := by decide +kernel
theorem dX0_enterFirst_61 : decode cX0_enterFirst 61 = .ok (.getfield 42, 3) := by decide +kernel
theorem dX0_enterFirst_64 : decode cX0_enterFirst 64 = .ok (.iload_n 2, 1) := by decide +kernel
theorem dX0_enterFirst_65 : decode cX0_enterFirst 65 = .ok (.aload_n 0, 1) := by decide +kernel
theorem dX0_enterFirst_66 : decode cX0_enterFirst 66 = .ok (.aload_n 1, 1) := by decide +kernel
theorem dX0_enterFirst_67 : decode cX0_enterFirst 67 = .ok (.getfield 116, 3) := by decide +kernel
theorem dX0_enterFirst_70 : decode cX0_enterFirst 70 = .ok (.iload_n 2, 1) := by decide +kernel
theorem dX0_enterFirst_71 : decode cX0_enterFirst 71 = .ok (.aaload, 1) := by decide +kernel
theorem dX0_enterFirst_72 : decode cX0_enterFirst 72 = .ok (.invokevirtual 96, 3) := by decide +kernel
theorem dX0_enterFirst_75 : decode cX0_enterFirst 75 = .ok (.iastore, 1) := by decide +kernel
theorem dX0_enterFirst_76 : decode cX0_enterFirst 76 = .ok (.aload_n 0, 1) := by decide +kernel
theorem dX0_enterFirst_77 : decode cX0_enterFirst 77 = .ok (.getfield 42, 3) := by decide +kernel
theorem dX0_enterFirst_80 : decode cX0_enterFirst 80 = .ok (.iload_n 2, 1) := by decide +kernel
theorem dX0_enterFirst_81 : decode cX0_enterFirst 81 = .ok (.iaload, 1) := by decide +kernel
theorem dX0_enterFirst_82 : decode cX0_enterFirst 82 = .ok (.iconst (-1), 1) := by decide +kernel
theorem dX0_enterFirst_83 : decode cX0_enterFirst 83 = .ok (.if_icmp .ne 5, 3) := by decide +kernel
theorem dX0_enterFirst_88 : decode cX0_enterFirst 88 = .ok (.iinc 2 1, 3) := by decide +kernel
theorem dX0_enterFirst_91 : decode cX0_enterFirst 91 = .ok (.goto (-39), 3) := by decide +kernel
theorem dX0_enterFirst_94 : decode cX0_enterFirst 94 = .ok (.aload_n 0, 1) := by decide +kernel
theorem dX0_enterFirst_95 : decode cX0_enterFirst 95 = .ok (.invokevirtual 117, 3) := by decide +kernel
theorem dX0_enterFirst_98 : decode cX0_enterFirst 98 = .ok (.aload_n 0, 1) := by decide +kernel
theorem dX0_enterFirst_99 : decode cX0_enterFirst 99 = .ok (.invokevirtual 120, 3) := by decide +kernel
theorem dX0_enterFirst_102 : decode cX0_enterFirst 102 = .ok (.ireturn, 1) := by decide +kernel
noncomputable def p_X0_enterFirst (Y : rx_Y) : rx_P := [(0, rx_ld 2 0 1), (1, rx_pure (rx_push (.int 0)) 2), (2, rx_putf 0 1 .int 5), (5, rx_ld 2 0 6), (6, rx_pure (rx_push (.int 0)) 7), (7, rx_putf 0 7 .int 10), (10, rx_ld 2 0 11), (11, rx_get 0 8 14), (14, rx_ld 2 1 15), (15, rx_get 7 0 18), (18, rx_putf 7 0 .int 21), (21, rx_ld 2 0 22), (22, rx_get 0 8 25), (25, rx_ld 2 1 26), (26, rx_get 7 1 29), (29, rx_putf 7 1 .int 32), (32, rx_ld 2 1 33), (33, rx_get 7 2 36), (36, rx_pure (rx_push (.int 0)) 37), (37, rx_ld 2 0 38), (38, rx_get 0 8 41), (41, rx_get 7 2 44), (44, rx_pure (rx_push (.int 0)) 45), (45, rx_pure (rx_push (.int 72)) 47), (47, rx_acp 0 64 50), (50, rx_pure (rx_push (.int 0)) 51), (51, rx_st 0 2 52 3), (52, rx_ld 0 2 53), (53, rx_ld 2 1 54), (54, rx_get 7 0 57), (57, rx_br (rx_cmp Y 1) 94 60), (60, rx_ld 2 0 61), (61, rx_get 0 9 64), (64, rx_ld 0 2 65), (65, rx_ld 2 0 66), (66, rx_ld 2 1 67), (67, rx_get 7 4 70), (70, rx_ld 0 2 71), (71, rx_ald 5 2 72), (72, rx_cl 9 2 0 true 0 0 0 0 75), (75, rx_ast Y 0 .int 76), (76, rx_ld 2 0 77), (77, rx_get 0 9 80), (80, rx_ld 0 2 81), (81, rx_ald 0 0 82), (82, rx_pure (rx_push (.int (-1))) 83), (83, rx_br (rx_cmp Y 5) 88 86), (88, rx_inc 2 1 91 3), (91, rx_br rx_goto 52 94), (94, rx_ld 2 0 95), (95, rx_cl 6 1 0 true 0 0 0 0 98), (98, rx_ld 2 0 99), (99, rx_cl 3 1 0 true 0 0 0 0 102), (102, rx_retv .boolean 0 0)]
noncomputable def m_X0_enterFirst (Y : rx_Y) : rx_M := (yX0_enterFirst, cX0_enterFirst, 3, (some .boolean), { frames := 3, cells := 0, slots := 0, locals := 64 }, p_X0_enterFirst Y)
theorem hd_X0_enterFirst : yX0_enterFirst.cls ≠ "java/lang/invoke/MethodHandle" ∧ yX0_enterFirst.cls ≠ "java/lang/invoke/VarHandle" ∧ (parseMethodDescriptor yX0_enterFirst.desc).map (fun d => d.parameters.length) = some 1 := by decide +kernel
abbrev cX0_explore : ByteArray := prog_2_method_2_code
def yX0_explore : MethodName := ⟨"SeedBench$Atlas", "explore", "(LSeedBench$Seed;LSeedBench$Mill;)I"⟩
theorem dX0_explore_0 : decode cX0_explore 0 = .ok (.aload_n 0, 1) := by decide +kernel
theorem dX0_explore_1 : decode cX0_explore 1 = .ok (.aload_n 1, 1) := by decide +kernel
theorem dX0_explore_2 : decode cX0_explore 2 = .ok (.invokevirtual 62, 3) := by decide +kernel
theorem dX0_explore_5 : decode cX0_explore 5 = .ok (.ifCond .ne 6, 3) := by decide +kernel
theorem dX0_explore_11 : decode cX0_explore 11 = .ok (.iconst 0, 1) := by decide +kernel
theorem dX0_explore_12 : decode cX0_explore 12 = .ok (.istore_n 3, 1) := by decide +kernel
theorem dX0_explore_13 : decode cX0_explore 13 = .ok (.iload_n 3, 1) := by decide +kernel
theorem dX0_explore_14 : decode cX0_explore 14 = .ok (.aload_n 0, 1) := by decide +kernel
theorem dX0_explore_15 : decode cX0_explore 15 = .ok (.getfield 66, 3) := by decide +kernel
theorem dX0_explore_18 : decode cX0_explore 18 = .ok (.if_icmp .ge 148, 3) := by decide +kernel
theorem dX0_explore_21 : decode cX0_explore 21 = .ok (.iload_n 3, 1) := by decide +kernel
theorem dX0_explore_22 : decode cX0_explore 22 = .ok (.sipush 150, 3) := by decide +kernel
theorem dX0_explore_25 : decode cX0_explore 25 = .ok (.if_icmp .ge 141, 3) := by decide +kernel
theorem dX0_explore_28 : decode cX0_explore 28 = .ok (.iconst 0, 1) := by decide +kernel
theorem dX0_explore_29 : decode cX0_explore 29 = .ok (.istore 4, 2) := by decide +kernel
theorem dX0_explore_31 : decode cX0_explore 31 = .ok (.iload 4, 2) := by decide +kernel
theorem dX0_explore_33 : decode cX0_explore 33 = .ok (.aload_n 0, 1) := by decide +kernel
theorem dX0_explore_34 : decode cX0_explore 34 = .ok (.getfield 38, 3) := by decide +kernel
theorem dX0_explore_37 : decode cX0_explore 37 = .ok (.getfield 69, 3) := by decide +kernel
theorem dX0_explore_40 : decode cX0_explore 40 = .ok (.if_icmp .ge 120, 3) := by decide +kernel
theorem dX0_explore_43 : decode cX0_explore 43 = .ok (.aload_n 0, 1) := by decide +kernel
theorem dX0_explore_44 : decode cX0_explore 44 = .ok (.getfield 21, 3) := by decide +kernel
theorem dX0_explore_47 : decode cX0_explore 47 = .ok (.iload_n 3, 1) := by decide +kernel
theorem dX0_explore_48 : decode cX0_explore 48 = .ok (.bipush 6, 2) := by decide +kernel
theorem dX0_explore_50 : decode cX0_explore 50 = .ok (.imul, 1) := by decide +kernel
theorem dX0_explore_51 : decode cX0_explore 51 = .ok (.iload 4, 2) := by decide +kernel
theorem dX0_explore_53 : decode cX0_explore 53 = .ok (.iadd, 1) := by decide +kernel
theorem dX0_explore_54 : decode cX0_explore 54 = .ok (.baload, 1) := by decide +kernel
theorem dX0_explore_55 : decode cX0_explore 55 = .ok (.ifCond .eq 6, 3) := by decide +kernel
theorem dX0_explore_58 : decode cX0_explore 58 = .ok (.goto 96, 3) := by decide +kernel
theorem dX0_explore_61 : decode cX0_explore 61 = .ok (.aload_n 0, 1) := by decide +kernel
theorem dX0_explore_62 : decode cX0_explore 62 = .ok (.iload_n 3, 1) := by decide +kernel
theorem dX0_explore_63 : decode cX0_explore 63 = .ok (.invokevirtual 72, 3) := by decide +kernel
theorem dX0_explore_66 : decode cX0_explore 66 = .ok (.aload_n 2, 1) := by decide +kernel
theorem dX0_explore_67 : decode cX0_explore 67 = .ok (.aload_n 0, 1) := by decide +kernel
theorem dX0_explore_68 : decode cX0_explore 68 = .ok (.getfield 38, 3) := by decide +kernel
theorem dX0_explore_71 : decode cX0_explore 71 = .ok (.iload 4, 2) := by decide +kernel
theorem dX0_explore_73 : decode cX0_explore 73 = .ok (.invokevirtual 76, 3) := by decide +kernel
theorem dX0_explore_76 : decode cX0_explore 76 = .ok (.ifCond .ne 6, 3) := by decide +kernel
theorem dX0_explore_82 : decode cX0_explore 82 = .ok (.aload_n 0, 1) := by decide +kernel
theorem dX0_explore_83 : decode cX0_explore 83 = .ok (.getfield 38, 3) := by decide +kernel
theorem dX0_explore_86 : decode cX0_explore 86 = .ok (.getfield 82, 3) := by decide +kernel
theorem dX0_explore_89 : decode cX0_explore 89 = .ok (.aload_n 0, 1) := by decide +kernel
theorem dX0_explore_90 : decode cX0_explore 90 = .ok (.getfield 38, 3) := by decide +kernel
theorem dX0_explore_93 : decode cX0_explore 93 = .ok (.getfield 69, 3) := by decide +kernel
theorem dX0_explore_96 : decode cX0_explore 96 = .ok (.aload_n 0, 1) := by decide +kernel
theorem dX0_explore_97 : decode cX0_explore 97 = .ok (.getfield 38, 3) := by decide +kernel
theorem dX0_explore_100 : decode cX0_explore 100 = .ok (.getfield 85, 3) := by decide +kernel
theorem dX0_explore_103 : decode cX0_explore 103 = .ok (.iadd, 1) := by decide +kernel
theorem dX0_explore_104 : decode cX0_explore 104 = .ok (.aload_n 0, 1) := by decide +kernel
theorem dX0_explore_105 : decode cX0_explore 105 = .ok (.getfield 38, 3) := by decide +kernel
theorem dX0_explore_108 : decode cX0_explore 108 = .ok (.getfield 69, 3) := by decide +kernel
theorem dX0_explore_111 : decode cX0_explore 111 = .ok (.iload 4, 2) := by decide +kernel
theorem dX0_explore_113 : decode cX0_explore 113 = .ok (.invokestatic 88, 3) := by decide +kernel
theorem dX0_explore_116 : decode cX0_explore 116 = .ok (.aload_n 0, 1) := by decide +kernel
theorem dX0_explore_117 : decode cX0_explore 117 = .ok (.getfield 42, 3) := by decide +kernel
theorem dX0_explore_120 : decode cX0_explore 120 = .ok (.iload 4, 2) := by decide +kernel
theorem dX0_explore_122 : decode cX0_explore 122 = .ok (.aload_n 0, 1) := by decide +kernel
theorem dX0_explore_123 : decode cX0_explore 123 = .ok (.aload_n 2, 1) := by decide +kernel
theorem dX0_explore_124 : decode cX0_explore 124 = .ok (.getfield 92, 3) := by decide +kernel
theorem dX0_explore_127 : decode cX0_explore 127 = .ok (.invokevirtual 96, 3) := by decide +kernel
theorem dX0_explore_130 : decode cX0_explore 130 = .ok (.iastore, 1) := by decide +kernel
theorem dX0_explore_131 : decode cX0_explore 131 = .ok (.aload_n 0, 1) := by decide +kernel
theorem dX0_explore_132 : decode cX0_explore 132 = .ok (.getfield 42, 3) := by decide +kernel
theorem dX0_explore_135 : decode cX0_explore 135 = .ok (.iload 4, 2) := by decide +kernel
theorem dX0_explore_137 : decode cX0_explore 137 = .ok (.iaload, 1) := by decide +kernel
theorem dX0_explore_138 : decode cX0_explore 138 = .ok (.iconst (-1), 1) := by decide +kernel
theorem dX0_explore_139 : decode cX0_explore 139 = .ok (.if_icmp .eq 12, 3) := by decide +kernel
theorem dX0_explore_142 : decode cX0_explore 142 = .ok (.aload_n 0, 1) := by decide +kernel
theorem dX0_explore_143 : decode cX0_explore 143 = .ok (.iload 4, 2) := by decide +kernel
theorem dX0_explore_145 : decode cX0_explore 145 = .ok (.invokevirtual 100, 3) := by decide +kernel
theorem dX0_explore_148 : decode cX0_explore 148 = .ok (.ifCond .ne 6, 3) := by decide +kernel
theorem dX0_explore_154 : decode cX0_explore 154 = .ok (.iinc 4 1, 3) := by decide +kernel
theorem dX0_explore_157 : decode cX0_explore 157 = .ok (.goto (-126), 3) := by decide +kernel
theorem dX0_explore_160 : decode cX0_explore 160 = .ok (.iinc 3 1, 3) := by decide +kernel
theorem dX0_explore_163 : decode cX0_explore 163 = .ok (.goto (-150), 3) := by decide +kernel
theorem dX0_explore_166 : decode cX0_explore 166 = .ok (.aload_n 0, 1) := by decide +kernel
theorem dX0_explore_167 : decode cX0_explore 167 = .ok (.invokevirtual 104, 3) := by decide +kernel
theorem dX0_explore_170 : decode cX0_explore 170 = .ok (.aload_n 0, 1) := by decide +kernel
theorem dX0_explore_171 : decode cX0_explore 171 = .ok (.getfield 66, 3) := by decide +kernel
theorem dX0_explore_174 : decode cX0_explore 174 = .ok (.ireturn, 1) := by decide +kernel
noncomputable def p_X0_explore (Y : rx_Y) : rx_P := [(0, rx_ld 2 0 1), (1, rx_ld 2 1 2), (2, rx_cl 4 2 0 true 0 0 0 0 5), (5, rx_br (rx_cm0 Y 5) 11 8), (11, rx_pure (rx_push (.int 0)) 12), (12, rx_st 0 3 13 5), (13, rx_ld 0 3 14), (14, rx_ld 2 0 15), (15, rx_get 0 7 18), (18, rx_br (rx_cmp Y 1) 166 21), (21, rx_ld 0 3 22), (22, rx_pure (rx_push (.int 150)) 25), (25, rx_br (rx_cmp Y 1) 166 28), (28, rx_pure (rx_push (.int 0)) 29), (29, rx_st 0 4 31 5), (31, rx_ld 0 4 33), (33, rx_ld 2 0 34), (34, rx_get 0 8 37), (37, rx_get 7 0 40), (40, rx_br (rx_cmp Y 1) 160 43), (43, rx_ld 2 0 44), (44, rx_get 0 3 47), (47, rx_ld 0 3 48), (48, rx_pure (rx_push (.int 6)) 50), (50, rx_pure (rx_bi (fun x y => x * y)) 51), (51, rx_ld 0 4 53), (53, rx_pure (rx_bi (fun x y => x + y)) 54), (54, rx_ald 2 0 55), (55, rx_br (rx_cm0 Y 4) 61 58), (58, rx_br rx_goto 154 61), (61, rx_ld 2 0 62), (62, rx_ld 0 3 63), (63, rx_cl 8 2 0 true 0 0 0 0 66), (66, rx_ld 2 2 67), (67, rx_ld 2 0 68), (68, rx_get 0 8 71), (71, rx_ld 0 4 73), (73, rx_cl 29 3 5 true 0 0 0 0 76), (76, rx_br (rx_cm0 Y 5) 82 79), (82, rx_ld 2 0 83), (83, rx_get 0 8 86), (86, rx_get 7 2 89), (89, rx_ld 2 0 90), (90, rx_get 0 8 93), (93, rx_get 7 0 96), (96, rx_ld 2 0 97), (97, rx_get 0 8 100), (100, rx_get 7 1 103), (103, rx_pure (rx_bi (fun x y => x + y)) 104), (104, rx_ld 2 0 105), (105, rx_get 0 8 108), (108, rx_get 7 0 111), (111, rx_ld 0 4 113), (113, rx_cl 91 4 0 false 0 0 0 0 116), (116, rx_ld 2 0 117), (117, rx_get 0 9 120), (120, rx_ld 0 4 122), (122, rx_ld 2 0 123), (123, rx_ld 2 2 124), (124, rx_get 5 0 127), (127, rx_cl 9 2 0 true 0 0 0 0 130), (130, rx_ast Y 0 .int 131), (131, rx_ld 2 0 132), (132, rx_get 0 9 135), (135, rx_ld 0 4 137), (137, rx_ald 0 0 138), (138, rx_pure (rx_push (.int (-1))) 139), (139, rx_br (rx_cmp Y 4) 151 142), (142, rx_ld 2 0 143), (143, rx_ld 0 4 145), (145, rx_cl 2 2 0 true 0 0 0 0 148), (148, rx_br (rx_cm0 Y 5) 154 151), (154, rx_inc 4 1 157 5), (157, rx_br rx_goto 31 160), (160, rx_inc 3 1 163 5), (163, rx_br rx_goto 13 166), (166, rx_ld 2 0 167), (167, rx_cl 10 1 0 true 0 0 0 0 170), (170, rx_ld 2 0 171), (171, rx_get 0 7 174), (174, rx_retv .int 0 0)]
noncomputable def m_X0_explore (Y : rx_Y) : rx_M := (yX0_explore, cX0_explore, 5, (some .int), { frames := 5, cells := 0, slots := 0, locals := 140 }, p_X0_explore Y)
theorem hd_X0_explore : yX0_explore.cls ≠ "java/lang/invoke/MethodHandle" ∧ yX0_explore.cls ≠ "java/lang/invoke/VarHandle" ∧ (parseMethodDescriptor yX0_explore.desc).map (fun d => d.parameters.length) = some 2 := by decide +kernel
abbrev cX0_gatherLetters : ByteArray := prog_2_method_7_code
def yX0_gatherLetters : MethodName := ⟨"SeedBench$Atlas", "gatherLetters", "()V"⟩
theorem dX0_gatherLetters_0 : decode cX0_gatherLetters 0 = .ok (.aload_n 0, 1) := by decide +kernel
theorem dX0_gatherLetters_1 : decode cX0_gatherLetters 1 = .ok (.lconst 0, 1) := by decide +kernel
theorem dX0_gatherLetters_2 : decode cX0_gatherLetters 2 = .ok (.putfield 136, 3) := by decide +kernel
theorem dX0_gatherLetters_5 : decode cX0_gatherLetters 5 = .ok (.aload_n 0, 1) := by decide +kernel
theorem dX0_gatherLetters_6 : decode cX0_gatherLetters 6 = .ok (.lconst 0, 1) := by decide +kernel
theorem dX0_gatherLetters_7 : decode cX0_gatherLetters 7 = .ok (.putfield 140, 3) := by decide +kernel
theorem dX0_gatherLetters_10 : decode cX0_gatherLetters 10 = .ok (.iconst 0, 1) := by decide +kernel
theorem dX0_gatherLetters_11 : decode cX0_gatherLetters 11 = .ok (.istore_n 1, 1) := by decide +kernel
theorem dX0_gatherLetters_12 : decode cX0_gatherLetters 12 = .ok (.iload_n 1, 1) := by decide +kernel
theorem dX0_gatherLetters_13 : decode cX0_gatherLetters 13 = .ok (.aload_n 0, 1) := by decide +kernel
theorem dX0_gatherLetters_14 : decode cX0_gatherLetters 14 = .ok (.getfield 38, 3) := by decide +kernel
theorem dX0_gatherLetters_17 : decode cX0_gatherLetters 17 = .ok (.getfield 69, 3) := by decide +kernel
theorem dX0_gatherLetters_20 : decode cX0_gatherLetters 20 = .ok (.if_icmp .ge 60, 3) := by decide +kernel
theorem dX0_gatherLetters_23 : decode cX0_gatherLetters 23 = .ok (.aload_n 0, 1) := by decide +kernel
theorem dX0_gatherLetters_24 : decode cX0_gatherLetters 24 = .ok (.getfield 42, 3) := by decide +kernel
theorem dX0_gatherLetters_27 : decode cX0_gatherLetters 27 = .ok (.iload_n 1, 1) := by decide +kernel
theorem dX0_gatherLetters_28 : decode cX0_gatherLetters 28 = .ok (.iaload, 1) := by decide +kernel
theorem dX0_gatherLetters_29 : decode cX0_gatherLetters 29 = .ok (.bipush 64, 2) := by decide +kernel
theorem dX0_gatherLetters_31 : decode cX0_gatherLetters 31 = .ok (.if_icmp .ge 23, 3) := by decide +kernel
theorem dX0_gatherLetters_34 : decode cX0_gatherLetters 34 = .ok (.aload_n 0, 1) := by decide +kernel
theorem dX0_gatherLetters_35 : decode cX0_gatherLetters 35 = .ok (.dup, 1) := by decide +kernel
theorem dX0_gatherLetters_36 : decode cX0_gatherLetters 36 = .ok (.getfield 136, 3) := by decide +kernel
theorem dX0_gatherLetters_39 : decode cX0_gatherLetters 39 = .ok (.lconst 1, 1) := by decide +kernel
theorem dX0_gatherLetters_40 : decode cX0_gatherLetters 40 = .ok (.aload_n 0, 1) := by decide +kernel
theorem dX0_gatherLetters_41 : decode cX0_gatherLetters 41 = .ok (.getfield 42, 3) := by decide +kernel
theorem dX0_gatherLetters_44 : decode cX0_gatherLetters 44 = .ok (.iload_n 1, 1) := by decide +kernel
theorem dX0_gatherLetters_45 : decode cX0_gatherLetters 45 = .ok (.iaload, 1) := by decide +kernel
theorem dX0_gatherLetters_46 : decode cX0_gatherLetters 46 = .ok (.lshl, 1) := by decide +kernel
theorem dX0_gatherLetters_47 : decode cX0_gatherLetters 47 = .ok (.lor, 1) := by decide +kernel
theorem dX0_gatherLetters_48 : decode cX0_gatherLetters 48 = .ok (.putfield 136, 3) := by decide +kernel
theorem dX0_gatherLetters_51 : decode cX0_gatherLetters 51 = .ok (.goto 23, 3) := by decide +kernel
theorem dX0_gatherLetters_74 : decode cX0_gatherLetters 74 = .ok (.iinc 1 1, 3) := by decide +kernel
theorem dX0_gatherLetters_77 : decode cX0_gatherLetters 77 = .ok (.goto (-65), 3) := by decide +kernel
theorem dX0_gatherLetters_80 : decode cX0_gatherLetters 80 = .ok (.return_, 1) := by decide +kernel
noncomputable def p_X0_gatherLetters (Y : rx_Y) : rx_P := [(0, rx_ld 2 0 1), (1, rx_pure (rx_push (.long 0)) 2), (2, rx_putf 0 10 .long 5), (5, rx_ld 2 0 6), (6, rx_pure (rx_push (.long 0)) 7), (7, rx_putf 0 11 .long 10), (10, rx_pure (rx_push (.int 0)) 11), (11, rx_st 0 1 12 2), (12, rx_ld 0 1 13), (13, rx_ld 2 0 14), (14, rx_get 0 8 17), (17, rx_get 7 0 20), (20, rx_br (rx_cmp Y 1) 80 23), (23, rx_ld 2 0 24), (24, rx_get 0 9 27), (27, rx_ld 0 1 28), (28, rx_ald 0 0 29), (29, rx_pure (rx_push (.int 64)) 31), (31, rx_br (rx_cmp Y 1) 54 34), (34, rx_ld 2 0 35), (35, rx_pure rx_dup 36), (36, rx_get 0 10 39), (39, rx_pure (rx_push (.long 1)) 40), (40, rx_ld 2 0 41), (41, rx_get 0 9 44), (44, rx_ld 0 1 45), (45, rx_ald 0 0 46), (46, rx_pure (rx_ls (fun x y => x <<< (y.toInt64 &&& 63))) 47), (47, rx_pure (rx_lb (fun x y => x ||| y)) 48), (48, rx_putf 0 10 .long 51), (51, rx_br rx_goto 74 54), (74, rx_inc 1 1 77 2), (77, rx_br rx_goto 12 80), (80, rx_ret0 0 0)]
noncomputable def m_X0_gatherLetters (Y : rx_Y) : rx_M := (yX0_gatherLetters, cX0_gatherLetters, 2, none, { frames := 0, cells := 0, slots := 0, locals := 0 }, p_X0_gatherLetters Y)
theorem hd_X0_gatherLetters : yX0_gatherLetters.cls ≠ "java/lang/invoke/MethodHandle" ∧ yX0_gatherLetters.cls ≠ "java/lang/invoke/VarHandle" ∧ (parseMethodDescriptor yX0_gatherLetters.desc).map (fun d => d.parameters.length) = some 0 := by decide +kernel
abbrev cX0_init : ByteArray := prog_2_method_1_code
def yX0_init : MethodName := ⟨"SeedBench$Atlas", "<init>", "()V"⟩
theorem dX0_init_0 : decode cX0_init 0 = .ok (.aload_n 0, 1) := by decide +kernel
theorem dX0_init_1 : decode cX0_init 1 = .ok (.invokespecial 3, 3) := by decide +kernel
theorem dX0_init_4 : decode cX0_init 4 = .ok (.aload_n 0, 1) := by decide +kernel
theorem dX0_init_5 : decode cX0_init 5 = .ok (.bipush 100, 2) := by decide +kernel
theorem dX0_init_7 : decode cX0_init 7 = .ok (.anewarray 9, 3) := by decide +kernel
theorem dX0_init_10 : decode cX0_init 10 = .ok (.putfield 11, 3) := by decide +kernel
theorem dX0_init_13 : decode cX0_init 13 = .ok (.aload_n 0, 1) := by decide +kernel
theorem dX0_init_14 : decode cX0_init 14 = .ok (.sipush 900, 3) := by decide +kernel
theorem dX0_init_17 : decode cX0_init 17 = .ok (.newarray .int, 2) := by decide +kernel
theorem dX0_init_19 : decode cX0_init 19 = .ok (.putfield 17, 3) := by decide +kernel
theorem dX0_init_22 : decode cX0_init 22 = .ok (.aload_n 0, 1) := by decide +kernel
theorem dX0_init_23 : decode cX0_init 23 = .ok (.sipush 900, 3) := by decide +kernel
theorem dX0_init_26 : decode cX0_init 26 = .ok (.newarray .boolean, 2) := by decide +kernel
theorem dX0_init_28 : decode cX0_init 28 = .ok (.putfield 21, 3) := by decide +kernel
theorem dX0_init_31 : decode cX0_init 31 = .ok (.aload_n 0, 1) := by decide +kernel
theorem dX0_init_32 : decode cX0_init 32 = .ok (.sipush 10800, 3) := by decide +kernel
theorem dX0_init_35 : decode cX0_init 35 = .ok (.newarray .int, 2) := by decide +kernel
theorem dX0_init_37 : decode cX0_init 37 = .ok (.putfield 25, 3) := by decide +kernel
theorem dX0_init_40 : decode cX0_init 40 = .ok (.aload_n 0, 1) := by decide +kernel
theorem dX0_init_41 : decode cX0_init 41 = .ok (.sipush 150, 3) := by decide +kernel
theorem dX0_init_44 : decode cX0_init 44 = .ok (.newarray .long, 2) := by decide +kernel
theorem dX0_init_46 : decode cX0_init 46 = .ok (.putfield 28, 3) := by decide +kernel
theorem dX0_init_49 : decode cX0_init 49 = .ok (.aload_n 0, 1) := by decide +kernel
theorem dX0_init_50 : decode cX0_init 50 = .ok (.sipush 150, 3) := by decide +kernel
theorem dX0_init_53 : decode cX0_init 53 = .ok (.newarray .long, 2) := by decide +kernel
theorem dX0_init_55 : decode cX0_init 55 = .ok (.putfield 32, 3) := by decide +kernel
theorem dX0_init_58 : decode cX0_init 58 = .ok (.aload_n 0, 1) := by decide +kernel
theorem dX0_init_59 : decode cX0_init 59 = .ok (.new 35, 3) := by decide +kernel
theorem dX0_init_62 : decode cX0_init 62 = .ok (.dup, 1) := by decide +kernel
theorem dX0_init_63 : decode cX0_init 63 = .ok (.invokespecial 37, 3) := by decide +kernel
theorem dX0_init_66 : decode cX0_init 66 = .ok (.putfield 38, 3) := by decide +kernel
theorem dX0_init_69 : decode cX0_init 69 = .ok (.aload_n 0, 1) := by decide +kernel
theorem dX0_init_70 : decode cX0_init 70 = .ok (.bipush 6, 2) := by decide +kernel
theorem dX0_init_72 : decode cX0_init 72 = .ok (.newarray .int, 2) := by decide +kernel
theorem dX0_init_74 : decode cX0_init 74 = .ok (.putfield 42, 3) := by decide +kernel
theorem dX0_init_77 : decode cX0_init 77 = .ok (.aload_n 0, 1) := by decide +kernel
theorem dX0_init_78 : decode cX0_init 78 = .ok (.bipush 6, 2) := by decide +kernel
theorem dX0_init_80 : decode cX0_init 80 = .ok (.newarray .int, 2) := by decide +kernel
theorem dX0_init_82 : decode cX0_init 82 = .ok (.putfield 45, 3) := by decide +kernel
theorem dX0_init_85 : decode cX0_init 85 = .ok (.aload_n 0, 1) := by decide +kernel
theorem dX0_init_86 : decode cX0_init 86 = .ok (.iconst (-1), 1) := by decide +kernel
theorem dX0_init_87 : decode cX0_init 87 = .ok (.putfield 48, 3) := by decide +kernel
theorem dX0_init_90 : decode cX0_init 90 = .ok (.aload_n 0, 1) := by decide +kernel
theorem dX0_init_91 : decode cX0_init 91 = .ok (.bipush 100, 2) := by decide +kernel
theorem dX0_init_93 : decode cX0_init 93 = .ok (.newarray .int, 2) := by decide +kernel
theorem dX0_init_95 : decode cX0_init 95 = .ok (.putfield 52, 3) := by decide +kernel
theorem dX0_init_98 : decode cX0_init 98 = .ok (.aload_n 0, 1) := by decide +kernel
theorem dX0_init_99 : decode cX0_init 99 = .ok (.bipush 100, 2) := by decide +kernel
theorem dX0_init_101 : decode cX0_init 101 = .ok (.newarray .long, 2) := by decide +kernel
theorem dX0_init_103 : decode cX0_init 103 = .ok (.putfield 55, 3) := by decide +kernel
theorem dX0_init_106 : decode cX0_init 106 = .ok (.aload_n 0, 1) := by decide +kernel
theorem dX0_init_107 : decode cX0_init 107 = .ok (.sipush 1200, 3) := by decide +kernel
theorem dX0_init_110 : decode cX0_init 110 = .ok (.newarray .int, 2) := by decide +kernel
theorem dX0_init_112 : decode cX0_init 112 = .ok (.putfield 58, 3) := by decide +kernel
theorem dX0_init_115 : decode cX0_init 115 = .ok (.iconst 0, 1) := by decide +kernel
theorem dX0_init_116 : decode cX0_init 116 = .ok (.istore_n 1, 1) := by decide +kernel
theorem dX0_init_117 : decode cX0_init 117 = .ok (.iload_n 1, 1) := by decide +kernel
theorem dX0_init_118 : decode cX0_init 118 = .ok (.bipush 100, 2) := by decide +kernel
theorem dX0_init_120 : decode cX0_init 120 = .ok (.if_icmp .ge 22, 3) := by decide +kernel
theorem dX0_init_123 : decode cX0_init 123 = .ok (.aload_n 0, 1) := by decide +kernel
theorem dX0_init_124 : decode cX0_init 124 = .ok (.getfield 11, 3) := by decide +kernel
theorem dX0_init_127 : decode cX0_init 127 = .ok (.iload_n 1, 1) := by decide +kernel
theorem dX0_init_128 : decode cX0_init 128 = .ok (.new 9, 3) := by decide +kernel
theorem dX0_init_131 : decode cX0_init 131 = .ok (.dup, 1) := by decide +kernel
theorem dX0_init_132 : decode cX0_init 132 = .ok (.invokespecial 61, 3) := by decide +kernel
theorem dX0_init_135 : decode cX0_init 135 = .ok (.aastore, 1) := by decide +kernel
theorem dX0_init_136 : decode cX0_init 136 = .ok (.iinc 1 1, 3) := by decide +kernel
theorem dX0_init_139 : decode cX0_init 139 = .ok (.goto (-22), 3) := by decide +kernel
theorem dX0_init_142 : decode cX0_init 142 = .ok (.return_, 1) := by decide +kernel
noncomputable def p_X0_init (Y : rx_Y) : rx_P := [(0, rx_ld 2 0 1), (1, rx_obj 53 4), (4, rx_ld 2 0 5), (5, rx_pure (rx_push (.int 100)) 7), (7, rx_nwa 5 334 290532 10), (10, rx_putf 0 0 (.array (.object "SeedBench$Share")) 13), (13, rx_ld 2 0 14), (14, rx_pure (rx_push (.int 900)) 17), (17, rx_nwa 0 334 290532 19), (19, rx_putf 0 2 (.array .int) 22), (22, rx_ld 2 0 23), (23, rx_pure (rx_push (.int 900)) 26), (26, rx_nwa 2 334 290532 28), (28, rx_putf 0 3 (.array .boolean) 31), (31, rx_ld 2 0 32), (32, rx_pure (rx_push (.int 10800)) 35), (35, rx_nwa 0 334 290532 37), (37, rx_putf 0 4 (.array .int) 40), (40, rx_ld 2 0 41), (41, rx_pure (rx_push (.int 150)) 44), (44, rx_nwa 1 334 290532 46), (46, rx_putf 0 5 (.array .long) 49), (49, rx_ld 2 0 50), (50, rx_pure (rx_push (.int 150)) 53), (53, rx_nwa 1 334 290532 55), (55, rx_putf 0 6 (.array .long) 58), (58, rx_ld 2 0 59), (59, rx_new 7 fs_X7 334 290532 62), (62, rx_pure rx_dup 63), (63, rx_cl 47 1 7 true 22 15714 334 290532 66), (66, rx_putf 0 8 (.object "SeedBench$Seed") 69), (69, rx_ld 2 0 70), (70, rx_pure (rx_push (.int 6)) 72), (72, rx_nwa 0 334 290532 74), (74, rx_putf 0 9 (.array .int) 77), (77, rx_ld 2 0 78), (78, rx_pure (rx_push (.int 6)) 80), (80, rx_nwa 0 334 290532 82), (82, rx_putf 0 12 (.array .int) 85), (85, rx_ld 2 0 86), (86, rx_pure (rx_push (.int (-1))) 87), (87, rx_putf 0 13 .int 90), (90, rx_ld 2 0 91), (91, rx_pure (rx_push (.int 100)) 93), (93, rx_nwa 0 334 290532 95), (95, rx_putf 0 15 (.array .int) 98), (98, rx_ld 2 0 99), (99, rx_pure (rx_push (.int 100)) 101), (101, rx_nwa 1 334 290532 103), (103, rx_putf 0 16 (.array .long) 106), (106, rx_ld 2 0 107), (107, rx_pure (rx_push (.int 1200)) 110), (110, rx_nwa 0 334 290532 112), (112, rx_putf 0 17 (.array .int) 115), (115, rx_pure (rx_push (.int 0)) 116), (116, rx_st 0 1 117 2), (117, rx_ld 0 1 118), (118, rx_pure (rx_push (.int 100)) 120), (120, rx_br (rx_cmp Y 1) 142 123), (123, rx_ld 2 0 124), (124, rx_get 0 0 127), (127, rx_ld 0 1 128), (128, rx_new 8 fs_X8 334 290532 131), (131, rx_pure rx_dup 132), (132, rx_cl 55 1 8 true 2 2600 334 290532 135), (135, rx_asq 5 8 136), (136, rx_inc 1 1 139 2), (139, rx_br rx_goto 117 142), (142, rx_ret0 334 290532)]
noncomputable def m_X0_init (Y : rx_Y) : rx_M := (yX0_init, cX0_init, 2, none, { frames := 3, cells := 334, slots := 290532, locals := 53 }, p_X0_init Y)
theorem hd_X0_init : yX0_init.cls ≠ "java/lang/invoke/MethodHandle" ∧ yX0_init.cls ≠ "java/lang/invoke/VarHandle" ∧ (parseMethodDescriptor yX0_init.desc).map (fun d => d.parameters.length) = some 0 := by decide +kernel
abbrev cX0_load : ByteArray := prog_2_method_4_code
def yX0_load : MethodName := ⟨"SeedBench$Atlas", "load", "(I)V"⟩
theorem dX0_load_0 : decode cX0_load 0 = .ok (.aload_n 0, 1) := by decide +kernel
theorem dX0_load_1 : decode cX0_load 1 = .ok (.getfield 25, 3) := by decide +kernel
theorem dX0_load_4 : decode cX0_load 4 = .ok (.iload_n 1, 1) := by decide +kernel
theorem dX0_load_5 : decode cX0_load 5 = .ok (.bipush 72, 2) := by decide +kernel
theorem dX0_load_7 : decode cX0_load 7 = .ok (.imul, 1) := by decide +kernel
theorem dX0_load_8 : decode cX0_load 8 = .ok (.aload_n 0, 1) := by decide +kernel
theorem dX0_load_9 : decode cX0_load 9 = .ok (.getfield 38, 3) := by decide +kernel
theorem dX0_load_12 : decode cX0_load 12 = .ok (.getfield 82, 3) := by decide +kernel
theorem dX0_load_15 : decode cX0_load 15 = .ok (.iconst 0, 1) := by decide +kernel
theorem dX0_load_16 : decode cX0_load 16 = .ok (.bipush 72, 2) := by decide +kernel
theorem dX0_load_18 : decode cX0_load 18 = .ok (.invokestatic 110, 3) := by decide +kernel
theorem dX0_load_21 : decode cX0_load 21 = .ok (.iconst 0, 1) := by decide +kernel
theorem dX0_load_22 : decode cX0_load 22 = .ok (.istore_n 2, 1) := by decide +kernel
theorem dX0_load_23 : decode cX0_load 23 = .ok (.iload_n 2, 1) := by decide +kernel
theorem dX0_load_24 : decode cX0_load 24 = .ok (.aload_n 0, 1) := by decide +kernel
theorem dX0_load_25 : decode cX0_load 25 = .ok (.getfield 38, 3) := by decide +kernel
theorem dX0_load_28 : decode cX0_load 28 = .ok (.getfield 69, 3) := by decide +kernel
theorem dX0_load_31 : decode cX0_load 31 = .ok (.if_icmp .ge 46, 3) := by decide +kernel
theorem dX0_load_34 : decode cX0_load 34 = .ok (.aload_n 0, 1) := by decide +kernel
theorem dX0_load_35 : decode cX0_load 35 = .ok (.getfield 42, 3) := by decide +kernel
theorem dX0_load_38 : decode cX0_load 38 = .ok (.iload_n 2, 1) := by decide +kernel
theorem dX0_load_39 : decode cX0_load 39 = .ok (.aload_n 0, 1) := by decide +kernel
theorem dX0_load_40 : decode cX0_load 40 = .ok (.getfield 17, 3) := by decide +kernel
theorem dX0_load_43 : decode cX0_load 43 = .ok (.iload_n 1, 1) := by decide +kernel
theorem dX0_load_44 : decode cX0_load 44 = .ok (.bipush 6, 2) := by decide +kernel
theorem dX0_load_46 : decode cX0_load 46 = .ok (.imul, 1) := by decide +kernel
theorem dX0_load_47 : decode cX0_load 47 = .ok (.iload_n 2, 1) := by decide +kernel
theorem dX0_load_48 : decode cX0_load 48 = .ok (.iadd, 1) := by decide +kernel
theorem dX0_load_49 : decode cX0_load 49 = .ok (.iaload, 1) := by decide +kernel
theorem dX0_load_50 : decode cX0_load 50 = .ok (.iastore, 1) := by decide +kernel
theorem dX0_load_51 : decode cX0_load 51 = .ok (.aload_n 0, 1) := by decide +kernel
theorem dX0_load_52 : decode cX0_load 52 = .ok (.getfield 38, 3) := by decide +kernel
theorem dX0_load_55 : decode cX0_load 55 = .ok (.getfield 116, 3) := by decide +kernel
theorem dX0_load_58 : decode cX0_load 58 = .ok (.iload_n 2, 1) := by decide +kernel
theorem dX0_load_59 : decode cX0_load 59 = .ok (.aload_n 0, 1) := by decide +kernel
theorem dX0_load_60 : decode cX0_load 60 = .ok (.getfield 11, 3) := by decide +kernel
theorem dX0_load_63 : decode cX0_load 63 = .ok (.aload_n 0, 1) := by decide +kernel
theorem dX0_load_64 : decode cX0_load 64 = .ok (.getfield 42, 3) := by decide +kernel
theorem dX0_load_67 : decode cX0_load 67 = .ok (.iload_n 2, 1) := by decide +kernel
theorem dX0_load_68 : decode cX0_load 68 = .ok (.iaload, 1) := by decide +kernel
theorem dX0_load_69 : decode cX0_load 69 = .ok (.aaload, 1) := by decide +kernel
theorem dX0_load_70 : decode cX0_load 70 = .ok (.aastore, 1) := by decide +kernel
theorem dX0_load_71 : decode cX0_load 71 = .ok (.iinc 2 1, 3) := by decide +kernel
theorem dX0_load_74 : decode cX0_load 74 = .ok (.goto (-51), 3) := by decide +kernel
theorem dX0_load_77 : decode cX0_load 77 = .ok (.return_, 1) := by decide +kernel
noncomputable def p_X0_load (Y : rx_Y) : rx_P := [(0, rx_ld 2 0 1), (1, rx_get 0 4 4), (4, rx_ld 0 1 5), (5, rx_pure (rx_push (.int 72)) 7), (7, rx_pure (rx_bi (fun x y => x * y)) 8), (8, rx_ld 2 0 9), (9, rx_get 0 8 12), (12, rx_get 7 2 15), (15, rx_pure (rx_push (.int 0)) 16), (16, rx_pure (rx_push (.int 72)) 18), (18, rx_acp 0 18 21), (21, rx_pure (rx_push (.int 0)) 22), (22, rx_st 0 2 23 3), (23, rx_ld 0 2 24), (24, rx_ld 2 0 25), (25, rx_get 0 8 28), (28, rx_get 7 0 31), (31, rx_br (rx_cmp Y 1) 77 34), (34, rx_ld 2 0 35), (35, rx_get 0 9 38), (38, rx_ld 0 2 39), (39, rx_ld 2 0 40), (40, rx_get 0 2 43), (43, rx_ld 0 1 44), (44, rx_pure (rx_push (.int 6)) 46), (46, rx_pure (rx_bi (fun x y => x * y)) 47), (47, rx_ld 0 2 48), (48, rx_pure (rx_bi (fun x y => x + y)) 49), (49, rx_ald 0 0 50), (50, rx_ast Y 0 .int 51), (51, rx_ld 2 0 52), (52, rx_get 0 8 55), (55, rx_get 7 4 58), (58, rx_ld 0 2 59), (59, rx_ld 2 0 60), (60, rx_get 0 0 63), (63, rx_ld 2 0 64), (64, rx_get 0 9 67), (67, rx_ld 0 2 68), (68, rx_ald 0 0 69), (69, rx_ald 5 2 70), (70, rx_asq 5 8 71), (71, rx_inc 2 1 74 3), (74, rx_br rx_goto 23 77), (77, rx_ret0 0 0)]
noncomputable def m_X0_load (Y : rx_Y) : rx_M := (yX0_load, cX0_load, 3, none, { frames := 1, cells := 0, slots := 0, locals := 18 }, p_X0_load Y)
theorem hd_X0_load : yX0_load.cls ≠ "java/lang/invoke/MethodHandle" ∧ yX0_load.cls ≠ "java/lang/invoke/VarHandle" ∧ (parseMethodDescriptor yX0_load.desc).map (fun d => d.parameters.length) = some 1 := by decide +kernel
abbrev cX0_numberOf : ByteArray := prog_2_method_5_code
def yX0_numberOf : MethodName := ⟨"SeedBench$Atlas", "numberOf", "(LSeedBench$Share;)I"⟩
theorem dX0_numberOf_0 : decode cX0_numberOf 0 = .ok (.iconst 0, 1) := by decide +kernel
theorem dX0_numberOf_1 : decode cX0_numberOf 1 = .ok (.istore_n 2, 1) := by decide +kernel
theorem dX0_numberOf_2 : decode cX0_numberOf 2 = .ok (.iload_n 2, 1) := by decide +kernel
theorem dX0_numberOf_3 : decode cX0_numberOf 3 = .ok (.aload_n 0, 1) := by decide +kernel
theorem dX0_numberOf_4 : decode cX0_numberOf 4 = .ok (.getfield 107, 3) := by decide +kernel
theorem dX0_numberOf_7 : decode cX0_numberOf 7 = .ok (.if_icmp .ge 24, 3) := by decide +kernel
theorem dX0_numberOf_10 : decode cX0_numberOf 10 = .ok (.aload_n 0, 1) := by decide +kernel
theorem dX0_numberOf_11 : decode cX0_numberOf 11 = .ok (.getfield 11, 3) := by decide +kernel
theorem dX0_numberOf_14 : decode cX0_numberOf 14 = .ok (.iload_n 2, 1) := by decide +kernel
theorem dX0_numberOf_15 : decode cX0_numberOf 15 = .ok (.aaload, 1) := by decide +kernel
theorem dX0_numberOf_16 : decode cX0_numberOf 16 = .ok (.aload_n 1, 1) := by decide +kernel
theorem dX0_numberOf_17 : decode cX0_numberOf 17 = .ok (.invokevirtual 124, 3) := by decide +kernel
theorem dX0_numberOf_20 : decode cX0_numberOf 20 = .ok (.ifCond .eq 5, 3) := by decide +kernel
theorem dX0_numberOf_25 : decode cX0_numberOf 25 = .ok (.iinc 2 1, 3) := by decide +kernel
theorem dX0_numberOf_28 : decode cX0_numberOf 28 = .ok (.goto (-26), 3) := by decide +kernel
theorem dX0_numberOf_31 : decode cX0_numberOf 31 = .ok (.aload_n 0, 1) := by decide +kernel
theorem dX0_numberOf_32 : decode cX0_numberOf 32 = .ok (.getfield 107, 3) := by decide +kernel
theorem dX0_numberOf_35 : decode cX0_numberOf 35 = .ok (.bipush 100, 2) := by decide +kernel
theorem dX0_numberOf_37 : decode cX0_numberOf 37 = .ok (.if_icmp .lt 5, 3) := by decide +kernel
theorem dX0_numberOf_42 : decode cX0_numberOf 42 = .ok (.aload_n 0, 1) := by decide +kernel
theorem dX0_numberOf_43 : decode cX0_numberOf 43 = .ok (.getfield 11, 3) := by decide +kernel
theorem dX0_numberOf_46 : decode cX0_numberOf 46 = .ok (.aload_n 0, 1) := by decide +kernel
theorem dX0_numberOf_47 : decode cX0_numberOf 47 = .ok (.getfield 107, 3) := by decide +kernel
theorem dX0_numberOf_50 : decode cX0_numberOf 50 = .ok (.aaload, 1) := by decide +kernel
theorem dX0_numberOf_51 : decode cX0_numberOf 51 = .ok (.aload_n 1, 1) := by decide +kernel
theorem dX0_numberOf_52 : decode cX0_numberOf 52 = .ok (.invokevirtual 128, 3) := by decide +kernel
theorem dX0_numberOf_55 : decode cX0_numberOf 55 = .ok (.aload_n 0, 1) := by decide +kernel
theorem dX0_numberOf_56 : decode cX0_numberOf 56 = .ok (.dup, 1) := by decide +kernel
theorem dX0_numberOf_57 : decode cX0_numberOf 57 = .ok (.getfield 107, 3) := by decide +kernel
theorem dX0_numberOf_60 : decode cX0_numberOf 60 = .ok (.iconst 1, 1) := by decide +kernel
theorem dX0_numberOf_61 : decode cX0_numberOf 61 = .ok (.iadd, 1) := by decide +kernel
theorem dX0_numberOf_62 : decode cX0_numberOf 62 = .ok (.putfield 107, 3) := by decide +kernel
theorem dX0_numberOf_65 : decode cX0_numberOf 65 = .ok (.aload_n 0, 1) := by decide +kernel
theorem dX0_numberOf_66 : decode cX0_numberOf 66 = .ok (.getfield 107, 3) := by decide +kernel
theorem dX0_numberOf_69 : decode cX0_numberOf 69 = .ok (.iconst 1, 1) := by decide +kernel
theorem dX0_numberOf_70 : decode cX0_numberOf 70 = .ok (.isub, 1) := by decide +kernel
theorem dX0_numberOf_71 : decode cX0_numberOf 71 = .ok (.ireturn, 1) := by decide +kernel
noncomputable def p_X0_numberOf (Y : rx_Y) : rx_P := [(0, rx_pure (rx_push (.int 0)) 1), (1, rx_st 0 2 2 3), (2, rx_ld 0 2 3), (3, rx_ld 2 0 4), (4, rx_get 0 1 7), (7, rx_br (rx_cmp Y 1) 31 10), (10, rx_ld 2 0 11), (11, rx_get 0 0 14), (14, rx_ld 0 2 15), (15, rx_ald 5 2 16), (16, rx_ld 2 1 17), (17, rx_cl 56 2 8 true 0 0 0 0 20), (20, rx_br (rx_cm0 Y 4) 25 23), (25, rx_inc 2 1 28 3), (28, rx_br rx_goto 2 31), (31, rx_ld 2 0 32), (32, rx_get 0 1 35), (35, rx_pure (rx_push (.int 100)) 37), (37, rx_br (rx_cmp Y 0) 42 40), (42, rx_ld 2 0 43), (43, rx_get 0 0 46), (46, rx_ld 2 0 47), (47, rx_get 0 1 50), (50, rx_ald 5 2 51), (51, rx_ld 2 1 52), (52, rx_cl 52 2 8 true 0 0 0 0 55), (55, rx_ld 2 0 56), (56, rx_pure rx_dup 57), (57, rx_get 0 1 60), (60, rx_pure (rx_push (.int 1)) 61), (61, rx_pure (rx_bi (fun x y => x + y)) 62), (62, rx_putf 0 1 .int 65), (65, rx_ld 2 0 66), (66, rx_get 0 1 69), (69, rx_pure (rx_push (.int 1)) 70), (70, rx_pure (rx_bi (fun x y => x - y)) 71), (71, rx_retv .int 0 0)]
noncomputable def m_X0_numberOf (Y : rx_Y) : rx_M := (yX0_numberOf, cX0_numberOf, 3, (some .int), { frames := 2, cells := 0, slots := 0, locals := 42 }, p_X0_numberOf Y)
theorem hd_X0_numberOf : yX0_numberOf.cls ≠ "java/lang/invoke/MethodHandle" ∧ yX0_numberOf.cls ≠ "java/lang/invoke/VarHandle" ∧ (parseMethodDescriptor yX0_numberOf.desc).map (fun d => d.parameters.length) = some 1 := by decide +kernel
abbrev cX0_remember : ByteArray := prog_2_method_11_code
def yX0_remember : MethodName := ⟨"SeedBench$Atlas", "remember", "()V"⟩
theorem dX0_remember_0 : decode cX0_remember 0 = .ok (.aload_n 0, 1) := by decide +kernel
theorem dX0_remember_1 : decode cX0_remember 1 = .ok (.aload_n 0, 1) := by decide +kernel
theorem dX0_remember_2 : decode cX0_remember 2 = .ok (.getfield 107, 3) := by decide +kernel
theorem dX0_remember_5 : decode cX0_remember 5 = .ok (.putfield 48, 3) := by decide +kernel
theorem dX0_remember_8 : decode cX0_remember 8 = .ok (.aload_n 0, 1) := by decide +kernel
theorem dX0_remember_9 : decode cX0_remember 9 = .ok (.aload_n 0, 1) := by decide +kernel
theorem dX0_remember_10 : decode cX0_remember 10 = .ok (.getfield 38, 3) := by decide +kernel
theorem dX0_remember_13 : decode cX0_remember 13 = .ok (.getfield 69, 3) := by decide +kernel
theorem dX0_remember_16 : decode cX0_remember 16 = .ok (.aload_n 0, 1) := by decide +kernel
theorem dX0_remember_17 : decode cX0_remember 17 = .ok (.getfield 38, 3) := by decide +kernel
theorem dX0_remember_20 : decode cX0_remember 20 = .ok (.getfield 85, 3) := by decide +kernel
theorem dX0_remember_23 : decode cX0_remember 23 = .ok (.iadd, 1) := by decide +kernel
theorem dX0_remember_24 : decode cX0_remember 24 = .ok (.putfield 150, 3) := by decide +kernel
theorem dX0_remember_27 : decode cX0_remember 27 = .ok (.iconst 0, 1) := by decide +kernel
theorem dX0_remember_28 : decode cX0_remember 28 = .ok (.istore_n 1, 1) := by decide +kernel
theorem dX0_remember_29 : decode cX0_remember 29 = .ok (.iload_n 1, 1) := by decide +kernel
theorem dX0_remember_30 : decode cX0_remember 30 = .ok (.aload_n 0, 1) := by decide +kernel
theorem dX0_remember_31 : decode cX0_remember 31 = .ok (.getfield 107, 3) := by decide +kernel
theorem dX0_remember_34 : decode cX0_remember 34 = .ok (.if_icmp .ge 76, 3) := by decide +kernel
theorem dX0_remember_37 : decode cX0_remember 37 = .ok (.aload_n 0, 1) := by decide +kernel
theorem dX0_remember_38 : decode cX0_remember 38 = .ok (.getfield 52, 3) := by decide +kernel
theorem dX0_remember_41 : decode cX0_remember 41 = .ok (.iload_n 1, 1) := by decide +kernel
theorem dX0_remember_42 : decode cX0_remember 42 = .ok (.aload_n 0, 1) := by decide +kernel
theorem dX0_remember_43 : decode cX0_remember 43 = .ok (.getfield 11, 3) := by decide +kernel
theorem dX0_remember_46 : decode cX0_remember 46 = .ok (.iload_n 1, 1) := by decide +kernel
theorem dX0_remember_47 : decode cX0_remember 47 = .ok (.aaload, 1) := by decide +kernel
theorem dX0_remember_48 : decode cX0_remember 48 = .ok (.getfield 153, 3) := by decide +kernel
theorem dX0_remember_51 : decode cX0_remember 51 = .ok (.iastore, 1) := by decide +kernel
theorem dX0_remember_52 : decode cX0_remember 52 = .ok (.aload_n 0, 1) := by decide +kernel
theorem dX0_remember_53 : decode cX0_remember 53 = .ok (.getfield 55, 3) := by decide +kernel
theorem dX0_remember_56 : decode cX0_remember 56 = .ok (.iload_n 1, 1) := by decide +kernel
theorem dX0_remember_57 : decode cX0_remember 57 = .ok (.aload_n 0, 1) := by decide +kernel
theorem dX0_remember_58 : decode cX0_remember 58 = .ok (.getfield 11, 3) := by decide +kernel
theorem dX0_remember_61 : decode cX0_remember 61 = .ok (.iload_n 1, 1) := by decide +kernel
theorem dX0_remember_62 : decode cX0_remember 62 = .ok (.aaload, 1) := by decide +kernel
theorem dX0_remember_63 : decode cX0_remember 63 = .ok (.invokevirtual 156, 3) := by decide +kernel
theorem dX0_remember_66 : decode cX0_remember 66 = .ok (.lastore, 1) := by decide +kernel
theorem dX0_remember_67 : decode cX0_remember 67 = .ok (.iconst 0, 1) := by decide +kernel
theorem dX0_remember_68 : decode cX0_remember 68 = .ok (.istore_n 2, 1) := by decide +kernel
theorem dX0_remember_69 : decode cX0_remember 69 = .ok (.iload_n 2, 1) := by decide +kernel
theorem dX0_remember_70 : decode cX0_remember 70 = .ok (.aload_n 0, 1) := by decide +kernel
theorem dX0_remember_71 : decode cX0_remember 71 = .ok (.getfield 150, 3) := by decide +kernel
theorem dX0_remember_74 : decode cX0_remember 74 = .ok (.if_icmp .ge 30, 3) := by decide +kernel
theorem dX0_remember_77 : decode cX0_remember 77 = .ok (.aload_n 0, 1) := by decide +kernel
theorem dX0_remember_78 : decode cX0_remember 78 = .ok (.getfield 58, 3) := by decide +kernel
theorem dX0_remember_81 : decode cX0_remember 81 = .ok (.iload_n 1, 1) := by decide +kernel
theorem dX0_remember_82 : decode cX0_remember 82 = .ok (.bipush 12, 2) := by decide +kernel
theorem dX0_remember_84 : decode cX0_remember 84 = .ok (.imul, 1) := by decide +kernel
theorem dX0_remember_85 : decode cX0_remember 85 = .ok (.iload_n 2, 1) := by decide +kernel
theorem dX0_remember_86 : decode cX0_remember 86 = .ok (.iadd, 1) := by decide +kernel
theorem dX0_remember_87 : decode cX0_remember 87 = .ok (.aload_n 0, 1) := by decide +kernel
theorem dX0_remember_88 : decode cX0_remember 88 = .ok (.getfield 11, 3) := by decide +kernel
theorem dX0_remember_91 : decode cX0_remember 91 = .ok (.iload_n 1, 1) := by decide +kernel
theorem dX0_remember_92 : decode cX0_remember 92 = .ok (.aaload, 1) := by decide +kernel
theorem dX0_remember_93 : decode cX0_remember 93 = .ok (.iload_n 2, 1) := by decide +kernel
theorem dX0_remember_94 : decode cX0_remember 94 = .ok (.invokevirtual 160, 3) := by decide +kernel
theorem dX0_remember_97 : decode cX0_remember 97 = .ok (.iastore, 1) := by decide +kernel
theorem dX0_remember_98 : decode cX0_remember 98 = .ok (.iinc 2 1, 3) := by decide +kernel
theorem dX0_remember_101 : decode cX0_remember 101 = .ok (.goto (-32), 3) := by decide +kernel
theorem dX0_remember_104 : decode cX0_remember 104 = .ok (.iinc 1 1, 3) := by decide +kernel
theorem dX0_remember_107 : decode cX0_remember 107 = .ok (.goto (-78), 3) := by decide +kernel
theorem dX0_remember_110 : decode cX0_remember 110 = .ok (.return_, 1) := by decide +kernel
noncomputable def p_X0_remember (Y : rx_Y) : rx_P := [(0, rx_ld 2 0 1), (1, rx_ld 2 0 2), (2, rx_get 0 1 5), (5, rx_putf 0 13 .int 8), (8, rx_ld 2 0 9), (9, rx_ld 2 0 10), (10, rx_get 0 8 13), (13, rx_get 7 0 16), (16, rx_ld 2 0 17), (17, rx_get 0 8 20), (20, rx_get 7 1 23), (23, rx_pure (rx_bi (fun x y => x + y)) 24), (24, rx_putf 0 14 .int 27), (27, rx_pure (rx_push (.int 0)) 28), (28, rx_st 0 1 29 3), (29, rx_ld 0 1 30), (30, rx_ld 2 0 31), (31, rx_get 0 1 34), (34, rx_br (rx_cmp Y 1) 110 37), (37, rx_ld 2 0 38), (38, rx_get 0 15 41), (41, rx_ld 0 1 42), (42, rx_ld 2 0 43), (43, rx_get 0 0 46), (46, rx_ld 0 1 47), (47, rx_ald 5 2 48), (48, rx_get 8 1 51), (51, rx_ast Y 0 .int 52), (52, rx_ld 2 0 53), (53, rx_get 0 16 56), (56, rx_ld 0 1 57), (57, rx_ld 2 0 58), (58, rx_get 0 0 61), (61, rx_ld 0 1 62), (62, rx_ald 5 2 63), (63, rx_cl 58 1 8 true 0 0 0 0 66), (66, rx_ast Y 1 .long 67), (67, rx_pure (rx_push (.int 0)) 68), (68, rx_st 0 2 69 3), (69, rx_ld 0 2 70), (70, rx_ld 2 0 71), (71, rx_get 0 14 74), (74, rx_br (rx_cmp Y 1) 104 77), (77, rx_ld 2 0 78), (78, rx_get 0 17 81), (81, rx_ld 0 1 82), (82, rx_pure (rx_push (.int 12)) 84), (84, rx_pure (rx_bi (fun x y => x * y)) 85), (85, rx_ld 0 2 86), (86, rx_pure (rx_bi (fun x y => x + y)) 87), (87, rx_ld 2 0 88), (88, rx_get 0 0 91), (91, rx_ld 0 1 92), (92, rx_ald 5 2 93), (93, rx_ld 0 2 94), (94, rx_cl 57 2 8 true 0 0 0 0 97), (97, rx_ast Y 0 .int 98), (98, rx_inc 2 1 101 3), (101, rx_br rx_goto 69 104), (104, rx_inc 1 1 107 3), (107, rx_br rx_goto 29 110), (110, rx_ret0 0 0)]
noncomputable def m_X0_remember (Y : rx_Y) : rx_M := (yX0_remember, cX0_remember, 3, none, { frames := 1, cells := 0, slots := 0, locals := 23 }, p_X0_remember Y)
theorem hd_X0_remember : yX0_remember.cls ≠ "java/lang/invoke/MethodHandle" ∧ yX0_remember.cls ≠ "java/lang/invoke/VarHandle" ∧ (parseMethodDescriptor yX0_remember.desc).map (fun d => d.parameters.length) = some 0 := by decide +kernel
abbrev cX0_rowOf : ByteArray := prog_2_method_8_code
def yX0_rowOf : MethodName := ⟨"SeedBench$Atlas", "rowOf", "()I"⟩
theorem dX0_rowOf_0 : decode cX0_rowOf 0 = .ok (.iconst 0, 1) := by decide +kernel
theorem dX0_rowOf_1 : decode cX0_rowOf 1 = .ok (.istore_n 1, 1) := by decide +kernel
theorem dX0_rowOf_2 : decode cX0_rowOf 2 = .ok (.iload_n 1, 1) := by decide +kernel
theorem dX0_rowOf_3 : decode cX0_rowOf 3 = .ok (.aload_n 0, 1) := by decide +kernel
theorem dX0_rowOf_4 : decode cX0_rowOf 4 = .ok (.getfield 66, 3) := by decide +kernel
theorem dX0_rowOf_7 : decode cX0_rowOf 7 = .ok (.if_icmp .ge 66, 3) := by decide +kernel
theorem dX0_rowOf_10 : decode cX0_rowOf 10 = .ok (.aload_n 0, 1) := by decide +kernel
theorem dX0_rowOf_11 : decode cX0_rowOf 11 = .ok (.getfield 28, 3) := by decide +kernel
theorem dX0_rowOf_14 : decode cX0_rowOf 14 = .ok (.iload_n 1, 1) := by decide +kernel
theorem dX0_rowOf_15 : decode cX0_rowOf 15 = .ok (.laload, 1) := by decide +kernel
theorem dX0_rowOf_16 : decode cX0_rowOf 16 = .ok (.aload_n 0, 1) := by decide +kernel
theorem dX0_rowOf_17 : decode cX0_rowOf 17 = .ok (.getfield 136, 3) := by decide +kernel
theorem dX0_rowOf_20 : decode cX0_rowOf 20 = .ok (.lcmp, 1) := by decide +kernel
theorem dX0_rowOf_21 : decode cX0_rowOf 21 = .ok (.ifCond .ne 46, 3) := by decide +kernel
theorem dX0_rowOf_67 : decode cX0_rowOf 67 = .ok (.iinc 1 1, 3) := by decide +kernel
theorem dX0_rowOf_70 : decode cX0_rowOf 70 = .ok (.goto (-68), 3) := by decide +kernel
theorem dX0_rowOf_73 : decode cX0_rowOf 73 = .ok (.iconst (-1), 1) := by decide +kernel
theorem dX0_rowOf_74 : decode cX0_rowOf 74 = .ok (.ireturn, 1) := by decide +kernel
noncomputable def p_X0_rowOf (Y : rx_Y) : rx_P := [(0, rx_pure (rx_push (.int 0)) 1), (1, rx_st 0 1 2 2), (2, rx_ld 0 1 3), (3, rx_ld 2 0 4), (4, rx_get 0 7 7), (7, rx_br (rx_cmp Y 1) 73 10), (10, rx_ld 2 0 11), (11, rx_get 0 5 14), (14, rx_ld 0 1 15), (15, rx_ald 1 1 16), (16, rx_ld 2 0 17), (17, rx_get 0 10 20), (20, rx_pure rx_lcmp 21), (21, rx_br (rx_cm0 Y 5) 67 24), (67, rx_inc 1 1 70 2), (70, rx_br rx_goto 2 73), (73, rx_pure (rx_push (.int (-1))) 74), (74, rx_retv .int 0 0)]
noncomputable def m_X0_rowOf (Y : rx_Y) : rx_M := (yX0_rowOf, cX0_rowOf, 2, (some .int), { frames := 0, cells := 0, slots := 0, locals := 0 }, p_X0_rowOf Y)
theorem hd_X0_rowOf : yX0_rowOf.cls ≠ "java/lang/invoke/MethodHandle" ∧ yX0_rowOf.cls ≠ "java/lang/invoke/VarHandle" ∧ (parseMethodDescriptor yX0_rowOf.desc).map (fun d => d.parameters.length) = some 0 := by decide +kernel
abbrev cX0_tell : ByteArray := prog_2_method_12_code
def yX0_tell : MethodName := ⟨"SeedBench$Atlas", "tell", "(II)J"⟩
theorem dX0_tell_0 : decode cX0_tell 0 = .ok (.iload_n 2, 1) := by decide +kernel
theorem dX0_tell_1 : decode cX0_tell 1 = .ok (.ifCond .ne 9, 3) := by decide +kernel
theorem dX0_tell_4 : decode cX0_tell 4 = .ok (.aload_n 0, 1) := by decide +kernel
theorem dX0_tell_5 : decode cX0_tell 5 = .ok (.getfield 48, 3) := by decide +kernel
theorem dX0_tell_8 : decode cX0_tell 8 = .ok (.i2l, 1) := by decide +kernel
theorem dX0_tell_9 : decode cX0_tell 9 = .ok (.lreturn, 1) := by decide +kernel
theorem dX0_tell_10 : decode cX0_tell 10 = .ok (.iload_n 1, 1) := by decide +kernel
theorem dX0_tell_11 : decode cX0_tell 11 = .ok (.ifCond .lt 11, 3) := by decide +kernel
theorem dX0_tell_14 : decode cX0_tell 14 = .ok (.iload_n 1, 1) := by decide +kernel
theorem dX0_tell_15 : decode cX0_tell 15 = .ok (.aload_n 0, 1) := by decide +kernel
theorem dX0_tell_16 : decode cX0_tell 16 = .ok (.getfield 48, 3) := by decide +kernel
theorem dX0_tell_19 : decode cX0_tell 19 = .ok (.if_icmp .lt 7, 3) := by decide +kernel
theorem dX0_tell_22 : decode cX0_tell 22 = .ok (.ldc2_w 164, 3) := by decide +kernel
theorem dX0_tell_25 : decode cX0_tell 25 = .ok (.lreturn, 1) := by decide +kernel
noncomputable def p_X0_tell (Y : rx_Y) : rx_P := [(0, rx_ld 0 2 1), (1, rx_br (rx_cm0 Y 5) 10 4), (4, rx_ld 2 0 5), (5, rx_get 0 13 8), (8, rx_pure rx_i2l 9), (9, rx_retv .long 0 0), (10, rx_ld 0 1 11), (11, rx_br (rx_cm0 Y 0) 22 14), (14, rx_ld 0 1 15), (15, rx_ld 2 0 16), (16, rx_get 0 13 19), (19, rx_br (rx_cmp Y 0) 26 22), (22, rx_con (.long (-1)) 25), (25, rx_retv .long 0 0)]
noncomputable def m_X0_tell (Y : rx_Y) : rx_M := (yX0_tell, cX0_tell, 3, (some .long), { frames := 0, cells := 0, slots := 0, locals := 0 }, p_X0_tell Y)
theorem hd_X0_tell : yX0_tell.cls ≠ "java/lang/invoke/MethodHandle" ∧ yX0_tell.cls ≠ "java/lang/invoke/VarHandle" ∧ (parseMethodDescriptor yX0_tell.desc).map (fun d => d.parameters.length) = some 2 := by decide +kernel
abbrev cX1_clear : ByteArray := prog_3_method_2_code
def yX1_clear : MethodName := ⟨"SeedBench$Book", "clear", "()V"⟩
theorem dX1_clear_0 : decode cX1_clear 0 = .ok (.aload_n 0, 1) := by decide +kernel
theorem dX1_clear_1 : decode cX1_clear 1 = .ok (.iconst 0, 1) := by decide +kernel
theorem dX1_clear_2 : decode cX1_clear 2 = .ok (.putfield 28, 3) := by decide +kernel
theorem dX1_clear_5 : decode cX1_clear 5 = .ok (.aload_n 0, 1) := by decide +kernel
theorem dX1_clear_6 : decode cX1_clear 6 = .ok (.getfield 25, 3) := by decide +kernel
theorem dX1_clear_9 : decode cX1_clear 9 = .ok (.iconst 0, 1) := by decide +kernel
theorem dX1_clear_10 : decode cX1_clear 10 = .ok (.invokestatic 32, 3) := by decide +kernel
theorem dX1_clear_13 : decode cX1_clear 13 = .ok (.return_, 1) := by decide +kernel
noncomputable def p_X1_clear (Y : rx_Y) : rx_P := [(0, rx_ld 2 0 1), (1, rx_pure (rx_push (.int 0)) 2), (2, rx_putf 1 5 .int 5), (5, rx_ld 2 0 6), (6, rx_get 1 4 9), (9, rx_pure (rx_push (.int 0)) 10), (10, rx_cl 0 2 0 false 0 0 0 0 13), (13, rx_ret0 0 0)]
noncomputable def m_X1_clear (Y : rx_Y) : rx_M := (yX1_clear, cX1_clear, 1, none, { frames := 1, cells := 0, slots := 0, locals := 23 }, p_X1_clear Y)
theorem hd_X1_clear : yX1_clear.cls ≠ "java/lang/invoke/MethodHandle" ∧ yX1_clear.cls ≠ "java/lang/invoke/VarHandle" ∧ (parseMethodDescriptor yX1_clear.desc).map (fun d => d.parameters.length) = some 0 := by decide +kernel
abbrev cX1_enter : ByteArray := prog_3_method_4_code
def yX1_enter : MethodName := ⟨"SeedBench$Book", "enter", "(JJII)Z"⟩
theorem dX1_enter_0 : decode cX1_enter 0 = .ok (.aload_n 0, 1) := by decide +kernel
theorem dX1_enter_1 : decode cX1_enter 1 = .ok (.getfield 28, 3) := by decide +kernel
theorem dX1_enter_4 : decode cX1_enter 4 = .ok (.sipush 3000, 3) := by decide +kernel
theorem dX1_enter_7 : decode cX1_enter 7 = .ok (.if_icmp .lt 5, 3) := by decide +kernel
theorem dX1_enter_12 : decode cX1_enter 12 = .ok (.aload_n 0, 1) := by decide +kernel
theorem dX1_enter_13 : decode cX1_enter 13 = .ok (.getfield 9, 3) := by decide +kernel
theorem dX1_enter_16 : decode cX1_enter 16 = .ok (.aload_n 0, 1) := by decide +kernel
theorem dX1_enter_17 : decode cX1_enter 17 = .ok (.getfield 28, 3) := by decide +kernel
theorem dX1_enter_20 : decode cX1_enter 20 = .ok (.lload_n 1, 1) := by decide +kernel
theorem dX1_enter_21 : decode cX1_enter 21 = .ok (.lastore, 1) := by decide +kernel
theorem dX1_enter_22 : decode cX1_enter 22 = .ok (.aload_n 0, 1) := by decide +kernel
theorem dX1_enter_23 : decode cX1_enter 23 = .ok (.getfield 15, 3) := by decide +kernel
theorem dX1_enter_26 : decode cX1_enter 26 = .ok (.aload_n 0, 1) := by decide +kernel
theorem dX1_enter_27 : decode cX1_enter 27 = .ok (.getfield 28, 3) := by decide +kernel
theorem dX1_enter_30 : decode cX1_enter 30 = .ok (.lload_n 3, 1) := by decide +kernel
theorem dX1_enter_31 : decode cX1_enter 31 = .ok (.lastore, 1) := by decide +kernel
theorem dX1_enter_32 : decode cX1_enter 32 = .ok (.aload_n 0, 1) := by decide +kernel
theorem dX1_enter_33 : decode cX1_enter 33 = .ok (.getfield 18, 3) := by decide +kernel
theorem dX1_enter_36 : decode cX1_enter 36 = .ok (.aload_n 0, 1) := by decide +kernel
theorem dX1_enter_37 : decode cX1_enter 37 = .ok (.getfield 28, 3) := by decide +kernel
theorem dX1_enter_40 : decode cX1_enter 40 = .ok (.iload 5, 2) := by decide +kernel
theorem dX1_enter_42 : decode cX1_enter 42 = .ok (.iastore, 1) := by decide +kernel
theorem dX1_enter_43 : decode cX1_enter 43 = .ok (.aload_n 0, 1) := by decide +kernel
theorem dX1_enter_44 : decode cX1_enter 44 = .ok (.getfield 22, 3) := by decide +kernel
theorem dX1_enter_47 : decode cX1_enter 47 = .ok (.aload_n 0, 1) := by decide +kernel
theorem dX1_enter_48 : decode cX1_enter 48 = .ok (.getfield 28, 3) := by decide +kernel
theorem dX1_enter_51 : decode cX1_enter 51 = .ok (.iload 6, 2) := by decide +kernel
theorem dX1_enter_53 : decode cX1_enter 53 = .ok (.iastore, 1) := by decide +kernel
theorem dX1_enter_54 : decode cX1_enter 54 = .ok (.aload_n 0, 1) := by decide +kernel
theorem dX1_enter_55 : decode cX1_enter 55 = .ok (.dup, 1) := by decide +kernel
theorem dX1_enter_56 : decode cX1_enter 56 = .ok (.getfield 28, 3) := by decide +kernel
theorem dX1_enter_59 : decode cX1_enter 59 = .ok (.iconst 1, 1) := by decide +kernel
theorem dX1_enter_60 : decode cX1_enter 60 = .ok (.iadd, 1) := by decide +kernel
theorem dX1_enter_61 : decode cX1_enter 61 = .ok (.putfield 28, 3) := by decide +kernel
theorem dX1_enter_64 : decode cX1_enter 64 = .ok (.aload_n 0, 1) := by decide +kernel
theorem dX1_enter_65 : decode cX1_enter 65 = .ok (.getfield 25, 3) := by decide +kernel
theorem dX1_enter_68 : decode cX1_enter 68 = .ok (.aload_n 0, 1) := by decide +kernel
theorem dX1_enter_69 : decode cX1_enter 69 = .ok (.lload_n 1, 1) := by decide +kernel
theorem dX1_enter_70 : decode cX1_enter 70 = .ok (.lload_n 3, 1) := by decide +kernel
theorem dX1_enter_71 : decode cX1_enter 71 = .ok (.invokevirtual 38, 3) := by decide +kernel
theorem dX1_enter_74 : decode cX1_enter 74 = .ok (.aload_n 0, 1) := by decide +kernel
theorem dX1_enter_75 : decode cX1_enter 75 = .ok (.getfield 28, 3) := by decide +kernel
theorem dX1_enter_78 : decode cX1_enter 78 = .ok (.iastore, 1) := by decide +kernel
theorem dX1_enter_79 : decode cX1_enter 79 = .ok (.iconst 1, 1) := by decide +kernel
theorem dX1_enter_80 : decode cX1_enter 80 = .ok (.ireturn, 1) := by decide +kernel
noncomputable def p_X1_enter (Y : rx_Y) : rx_P := [(0, rx_ld 2 0 1), (1, rx_get 1 5 4), (4, rx_pure (rx_push (.int 3000)) 7), (7, rx_br (rx_cmp Y 0) 12 10), (12, rx_ld 2 0 13), (13, rx_get 1 0 16), (16, rx_ld 2 0 17), (17, rx_get 1 5 20), (20, rx_ld 1 1 21), (21, rx_ast Y 1 .long 22), (22, rx_ld 2 0 23), (23, rx_get 1 1 26), (26, rx_ld 2 0 27), (27, rx_get 1 5 30), (30, rx_ld 1 3 31), (31, rx_ast Y 1 .long 32), (32, rx_ld 2 0 33), (33, rx_get 1 2 36), (36, rx_ld 2 0 37), (37, rx_get 1 5 40), (40, rx_ld 0 5 42), (42, rx_ast Y 0 .int 43), (43, rx_ld 2 0 44), (44, rx_get 1 3 47), (47, rx_ld 2 0 48), (48, rx_get 1 5 51), (51, rx_ld 0 6 53), (53, rx_ast Y 0 .int 54), (54, rx_ld 2 0 55), (55, rx_pure rx_dup 56), (56, rx_get 1 5 59), (59, rx_pure (rx_push (.int 1)) 60), (60, rx_pure (rx_bi (fun x y => x + y)) 61), (61, rx_putf 1 5 .int 64), (64, rx_ld 2 0 65), (65, rx_get 1 4 68), (68, rx_ld 2 0 69), (69, rx_ld 1 1 70), (70, rx_ld 1 3 71), (71, rx_cl 17 3 1 true 0 0 0 0 74), (74, rx_ld 2 0 75), (75, rx_get 1 5 78), (78, rx_ast Y 0 .int 79), (79, rx_pure (rx_push (.int 1)) 80), (80, rx_retv .boolean 0 0)]
noncomputable def m_X1_enter (Y : rx_Y) : rx_M := (yX1_enter, cX1_enter, 7, (some .boolean), { frames := 1, cells := 0, slots := 0, locals := 29 }, p_X1_enter Y)
theorem hd_X1_enter : yX1_enter.cls ≠ "java/lang/invoke/MethodHandle" ∧ yX1_enter.cls ≠ "java/lang/invoke/VarHandle" ∧ (parseMethodDescriptor yX1_enter.desc).map (fun d => d.parameters.length) = some 4 := by decide +kernel
abbrev cX1_find : ByteArray := prog_3_method_3_code
def yX1_find : MethodName := ⟨"SeedBench$Book", "find", "(JJ)I"⟩
theorem dX1_find_0 : decode cX1_find 0 = .ok (.aload_n 0, 1) := by decide +kernel
theorem dX1_find_1 : decode cX1_find 1 = .ok (.getfield 25, 3) := by decide +kernel
theorem dX1_find_4 : decode cX1_find 4 = .ok (.aload_n 0, 1) := by decide +kernel
theorem dX1_find_5 : decode cX1_find 5 = .ok (.lload_n 1, 1) := by decide +kernel
theorem dX1_find_6 : decode cX1_find 6 = .ok (.lload_n 3, 1) := by decide +kernel
theorem dX1_find_7 : decode cX1_find 7 = .ok (.invokevirtual 38, 3) := by decide +kernel
theorem dX1_find_10 : decode cX1_find 10 = .ok (.iaload, 1) := by decide +kernel
theorem dX1_find_11 : decode cX1_find 11 = .ok (.iconst 1, 1) := by decide +kernel
theorem dX1_find_12 : decode cX1_find 12 = .ok (.isub, 1) := by decide +kernel
theorem dX1_find_13 : decode cX1_find 13 = .ok (.ireturn, 1) := by decide +kernel
noncomputable def p_X1_find (Y : rx_Y) : rx_P := [(0, rx_ld 2 0 1), (1, rx_get 1 4 4), (4, rx_ld 2 0 5), (5, rx_ld 1 1 6), (6, rx_ld 1 3 7), (7, rx_cl 17 3 1 true 0 0 0 0 10), (10, rx_ald 0 0 11), (11, rx_pure (rx_push (.int 1)) 12), (12, rx_pure (rx_bi (fun x y => x - y)) 13), (13, rx_retv .int 0 0)]
noncomputable def m_X1_find (Y : rx_Y) : rx_M := (yX1_find, cX1_find, 5, (some .int), { frames := 1, cells := 0, slots := 0, locals := 29 }, p_X1_find Y)
theorem hd_X1_find : yX1_find.cls ≠ "java/lang/invoke/MethodHandle" ∧ yX1_find.cls ≠ "java/lang/invoke/VarHandle" ∧ (parseMethodDescriptor yX1_find.desc).map (fun d => d.parameters.length) = some 2 := by decide +kernel
abbrev cX1_init : ByteArray := prog_3_method_1_code
def yX1_init : MethodName := ⟨"SeedBench$Book", "<init>", "()V"⟩
theorem dX1_init_0 : decode cX1_init 0 = .ok (.aload_n 0, 1) := by decide +kernel
theorem dX1_init_1 : decode cX1_init 1 = .ok (.invokespecial 3, 3) := by decide +kernel
theorem dX1_init_4 : decode cX1_init 4 = .ok (.aload_n 0, 1) := by decide +kernel
theorem dX1_init_5 : decode cX1_init 5 = .ok (.sipush 3000, 3) := by decide +kernel
theorem dX1_init_8 : decode cX1_init 8 = .ok (.newarray .long, 2) := by decide +kernel
theorem dX1_init_10 : decode cX1_init 10 = .ok (.putfield 9, 3) := by decide +kernel
theorem dX1_init_13 : decode cX1_init 13 = .ok (.aload_n 0, 1) := by decide +kernel
theorem dX1_init_14 : decode cX1_init 14 = .ok (.sipush 3000, 3) := by decide +kernel
theorem dX1_init_17 : decode cX1_init 17 = .ok (.newarray .long, 2) := by decide +kernel
theorem dX1_init_19 : decode cX1_init 19 = .ok (.putfield 15, 3) := by decide +kernel
theorem dX1_init_22 : decode cX1_init 22 = .ok (.aload_n 0, 1) := by decide +kernel
theorem dX1_init_23 : decode cX1_init 23 = .ok (.sipush 3000, 3) := by decide +kernel
theorem dX1_init_26 : decode cX1_init 26 = .ok (.newarray .int, 2) := by decide +kernel
theorem dX1_init_28 : decode cX1_init 28 = .ok (.putfield 18, 3) := by decide +kernel
theorem dX1_init_31 : decode cX1_init 31 = .ok (.aload_n 0, 1) := by decide +kernel
theorem dX1_init_32 : decode cX1_init 32 = .ok (.sipush 3000, 3) := by decide +kernel
theorem dX1_init_35 : decode cX1_init 35 = .ok (.newarray .int, 2) := by decide +kernel
theorem dX1_init_37 : decode cX1_init 37 = .ok (.putfield 22, 3) := by decide +kernel
theorem dX1_init_40 : decode cX1_init 40 = .ok (.aload_n 0, 1) := by decide +kernel
theorem dX1_init_41 : decode cX1_init 41 = .ok (.sipush 8192, 3) := by decide +kernel
theorem dX1_init_44 : decode cX1_init 44 = .ok (.newarray .int, 2) := by decide +kernel
theorem dX1_init_46 : decode cX1_init 46 = .ok (.putfield 25, 3) := by decide +kernel
theorem dX1_init_49 : decode cX1_init 49 = .ok (.return_, 1) := by decide +kernel
noncomputable def p_X1_init (Y : rx_Y) : rx_P := [(0, rx_ld 2 0 1), (1, rx_obj 12 4), (4, rx_ld 2 0 5), (5, rx_pure (rx_push (.int 3000)) 8), (8, rx_nwa 1 5 20192 10), (10, rx_putf 1 0 (.array .long) 13), (13, rx_ld 2 0 14), (14, rx_pure (rx_push (.int 3000)) 17), (17, rx_nwa 1 5 20192 19), (19, rx_putf 1 1 (.array .long) 22), (22, rx_ld 2 0 23), (23, rx_pure (rx_push (.int 3000)) 26), (26, rx_nwa 0 5 20192 28), (28, rx_putf 1 2 (.array .int) 31), (31, rx_ld 2 0 32), (32, rx_pure (rx_push (.int 3000)) 35), (35, rx_nwa 0 5 20192 37), (37, rx_putf 1 3 (.array .int) 40), (40, rx_ld 2 0 41), (41, rx_pure (rx_push (.int 8192)) 44), (44, rx_nwa 0 5 20192 46), (46, rx_putf 1 4 (.array .int) 49), (49, rx_ret0 5 20192)]
noncomputable def m_X1_init (Y : rx_Y) : rx_M := (yX1_init, cX1_init, 1, none, { frames := 1, cells := 5, slots := 20192, locals := 12 }, p_X1_init Y)
theorem hd_X1_init : yX1_init.cls ≠ "java/lang/invoke/MethodHandle" ∧ yX1_init.cls ≠ "java/lang/invoke/VarHandle" ∧ (parseMethodDescriptor yX1_init.desc).map (fun d => d.parameters.length) = some 0 := by decide +kernel
abbrev cX1_slotOf : ByteArray := prog_3_method_5_code
def yX1_slotOf : MethodName := ⟨"SeedBench$Book", "slotOf", "(JJ)I"⟩
theorem dX1_slotOf_0 : decode cX1_slotOf 0 = .ok (.lload_n 1, 1) := by decide +kernel
theorem dX1_slotOf_1 : decode cX1_slotOf 1 = .ok (.ldc2_w 42, 3) := by decide +kernel
theorem dX1_slotOf_4 : decode cX1_slotOf 4 = .ok (.lmul, 1) := by decide +kernel
theorem dX1_slotOf_5 : decode cX1_slotOf 5 = .ok (.lload_n 3, 1) := by decide +kernel
theorem dX1_slotOf_6 : decode cX1_slotOf 6 = .ok (.ldc2_w 44, 3) := by decide +kernel
theorem dX1_slotOf_9 : decode cX1_slotOf 9 = .ok (.lmul, 1) := by decide +kernel
theorem dX1_slotOf_10 : decode cX1_slotOf 10 = .ok (.ladd, 1) := by decide +kernel
theorem dX1_slotOf_11 : decode cX1_slotOf 11 = .ok (.lstore 5, 2) := by decide +kernel
theorem dX1_slotOf_13 : decode cX1_slotOf 13 = .ok (.lload 5, 2) := by decide +kernel
theorem dX1_slotOf_15 : decode cX1_slotOf 15 = .ok (.lload 5, 2) := by decide +kernel
theorem dX1_slotOf_17 : decode cX1_slotOf 17 = .ok (.bipush 29, 2) := by decide +kernel
theorem dX1_slotOf_19 : decode cX1_slotOf 19 = .ok (.lushr, 1) := by decide +kernel
theorem dX1_slotOf_20 : decode cX1_slotOf 20 = .ok (.lxor, 1) := by decide +kernel
theorem dX1_slotOf_21 : decode cX1_slotOf 21 = .ok (.bipush 17, 2) := by decide +kernel
theorem dX1_slotOf_23 : decode cX1_slotOf 23 = .ok (.lushr, 1) := by decide +kernel
theorem dX1_slotOf_24 : decode cX1_slotOf 24 = .ok (.l2i, 1) := by decide +kernel
theorem dX1_slotOf_25 : decode cX1_slotOf 25 = .ok (.sipush 8191, 3) := by decide +kernel
theorem dX1_slotOf_28 : decode cX1_slotOf 28 = .ok (.iand, 1) := by decide +kernel
theorem dX1_slotOf_29 : decode cX1_slotOf 29 = .ok (.istore 7, 2) := by decide +kernel
theorem dX1_slotOf_31 : decode cX1_slotOf 31 = .ok (.iconst 0, 1) := by decide +kernel
theorem dX1_slotOf_32 : decode cX1_slotOf 32 = .ok (.istore 8, 2) := by decide +kernel
theorem dX1_slotOf_34 : decode cX1_slotOf 34 = .ok (.iload 8, 2) := by decide +kernel
theorem dX1_slotOf_36 : decode cX1_slotOf 36 = .ok (.sipush 8192, 3) := by decide +kernel
theorem dX1_slotOf_39 : decode cX1_slotOf 39 = .ok (.if_icmp .ge 62, 3) := by decide +kernel
theorem dX1_slotOf_42 : decode cX1_slotOf 42 = .ok (.aload_n 0, 1) := by decide +kernel
theorem dX1_slotOf_43 : decode cX1_slotOf 43 = .ok (.getfield 25, 3) := by decide +kernel
theorem dX1_slotOf_46 : decode cX1_slotOf 46 = .ok (.iload 7, 2) := by decide +kernel
theorem dX1_slotOf_48 : decode cX1_slotOf 48 = .ok (.iaload, 1) := by decide +kernel
theorem dX1_slotOf_49 : decode cX1_slotOf 49 = .ok (.iconst 1, 1) := by decide +kernel
theorem dX1_slotOf_50 : decode cX1_slotOf 50 = .ok (.isub, 1) := by decide +kernel
theorem dX1_slotOf_51 : decode cX1_slotOf 51 = .ok (.istore 9, 2) := by decide +kernel
theorem dX1_slotOf_53 : decode cX1_slotOf 53 = .ok (.iload 9, 2) := by decide +kernel
theorem dX1_slotOf_55 : decode cX1_slotOf 55 = .ok (.ifCond .lt 46, 3) := by decide +kernel
theorem dX1_slotOf_58 : decode cX1_slotOf 58 = .ok (.aload_n 0, 1) := by decide +kernel
theorem dX1_slotOf_59 : decode cX1_slotOf 59 = .ok (.getfield 9, 3) := by decide +kernel
theorem dX1_slotOf_62 : decode cX1_slotOf 62 = .ok (.iload 9, 2) := by decide +kernel
theorem dX1_slotOf_64 : decode cX1_slotOf 64 = .ok (.laload, 1) := by decide +kernel
theorem dX1_slotOf_65 : decode cX1_slotOf 65 = .ok (.lload_n 1, 1) := by decide +kernel
theorem dX1_slotOf_66 : decode cX1_slotOf 66 = .ok (.lcmp, 1) := by decide +kernel
theorem dX1_slotOf_67 : decode cX1_slotOf 67 = .ok (.ifCond .ne 18, 3) := by decide +kernel
theorem dX1_slotOf_70 : decode cX1_slotOf 70 = .ok (.aload_n 0, 1) := by decide +kernel
theorem dX1_slotOf_71 : decode cX1_slotOf 71 = .ok (.getfield 15, 3) := by decide +kernel
theorem dX1_slotOf_74 : decode cX1_slotOf 74 = .ok (.iload 9, 2) := by decide +kernel
theorem dX1_slotOf_76 : decode cX1_slotOf 76 = .ok (.laload, 1) := by decide +kernel
theorem dX1_slotOf_77 : decode cX1_slotOf 77 = .ok (.lload_n 3, 1) := by decide +kernel
theorem dX1_slotOf_78 : decode cX1_slotOf 78 = .ok (.lcmp, 1) := by decide +kernel
theorem dX1_slotOf_79 : decode cX1_slotOf 79 = .ok (.ifCond .ne 6, 3) := by decide +kernel
theorem dX1_slotOf_82 : decode cX1_slotOf 82 = .ok (.goto 19, 3) := by decide +kernel
theorem dX1_slotOf_101 : decode cX1_slotOf 101 = .ok (.iload 7, 2) := by decide +kernel
theorem dX1_slotOf_103 : decode cX1_slotOf 103 = .ok (.ireturn, 1) := by decide +kernel
noncomputable def p_X1_slotOf (Y : rx_Y) : rx_P := [(0, rx_ld 1 1 1), (1, rx_con (.long (-7046029254386353131)) 4), (4, rx_pure (rx_lb (fun x y => x * y)) 5), (5, rx_ld 1 3 6), (6, rx_con (.long (-4417276706812531889)) 9), (9, rx_pure (rx_lb (fun x y => x * y)) 10), (10, rx_pure (rx_lb (fun x y => x + y)) 11), (11, rx_st 1 5 13 10), (13, rx_ld 1 5 15), (15, rx_ld 1 5 17), (17, rx_pure (rx_push (.int 29)) 19), (19, rx_pure (rx_ls (fun x y => (x.toUInt64 >>> (y.toInt64.toUInt64 &&& Int64.toUInt64 63)).toInt64)) 20), (20, rx_pure (rx_lb (fun x y => x ^^^ y)) 21), (21, rx_pure (rx_push (.int 17)) 23), (23, rx_pure (rx_ls (fun x y => (x.toUInt64 >>> (y.toInt64.toUInt64 &&& Int64.toUInt64 63)).toInt64)) 24), (24, rx_pure rx_l2i 25), (25, rx_pure (rx_push (.int 8191)) 28), (28, rx_pure (rx_bi (fun x y => x &&& y)) 29), (29, rx_st 0 7 31 10), (31, rx_pure (rx_push (.int 0)) 32), (32, rx_st 0 8 34 10), (34, rx_ld 0 8 36), (36, rx_pure (rx_push (.int 8192)) 39), (39, rx_br (rx_cmp Y 1) 101 42), (42, rx_ld 2 0 43), (43, rx_get 1 4 46), (46, rx_ld 0 7 48), (48, rx_ald 0 0 49), (49, rx_pure (rx_push (.int 1)) 50), (50, rx_pure (rx_bi (fun x y => x - y)) 51), (51, rx_st 0 9 53 10), (53, rx_ld 0 9 55), (55, rx_br (rx_cm0 Y 0) 101 58), (58, rx_ld 2 0 59), (59, rx_get 1 0 62), (62, rx_ld 0 9 64), (64, rx_ald 1 1 65), (65, rx_ld 1 1 66), (66, rx_pure rx_lcmp 67), (67, rx_br (rx_cm0 Y 5) 85 70), (70, rx_ld 2 0 71), (71, rx_get 1 1 74), (74, rx_ld 0 9 76), (76, rx_ald 1 1 77), (77, rx_ld 1 3 78), (78, rx_pure rx_lcmp 79), (79, rx_br (rx_cm0 Y 5) 85 82), (82, rx_br rx_goto 101 85), (101, rx_ld 0 7 103), (103, rx_retv .int 0 0)]
noncomputable def m_X1_slotOf (Y : rx_Y) : rx_M := (yX1_slotOf, cX1_slotOf, 10, (some .int), { frames := 0, cells := 0, slots := 0, locals := 0 }, p_X1_slotOf Y)
theorem hd_X1_slotOf : yX1_slotOf.cls ≠ "java/lang/invoke/MethodHandle" ∧ yX1_slotOf.cls ≠ "java/lang/invoke/VarHandle" ∧ (parseMethodDescriptor yX1_slotOf.desc).map (fun d => d.parameters.length) = some 2 := by decide +kernel
abbrev cX2_init : ByteArray := prog_4_method_1_code
def yX2_init : MethodName := ⟨"SeedBench$Draft", "<init>", "()V"⟩
theorem dX2_init_0 : decode cX2_init 0 = .ok (.aload_n 0, 1) := by decide +kernel
theorem dX2_init_1 : decode cX2_init 1 = .ok (.invokespecial 3, 3) := by decide +kernel
theorem dX2_init_4 : decode cX2_init 4 = .ok (.aload_n 0, 1) := by decide +kernel
theorem dX2_init_5 : decode cX2_init 5 = .ok (.bipush 72, 2) := by decide +kernel
theorem dX2_init_7 : decode cX2_init 7 = .ok (.newarray .int, 2) := by decide +kernel
theorem dX2_init_9 : decode cX2_init 9 = .ok (.putfield 9, 3) := by decide +kernel
theorem dX2_init_12 : decode cX2_init 12 = .ok (.aload_n 0, 1) := by decide +kernel
theorem dX2_init_13 : decode cX2_init 13 = .ok (.bipush 6, 2) := by decide +kernel
theorem dX2_init_15 : decode cX2_init 15 = .ok (.newarray .long, 2) := by decide +kernel
theorem dX2_init_17 : decode cX2_init 17 = .ok (.putfield 15, 3) := by decide +kernel
theorem dX2_init_20 : decode cX2_init 20 = .ok (.aload_n 0, 1) := by decide +kernel
theorem dX2_init_21 : decode cX2_init 21 = .ok (.bipush 6, 2) := by decide +kernel
theorem dX2_init_23 : decode cX2_init 23 = .ok (.newarray .int, 2) := by decide +kernel
theorem dX2_init_25 : decode cX2_init 25 = .ok (.putfield 19, 3) := by decide +kernel
theorem dX2_init_28 : decode cX2_init 28 = .ok (.return_, 1) := by decide +kernel
noncomputable def p_X2_init (Y : rx_Y) : rx_P := [(0, rx_ld 2 0 1), (1, rx_obj 12 4), (4, rx_ld 2 0 5), (5, rx_pure (rx_push (.int 72)) 7), (7, rx_nwa 0 3 84 9), (9, rx_putf 2 2 (.array .int) 12), (12, rx_ld 2 0 13), (13, rx_pure (rx_push (.int 6)) 15), (15, rx_nwa 1 3 84 17), (17, rx_putf 2 3 (.array .long) 20), (20, rx_ld 2 0 21), (21, rx_pure (rx_push (.int 6)) 23), (23, rx_nwa 0 3 84 25), (25, rx_putf 2 4 (.array .int) 28), (28, rx_ret0 3 84)]
noncomputable def m_X2_init (Y : rx_Y) : rx_M := (yX2_init, cX2_init, 1, none, { frames := 1, cells := 3, slots := 84, locals := 12 }, p_X2_init Y)
theorem hd_X2_init : yX2_init.cls ≠ "java/lang/invoke/MethodHandle" ∧ yX2_init.cls ≠ "java/lang/invoke/VarHandle" ∧ (parseMethodDescriptor yX2_init.desc).map (fun d => d.parameters.length) = some 0 := by decide +kernel
abbrev cX2_restart : ByteArray := prog_4_method_2_code
def yX2_restart : MethodName := ⟨"SeedBench$Draft", "restart", "(II)V"⟩
theorem dX2_restart_0 : decode cX2_restart 0 = .ok (.aload_n 0, 1) := by decide +kernel
theorem dX2_restart_1 : decode cX2_restart 1 = .ok (.iload_n 1, 1) := by decide +kernel
theorem dX2_restart_2 : decode cX2_restart 2 = .ok (.putfield 22, 3) := by decide +kernel
theorem dX2_restart_5 : decode cX2_restart 5 = .ok (.aload_n 0, 1) := by decide +kernel
theorem dX2_restart_6 : decode cX2_restart 6 = .ok (.iload_n 2, 1) := by decide +kernel
theorem dX2_restart_7 : decode cX2_restart 7 = .ok (.putfield 26, 3) := by decide +kernel
theorem dX2_restart_10 : decode cX2_restart 10 = .ok (.aload_n 0, 1) := by decide +kernel
theorem dX2_restart_11 : decode cX2_restart 11 = .ok (.getfield 9, 3) := by decide +kernel
theorem dX2_restart_14 : decode cX2_restart 14 = .ok (.iconst 0, 1) := by decide +kernel
theorem dX2_restart_15 : decode cX2_restart 15 = .ok (.invokestatic 29, 3) := by decide +kernel
theorem dX2_restart_18 : decode cX2_restart 18 = .ok (.return_, 1) := by decide +kernel
noncomputable def p_X2_restart (Y : rx_Y) : rx_P := [(0, rx_ld 2 0 1), (1, rx_ld 0 1 2), (2, rx_putf 2 0 .int 5), (5, rx_ld 2 0 6), (6, rx_ld 0 2 7), (7, rx_putf 2 1 .int 10), (10, rx_ld 2 0 11), (11, rx_get 2 2 14), (14, rx_pure (rx_push (.int 0)) 15), (15, rx_cl 0 2 0 false 0 0 0 0 18), (18, rx_ret0 0 0)]
noncomputable def m_X2_restart (Y : rx_Y) : rx_M := (yX2_restart, cX2_restart, 3, none, { frames := 1, cells := 0, slots := 0, locals := 23 }, p_X2_restart Y)
theorem hd_X2_restart : yX2_restart.cls ≠ "java/lang/invoke/MethodHandle" ∧ yX2_restart.cls ≠ "java/lang/invoke/VarHandle" ∧ (parseMethodDescriptor yX2_restart.desc).map (fun d => d.parameters.length) = some 2 := by decide +kernel
abbrev cX3_init : ByteArray := prog_5_method_1_code
def yX3_init : MethodName := ⟨"SeedBench$Guide", "<init>", "()V"⟩
theorem dX3_init_0 : decode cX3_init 0 = .ok (.aload_n 0, 1) := by decide +kernel
theorem dX3_init_1 : decode cX3_init 1 = .ok (.invokespecial 3, 3) := by decide +kernel
theorem dX3_init_4 : decode cX3_init 4 = .ok (.aload_n 0, 1) := by decide +kernel
theorem dX3_init_5 : decode cX3_init 5 = .ok (.bipush 64, 2) := by decide +kernel
theorem dX3_init_7 : decode cX3_init 7 = .ok (.newarray .int, 2) := by decide +kernel
theorem dX3_init_9 : decode cX3_init 9 = .ok (.putfield 9, 3) := by decide +kernel
theorem dX3_init_12 : decode cX3_init 12 = .ok (.aload_n 0, 1) := by decide +kernel
theorem dX3_init_13 : decode cX3_init 13 = .ok (.new 15, 3) := by decide +kernel
theorem dX3_init_16 : decode cX3_init 16 = .ok (.dup, 1) := by decide +kernel
theorem dX3_init_17 : decode cX3_init 17 = .ok (.invokespecial 17, 3) := by decide +kernel
theorem dX3_init_20 : decode cX3_init 20 = .ok (.putfield 18, 3) := by decide +kernel
theorem dX3_init_23 : decode cX3_init 23 = .ok (.return_, 1) := by decide +kernel
noncomputable def p_X3_init (Y : rx_Y) : rx_P := [(0, rx_ld 2 0 1), (1, rx_obj 32 4), (4, rx_ld 2 0 5), (5, rx_pure (rx_push (.int 64)) 7), (7, rx_nwa 0 2 66 9), (9, rx_putf 3 1 (.array .int) 12), (12, rx_ld 2 0 13), (13, rx_new 6 fs_X6 2 66 16), (16, rx_pure rx_dup 17), (17, rx_cl 39 1 6 true 0 0 2 66 20), (20, rx_putf 3 2 (.object "SeedBench$Ring") 23), (23, rx_ret0 2 66)]
noncomputable def m_X3_init (Y : rx_Y) : rx_M := (yX3_init, cX3_init, 1, none, { frames := 2, cells := 2, slots := 66, locals := 32 }, p_X3_init Y)
theorem hd_X3_init : yX3_init.cls ≠ "java/lang/invoke/MethodHandle" ∧ yX3_init.cls ≠ "java/lang/invoke/VarHandle" ∧ (parseMethodDescriptor yX3_init.desc).map (fun d => d.parameters.length) = some 0 := by decide +kernel
abbrev cX4_init : ByteArray := prog_6_method_1_code
def yX4_init : MethodName := ⟨"SeedBench$Kinds", "<init>", "()V"⟩
theorem dX4_init_0 : decode cX4_init 0 = .ok (.aload_n 0, 1) := by decide +kernel
theorem dX4_init_1 : decode cX4_init 1 = .ok (.invokespecial 3, 3) := by decide +kernel
theorem dX4_init_4 : decode cX4_init 4 = .ok (.aload_n 0, 1) := by decide +kernel
theorem dX4_init_5 : decode cX4_init 5 = .ok (.sipush 3000, 3) := by decide +kernel
theorem dX4_init_8 : decode cX4_init 8 = .ok (.newarray .int, 2) := by decide +kernel
theorem dX4_init_10 : decode cX4_init 10 = .ok (.putfield 9, 3) := by decide +kernel
theorem dX4_init_13 : decode cX4_init 13 = .ok (.aload_n 0, 1) := by decide +kernel
theorem dX4_init_14 : decode cX4_init 14 = .ok (.bipush 72, 2) := by decide +kernel
theorem dX4_init_16 : decode cX4_init 16 = .ok (.newarray .int, 2) := by decide +kernel
theorem dX4_init_18 : decode cX4_init 18 = .ok (.putfield 15, 3) := by decide +kernel
theorem dX4_init_21 : decode cX4_init 21 = .ok (.return_, 1) := by decide +kernel
noncomputable def p_X4_init (Y : rx_Y) : rx_P := [(0, rx_ld 2 0 1), (1, rx_obj 12 4), (4, rx_ld 2 0 5), (5, rx_pure (rx_push (.int 3000)) 8), (8, rx_nwa 0 2 3072 10), (10, rx_putf 4 2 (.array .int) 13), (13, rx_ld 2 0 14), (14, rx_pure (rx_push (.int 72)) 16), (16, rx_nwa 0 2 3072 18), (18, rx_putf 4 3 (.array .int) 21), (21, rx_ret0 2 3072)]
noncomputable def m_X4_init (Y : rx_Y) : rx_M := (yX4_init, cX4_init, 1, none, { frames := 1, cells := 2, slots := 3072, locals := 12 }, p_X4_init Y)
theorem hd_X4_init : yX4_init.cls ≠ "java/lang/invoke/MethodHandle" ∧ yX4_init.cls ≠ "java/lang/invoke/VarHandle" ∧ (parseMethodDescriptor yX4_init.desc).map (fun d => d.parameters.length) = some 0 := by decide +kernel
abbrev cX4_isWild : ByteArray := prog_6_method_3_code
def yX4_isWild : MethodName := ⟨"SeedBench$Kinds", "isWild", "(I)Z"⟩
theorem dX4_isWild_0 : decode cX4_isWild 0 = .ok (.iconst 0, 1) := by decide +kernel
theorem dX4_isWild_1 : decode cX4_isWild 1 = .ok (.istore_n 2, 1) := by decide +kernel
theorem dX4_isWild_2 : decode cX4_isWild 2 = .ok (.iload_n 2, 1) := by decide +kernel
theorem dX4_isWild_3 : decode cX4_isWild 3 = .ok (.iload_n 1, 1) := by decide +kernel
theorem dX4_isWild_4 : decode cX4_isWild 4 = .ok (.if_icmp .ge 52, 3) := by decide +kernel
theorem dX4_isWild_7 : decode cX4_isWild 7 = .ok (.iconst 0, 1) := by decide +kernel
theorem dX4_isWild_8 : decode cX4_isWild 8 = .ok (.istore_n 3, 1) := by decide +kernel
theorem dX4_isWild_9 : decode cX4_isWild 9 = .ok (.iload_n 3, 1) := by decide +kernel
theorem dX4_isWild_10 : decode cX4_isWild 10 = .ok (.iload_n 2, 1) := by decide +kernel
theorem dX4_isWild_11 : decode cX4_isWild 11 = .ok (.if_icmp .ge 39, 3) := by decide +kernel
theorem dX4_isWild_50 : decode cX4_isWild 50 = .ok (.iinc 2 1, 3) := by decide +kernel
theorem dX4_isWild_53 : decode cX4_isWild 53 = .ok (.goto (-51), 3) := by decide +kernel
theorem dX4_isWild_56 : decode cX4_isWild 56 = .ok (.iconst 0, 1) := by decide +kernel
theorem dX4_isWild_57 : decode cX4_isWild 57 = .ok (.ireturn, 1) := by decide +kernel
noncomputable def p_X4_isWild (Y : rx_Y) : rx_P := [(0, rx_pure (rx_push (.int 0)) 1), (1, rx_st 0 2 2 4), (2, rx_ld 0 2 3), (3, rx_ld 0 1 4), (4, rx_br (rx_cmp Y 1) 56 7), (7, rx_pure (rx_push (.int 0)) 8), (8, rx_st 0 3 9 4), (9, rx_ld 0 3 10), (10, rx_ld 0 2 11), (11, rx_br (rx_cmp Y 1) 50 14), (50, rx_inc 2 1 53 4), (53, rx_br rx_goto 2 56), (56, rx_pure (rx_push (.int 0)) 57), (57, rx_retv .boolean 0 0)]
noncomputable def m_X4_isWild (Y : rx_Y) : rx_M := (yX4_isWild, cX4_isWild, 4, (some .boolean), { frames := 0, cells := 0, slots := 0, locals := 0 }, p_X4_isWild Y)
theorem hd_X4_isWild : yX4_isWild.cls ≠ "java/lang/invoke/MethodHandle" ∧ yX4_isWild.cls ≠ "java/lang/invoke/VarHandle" ∧ (parseMethodDescriptor yX4_isWild.desc).map (fun d => d.parameters.length) = some 1 := by decide +kernel
abbrev cX4_judge : ByteArray := prog_6_method_2_code
def yX4_judge : MethodName := ⟨"SeedBench$Kinds", "judge", "([IILSeedBench$Book;)I"⟩
theorem dX4_judge_0 : decode cX4_judge 0 = .ok (.aload_n 1, 1) := by decide +kernel
theorem dX4_judge_1 : decode cX4_judge 1 = .ok (.iconst 0, 1) := by decide +kernel
theorem dX4_judge_2 : decode cX4_judge 2 = .ok (.aload_n 0, 1) := by decide +kernel
theorem dX4_judge_3 : decode cX4_judge 3 = .ok (.getfield 15, 3) := by decide +kernel
theorem dX4_judge_6 : decode cX4_judge 6 = .ok (.iconst 0, 1) := by decide +kernel
theorem dX4_judge_7 : decode cX4_judge 7 = .ok (.bipush 72, 2) := by decide +kernel
theorem dX4_judge_9 : decode cX4_judge 9 = .ok (.invokestatic 18, 3) := by decide +kernel
theorem dX4_judge_12 : decode cX4_judge 12 = .ok (.aload_n 0, 1) := by decide +kernel
theorem dX4_judge_13 : decode cX4_judge 13 = .ok (.iconst 0, 1) := by decide +kernel
theorem dX4_judge_14 : decode cX4_judge 14 = .ok (.putfield 24, 3) := by decide +kernel
theorem dX4_judge_17 : decode cX4_judge 17 = .ok (.aload_n 0, 1) := by decide +kernel
theorem dX4_judge_18 : decode cX4_judge 18 = .ok (.iconst 1, 1) := by decide +kernel
theorem dX4_judge_19 : decode cX4_judge 19 = .ok (.putfield 28, 3) := by decide +kernel
theorem dX4_judge_22 : decode cX4_judge 22 = .ok (.aload_n 0, 1) := by decide +kernel
theorem dX4_judge_23 : decode cX4_judge 23 = .ok (.iload_n 2, 1) := by decide +kernel
theorem dX4_judge_24 : decode cX4_judge 24 = .ok (.invokevirtual 31, 3) := by decide +kernel
theorem dX4_judge_27 : decode cX4_judge 27 = .ok (.ifCond .eq 5, 3) := by decide +kernel
theorem dX4_judge_32 : decode cX4_judge 32 = .ok (.aload_n 3, 1) := by decide +kernel
theorem dX4_judge_33 : decode cX4_judge 33 = .ok (.invokevirtual 35, 3) := by decide +kernel
theorem dX4_judge_36 : decode cX4_judge 36 = .ok (.aload_n 0, 1) := by decide +kernel
theorem dX4_judge_37 : decode cX4_judge 37 = .ok (.iload_n 2, 1) := by decide +kernel
theorem dX4_judge_38 : decode cX4_judge 38 = .ok (.invokevirtual 40, 3) := by decide +kernel
theorem dX4_judge_41 : decode cX4_judge 41 = .ok (.aload_n 3, 1) := by decide +kernel
theorem dX4_judge_42 : decode cX4_judge 42 = .ok (.aload_n 0, 1) := by decide +kernel
theorem dX4_judge_43 : decode cX4_judge 43 = .ok (.getfield 44, 3) := by decide +kernel
theorem dX4_judge_46 : decode cX4_judge 46 = .ok (.aload_n 0, 1) := by decide +kernel
theorem dX4_judge_47 : decode cX4_judge 47 = .ok (.getfield 48, 3) := by decide +kernel
theorem dX4_judge_50 : decode cX4_judge 50 = .ok (.iconst (-1), 1) := by decide +kernel
theorem dX4_judge_51 : decode cX4_judge 51 = .ok (.iconst (-1), 1) := by decide +kernel
theorem dX4_judge_52 : decode cX4_judge 52 = .ok (.invokevirtual 51, 3) := by decide +kernel
theorem dX4_judge_55 : decode cX4_judge 55 = .ok (.pop, 1) := by decide +kernel
theorem dX4_judge_56 : decode cX4_judge 56 = .ok (.iconst 0, 1) := by decide +kernel
theorem dX4_judge_57 : decode cX4_judge 57 = .ok (.istore 4, 2) := by decide +kernel
theorem dX4_judge_59 : decode cX4_judge 59 = .ok (.iload 4, 2) := by decide +kernel
theorem dX4_judge_61 : decode cX4_judge 61 = .ok (.aload_n 3, 1) := by decide +kernel
theorem dX4_judge_62 : decode cX4_judge 62 = .ok (.getfield 55, 3) := by decide +kernel
theorem dX4_judge_65 : decode cX4_judge 65 = .ok (.if_icmp .ge 131, 3) := by decide +kernel
theorem dX4_judge_68 : decode cX4_judge 68 = .ok (.iload 4, 2) := by decide +kernel
theorem dX4_judge_70 : decode cX4_judge 70 = .ok (.sipush 3000, 3) := by decide +kernel
theorem dX4_judge_73 : decode cX4_judge 73 = .ok (.if_icmp .ge 123, 3) := by decide +kernel
theorem dX4_judge_76 : decode cX4_judge 76 = .ok (.iconst 0, 1) := by decide +kernel
theorem dX4_judge_77 : decode cX4_judge 77 = .ok (.istore 5, 2) := by decide +kernel
theorem dX4_judge_79 : decode cX4_judge 79 = .ok (.iload 5, 2) := by decide +kernel
theorem dX4_judge_81 : decode cX4_judge 81 = .ok (.iload_n 2, 1) := by decide +kernel
theorem dX4_judge_82 : decode cX4_judge 82 = .ok (.if_icmp .ge 108, 3) := by decide +kernel
theorem dX4_judge_85 : decode cX4_judge 85 = .ok (.aload_n 0, 1) := by decide +kernel
theorem dX4_judge_86 : decode cX4_judge 86 = .ok (.aload_n 3, 1) := by decide +kernel
theorem dX4_judge_87 : decode cX4_judge 87 = .ok (.iload 4, 2) := by decide +kernel
theorem dX4_judge_89 : decode cX4_judge 89 = .ok (.iload_n 2, 1) := by decide +kernel
theorem dX4_judge_90 : decode cX4_judge 90 = .ok (.invokevirtual 58, 3) := by decide +kernel
theorem dX4_judge_93 : decode cX4_judge 93 = .ok (.aload_n 0, 1) := by decide +kernel
theorem dX4_judge_94 : decode cX4_judge 94 = .ok (.getfield 15, 3) := by decide +kernel
theorem dX4_judge_97 : decode cX4_judge 97 = .ok (.iload_n 2, 1) := by decide +kernel
theorem dX4_judge_98 : decode cX4_judge 98 = .ok (.iload_n 2, 1) := by decide +kernel
theorem dX4_judge_99 : decode cX4_judge 99 = .ok (.iload 5, 2) := by decide +kernel
theorem dX4_judge_101 : decode cX4_judge 101 = .ok (.invokestatic 62, 3) := by decide +kernel
theorem dX4_judge_104 : decode cX4_judge 104 = .ok (.aload_n 0, 1) := by decide +kernel
theorem dX4_judge_105 : decode cX4_judge 105 = .ok (.iload_n 2, 1) := by decide +kernel
theorem dX4_judge_106 : decode cX4_judge 106 = .ok (.invokevirtual 31, 3) := by decide +kernel
theorem dX4_judge_109 : decode cX4_judge 109 = .ok (.ifCond .eq 24, 3) := by decide +kernel
theorem dX4_judge_133 : decode cX4_judge 133 = .ok (.aload_n 0, 1) := by decide +kernel
theorem dX4_judge_134 : decode cX4_judge 134 = .ok (.iload_n 2, 1) := by decide +kernel
theorem dX4_judge_135 : decode cX4_judge 135 = .ok (.invokevirtual 40, 3) := by decide +kernel
theorem dX4_judge_138 : decode cX4_judge 138 = .ok (.aload_n 3, 1) := by decide +kernel
theorem dX4_judge_139 : decode cX4_judge 139 = .ok (.aload_n 0, 1) := by decide +kernel
theorem dX4_judge_140 : decode cX4_judge 140 = .ok (.getfield 44, 3) := by decide +kernel
theorem dX4_judge_143 : decode cX4_judge 143 = .ok (.aload_n 0, 1) := by decide +kernel
theorem dX4_judge_144 : decode cX4_judge 144 = .ok (.getfield 48, 3) := by decide +kernel
theorem dX4_judge_147 : decode cX4_judge 147 = .ok (.invokevirtual 69, 3) := by decide +kernel
theorem dX4_judge_150 : decode cX4_judge 150 = .ok (.iconst (-1), 1) := by decide +kernel
theorem dX4_judge_151 : decode cX4_judge 151 = .ok (.if_icmp .ne 33, 3) := by decide +kernel
theorem dX4_judge_184 : decode cX4_judge 184 = .ok (.iinc 5 1, 3) := by decide +kernel
theorem dX4_judge_187 : decode cX4_judge 187 = .ok (.goto (-108), 3) := by decide +kernel
theorem dX4_judge_190 : decode cX4_judge 190 = .ok (.iinc 4 1, 3) := by decide +kernel
theorem dX4_judge_193 : decode cX4_judge 193 = .ok (.goto (-134), 3) := by decide +kernel
theorem dX4_judge_196 : decode cX4_judge 196 = .ok (.aload_n 0, 1) := by decide +kernel
theorem dX4_judge_197 : decode cX4_judge 197 = .ok (.aload_n 3, 1) := by decide +kernel
theorem dX4_judge_198 : decode cX4_judge 198 = .ok (.getfield 55, 3) := by decide +kernel
theorem dX4_judge_201 : decode cX4_judge 201 = .ok (.putfield 28, 3) := by decide +kernel
theorem dX4_judge_204 : decode cX4_judge 204 = .ok (.iconst 1, 1) := by decide +kernel
theorem dX4_judge_205 : decode cX4_judge 205 = .ok (.ireturn, 1) := by decide +kernel
noncomputable def p_X4_judge (Y : rx_Y) : rx_P := [(0, rx_ld 2 1 1), (1, rx_pure (rx_push (.int 0)) 2), (2, rx_ld 2 0 3), (3, rx_get 4 3 6), (6, rx_pure (rx_push (.int 0)) 7), (7, rx_pure (rx_push (.int 72)) 9), (9, rx_acp 0 55 12), (12, rx_ld 2 0 13), (13, rx_pure (rx_push (.int 0)) 14), (14, rx_putf 4 0 .int 17), (17, rx_ld 2 0 18), (18, rx_pure (rx_push (.int 1)) 19), (19, rx_putf 4 1 .int 22), (22, rx_ld 2 0 23), (23, rx_ld 0 2 24), (24, rx_cl 22 2 4 true 0 0 0 0 27), (27, rx_br (rx_cm0 Y 4) 32 30), (32, rx_ld 2 3 33), (33, rx_cl 13 1 1 true 0 0 0 0 36), (36, rx_ld 2 0 37), (37, rx_ld 0 2 38), (38, rx_cl 24 2 4 true 0 0 0 0 41), (41, rx_ld 2 3 42), (42, rx_ld 2 0 43), (43, rx_get 4 4 46), (46, rx_ld 2 0 47), (47, rx_get 4 5 50), (50, rx_pure (rx_push (.int (-1))) 51), (51, rx_pure (rx_push (.int (-1))) 52), (52, rx_cl 14 5 1 true 0 0 0 0 55), (55, rx_pure rx_pop 56), (56, rx_pure (rx_push (.int 0)) 57), (57, rx_st 0 4 59 6), (59, rx_ld 0 4 61), (61, rx_ld 2 3 62), (62, rx_get 1 5 65), (65, rx_br (rx_cmp Y 1) 196 68), (68, rx_ld 0 4 70), (70, rx_pure (rx_push (.int 3000)) 73), (73, rx_br (rx_cmp Y 1) 196 76), (76, rx_pure (rx_push (.int 0)) 77), (77, rx_st 0 5 79 6), (79, rx_ld 0 5 81), (81, rx_ld 0 2 82), (82, rx_br (rx_cmp Y 1) 190 85), (85, rx_ld 2 0 86), (86, rx_ld 2 3 87), (87, rx_ld 0 4 89), (89, rx_ld 0 2 90), (90, rx_cl 25 4 4 true 0 0 0 0 93), (93, rx_ld 2 0 94), (94, rx_get 4 3 97), (97, rx_ld 0 2 98), (98, rx_ld 0 2 99), (99, rx_ld 0 5 101), (101, rx_cl 91 4 0 false 0 0 0 0 104), (104, rx_ld 2 0 105), (105, rx_ld 0 2 106), (106, rx_cl 22 2 4 true 0 0 0 0 109), (109, rx_br (rx_cm0 Y 4) 133 112), (133, rx_ld 2 0 134), (134, rx_ld 0 2 135), (135, rx_cl 24 2 4 true 0 0 0 0 138), (138, rx_ld 2 3 139), (139, rx_ld 2 0 140), (140, rx_get 4 4 143), (143, rx_ld 2 0 144), (144, rx_get 4 5 147), (147, rx_cl 15 3 1 true 0 0 0 0 150), (150, rx_pure (rx_push (.int (-1))) 151), (151, rx_br (rx_cmp Y 5) 184 154), (184, rx_inc 5 1 187 6), (187, rx_br rx_goto 79 190), (190, rx_inc 4 1 193 6), (193, rx_br rx_goto 59 196), (196, rx_ld 2 0 197), (197, rx_ld 2 3 198), (198, rx_get 1 5 201), (201, rx_putf 4 1 .int 204), (204, rx_pure (rx_push (.int 1)) 205), (205, rx_retv .int 0 0)]
noncomputable def m_X4_judge (Y : rx_Y) : rx_M := (yX4_judge, cX4_judge, 6, (some .int), { frames := 2, cells := 0, slots := 0, locals := 55 }, p_X4_judge Y)
theorem hd_X4_judge : yX4_judge.cls ≠ "java/lang/invoke/MethodHandle" ∧ yX4_judge.cls ≠ "java/lang/invoke/VarHandle" ∧ (parseMethodDescriptor yX4_judge.desc).map (fun d => d.parameters.length) = some 3 := by decide +kernel
abbrev cX4_pack : ByteArray := prog_6_method_4_code
def yX4_pack : MethodName := ⟨"SeedBench$Kinds", "pack", "(I)V"⟩
theorem dX4_pack_0 : decode cX4_pack 0 = .ok (.aload_n 0, 1) := by decide +kernel
theorem dX4_pack_1 : decode cX4_pack 1 = .ok (.lconst 0, 1) := by decide +kernel
theorem dX4_pack_2 : decode cX4_pack 2 = .ok (.putfield 44, 3) := by decide +kernel
theorem dX4_pack_5 : decode cX4_pack 5 = .ok (.aload_n 0, 1) := by decide +kernel
theorem dX4_pack_6 : decode cX4_pack 6 = .ok (.lconst 0, 1) := by decide +kernel
theorem dX4_pack_7 : decode cX4_pack 7 = .ok (.putfield 48, 3) := by decide +kernel
theorem dX4_pack_10 : decode cX4_pack 10 = .ok (.iconst 0, 1) := by decide +kernel
theorem dX4_pack_11 : decode cX4_pack 11 = .ok (.istore_n 2, 1) := by decide +kernel
theorem dX4_pack_12 : decode cX4_pack 12 = .ok (.iload_n 2, 1) := by decide +kernel
theorem dX4_pack_13 : decode cX4_pack 13 = .ok (.iload_n 1, 1) := by decide +kernel
theorem dX4_pack_14 : decode cX4_pack 14 = .ok (.if_icmp .ge 73, 3) := by decide +kernel
theorem dX4_pack_17 : decode cX4_pack 17 = .ok (.iconst 0, 1) := by decide +kernel
theorem dX4_pack_18 : decode cX4_pack 18 = .ok (.istore_n 3, 1) := by decide +kernel
theorem dX4_pack_19 : decode cX4_pack 19 = .ok (.iload_n 3, 1) := by decide +kernel
theorem dX4_pack_20 : decode cX4_pack 20 = .ok (.iload_n 1, 1) := by decide +kernel
theorem dX4_pack_21 : decode cX4_pack 21 = .ok (.if_icmp .ge 60, 3) := by decide +kernel
theorem dX4_pack_24 : decode cX4_pack 24 = .ok (.aload_n 0, 1) := by decide +kernel
theorem dX4_pack_25 : decode cX4_pack 25 = .ok (.getfield 15, 3) := by decide +kernel
theorem dX4_pack_28 : decode cX4_pack 28 = .ok (.iload_n 2, 1) := by decide +kernel
theorem dX4_pack_29 : decode cX4_pack 29 = .ok (.bipush 6, 2) := by decide +kernel
theorem dX4_pack_31 : decode cX4_pack 31 = .ok (.imul, 1) := by decide +kernel
theorem dX4_pack_32 : decode cX4_pack 32 = .ok (.iload_n 3, 1) := by decide +kernel
theorem dX4_pack_33 : decode cX4_pack 33 = .ok (.iadd, 1) := by decide +kernel
theorem dX4_pack_34 : decode cX4_pack 34 = .ok (.iaload, 1) := by decide +kernel
theorem dX4_pack_35 : decode cX4_pack 35 = .ok (.iconst 3, 1) := by decide +kernel
theorem dX4_pack_36 : decode cX4_pack 36 = .ok (.iadd, 1) := by decide +kernel
theorem dX4_pack_37 : decode cX4_pack 37 = .ok (.istore 4, 2) := by decide +kernel
theorem dX4_pack_39 : decode cX4_pack 39 = .ok (.iload_n 2, 1) := by decide +kernel
theorem dX4_pack_40 : decode cX4_pack 40 = .ok (.iconst 3, 1) := by decide +kernel
theorem dX4_pack_41 : decode cX4_pack 41 = .ok (.if_icmp .ge 20, 3) := by decide +kernel
theorem dX4_pack_44 : decode cX4_pack 44 = .ok (.aload_n 0, 1) := by decide +kernel
theorem dX4_pack_45 : decode cX4_pack 45 = .ok (.aload_n 0, 1) := by decide +kernel
theorem dX4_pack_46 : decode cX4_pack 46 = .ok (.getfield 44, 3) := by decide +kernel
theorem dX4_pack_49 : decode cX4_pack 49 = .ok (.iconst 3, 1) := by decide +kernel
theorem dX4_pack_50 : decode cX4_pack 50 = .ok (.lshl, 1) := by decide +kernel
theorem dX4_pack_51 : decode cX4_pack 51 = .ok (.iload 4, 2) := by decide +kernel
theorem dX4_pack_53 : decode cX4_pack 53 = .ok (.i2l, 1) := by decide +kernel
theorem dX4_pack_54 : decode cX4_pack 54 = .ok (.lor, 1) := by decide +kernel
theorem dX4_pack_55 : decode cX4_pack 55 = .ok (.putfield 44, 3) := by decide +kernel
theorem dX4_pack_58 : decode cX4_pack 58 = .ok (.goto 17, 3) := by decide +kernel
theorem dX4_pack_75 : decode cX4_pack 75 = .ok (.iinc 3 1, 3) := by decide +kernel
theorem dX4_pack_78 : decode cX4_pack 78 = .ok (.goto (-59), 3) := by decide +kernel
theorem dX4_pack_81 : decode cX4_pack 81 = .ok (.iinc 2 1, 3) := by decide +kernel
theorem dX4_pack_84 : decode cX4_pack 84 = .ok (.goto (-72), 3) := by decide +kernel
theorem dX4_pack_87 : decode cX4_pack 87 = .ok (.return_, 1) := by decide +kernel
noncomputable def p_X4_pack (Y : rx_Y) : rx_P := [(0, rx_ld 2 0 1), (1, rx_pure (rx_push (.long 0)) 2), (2, rx_putf 4 4 .long 5), (5, rx_ld 2 0 6), (6, rx_pure (rx_push (.long 0)) 7), (7, rx_putf 4 5 .long 10), (10, rx_pure (rx_push (.int 0)) 11), (11, rx_st 0 2 12 5), (12, rx_ld 0 2 13), (13, rx_ld 0 1 14), (14, rx_br (rx_cmp Y 1) 87 17), (17, rx_pure (rx_push (.int 0)) 18), (18, rx_st 0 3 19 5), (19, rx_ld 0 3 20), (20, rx_ld 0 1 21), (21, rx_br (rx_cmp Y 1) 81 24), (24, rx_ld 2 0 25), (25, rx_get 4 3 28), (28, rx_ld 0 2 29), (29, rx_pure (rx_push (.int 6)) 31), (31, rx_pure (rx_bi (fun x y => x * y)) 32), (32, rx_ld 0 3 33), (33, rx_pure (rx_bi (fun x y => x + y)) 34), (34, rx_ald 0 0 35), (35, rx_pure (rx_push (.int 3)) 36), (36, rx_pure (rx_bi (fun x y => x + y)) 37), (37, rx_st 0 4 39 5), (39, rx_ld 0 2 40), (40, rx_pure (rx_push (.int 3)) 41), (41, rx_br (rx_cmp Y 1) 61 44), (44, rx_ld 2 0 45), (45, rx_ld 2 0 46), (46, rx_get 4 4 49), (49, rx_pure (rx_push (.int 3)) 50), (50, rx_pure (rx_ls (fun x y => x <<< (y.toInt64 &&& 63))) 51), (51, rx_ld 0 4 53), (53, rx_pure rx_i2l 54), (54, rx_pure (rx_lb (fun x y => x ||| y)) 55), (55, rx_putf 4 4 .long 58), (58, rx_br rx_goto 75 61), (75, rx_inc 3 1 78 5), (78, rx_br rx_goto 19 81), (81, rx_inc 2 1 84 5), (84, rx_br rx_goto 12 87), (87, rx_ret0 0 0)]
noncomputable def m_X4_pack (Y : rx_Y) : rx_M := (yX4_pack, cX4_pack, 5, none, { frames := 0, cells := 0, slots := 0, locals := 0 }, p_X4_pack Y)
theorem hd_X4_pack : yX4_pack.cls ≠ "java/lang/invoke/MethodHandle" ∧ yX4_pack.cls ≠ "java/lang/invoke/VarHandle" ∧ (parseMethodDescriptor yX4_pack.desc).map (fun d => d.parameters.length) = some 1 := by decide +kernel
