abbrev cX6_bit : ByteArray := prog_8_method_2_code
def yX6_bit : MethodName := ⟨"SeedBench$Ring", "bit", "(II)J"⟩
def h_X6_bit : pm_H := (yX6_bit, cX6_bit, 4, (some .long), { frames := 0, cells := 0, slots := 0, locals := 0 })
def o_X6_bit : pm_P := [(0, 1, 3, 0, 0, 0, 0, []), (1, 2, 3, 0, 1, 0, 0, []), (2, 5, 14, 1, 9, 0, 0, []), (5, 6, 3, 0, 0, 0, 0, []), (6, 9, 12, 0, 10, 0, 0, []), (9, 10, 3, 0, 1, 0, 0, []), (10, 11, 4, 0, 2, 4, 0, []), (11, 12, 3, 0, 0, 0, 0, []), (12, 13, 3, 0, 1, 0, 0, []), (13, 16, 14, 1, 20, 0, 0, []), (16, 17, 3, 0, 1, 0, 0, []), (17, 20, 12, 0, 21, 0, 0, []), (20, 21, 3, 0, 0, 0, 0, []), (21, 22, 4, 0, 3, 4, 0, []), (22, 23, 1, 1, 0, 0, 0, []), (23, 24, 3, 0, 2, 0, 0, []), (24, 26, 0, 1, 0, 0, 19, []), (26, 27, 3, 0, 2, 0, 0, []), (27, 28, 6, 1, 0, 0, 0, []), (28, 29, 6, 2, 0, 0, 0, []), (29, 30, 0, 0, 0, 0, 2, []), (30, 31, 7, 0, 0, 0, 0, []), (31, 32, 3, 0, 3, 0, 0, []), (32, 33, 6, 0, 0, 0, 0, []), (33, 34, 3, 0, 2, 0, 0, []), (34, 35, 6, 1, 0, 0, 0, []), (35, 36, 0, 0, 0, 0, 1, []), (36, 37, 6, 1, 0, 0, 0, []), (37, 38, 10, 0, 0, 0, 0, []), (38, 39, 25, 1, 0, 0, 0, [])]
noncomputable def p_X6_bit : rx_P := o_prog o_X6_bit
noncomputable def m_X6_bit : rx_M := (yX6_bit, cX6_bit, 4, (some .long), { frames := 0, cells := 0, slots := 0, locals := 0 }, p_X6_bit)
theorem hd_X6_bit : yX6_bit.cls ≠ "java/lang/invoke/MethodHandle" ∧ yX6_bit.cls ≠ "java/lang/invoke/VarHandle" ∧ (parseMethodDescriptor yX6_bit.desc).map (fun d => d.parameters.length) = some 2 := by decide +kernel
theorem pn_X6_bit : plainName yX6_bit.cls = true := by decide +kernel
abbrev cX6_fenceAt : ByteArray := prog_8_method_12_code
def yX6_fenceAt : MethodName := ⟨"SeedBench$Ring", "fenceAt", "(I)I"⟩
def h_X6_fenceAt : pm_H := (yX6_fenceAt, cX6_fenceAt, 5, (some .int), { frames := 2, cells := 0, slots := 0, locals := 45 })
def o_X6_fenceAt : pm_P := [(0, 1, 0, 0, 0, 0, 0, []), (1, 2, 4, 0, 2, 5, 0, []), (2, 3, 0, 0, 0, 0, 0, []), (3, 4, 4, 0, 3, 5, 0, []), (4, 5, 3, 0, 3, 0, 0, []), (5, 6, 3, 2, 0, 0, 0, []), (6, 9, 17, 6, 0, 9, 0, [2, 54]), (9, 12, 14, 1, 64, 0, 0, []), (12, 13, 3, 0, 3, 0, 0, []), (13, 14, 0, 0, 0, 0, 1, []), (14, 15, 6, 0, 0, 0, 0, []), (15, 17, 4, 0, 4, 5, 1, []), (17, 19, 3, 0, 4, 1, 0, []), (19, 20, 3, 2, 0, 0, 0, []), (20, 23, 17, 6, 0, 9, 0, [2, 54]), (23, 26, 14, 1, 58, 0, 0, []), (26, 27, 3, 2, 0, 0, 0, []), (27, 28, 3, 0, 3, 0, 0, []), (28, 30, 3, 0, 4, 1, 0, []), (30, 33, 23, 55, 3, 6, 1, []), (33, 36, 15, 4, 52, 0, 0, []), (36, 37, 3, 0, 2, 0, 0, []), (37, 38, 3, 0, 1, 0, 0, []), (38, 41, 14, 5, 49, 0, 0, []), (41, 43, 0, 1, 0, 0, 100, []), (43, 44, 3, 0, 3, 0, 0, []), (44, 45, 6, 2, 0, 0, 0, []), (45, 47, 3, 0, 4, 1, 0, []), (47, 48, 6, 0, 0, 0, 0, []), (48, 49, 25, 0, 0, 0, 0, []), (49, 52, 5, 2, 0, 5, 1, []), (52, 55, 5, 4, 0, 5, 1, []), (55, 58, 12, 0, 17, 0, 0, []), (58, 61, 5, 3, 0, 5, 1, []), (61, 64, 12, 0, 4, 0, 0, []), (64, 65, 0, 0, 0, 0, (-1), []), (65, 66, 25, 0, 0, 0, 0, [])]
noncomputable def p_X6_fenceAt : rx_P := o_prog o_X6_fenceAt
noncomputable def m_X6_fenceAt : rx_M := (yX6_fenceAt, cX6_fenceAt, 5, (some .int), { frames := 2, cells := 0, slots := 0, locals := 45 }, p_X6_fenceAt)
theorem hd_X6_fenceAt : yX6_fenceAt.cls ≠ "java/lang/invoke/MethodHandle" ∧ yX6_fenceAt.cls ≠ "java/lang/invoke/VarHandle" ∧ (parseMethodDescriptor yX6_fenceAt.desc).map (fun d => d.parameters.length) = some 1 := by decide +kernel
theorem pn_X6_fenceAt : plainName yX6_fenceAt.cls = true := by decide +kernel
abbrev cX6_fenceCount : ByteArray := prog_8_method_8_code
def yX6_fenceCount : MethodName := ⟨"SeedBench$Ring", "fenceCount", "()I"⟩
def h_X6_fenceCount : pm_H := (yX6_fenceCount, cX6_fenceCount, 1, (some .int), { frames := 1, cells := 0, slots := 0, locals := 21 })
def o_X6_fenceCount : pm_P := [(0, 1, 3, 2, 0, 0, 0, []), (1, 4, 17, 6, 1, 21, 1, [2, 58]), (4, 7, 23, 3, 1, 0, 0, []), (7, 8, 25, 0, 0, 0, 0, [])]
noncomputable def p_X6_fenceCount : rx_P := o_prog o_X6_fenceCount
noncomputable def m_X6_fenceCount : rx_M := (yX6_fenceCount, cX6_fenceCount, 1, (some .int), { frames := 1, cells := 0, slots := 0, locals := 21 }, p_X6_fenceCount)
theorem hd_X6_fenceCount : yX6_fenceCount.cls ≠ "java/lang/invoke/MethodHandle" ∧ yX6_fenceCount.cls ≠ "java/lang/invoke/VarHandle" ∧ (parseMethodDescriptor yX6_fenceCount.desc).map (fun d => d.parameters.length) = some 0 := by decide +kernel
theorem pn_X6_fenceCount : plainName yX6_fenceCount.cls = true := by decide +kernel
abbrev cX6_friezeNumber : ByteArray := prog_8_method_14_code
def yX6_friezeNumber : MethodName := ⟨"SeedBench$Ring", "friezeNumber", "(II)J"⟩
def h_X6_friezeNumber : pm_H := (yX6_friezeNumber, cX6_friezeNumber, 10, (some .long), { frames := 3, cells := 0, slots := 0, locals := 68 })
def o_X6_friezeNumber : pm_P := [(0, 1, 3, 2, 0, 0, 0, []), (1, 4, 17, 6, 0, 9, 0, [2, 54]), (4, 7, 15, 5, 9, 0, 0, []), (7, 8, 1, 0, 0, 0, 0, []), (8, 9, 25, 1, 0, 0, 0, []), (9, 10, 1, 0, 0, 0, 0, []), (10, 11, 4, 1, 3, 10, 0, []), (11, 12, 1, 1, 0, 0, 0, []), (12, 14, 4, 1, 5, 10, 1, []), (14, 15, 3, 0, 1, 0, 0, []), (15, 17, 4, 0, 7, 10, 1, []), (17, 19, 3, 0, 7, 1, 0, []), (19, 20, 3, 0, 2, 0, 0, []), (20, 23, 14, 1, 57, 0, 0, []), (23, 24, 3, 2, 0, 0, 0, []), (24, 26, 3, 0, 7, 1, 0, []), (26, 27, 0, 0, 0, 0, 1, []), (27, 28, 6, 0, 0, 0, 0, []), (28, 29, 3, 2, 0, 0, 0, []), (29, 32, 17, 6, 0, 9, 0, [2, 54]), (32, 33, 7, 1, 0, 0, 0, []), (33, 36, 23, 65, 2, 6, 1, []), (36, 37, 11, 2, 0, 0, 0, []), (37, 39, 3, 1, 5, 1, 0, []), (39, 40, 8, 2, 0, 0, 0, []), (40, 41, 3, 1, 3, 0, 0, []), (41, 42, 8, 1, 0, 0, 0, []), (42, 44, 4, 1, 8, 10, 1, []), (44, 46, 3, 1, 5, 1, 0, []), (46, 47, 4, 1, 3, 10, 0, []), (47, 49, 3, 1, 8, 1, 0, []), (49, 51, 4, 1, 5, 10, 1, []), (51, 54, 5, 7, 0, 10, 1, []), (54, 57, 12, 0, 17, 0, 0, []), (57, 58, 3, 1, 3, 0, 0, []), (58, 59, 25, 1, 0, 0, 0, [])]
noncomputable def p_X6_friezeNumber : rx_P := o_prog o_X6_friezeNumber
noncomputable def m_X6_friezeNumber : rx_M := (yX6_friezeNumber, cX6_friezeNumber, 10, (some .long), { frames := 3, cells := 0, slots := 0, locals := 68 }, p_X6_friezeNumber)
theorem hd_X6_friezeNumber : yX6_friezeNumber.cls ≠ "java/lang/invoke/MethodHandle" ∧ yX6_friezeNumber.cls ≠ "java/lang/invoke/VarHandle" ∧ (parseMethodDescriptor yX6_friezeNumber.desc).map (fun d => d.parameters.length) = some 2 := by decide +kernel
theorem pn_X6_friezeNumber : plainName yX6_friezeNumber.cls = true := by decide +kernel
abbrev cX6_has : ByteArray := prog_8_method_5_code
def yX6_has : MethodName := ⟨"SeedBench$Ring", "has", "(II)Z"⟩
def h_X6_has : pm_H := (yX6_has, cX6_has, 3, (some .boolean), { frames := 1, cells := 0, slots := 0, locals := 23 })
def o_X6_has : pm_P := [(0, 1, 3, 0, 1, 0, 0, []), (1, 2, 3, 0, 2, 0, 0, []), (2, 5, 14, 4, 24, 0, 0, []), (5, 6, 3, 2, 0, 0, 0, []), (6, 9, 17, 6, 1, 21, 1, [2, 58]), (9, 10, 3, 0, 1, 0, 0, []), (10, 11, 3, 0, 2, 0, 0, []), (11, 14, 23, 51, 2, 0, 0, []), (14, 15, 8, 3, 0, 0, 0, []), (15, 16, 1, 0, 0, 0, 0, []), (16, 17, 11, 4, 0, 0, 0, []), (17, 20, 15, 4, 24, 0, 0, []), (20, 21, 0, 0, 0, 0, 1, []), (21, 24, 12, 0, 25, 0, 0, []), (24, 25, 0, 0, 0, 0, 0, []), (25, 26, 25, 2, 0, 0, 0, [])]
noncomputable def p_X6_has : rx_P := o_prog o_X6_has
noncomputable def m_X6_has : rx_M := (yX6_has, cX6_has, 3, (some .boolean), { frames := 1, cells := 0, slots := 0, locals := 23 }, p_X6_has)
theorem hd_X6_has : yX6_has.cls ≠ "java/lang/invoke/MethodHandle" ∧ yX6_has.cls ≠ "java/lang/invoke/VarHandle" ∧ (parseMethodDescriptor yX6_has.desc).map (fun d => d.parameters.length) = some 2 := by decide +kernel
theorem pn_X6_has : plainName yX6_has.cls = true := by decide +kernel
abbrev cX6_init : ByteArray := prog_8_method_1_code
def yX6_init : MethodName := ⟨"SeedBench$Ring", "<init>", "()V"⟩
def h_X6_init : pm_H := (yX6_init, cX6_init, 1, none, { frames := 1, cells := 0, slots := 0, locals := 12 })
theorem dX6_init_0 : decode cX6_init 0 = .ok (.aload_n 0, 1) := by decide +kernel
theorem dX6_init_1 : decode cX6_init 1 = .ok (.invokespecial 3, 3) := by decide +kernel
theorem dX6_init_4 : decode cX6_init 4 = .ok (.aload_n 0, 1) := by decide +kernel
theorem dX6_init_5 : decode cX6_init 5 = .ok (.iconst 4, 1) := by decide +kernel
theorem dX6_init_6 : decode cX6_init 6 = .ok (.putfield 9, 3) := by decide +kernel
theorem dX6_init_9 : decode cX6_init 9 = .ok (.return_, 1) := by decide +kernel
noncomputable def p_X6_init : rx_P := [(0, rx_ld 2 0 1), (1, rx_obj 12 4), (4, rx_ld 2 0 5), (5, rx_pure (rx_push (.int 4)) 6), (6, rx_putf 6 0 .int 9), (9, rx_ret0 0 0)]
noncomputable def m_X6_init : rx_M := (yX6_init, cX6_init, 1, none, { frames := 1, cells := 0, slots := 0, locals := 12 }, p_X6_init)
theorem hd_X6_init : yX6_init.cls ≠ "java/lang/invoke/MethodHandle" ∧ yX6_init.cls ≠ "java/lang/invoke/VarHandle" ∧ (parseMethodDescriptor yX6_init.desc).map (fun d => d.parameters.length) = some 0 := by decide +kernel
theorem pn_X6_init : plainName yX6_init.cls = true := by decide +kernel
abbrev cX6_isCorner : ByteArray := prog_8_method_3_code
def yX6_isCorner : MethodName := ⟨"SeedBench$Ring", "isCorner", "(I)Z"⟩
def h_X6_isCorner : pm_H := (yX6_isCorner, cX6_isCorner, 2, (some .boolean), { frames := 0, cells := 0, slots := 0, locals := 0 })
def o_X6_isCorner : pm_P := [(0, 1, 3, 0, 1, 0, 0, []), (1, 4, 15, 0, 16, 0, 0, []), (4, 5, 3, 0, 1, 0, 0, []), (5, 6, 3, 2, 0, 0, 0, []), (6, 9, 17, 6, 0, 9, 0, [2, 54]), (9, 12, 14, 1, 16, 0, 0, []), (12, 13, 0, 0, 0, 0, 1, []), (13, 16, 12, 0, 17, 0, 0, []), (16, 17, 0, 0, 0, 0, 0, []), (17, 18, 25, 2, 0, 0, 0, [])]
noncomputable def p_X6_isCorner : rx_P := o_prog o_X6_isCorner
noncomputable def m_X6_isCorner : rx_M := (yX6_isCorner, cX6_isCorner, 2, (some .boolean), { frames := 0, cells := 0, slots := 0, locals := 0 }, p_X6_isCorner)
theorem hd_X6_isCorner : yX6_isCorner.cls ≠ "java/lang/invoke/MethodHandle" ∧ yX6_isCorner.cls ≠ "java/lang/invoke/VarHandle" ∧ (parseMethodDescriptor yX6_isCorner.desc).map (fun d => d.parameters.length) = some 1 := by decide +kernel
theorem pn_X6_isCorner : plainName yX6_isCorner.cls = true := by decide +kernel
abbrev cX6_isCrossed : ByteArray := prog_8_method_7_code
def yX6_isCrossed : MethodName := ⟨"SeedBench$Ring", "isCrossed", "(II)Z"⟩
def h_X6_isCrossed : pm_H := (yX6_isCrossed, cX6_isCrossed, 5, (some .boolean), { frames := 2, cells := 0, slots := 0, locals := 45 })
def o_X6_isCrossed : pm_P := [(0, 1, 3, 0, 1, 0, 0, []), (1, 2, 0, 0, 0, 0, 1, []), (2, 3, 6, 0, 0, 0, 0, []), (3, 4, 4, 0, 3, 5, 0, []), (4, 5, 3, 0, 3, 0, 0, []), (5, 6, 3, 0, 2, 0, 0, []), (6, 9, 14, 1, 57, 0, 0, []), (9, 10, 0, 0, 0, 0, 0, []), (10, 12, 4, 0, 4, 5, 1, []), (12, 14, 3, 0, 4, 1, 0, []), (14, 15, 3, 2, 0, 0, 0, []), (15, 18, 17, 6, 0, 9, 0, [2, 54]), (18, 21, 14, 1, 51, 0, 0, []), (21, 23, 3, 0, 4, 1, 0, []), (23, 24, 3, 0, 1, 0, 0, []), (24, 27, 14, 0, 33, 0, 0, []), (27, 29, 3, 0, 4, 1, 0, []), (29, 30, 3, 0, 2, 0, 0, []), (30, 33, 14, 3, 45, 0, 0, []), (33, 34, 3, 2, 0, 0, 0, []), (34, 35, 3, 0, 3, 0, 0, []), (35, 37, 3, 0, 4, 1, 0, []), (37, 40, 23, 55, 3, 6, 1, []), (40, 43, 15, 4, 45, 0, 0, []), (43, 44, 0, 0, 0, 0, 1, []), (44, 45, 25, 2, 0, 0, 0, []), (45, 48, 5, 4, 0, 5, 1, []), (48, 51, 12, 0, 12, 0, 0, []), (51, 54, 5, 3, 0, 5, 1, []), (54, 57, 12, 0, 4, 0, 0, []), (57, 58, 0, 0, 0, 0, 0, []), (58, 59, 25, 2, 0, 0, 0, [])]
noncomputable def p_X6_isCrossed : rx_P := o_prog o_X6_isCrossed
noncomputable def m_X6_isCrossed : rx_M := (yX6_isCrossed, cX6_isCrossed, 5, (some .boolean), { frames := 2, cells := 0, slots := 0, locals := 45 }, p_X6_isCrossed)
theorem hd_X6_isCrossed : yX6_isCrossed.cls ≠ "java/lang/invoke/MethodHandle" ∧ yX6_isCrossed.cls ≠ "java/lang/invoke/VarHandle" ∧ (parseMethodDescriptor yX6_isCrossed.desc).map (fun d => d.parameters.length) = some 2 := by decide +kernel
theorem pn_X6_isCrossed : plainName yX6_isCrossed.cls = true := by decide +kernel
abbrev cX6_isCut : ByteArray := prog_8_method_9_code
def yX6_isCut : MethodName := ⟨"SeedBench$Ring", "isCut", "()Z"⟩
def h_X6_isCut : pm_H := (yX6_isCut, cX6_isCut, 1, (some .boolean), { frames := 2, cells := 0, slots := 0, locals := 41 })
def o_X6_isCut : pm_P := [(0, 1, 3, 2, 0, 0, 0, []), (1, 4, 23, 53, 1, 6, 1, []), (4, 5, 3, 2, 0, 0, 0, []), (5, 8, 17, 6, 0, 9, 0, [2, 54]), (8, 9, 0, 0, 0, 0, 3, []), (9, 10, 6, 1, 0, 0, 0, []), (10, 13, 14, 5, 17, 0, 0, []), (13, 14, 0, 0, 0, 0, 1, []), (14, 17, 12, 0, 18, 0, 0, []), (17, 18, 0, 0, 0, 0, 0, []), (18, 19, 25, 2, 0, 0, 0, [])]
noncomputable def p_X6_isCut : rx_P := o_prog o_X6_isCut
noncomputable def m_X6_isCut : rx_M := (yX6_isCut, cX6_isCut, 1, (some .boolean), { frames := 2, cells := 0, slots := 0, locals := 41 }, p_X6_isCut)
theorem hd_X6_isCut : yX6_isCut.cls ≠ "java/lang/invoke/MethodHandle" ∧ yX6_isCut.cls ≠ "java/lang/invoke/VarHandle" ∧ (parseMethodDescriptor yX6_isCut.desc).map (fun d => d.parameters.length) = some 0 := by decide +kernel
theorem pn_X6_isCut : plainName yX6_isCut.cls = true := by decide +kernel
abbrev cX6_otherFence : ByteArray := prog_8_method_13_code
def yX6_otherFence : MethodName := ⟨"SeedBench$Ring", "otherFence", "(II)I"⟩
def h_X6_otherFence : pm_H := (yX6_otherFence, cX6_otherFence, 6, (some .int), { frames := 3, cells := 0, slots := 0, locals := 67 })
def o_X6_otherFence : pm_P := [(0, 1, 0, 0, 0, 0, (-1), []), (1, 2, 4, 0, 3, 6, 0, []), (2, 3, 0, 0, 0, 0, (-1), []), (3, 5, 4, 0, 4, 6, 1, []), (5, 6, 0, 0, 0, 0, 0, []), (6, 8, 4, 0, 5, 6, 1, []), (8, 10, 3, 0, 5, 1, 0, []), (10, 11, 3, 2, 0, 0, 0, []), (11, 14, 17, 6, 0, 9, 0, [2, 54]), (14, 17, 14, 1, 77, 0, 0, []), (17, 19, 3, 0, 5, 1, 0, []), (19, 20, 3, 0, 1, 0, 0, []), (20, 23, 14, 4, 71, 0, 0, []), (23, 25, 3, 0, 5, 1, 0, []), (25, 26, 3, 0, 2, 0, 0, []), (26, 29, 14, 4, 71, 0, 0, []), (29, 30, 3, 2, 0, 0, 0, []), (30, 32, 3, 0, 5, 1, 0, []), (32, 33, 3, 0, 1, 0, 0, []), (33, 36, 23, 49, 3, 6, 1, []), (36, 39, 15, 4, 71, 0, 0, []), (39, 40, 3, 2, 0, 0, 0, []), (40, 42, 3, 0, 5, 1, 0, []), (42, 43, 3, 0, 2, 0, 0, []), (43, 46, 23, 49, 3, 6, 1, []), (46, 49, 15, 4, 71, 0, 0, []), (49, 51, 3, 0, 5, 1, 0, []), (51, 52, 3, 0, 1, 0, 0, []), (52, 55, 14, 3, 67, 0, 0, []), (55, 57, 3, 0, 5, 1, 0, []), (57, 58, 3, 0, 2, 0, 0, []), (58, 61, 14, 1, 67, 0, 0, []), (61, 63, 3, 0, 5, 1, 0, []), (63, 64, 4, 0, 3, 6, 0, []), (64, 67, 12, 0, 71, 0, 0, []), (67, 69, 3, 0, 5, 1, 0, []), (69, 71, 4, 0, 4, 6, 1, []), (71, 74, 5, 5, 0, 6, 1, []), (74, 77, 12, 0, 8, 0, 0, []), (77, 78, 3, 0, 3, 0, 0, []), (78, 79, 0, 0, 0, 0, (-1), []), (79, 82, 14, 4, 88, 0, 0, []), (82, 84, 3, 0, 4, 1, 0, []), (84, 85, 0, 0, 0, 0, (-1), []), (85, 88, 14, 5, 90, 0, 0, []), (88, 89, 0, 0, 0, 0, (-1), []), (89, 90, 25, 0, 0, 0, 0, []), (90, 92, 0, 1, 0, 0, 100, []), (92, 93, 3, 0, 3, 0, 0, []), (93, 95, 3, 0, 4, 1, 0, []), (95, 98, 29, 1, 0, 67, 0, []), (98, 99, 6, 2, 0, 0, 0, []), (99, 100, 3, 0, 3, 0, 0, []), (100, 102, 3, 0, 4, 1, 0, []), (102, 105, 29, 0, 0, 67, 0, []), (105, 106, 6, 0, 0, 0, 0, []), (106, 107, 25, 0, 0, 0, 0, [])]
noncomputable def p_X6_otherFence : rx_P := o_prog o_X6_otherFence
noncomputable def m_X6_otherFence : rx_M := (yX6_otherFence, cX6_otherFence, 6, (some .int), { frames := 3, cells := 0, slots := 0, locals := 67 }, p_X6_otherFence)
theorem hd_X6_otherFence : yX6_otherFence.cls ≠ "java/lang/invoke/MethodHandle" ∧ yX6_otherFence.cls ≠ "java/lang/invoke/VarHandle" ∧ (parseMethodDescriptor yX6_otherFence.desc).map (fun d => d.parameters.length) = some 2 := by decide +kernel
theorem pn_X6_otherFence : plainName yX6_otherFence.cls = true := by decide +kernel
abbrev cX6_placeOf : ByteArray := prog_8_method_16_code
def yX6_placeOf : MethodName := ⟨"SeedBench$Ring", "placeOf", "(II)I"⟩
def h_X6_placeOf : pm_H := (yX6_placeOf, cX6_placeOf, 3, (some .int), { frames := 2, cells := 0, slots := 0, locals := 45 })
def o_X6_placeOf : pm_P := [(0, 1, 3, 2, 0, 0, 0, []), (1, 2, 3, 0, 1, 0, 0, []), (2, 3, 3, 0, 2, 0, 0, []), (3, 6, 23, 55, 3, 6, 1, []), (6, 9, 15, 4, 27, 0, 0, []), (9, 10, 3, 2, 0, 0, 0, []), (10, 13, 17, 6, 1, 21, 1, [2, 58]), (13, 14, 3, 0, 1, 0, 0, []), (14, 15, 3, 0, 2, 0, 0, []), (15, 18, 23, 51, 2, 0, 0, []), (18, 19, 1, 1, 0, 0, 0, []), (19, 20, 8, 1, 0, 0, 0, []), (20, 21, 8, 3, 0, 0, 0, []), (21, 24, 23, 3, 1, 0, 0, []), (24, 27, 12, 0, 28, 0, 0, []), (27, 28, 0, 0, 0, 0, (-1), []), (28, 29, 25, 0, 0, 0, 0, [])]
noncomputable def p_X6_placeOf : rx_P := o_prog o_X6_placeOf
noncomputable def m_X6_placeOf : rx_M := (yX6_placeOf, cX6_placeOf, 3, (some .int), { frames := 2, cells := 0, slots := 0, locals := 45 }, p_X6_placeOf)
theorem hd_X6_placeOf : yX6_placeOf.cls ≠ "java/lang/invoke/MethodHandle" ∧ yX6_placeOf.cls ≠ "java/lang/invoke/VarHandle" ∧ (parseMethodDescriptor yX6_placeOf.desc).map (fun d => d.parameters.length) = some 2 := by decide +kernel
theorem pn_X6_placeOf : plainName yX6_placeOf.cls = true := by decide +kernel
abbrev cX6_tell : ByteArray := prog_8_method_11_code
def yX6_tell : MethodName := ⟨"SeedBench$Ring", "tell", "(I)I"⟩
def h_X6_tell : pm_H := (yX6_tell, cX6_tell, 2, (some .int), { frames := 3, cells := 0, slots := 0, locals := 69 })
def o_X6_tell : pm_P := [(0, 1, 3, 0, 1, 0, 0, []), (1, 4, 15, 5, 9, 0, 0, []), (4, 5, 3, 2, 0, 0, 0, []), (5, 8, 17, 6, 0, 9, 0, [2, 54]), (8, 9, 25, 0, 0, 0, 0, []), (9, 10, 3, 0, 1, 0, 0, []), (10, 11, 0, 0, 0, 0, 1, []), (11, 14, 14, 5, 19, 0, 0, []), (14, 15, 3, 2, 0, 0, 0, []), (15, 18, 23, 53, 1, 6, 1, []), (18, 19, 25, 0, 0, 0, 0, []), (19, 20, 3, 0, 1, 0, 0, []), (20, 21, 0, 0, 0, 0, 2, []), (21, 24, 14, 5, 37, 0, 0, []), (24, 25, 3, 2, 0, 0, 0, []), (25, 28, 23, 59, 1, 6, 1, []), (28, 31, 15, 4, 35, 0, 0, []), (31, 32, 0, 0, 0, 0, 1, []), (32, 35, 12, 0, 36, 0, 0, []), (35, 36, 0, 0, 0, 0, 0, []), (36, 37, 25, 0, 0, 0, 0, []), (37, 38, 3, 0, 1, 0, 0, []), (38, 40, 0, 1, 0, 0, 10, []), (40, 43, 14, 0, 63, 0, 0, []), (43, 44, 3, 0, 1, 0, 0, []), (44, 46, 0, 1, 0, 0, 10, []), (46, 47, 3, 2, 0, 0, 0, []), (47, 50, 17, 6, 0, 9, 0, [2, 54]), (50, 51, 6, 0, 0, 0, 0, []), (51, 54, 14, 1, 63, 0, 0, []), (54, 55, 3, 2, 0, 0, 0, []), (55, 56, 3, 0, 1, 0, 0, []), (56, 58, 0, 1, 0, 0, 10, []), (58, 59, 6, 1, 0, 0, 0, []), (59, 62, 23, 65, 2, 6, 1, []), (62, 63, 25, 0, 0, 0, 0, []), (63, 64, 3, 0, 1, 0, 0, []), (64, 66, 0, 1, 0, 0, 100, []), (66, 69, 14, 0, 91, 0, 0, []), (69, 70, 3, 0, 1, 0, 0, []), (70, 72, 0, 1, 0, 0, 100, []), (72, 73, 3, 2, 0, 0, 0, []), (73, 76, 17, 6, 0, 9, 0, [2, 54]), (76, 77, 6, 0, 0, 0, 0, []), (77, 80, 14, 1, 91, 0, 0, []), (80, 81, 3, 2, 0, 0, 0, []), (81, 82, 3, 0, 1, 0, 0, []), (82, 84, 0, 1, 0, 0, 100, []), (84, 85, 6, 1, 0, 0, 0, []), (85, 88, 23, 52, 2, 6, 1, []), (88, 91, 12, 0, 92, 0, 0, []), (91, 92, 0, 0, 0, 0, (-1), []), (92, 93, 25, 0, 0, 0, 0, [])]
noncomputable def p_X6_tell : rx_P := o_prog o_X6_tell
noncomputable def m_X6_tell : rx_M := (yX6_tell, cX6_tell, 2, (some .int), { frames := 3, cells := 0, slots := 0, locals := 69 }, p_X6_tell)
theorem hd_X6_tell : yX6_tell.cls ≠ "java/lang/invoke/MethodHandle" ∧ yX6_tell.cls ≠ "java/lang/invoke/VarHandle" ∧ (parseMethodDescriptor yX6_tell.desc).map (fun d => d.parameters.length) = some 1 := by decide +kernel
theorem pn_X6_tell : plainName yX6_tell.cls = true := by decide +kernel
abbrev cX6_tellArrow : ByteArray := prog_8_method_17_code
def yX6_tellArrow : MethodName := ⟨"SeedBench$Ring", "tellArrow", "([III)V"⟩
def h_X6_tellArrow : pm_H := (yX6_tellArrow, cX6_tellArrow, 3, none, { frames := 0, cells := 0, slots := 0, locals := 0 })
def o_X6_tellArrow : pm_P := [(0, 1, 3, 0, 1, 0, 0, []), (1, 4, 15, 0, 44, 0, 0, []), (4, 5, 3, 0, 2, 0, 0, []), (5, 8, 15, 0, 44, 0, 0, []), (8, 9, 3, 0, 1, 0, 0, []), (9, 11, 0, 1, 0, 0, 6, []), (11, 14, 14, 1, 44, 0, 0, []), (14, 15, 3, 0, 2, 0, 0, []), (15, 17, 0, 1, 0, 0, 6, []), (17, 20, 14, 1, 44, 0, 0, []), (20, 21, 3, 2, 0, 0, 0, []), (21, 22, 3, 0, 1, 0, 0, []), (22, 24, 0, 1, 0, 0, 6, []), (24, 25, 6, 2, 0, 0, 0, []), (25, 26, 3, 0, 2, 0, 0, []), (26, 27, 6, 0, 0, 0, 0, []), (27, 28, 11, 6, 0, 0, 0, []), (28, 29, 19, 0, 0, 0, 0, []), (29, 30, 0, 0, 0, 0, 1, []), (30, 31, 6, 0, 0, 0, 0, []), (31, 32, 20, 0, 0, 0, 0, []), (32, 33, 3, 2, 0, 0, 0, []), (33, 34, 3, 0, 2, 0, 0, []), (34, 36, 0, 1, 0, 0, 6, []), (36, 37, 6, 2, 0, 0, 0, []), (37, 38, 3, 0, 1, 0, 0, []), (38, 39, 6, 0, 0, 0, 0, []), (39, 40, 11, 6, 0, 0, 0, []), (40, 41, 19, 0, 0, 0, 0, []), (41, 42, 0, 0, 0, 0, 1, []), (42, 43, 6, 1, 0, 0, 0, []), (43, 44, 20, 0, 0, 0, 0, []), (44, 45, 24, 0, 0, 0, 0, [])]
noncomputable def p_X6_tellArrow : rx_P := o_prog o_X6_tellArrow
noncomputable def m_X6_tellArrow : rx_M := (yX6_tellArrow, cX6_tellArrow, 3, none, { frames := 0, cells := 0, slots := 0, locals := 0 }, p_X6_tellArrow)
theorem hd_X6_tellArrow : yX6_tellArrow.cls ≠ "java/lang/invoke/MethodHandle" ∧ yX6_tellArrow.cls ≠ "java/lang/invoke/VarHandle" ∧ (parseMethodDescriptor yX6_tellArrow.desc).map (fun d => d.parameters.length) = some 3 := by decide +kernel
theorem pn_X6_tellArrow : plainName yX6_tellArrow.cls = true := by decide +kernel
abbrev cX6_tellArrows : ByteArray := prog_8_method_15_code
def yX6_tellArrows : MethodName := ⟨"SeedBench$Ring", "tellArrows", "([I)V"⟩
def h_X6_tellArrows : pm_H := (yX6_tellArrows, cX6_tellArrows, 5, none, { frames := 3, cells := 0, slots := 0, locals := 67 })
def o_X6_tellArrows : pm_P := [(0, 1, 0, 0, 0, 0, 0, []), (1, 2, 4, 0, 2, 5, 0, []), (2, 3, 3, 0, 2, 0, 0, []), (3, 4, 3, 2, 0, 0, 0, []), (4, 7, 17, 6, 0, 9, 0, [2, 54]), (7, 10, 14, 1, 135, 0, 0, []), (10, 11, 3, 0, 2, 0, 0, []), (11, 12, 0, 0, 0, 0, 1, []), (12, 13, 6, 0, 0, 0, 0, []), (13, 14, 4, 0, 3, 5, 0, []), (14, 15, 3, 0, 3, 0, 0, []), (15, 16, 3, 2, 0, 0, 0, []), (16, 19, 17, 6, 0, 9, 0, [2, 54]), (19, 22, 14, 1, 129, 0, 0, []), (22, 23, 3, 0, 3, 0, 0, []), (23, 24, 0, 0, 0, 0, 1, []), (24, 25, 6, 0, 0, 0, 0, []), (25, 27, 4, 0, 4, 5, 1, []), (27, 29, 3, 0, 4, 1, 0, []), (29, 30, 3, 2, 0, 0, 0, []), (30, 33, 17, 6, 0, 9, 0, [2, 54]), (33, 36, 14, 1, 123, 0, 0, []), (36, 37, 3, 2, 0, 0, 0, []), (37, 38, 3, 0, 2, 0, 0, []), (38, 39, 3, 0, 3, 0, 0, []), (39, 42, 23, 49, 3, 6, 1, []), (42, 45, 15, 4, 117, 0, 0, []), (45, 46, 3, 2, 0, 0, 0, []), (46, 47, 3, 0, 3, 0, 0, []), (47, 49, 3, 0, 4, 1, 0, []), (49, 52, 23, 49, 3, 6, 1, []), (52, 55, 15, 4, 117, 0, 0, []), (55, 56, 3, 2, 0, 0, 0, []), (56, 57, 3, 0, 2, 0, 0, []), (57, 59, 3, 0, 4, 1, 0, []), (59, 62, 23, 49, 3, 6, 1, []), (62, 65, 15, 4, 117, 0, 0, []), (65, 66, 3, 2, 1, 0, 0, []), (66, 67, 3, 2, 0, 0, 0, []), (67, 68, 3, 0, 2, 0, 0, []), (68, 69, 3, 0, 3, 0, 0, []), (69, 72, 23, 61, 3, 6, 1, []), (72, 73, 3, 2, 0, 0, 0, []), (73, 74, 3, 0, 3, 0, 0, []), (74, 76, 3, 0, 4, 1, 0, []), (76, 79, 23, 61, 3, 6, 1, []), (79, 82, 23, 63, 3, 0, 0, []), (82, 83, 3, 2, 1, 0, 0, []), (83, 84, 3, 2, 0, 0, 0, []), (84, 85, 3, 0, 3, 0, 0, []), (85, 87, 3, 0, 4, 1, 0, []), (87, 90, 23, 61, 3, 6, 1, []), (90, 91, 3, 2, 0, 0, 0, []), (91, 92, 3, 0, 2, 0, 0, []), (92, 94, 3, 0, 4, 1, 0, []), (94, 97, 23, 61, 3, 6, 1, []), (97, 100, 23, 63, 3, 0, 0, []), (100, 101, 3, 2, 1, 0, 0, []), (101, 102, 3, 2, 0, 0, 0, []), (102, 103, 3, 0, 2, 0, 0, []), (103, 105, 3, 0, 4, 1, 0, []), (105, 108, 23, 61, 3, 6, 1, []), (108, 109, 3, 2, 0, 0, 0, []), (109, 110, 3, 0, 2, 0, 0, []), (110, 111, 3, 0, 3, 0, 0, []), (111, 114, 23, 61, 3, 6, 1, []), (114, 117, 23, 63, 3, 0, 0, []), (117, 120, 5, 4, 0, 5, 1, []), (120, 123, 12, 0, 27, 0, 0, []), (123, 126, 5, 3, 0, 5, 1, []), (126, 129, 12, 0, 14, 0, 0, []), (129, 132, 5, 2, 0, 5, 1, []), (132, 135, 12, 0, 2, 0, 0, []), (135, 136, 24, 0, 0, 0, 0, [])]
noncomputable def p_X6_tellArrows : rx_P := o_prog o_X6_tellArrows
noncomputable def m_X6_tellArrows : rx_M := (yX6_tellArrows, cX6_tellArrows, 5, none, { frames := 3, cells := 0, slots := 0, locals := 67 }, p_X6_tellArrows)
theorem hd_X6_tellArrows : yX6_tellArrows.cls ≠ "java/lang/invoke/MethodHandle" ∧ yX6_tellArrows.cls ≠ "java/lang/invoke/VarHandle" ∧ (parseMethodDescriptor yX6_tellArrows.desc).map (fun d => d.parameters.length) = some 1 := by decide +kernel
theorem pn_X6_tellArrows : plainName yX6_tellArrows.cls = true := by decide +kernel
abbrev cX6_thirds : ByteArray := prog_8_method_10_code
def yX6_thirds : MethodName := ⟨"SeedBench$Ring", "thirds", "(I)I"⟩
def h_X6_thirds : pm_H := (yX6_thirds, cX6_thirds, 4, (some .int), { frames := 2, cells := 0, slots := 0, locals := 45 })
def o_X6_thirds : pm_P := [(0, 1, 0, 0, 0, 0, 1, []), (1, 2, 4, 0, 2, 4, 0, []), (2, 3, 0, 0, 0, 0, 0, []), (3, 4, 4, 0, 3, 4, 0, []), (4, 5, 3, 0, 3, 0, 0, []), (5, 6, 3, 2, 0, 0, 0, []), (6, 9, 17, 6, 0, 9, 0, [2, 54]), (9, 12, 14, 1, 30, 0, 0, []), (12, 13, 3, 2, 0, 0, 0, []), (13, 14, 3, 0, 1, 0, 0, []), (14, 15, 3, 0, 3, 0, 0, []), (15, 18, 23, 55, 3, 6, 1, []), (18, 21, 15, 4, 24, 0, 0, []), (21, 24, 5, 2, 0, 4, 1, []), (24, 27, 5, 3, 0, 4, 1, []), (27, 30, 12, 0, 4, 0, 0, []), (30, 31, 3, 0, 2, 0, 0, []), (31, 32, 25, 0, 0, 0, 0, [])]
noncomputable def p_X6_thirds : rx_P := o_prog o_X6_thirds
noncomputable def m_X6_thirds : rx_M := (yX6_thirds, cX6_thirds, 4, (some .int), { frames := 2, cells := 0, slots := 0, locals := 45 }, p_X6_thirds)
theorem hd_X6_thirds : yX6_thirds.cls ≠ "java/lang/invoke/MethodHandle" ∧ yX6_thirds.cls ≠ "java/lang/invoke/VarHandle" ∧ (parseMethodDescriptor yX6_thirds.desc).map (fun d => d.parameters.length) = some 1 := by decide +kernel
theorem pn_X6_thirds : plainName yX6_thirds.cls = true := by decide +kernel
abbrev cX7_allTerms : ByteArray := prog_9_method_4_code
def yX7_allTerms : MethodName := ⟨"SeedBench$Seed", "allTerms", "()I"⟩
def h_X7_allTerms : pm_H := (yX7_allTerms, cX7_allTerms, 3, (some .int), { frames := 0, cells := 0, slots := 0, locals := 0 })
def o_X7_allTerms : pm_P := [(0, 1, 0, 0, 0, 0, 0, []), (1, 2, 4, 0, 1, 3, 0, []), (2, 3, 0, 0, 0, 0, 0, []), (3, 4, 4, 0, 2, 3, 0, []), (4, 5, 3, 0, 2, 0, 0, []), (5, 6, 3, 2, 0, 0, 0, []), (6, 9, 17, 7, 0, 29, 0, [1, 63]), (9, 12, 14, 1, 30, 0, 0, []), (12, 13, 3, 0, 1, 0, 0, []), (13, 14, 3, 2, 0, 0, 0, []), (14, 17, 17, 7, 4, 21, 2, [1, 77]), (17, 18, 3, 0, 2, 0, 0, []), (18, 19, 19, 5, 0, 0, 0, []), (19, 22, 17, 8, 1, 50, 0, [1, 42]), (22, 23, 6, 0, 0, 0, 0, []), (23, 24, 4, 0, 1, 3, 0, []), (24, 27, 5, 2, 0, 3, 1, []), (27, 30, 12, 0, 4, 0, 0, []), (30, 31, 3, 0, 1, 0, 0, []), (31, 32, 25, 0, 0, 0, 0, [])]
noncomputable def p_X7_allTerms : rx_P := o_prog o_X7_allTerms
noncomputable def m_X7_allTerms : rx_M := (yX7_allTerms, cX7_allTerms, 3, (some .int), { frames := 0, cells := 0, slots := 0, locals := 0 }, p_X7_allTerms)
theorem hd_X7_allTerms : yX7_allTerms.cls ≠ "java/lang/invoke/MethodHandle" ∧ yX7_allTerms.cls ≠ "java/lang/invoke/VarHandle" ∧ (parseMethodDescriptor yX7_allTerms.desc).map (fun d => d.parameters.length) = some 0 := by decide +kernel
theorem pn_X7_allTerms : plainName yX7_allTerms.cls = true := by decide +kernel
abbrev cX7_copyFrom : ByteArray := prog_9_method_3_code
def yX7_copyFrom : MethodName := ⟨"SeedBench$Seed", "copyFrom", "(LSeedBench$Seed;)V"⟩
def h_X7_copyFrom : pm_H := (yX7_copyFrom, cX7_copyFrom, 3, none, { frames := 2, cells := 0, slots := 0, locals := 42 })
def o_X7_copyFrom : pm_P := [(0, 1, 3, 2, 0, 0, 0, []), (1, 2, 3, 2, 1, 0, 0, []), (2, 5, 17, 7, 0, 29, 0, [1, 63]), (5, 8, 18, 7, 0, 0, 29, [1, 63]), (8, 9, 3, 2, 0, 0, 0, []), (9, 10, 3, 2, 1, 0, 0, []), (10, 13, 17, 7, 1, 33, 0, [1, 67]), (13, 16, 18, 7, 1, 0, 33, [1, 67]), (16, 17, 3, 2, 1, 0, 0, []), (17, 20, 17, 7, 2, 9, 2, [1, 71]), (20, 21, 0, 0, 0, 0, 0, []), (21, 22, 3, 2, 0, 0, 0, []), (22, 25, 17, 7, 2, 9, 2, [1, 71]), (25, 26, 0, 0, 0, 0, 0, []), (26, 28, 0, 1, 0, 0, 72, []), (28, 31, 28, 0, 0, 42, 0, []), (31, 32, 3, 2, 1, 0, 0, []), (32, 35, 17, 7, 3, 15, 2, [1, 75]), (35, 36, 0, 0, 0, 0, 0, []), (36, 37, 3, 2, 0, 0, 0, []), (37, 40, 17, 7, 3, 15, 2, [1, 75]), (40, 41, 0, 0, 0, 0, 0, []), (41, 43, 0, 1, 0, 0, 6, []), (43, 46, 28, 1, 0, 42, 0, []), (46, 47, 0, 0, 0, 0, 0, []), (47, 48, 4, 0, 2, 3, 0, []), (48, 49, 3, 0, 2, 0, 0, []), (49, 50, 3, 2, 0, 0, 0, []), (50, 53, 17, 7, 0, 29, 0, [1, 63]), (53, 56, 14, 1, 77, 0, 0, []), (56, 57, 3, 2, 0, 0, 0, []), (57, 60, 17, 7, 4, 21, 2, [1, 77]), (60, 61, 3, 0, 2, 0, 0, []), (61, 62, 19, 5, 0, 0, 0, []), (62, 63, 3, 2, 1, 0, 0, []), (63, 66, 17, 7, 4, 21, 2, [1, 77]), (66, 67, 3, 0, 2, 0, 0, []), (67, 68, 19, 5, 0, 0, 0, []), (68, 71, 23, 76, 2, 8, 1, []), (71, 74, 5, 2, 0, 3, 1, []), (74, 77, 12, 0, 48, 0, 0, []), (77, 78, 24, 0, 0, 0, 0, [])]
noncomputable def p_X7_copyFrom : rx_P := o_prog o_X7_copyFrom
noncomputable def m_X7_copyFrom : rx_M := (yX7_copyFrom, cX7_copyFrom, 3, none, { frames := 2, cells := 0, slots := 0, locals := 42 }, p_X7_copyFrom)
theorem hd_X7_copyFrom : yX7_copyFrom.cls ≠ "java/lang/invoke/MethodHandle" ∧ yX7_copyFrom.cls ≠ "java/lang/invoke/VarHandle" ∧ (parseMethodDescriptor yX7_copyFrom.desc).map (fun d => d.parameters.length) = some 1 := by decide +kernel
theorem pn_X7_copyFrom : plainName yX7_copyFrom.cls = true := by decide +kernel
abbrev cX7_hasTable : ByteArray := prog_9_method_7_code
def yX7_hasTable : MethodName := ⟨"SeedBench$Seed", "hasTable", "([II[I)Z"⟩
def h_X7_hasTable : pm_H := (yX7_hasTable, cX7_hasTable, 7, (some .boolean), { frames := 0, cells := 0, slots := 0, locals := 0 })
def o_X7_hasTable : pm_P := [(0, 1, 0, 0, 0, 0, 0, []), (1, 3, 4, 0, 4, 7, 1, []), (3, 5, 3, 0, 4, 1, 0, []), (5, 6, 3, 2, 0, 0, 0, []), (6, 9, 17, 7, 0, 29, 0, [1, 63]), (9, 10, 3, 2, 0, 0, 0, []), (10, 13, 17, 7, 1, 33, 0, [1, 67]), (13, 14, 6, 0, 0, 0, 0, []), (14, 17, 14, 1, 93, 0, 0, []), (17, 19, 3, 0, 4, 1, 0, []), (19, 20, 3, 2, 0, 0, 0, []), (20, 23, 17, 7, 0, 29, 0, [1, 63]), (23, 26, 14, 1, 33, 0, 0, []), (26, 27, 3, 2, 3, 0, 0, []), (27, 29, 3, 0, 4, 1, 0, []), (29, 30, 19, 0, 0, 0, 0, []), (30, 33, 12, 0, 35, 0, 0, []), (33, 35, 3, 0, 4, 1, 0, []), (35, 37, 4, 0, 5, 7, 1, []), (37, 38, 0, 0, 0, 0, 0, []), (38, 40, 4, 0, 6, 7, 1, []), (40, 42, 3, 0, 6, 1, 0, []), (42, 43, 3, 2, 0, 0, 0, []), (43, 46, 17, 7, 0, 29, 0, [1, 63]), (46, 49, 14, 1, 87, 0, 0, []), (49, 50, 3, 2, 0, 0, 0, []), (50, 53, 17, 7, 2, 9, 2, [1, 71]), (53, 55, 3, 0, 4, 1, 0, []), (55, 57, 0, 1, 0, 0, 6, []), (57, 58, 6, 2, 0, 0, 0, []), (58, 60, 3, 0, 6, 1, 0, []), (60, 61, 6, 0, 0, 0, 0, []), (61, 62, 19, 0, 0, 0, 0, []), (62, 63, 3, 2, 1, 0, 0, []), (63, 64, 3, 0, 2, 0, 0, []), (64, 66, 3, 0, 5, 1, 0, []), (66, 68, 0, 1, 0, 0, 6, []), (68, 69, 6, 2, 0, 0, 0, []), (69, 70, 6, 0, 0, 0, 0, []), (70, 71, 3, 2, 3, 0, 0, []), (71, 73, 3, 0, 6, 1, 0, []), (73, 74, 19, 0, 0, 0, 0, []), (74, 75, 6, 0, 0, 0, 0, []), (75, 76, 19, 0, 0, 0, 0, []), (76, 79, 14, 4, 81, 0, 0, []), (79, 80, 0, 0, 0, 0, 0, []), (80, 81, 25, 2, 0, 0, 0, []), (81, 84, 5, 6, 0, 7, 1, []), (84, 87, 12, 0, 40, 0, 0, []), (87, 90, 5, 4, 0, 7, 1, []), (90, 93, 12, 0, 3, 0, 0, []), (93, 94, 0, 0, 0, 0, 1, []), (94, 95, 25, 2, 0, 0, 0, [])]
noncomputable def p_X7_hasTable : rx_P := o_prog o_X7_hasTable
noncomputable def m_X7_hasTable : rx_M := (yX7_hasTable, cX7_hasTable, 7, (some .boolean), { frames := 0, cells := 0, slots := 0, locals := 0 }, p_X7_hasTable)
theorem hd_X7_hasTable : yX7_hasTable.cls ≠ "java/lang/invoke/MethodHandle" ∧ yX7_hasTable.cls ≠ "java/lang/invoke/VarHandle" ∧ (parseMethodDescriptor yX7_hasTable.desc).map (fun d => d.parameters.length) = some 3 := by decide +kernel
theorem pn_X7_hasTable : plainName yX7_hasTable.cls = true := by decide +kernel
abbrev cX7_init : ByteArray := prog_9_method_1_code
def yX7_init : MethodName := ⟨"SeedBench$Seed", "<init>", "()V"⟩
def h_X7_init : pm_H := (yX7_init, cX7_init, 2, none, { frames := 2, cells := 22, slots := 15714, locals := 32 })
theorem dX7_init_0 : decode cX7_init 0 = .ok (.aload_n 0, 1) := by decide +kernel
theorem dX7_init_1 : decode cX7_init 1 = .ok (.invokespecial 3, 3) := by decide +kernel
theorem dX7_init_4 : decode cX7_init 4 = .ok (.aload_n 0, 1) := by decide +kernel
theorem dX7_init_5 : decode cX7_init 5 = .ok (.bipush 72, 2) := by decide +kernel
theorem dX7_init_7 : decode cX7_init 7 = .ok (.newarray .int, 2) := by decide +kernel
theorem dX7_init_9 : decode cX7_init 9 = .ok (.putfield 9, 3) := by decide +kernel
theorem dX7_init_12 : decode cX7_init 12 = .ok (.aload_n 0, 1) := by decide +kernel
theorem dX7_init_13 : decode cX7_init 13 = .ok (.bipush 6, 2) := by decide +kernel
theorem dX7_init_15 : decode cX7_init 15 = .ok (.newarray .long, 2) := by decide +kernel
theorem dX7_init_17 : decode cX7_init 17 = .ok (.putfield 15, 3) := by decide +kernel
theorem dX7_init_20 : decode cX7_init 20 = .ok (.aload_n 0, 1) := by decide +kernel
theorem dX7_init_21 : decode cX7_init 21 = .ok (.bipush 6, 2) := by decide +kernel
theorem dX7_init_23 : decode cX7_init 23 = .ok (.anewarray 19, 3) := by decide +kernel
theorem dX7_init_26 : decode cX7_init 26 = .ok (.putfield 21, 3) := by decide +kernel
theorem dX7_init_29 : decode cX7_init 29 = .ok (.aload_n 0, 1) := by decide +kernel
theorem dX7_init_30 : decode cX7_init 30 = .ok (.bipush 6, 2) := by decide +kernel
theorem dX7_init_32 : decode cX7_init 32 = .ok (.newarray .int, 2) := by decide +kernel
theorem dX7_init_34 : decode cX7_init 34 = .ok (.putfield 25, 3) := by decide +kernel
theorem dX7_init_37 : decode cX7_init 37 = .ok (.iconst 0, 1) := by decide +kernel
theorem dX7_init_38 : decode cX7_init 38 = .ok (.istore_n 1, 1) := by decide +kernel
theorem dX7_init_39 : decode cX7_init 39 = .ok (.iload_n 1, 1) := by decide +kernel
theorem dX7_init_40 : decode cX7_init 40 = .ok (.bipush 6, 2) := by decide +kernel
theorem dX7_init_42 : decode cX7_init 42 = .ok (.if_icmp .ge 22, 3) := by decide +kernel
theorem dX7_init_45 : decode cX7_init 45 = .ok (.aload_n 0, 1) := by decide +kernel
theorem dX7_init_46 : decode cX7_init 46 = .ok (.getfield 21, 3) := by decide +kernel
theorem dX7_init_49 : decode cX7_init 49 = .ok (.iload_n 1, 1) := by decide +kernel
theorem dX7_init_50 : decode cX7_init 50 = .ok (.new 19, 3) := by decide +kernel
theorem dX7_init_53 : decode cX7_init 53 = .ok (.dup, 1) := by decide +kernel
theorem dX7_init_54 : decode cX7_init 54 = .ok (.invokespecial 28, 3) := by decide +kernel
theorem dX7_init_57 : decode cX7_init 57 = .ok (.aastore, 1) := by decide +kernel
theorem dX7_init_58 : decode cX7_init 58 = .ok (.iinc 1 1, 3) := by decide +kernel
theorem dX7_init_61 : decode cX7_init 61 = .ok (.goto (-22), 3) := by decide +kernel
theorem dX7_init_64 : decode cX7_init 64 = .ok (.return_, 1) := by decide +kernel
noncomputable def p_X7_init : rx_P := [(0, rx_ld 2 0 1), (1, rx_obj 32 4), (4, rx_ld 2 0 5), (5, rx_pure (rx_push (.int 72)) 7), (7, rx_nwa 0 22 15714 9), (9, rx_putf 7 2 (.array .int) 12), (12, rx_ld 2 0 13), (13, rx_pure (rx_push (.int 6)) 15), (15, rx_nwa 1 22 15714 17), (17, rx_putf 7 3 (.array .long) 20), (20, rx_ld 2 0 21), (21, rx_pure (rx_push (.int 6)) 23), (23, rx_nwa 5 22 15714 26), (26, rx_putf 7 4 (.array (.object "SeedBench$Share")) 29), (29, rx_ld 2 0 30), (30, rx_pure (rx_push (.int 6)) 32), (32, rx_nwa 0 22 15714 34), (34, rx_putf 7 5 (.array .int) 37), (37, rx_pure (rx_push (.int 0)) 38), (38, rx_st 0 1 39 2), (39, rx_ld 0 1 40), (40, rx_pure (rx_push (.int 6)) 42), (42, rx_br (rx_cmp Yo 1) 64 45), (45, rx_ld 2 0 46), (46, rx_get 7 4 49), (49, rx_ld 0 1 50), (50, rx_new 8 fs_X8 22 15714 53), (53, rx_pure rx_dup 54), (54, rx_cl 79 1 8 true 2 2600 22 15714 57), (57, rx_asq 5 8 58), (58, rx_inc 1 1 61 2), (61, rx_br rx_goto 39 64), (64, rx_ret0 22 15714)]
noncomputable def m_X7_init : rx_M := (yX7_init, cX7_init, 2, none, { frames := 2, cells := 22, slots := 15714, locals := 32 }, p_X7_init)
theorem hd_X7_init : yX7_init.cls ≠ "java/lang/invoke/MethodHandle" ∧ yX7_init.cls ≠ "java/lang/invoke/VarHandle" ∧ (parseMethodDescriptor yX7_init.desc).map (fun d => d.parameters.length) = some 0 := by decide +kernel
theorem pn_X7_init : plainName yX7_init.cls = true := by decide +kernel
abbrev cX7_isSameAs : ByteArray := prog_9_method_5_code
def yX7_isSameAs : MethodName := ⟨"SeedBench$Seed", "isSameAs", "(LSeedBench$Seed;)Z"⟩
def h_X7_isSameAs : pm_H := (yX7_isSameAs, cX7_isSameAs, 3, (some .boolean), { frames := 2, cells := 0, slots := 0, locals := 44 })
def o_X7_isSameAs : pm_P := [(0, 1, 3, 2, 0, 0, 0, []), (1, 4, 17, 7, 0, 29, 0, [1, 63]), (4, 5, 3, 2, 1, 0, 0, []), (5, 8, 17, 7, 0, 29, 0, [1, 63]), (8, 11, 14, 5, 22, 0, 0, []), (11, 12, 3, 2, 0, 0, 0, []), (12, 15, 17, 7, 1, 33, 0, [1, 67]), (15, 16, 3, 2, 1, 0, 0, []), (16, 19, 17, 7, 1, 33, 0, [1, 67]), (19, 22, 14, 4, 24, 0, 0, []), (22, 23, 0, 0, 0, 0, 0, []), (23, 24, 25, 2, 0, 0, 0, []), (24, 25, 0, 0, 0, 0, 0, []), (25, 26, 4, 0, 2, 3, 0, []), (26, 27, 3, 0, 2, 0, 0, []), (27, 28, 3, 2, 0, 0, 0, []), (28, 31, 17, 7, 0, 29, 0, [1, 63]), (31, 34, 14, 1, 68, 0, 0, []), (34, 35, 3, 2, 0, 0, 0, []), (35, 38, 17, 7, 5, 25, 2, [1, 81]), (38, 39, 3, 0, 2, 0, 0, []), (39, 40, 3, 2, 1, 0, 0, []), (40, 41, 3, 2, 0, 0, 0, []), (41, 44, 17, 7, 4, 21, 2, [1, 77]), (44, 45, 3, 0, 2, 0, 0, []), (45, 46, 19, 5, 0, 0, 0, []), (46, 49, 23, 71, 2, 7, 1, []), (49, 50, 20, 0, 0, 0, 0, []), (50, 51, 3, 2, 0, 0, 0, []), (51, 54, 17, 7, 5, 25, 2, [1, 81]), (54, 55, 3, 0, 2, 0, 0, []), (55, 56, 19, 0, 0, 0, 0, []), (56, 57, 0, 0, 0, 0, (-1), []), (57, 60, 14, 5, 62, 0, 0, []), (60, 61, 0, 0, 0, 0, 0, []), (61, 62, 25, 2, 0, 0, 0, []), (62, 65, 5, 2, 0, 3, 1, []), (65, 68, 12, 0, 26, 0, 0, []), (68, 69, 3, 2, 0, 0, 0, []), (69, 70, 3, 2, 1, 0, 0, []), (70, 73, 17, 7, 2, 9, 2, [1, 71]), (73, 74, 0, 0, 0, 0, 0, []), (74, 75, 3, 2, 0, 0, 0, []), (75, 78, 17, 7, 5, 25, 2, [1, 81]), (78, 81, 23, 68, 4, 7, 1, []), (81, 82, 25, 2, 0, 0, 0, [])]
noncomputable def p_X7_isSameAs : rx_P := o_prog o_X7_isSameAs
noncomputable def m_X7_isSameAs : rx_M := (yX7_isSameAs, cX7_isSameAs, 3, (some .boolean), { frames := 2, cells := 0, slots := 0, locals := 44 }, p_X7_isSameAs)
theorem hd_X7_isSameAs : yX7_isSameAs.cls ≠ "java/lang/invoke/MethodHandle" ∧ yX7_isSameAs.cls ≠ "java/lang/invoke/VarHandle" ∧ (parseMethodDescriptor yX7_isSameAs.desc).map (fun d => d.parameters.length) = some 1 := by decide +kernel
theorem pn_X7_isSameAs : plainName yX7_isSameAs.cls = true := by decide +kernel
abbrev cX7_placeOf : ByteArray := prog_9_method_6_code
def yX7_placeOf : MethodName := ⟨"SeedBench$Seed", "placeOf", "(LSeedBench$Share;)I"⟩
def h_X7_placeOf : pm_H := (yX7_placeOf, cX7_placeOf, 3, (some .int), { frames := 1, cells := 0, slots := 0, locals := 22 })
def o_X7_placeOf : pm_P := [(0, 1, 0, 0, 0, 0, 0, []), (1, 2, 4, 0, 2, 3, 0, []), (2, 3, 3, 0, 2, 0, 0, []), (3, 4, 3, 2, 0, 0, 0, []), (4, 7, 17, 7, 0, 29, 0, [1, 63]), (7, 10, 14, 1, 31, 0, 0, []), (10, 11, 3, 2, 0, 0, 0, []), (11, 14, 17, 7, 4, 21, 2, [1, 77]), (14, 15, 3, 0, 2, 0, 0, []), (15, 16, 19, 5, 0, 0, 0, []), (16, 17, 3, 2, 1, 0, 0, []), (17, 20, 23, 80, 2, 8, 1, []), (20, 23, 15, 4, 25, 0, 0, []), (23, 24, 3, 0, 2, 0, 0, []), (24, 25, 25, 0, 0, 0, 0, []), (25, 28, 5, 2, 0, 3, 1, []), (28, 31, 12, 0, 2, 0, 0, []), (31, 32, 0, 0, 0, 0, (-1), []), (32, 33, 25, 0, 0, 0, 0, [])]
noncomputable def p_X7_placeOf : rx_P := o_prog o_X7_placeOf
noncomputable def m_X7_placeOf : rx_M := (yX7_placeOf, cX7_placeOf, 3, (some .int), { frames := 1, cells := 0, slots := 0, locals := 22 }, p_X7_placeOf)
theorem hd_X7_placeOf : yX7_placeOf.cls ≠ "java/lang/invoke/MethodHandle" ∧ yX7_placeOf.cls ≠ "java/lang/invoke/VarHandle" ∧ (parseMethodDescriptor yX7_placeOf.desc).map (fun d => d.parameters.length) = some 1 := by decide +kernel
theorem pn_X7_placeOf : plainName yX7_placeOf.cls = true := by decide +kernel
abbrev cX7_start : ByteArray := prog_9_method_2_code
def yX7_start : MethodName := ⟨"SeedBench$Seed", "start", "(II[I[J)V"⟩
def h_X7_start : pm_H := (yX7_start, cX7_start, 6, none, { frames := 2, cells := 0, slots := 0, locals := 44 })
def o_X7_start : pm_P := [(0, 1, 3, 2, 0, 0, 0, []), (1, 2, 3, 0, 1, 0, 0, []), (2, 5, 18, 7, 0, 0, 29, [1, 63]), (5, 6, 3, 2, 0, 0, 0, []), (6, 7, 3, 0, 2, 0, 0, []), (7, 10, 18, 7, 1, 0, 33, [1, 67]), (10, 11, 3, 2, 3, 0, 0, []), (11, 12, 0, 0, 0, 0, 0, []), (12, 13, 3, 2, 0, 0, 0, []), (13, 16, 17, 7, 2, 9, 2, [1, 71]), (16, 17, 0, 0, 0, 0, 0, []), (17, 19, 0, 1, 0, 0, 72, []), (19, 22, 28, 0, 0, 44, 0, []), (22, 24, 3, 2, 4, 1, 0, []), (24, 25, 0, 0, 0, 0, 0, []), (25, 26, 3, 2, 0, 0, 0, []), (26, 29, 17, 7, 3, 15, 2, [1, 75]), (29, 30, 0, 0, 0, 0, 0, []), (30, 32, 0, 1, 0, 0, 6, []), (32, 35, 28, 1, 0, 44, 0, []), (35, 36, 0, 0, 0, 0, 0, []), (36, 38, 4, 0, 5, 6, 1, []), (38, 40, 3, 0, 5, 1, 0, []), (40, 41, 3, 0, 1, 0, 0, []), (41, 44, 14, 1, 65, 0, 0, []), (44, 45, 3, 2, 0, 0, 0, []), (45, 48, 17, 7, 4, 21, 2, [1, 77]), (48, 50, 3, 0, 5, 1, 0, []), (50, 51, 19, 5, 0, 0, 0, []), (51, 53, 3, 0, 5, 1, 0, []), (53, 54, 3, 0, 1, 0, 0, []), (54, 55, 3, 0, 2, 0, 0, []), (55, 56, 6, 0, 0, 0, 0, []), (56, 59, 23, 74, 3, 8, 1, []), (59, 62, 5, 5, 0, 6, 1, []), (62, 65, 12, 0, 38, 0, 0, []), (65, 66, 24, 0, 0, 0, 0, [])]
noncomputable def p_X7_start : rx_P := o_prog o_X7_start
noncomputable def m_X7_start : rx_M := (yX7_start, cX7_start, 6, none, { frames := 2, cells := 0, slots := 0, locals := 44 }, p_X7_start)
theorem hd_X7_start : yX7_start.cls ≠ "java/lang/invoke/MethodHandle" ∧ yX7_start.cls ≠ "java/lang/invoke/VarHandle" ∧ (parseMethodDescriptor yX7_start.desc).map (fun d => d.parameters.length) = some 4 := by decide +kernel
theorem pn_X7_start : plainName yX7_start.cls = true := by decide +kernel
abbrev cX8_add : ByteArray := prog_10_method_7_code
def yX8_add : MethodName := ⟨"SeedBench$Share", "add", "([IJI)I"⟩
def h_X8_add : pm_H := (yX8_add, cX8_add, 7, (some .int), { frames := 1, cells := 0, slots := 0, locals := 28 })
def o_X8_add : pm_P := [(0, 1, 3, 2, 0, 0, 0, []), (1, 2, 3, 2, 1, 0, 0, []), (2, 4, 3, 0, 4, 1, 0, []), (4, 7, 23, 77, 3, 8, 1, []), (7, 9, 4, 0, 5, 7, 1, []), (9, 11, 3, 0, 5, 1, 0, []), (11, 14, 15, 0, 46, 0, 0, []), (14, 15, 3, 2, 0, 0, 0, []), (15, 18, 17, 8, 2, 9, 2, [1, 46]), (18, 20, 3, 0, 5, 1, 0, []), (20, 21, 11, 6, 0, 0, 0, []), (21, 22, 19, 1, 0, 0, 0, []), (22, 23, 3, 1, 2, 0, 0, []), (23, 24, 8, 0, 0, 0, 0, []), (24, 25, 20, 1, 0, 0, 0, []), (25, 26, 3, 2, 0, 0, 0, []), (26, 29, 17, 8, 2, 9, 2, [1, 46]), (29, 31, 3, 0, 5, 1, 0, []), (31, 32, 19, 1, 0, 0, 0, []), (32, 35, 27, 40, 0, 0, 1000000000000, [2, 239]), (35, 36, 11, 4, 0, 0, 0, []), (36, 39, 15, 3, 43, 0, 0, []), (39, 40, 0, 0, 0, 0, (-1), []), (40, 43, 12, 0, 45, 0, 0, []), (43, 45, 3, 0, 5, 1, 0, []), (45, 46, 25, 0, 0, 0, 0, []), (46, 47, 3, 2, 0, 0, 0, []), (47, 50, 17, 8, 1, 23, 0, [1, 41]), (50, 53, 0, 2, 0, 0, 200, []), (53, 56, 14, 1, 64, 0, 0, []), (56, 57, 3, 1, 2, 0, 0, []), (57, 60, 27, 40, 0, 0, 1000000000000, [2, 239]), (60, 61, 11, 4, 0, 0, 0, []), (61, 64, 15, 3, 66, 0, 0, []), (64, 65, 0, 0, 0, 0, (-1), []), (65, 66, 25, 0, 0, 0, 0, []), (66, 67, 0, 0, 0, 0, (-1), []), (67, 69, 3, 0, 5, 1, 0, []), (69, 70, 6, 1, 0, 0, 0, []), (70, 72, 4, 0, 6, 7, 1, []), (72, 73, 3, 2, 0, 0, 0, []), (73, 76, 17, 8, 2, 9, 2, [1, 46]), (76, 78, 3, 0, 6, 1, 0, []), (78, 79, 3, 2, 0, 0, 0, []), (79, 82, 17, 8, 2, 9, 2, [1, 46]), (82, 84, 3, 0, 6, 1, 0, []), (84, 85, 0, 0, 0, 0, 1, []), (85, 86, 6, 0, 0, 0, 0, []), (86, 87, 3, 2, 0, 0, 0, []), (87, 90, 17, 8, 1, 23, 0, [1, 41]), (90, 92, 3, 0, 6, 1, 0, []), (92, 93, 6, 1, 0, 0, 0, []), (93, 96, 28, 1, 0, 28, 0, []), (96, 97, 3, 2, 0, 0, 0, []), (97, 100, 17, 8, 3, 15, 2, [1, 49]), (100, 102, 3, 0, 6, 1, 0, []), (102, 103, 3, 2, 0, 0, 0, []), (103, 106, 17, 8, 0, 19, 0, [1, 38]), (106, 107, 6, 2, 0, 0, 0, []), (107, 108, 3, 2, 0, 0, 0, []), (108, 111, 17, 8, 3, 15, 2, [1, 49]), (111, 113, 3, 0, 6, 1, 0, []), (113, 114, 0, 0, 0, 0, 1, []), (114, 115, 6, 0, 0, 0, 0, []), (115, 116, 3, 2, 0, 0, 0, []), (116, 119, 17, 8, 0, 19, 0, [1, 38]), (119, 120, 6, 2, 0, 0, 0, []), (120, 121, 3, 2, 0, 0, 0, []), (121, 124, 17, 8, 1, 23, 0, [1, 41]), (124, 126, 3, 0, 6, 1, 0, []), (126, 127, 6, 1, 0, 0, 0, []), (127, 128, 3, 2, 0, 0, 0, []), (128, 131, 17, 8, 0, 19, 0, [1, 38]), (131, 132, 6, 2, 0, 0, 0, []), (132, 135, 28, 0, 0, 28, 0, []), (135, 136, 3, 2, 0, 0, 0, []), (136, 139, 17, 8, 2, 9, 2, [1, 46]), (139, 141, 3, 0, 6, 1, 0, []), (141, 142, 3, 1, 2, 0, 0, []), (142, 143, 20, 1, 0, 0, 0, []), (143, 144, 3, 2, 1, 0, 0, []), (144, 145, 0, 0, 0, 0, 0, []), (145, 146, 3, 2, 0, 0, 0, []), (146, 149, 17, 8, 3, 15, 2, [1, 49]), (149, 151, 3, 0, 6, 1, 0, []), (151, 152, 3, 2, 0, 0, 0, []), (152, 155, 17, 8, 0, 19, 0, [1, 38]), (155, 156, 6, 2, 0, 0, 0, []), (156, 157, 3, 2, 0, 0, 0, []), (157, 160, 17, 8, 0, 19, 0, [1, 38]), (160, 163, 28, 0, 0, 28, 0, []), (163, 164, 3, 2, 0, 0, 0, []), (164, 165, 11, 5, 0, 0, 0, []), (165, 168, 17, 8, 1, 23, 0, [1, 41]), (168, 169, 0, 0, 0, 0, 1, []), (169, 170, 6, 0, 0, 0, 0, []), (170, 173, 18, 8, 1, 0, 23, [1, 41]), (173, 175, 3, 0, 6, 1, 0, []), (175, 176, 25, 0, 0, 0, 0, [])]
noncomputable def p_X8_add : rx_P := o_prog o_X8_add
noncomputable def m_X8_add : rx_M := (yX8_add, cX8_add, 7, (some .int), { frames := 1, cells := 0, slots := 0, locals := 28 }, p_X8_add)
theorem hd_X8_add : yX8_add.cls ≠ "java/lang/invoke/MethodHandle" ∧ yX8_add.cls ≠ "java/lang/invoke/VarHandle" ∧ (parseMethodDescriptor yX8_add.desc).map (fun d => d.parameters.length) = some 3 := by decide +kernel
theorem pn_X8_add : plainName yX8_add.cls = true := by decide +kernel
abbrev cX8_becomeVariable : ByteArray := prog_10_method_3_code
def yX8_becomeVariable : MethodName := ⟨"SeedBench$Share", "becomeVariable", "(II)V"⟩
def h_X8_becomeVariable : pm_H := (yX8_becomeVariable, cX8_becomeVariable, 4, none, { frames := 1, cells := 0, slots := 0, locals := 21 })
def o_X8_becomeVariable : pm_P := [(0, 1, 3, 2, 0, 0, 0, []), (1, 2, 3, 0, 2, 0, 0, []), (2, 5, 23, 75, 2, 8, 1, []), (5, 6, 3, 2, 0, 0, 0, []), (6, 7, 0, 0, 0, 0, 1, []), (7, 10, 18, 8, 1, 0, 23, [1, 41]), (10, 11, 3, 2, 0, 0, 0, []), (11, 14, 17, 8, 2, 9, 2, [1, 46]), (14, 15, 0, 0, 0, 0, 0, []), (15, 16, 1, 1, 0, 0, 0, []), (16, 17, 20, 1, 0, 0, 0, []), (17, 18, 0, 0, 0, 0, 0, []), (18, 19, 4, 0, 3, 4, 0, []), (19, 20, 3, 0, 3, 0, 0, []), (20, 21, 3, 0, 2, 0, 0, []), (21, 24, 14, 1, 46, 0, 0, []), (24, 25, 3, 2, 0, 0, 0, []), (25, 28, 17, 8, 3, 15, 2, [1, 49]), (28, 29, 3, 0, 3, 0, 0, []), (29, 30, 3, 0, 3, 0, 0, []), (30, 31, 3, 0, 1, 0, 0, []), (31, 34, 14, 5, 38, 0, 0, []), (34, 35, 0, 0, 0, 0, 1, []), (35, 38, 12, 0, 39, 0, 0, []), (38, 39, 0, 0, 0, 0, 0, []), (39, 40, 20, 0, 0, 0, 0, []), (40, 43, 5, 3, 0, 4, 1, []), (43, 46, 12, 0, 19, 0, 0, []), (46, 47, 24, 0, 0, 0, 0, [])]
noncomputable def p_X8_becomeVariable : rx_P := o_prog o_X8_becomeVariable
noncomputable def m_X8_becomeVariable : rx_M := (yX8_becomeVariable, cX8_becomeVariable, 4, none, { frames := 1, cells := 0, slots := 0, locals := 21 }, p_X8_becomeVariable)
theorem hd_X8_becomeVariable : yX8_becomeVariable.cls ≠ "java/lang/invoke/MethodHandle" ∧ yX8_becomeVariable.cls ≠ "java/lang/invoke/VarHandle" ∧ (parseMethodDescriptor yX8_becomeVariable.desc).map (fun d => d.parameters.length) = some 2 := by decide +kernel
theorem pn_X8_becomeVariable : plainName yX8_becomeVariable.cls = true := by decide +kernel
abbrev cX8_clear : ByteArray := prog_10_method_2_code
def yX8_clear : MethodName := ⟨"SeedBench$Share", "clear", "(I)V"⟩
def h_X8_clear : pm_H := (yX8_clear, cX8_clear, 2, none, { frames := 0, cells := 0, slots := 0, locals := 0 })
def o_X8_clear : pm_P := [(0, 1, 3, 2, 0, 0, 0, []), (1, 2, 3, 0, 1, 0, 0, []), (2, 5, 18, 8, 0, 0, 19, [1, 38]), (5, 6, 3, 2, 0, 0, 0, []), (6, 7, 0, 0, 0, 0, 0, []), (7, 10, 18, 8, 1, 0, 23, [1, 41]), (10, 11, 24, 0, 0, 0, 0, [])]
noncomputable def p_X8_clear : rx_P := o_prog o_X8_clear
noncomputable def m_X8_clear : rx_M := (yX8_clear, cX8_clear, 2, none, { frames := 0, cells := 0, slots := 0, locals := 0 }, p_X8_clear)
theorem hd_X8_clear : yX8_clear.cls ≠ "java/lang/invoke/MethodHandle" ∧ yX8_clear.cls ≠ "java/lang/invoke/VarHandle" ∧ (parseMethodDescriptor yX8_clear.desc).map (fun d => d.parameters.length) = some 1 := by decide +kernel
theorem pn_X8_clear : plainName yX8_clear.cls = true := by decide +kernel
abbrev cX8_copyFrom : ByteArray := prog_10_method_4_code
def yX8_copyFrom : MethodName := ⟨"SeedBench$Share", "copyFrom", "(LSeedBench$Share;)V"⟩
def h_X8_copyFrom : pm_H := (yX8_copyFrom, cX8_copyFrom, 2, none, { frames := 1, cells := 0, slots := 0, locals := 21 })
def o_X8_copyFrom : pm_P := [(0, 1, 3, 2, 0, 0, 0, []), (1, 2, 3, 2, 1, 0, 0, []), (2, 5, 17, 8, 0, 19, 0, [1, 38]), (5, 8, 23, 75, 2, 8, 1, []), (8, 9, 3, 2, 0, 0, 0, []), (9, 10, 3, 2, 1, 0, 0, []), (10, 13, 17, 8, 1, 23, 0, [1, 41]), (13, 16, 18, 8, 1, 0, 23, [1, 41]), (16, 17, 3, 2, 1, 0, 0, []), (17, 20, 17, 8, 2, 9, 2, [1, 46]), (20, 21, 0, 0, 0, 0, 0, []), (21, 22, 3, 2, 0, 0, 0, []), (22, 25, 17, 8, 2, 9, 2, [1, 46]), (25, 26, 0, 0, 0, 0, 0, []), (26, 27, 3, 2, 0, 0, 0, []), (27, 30, 17, 8, 1, 23, 0, [1, 41]), (30, 33, 28, 1, 0, 21, 0, []), (33, 34, 3, 2, 1, 0, 0, []), (34, 37, 17, 8, 3, 15, 2, [1, 49]), (37, 38, 0, 0, 0, 0, 0, []), (38, 39, 3, 2, 0, 0, 0, []), (39, 42, 17, 8, 3, 15, 2, [1, 49]), (42, 43, 0, 0, 0, 0, 0, []), (43, 44, 3, 2, 0, 0, 0, []), (44, 47, 17, 8, 1, 23, 0, [1, 41]), (47, 48, 3, 2, 0, 0, 0, []), (48, 51, 17, 8, 0, 19, 0, [1, 38]), (51, 52, 6, 2, 0, 0, 0, []), (52, 55, 28, 0, 0, 21, 0, []), (55, 56, 24, 0, 0, 0, 0, [])]
noncomputable def p_X8_copyFrom : rx_P := o_prog o_X8_copyFrom
noncomputable def m_X8_copyFrom : rx_M := (yX8_copyFrom, cX8_copyFrom, 2, none, { frames := 1, cells := 0, slots := 0, locals := 21 }, p_X8_copyFrom)
theorem hd_X8_copyFrom : yX8_copyFrom.cls ≠ "java/lang/invoke/MethodHandle" ∧ yX8_copyFrom.cls ≠ "java/lang/invoke/VarHandle" ∧ (parseMethodDescriptor yX8_copyFrom.desc).map (fun d => d.parameters.length) = some 1 := by decide +kernel
theorem pn_X8_copyFrom : plainName yX8_copyFrom.cls = true := by decide +kernel
abbrev cX8_find : ByteArray := prog_10_method_6_code
def yX8_find : MethodName := ⟨"SeedBench$Share", "find", "([II)I"⟩
def h_X8_find : pm_H := (yX8_find, cX8_find, 9, (some .int), { frames := 0, cells := 0, slots := 0, locals := 0 })
def o_X8_find : pm_P := [(0, 1, 3, 0, 2, 0, 0, []), (1, 2, 4, 0, 3, 9, 0, []), (2, 3, 3, 2, 0, 0, 0, []), (3, 6, 17, 8, 1, 23, 0, [1, 41]), (6, 7, 0, 0, 0, 0, 1, []), (7, 8, 6, 1, 0, 0, 0, []), (8, 10, 4, 0, 4, 9, 1, []), (10, 11, 0, 0, 0, 0, 0, []), (11, 13, 4, 0, 5, 9, 1, []), (13, 15, 3, 0, 5, 1, 0, []), (15, 18, 0, 2, 0, 0, 200, []), (18, 21, 14, 1, 128, 0, 0, []), (21, 22, 3, 0, 3, 0, 0, []), (22, 24, 3, 0, 4, 1, 0, []), (24, 27, 14, 2, 128, 0, 0, []), (27, 28, 3, 0, 3, 0, 0, []), (28, 30, 3, 0, 4, 1, 0, []), (30, 31, 6, 0, 0, 0, 0, []), (31, 32, 0, 0, 0, 0, 1, []), (32, 33, 6, 8, 0, 0, 0, []), (33, 35, 4, 0, 6, 9, 1, []), (35, 37, 3, 0, 6, 1, 0, []), (37, 38, 3, 2, 0, 0, 0, []), (38, 41, 17, 8, 0, 19, 0, [1, 38]), (41, 42, 6, 2, 0, 0, 0, []), (42, 44, 4, 0, 7, 9, 1, []), (44, 45, 0, 0, 0, 0, 0, []), (45, 47, 4, 0, 8, 9, 1, []), (47, 49, 3, 0, 8, 1, 0, []), (49, 50, 3, 2, 0, 0, 0, []), (50, 53, 17, 8, 0, 19, 0, [1, 38]), (53, 56, 14, 1, 79, 0, 0, []), (56, 57, 3, 2, 0, 0, 0, []), (57, 60, 17, 8, 3, 15, 2, [1, 49]), (60, 62, 3, 0, 7, 1, 0, []), (62, 64, 3, 0, 8, 1, 0, []), (64, 65, 6, 0, 0, 0, 0, []), (65, 66, 19, 0, 0, 0, 0, []), (66, 67, 3, 2, 1, 0, 0, []), (67, 69, 3, 0, 8, 1, 0, []), (69, 70, 19, 0, 0, 0, 0, []), (70, 73, 14, 5, 79, 0, 0, []), (73, 76, 5, 8, 0, 9, 1, []), (76, 79, 12, 0, 47, 0, 0, []), (79, 81, 3, 0, 8, 1, 0, []), (81, 82, 3, 2, 0, 0, 0, []), (82, 85, 17, 8, 0, 19, 0, [1, 38]), (85, 88, 14, 5, 91, 0, 0, []), (88, 90, 3, 0, 6, 1, 0, []), (90, 91, 25, 0, 0, 0, 0, []), (91, 92, 3, 2, 0, 0, 0, []), (92, 95, 17, 8, 3, 15, 2, [1, 49]), (95, 97, 3, 0, 7, 1, 0, []), (97, 99, 3, 0, 8, 1, 0, []), (99, 100, 6, 0, 0, 0, 0, []), (100, 101, 19, 0, 0, 0, 0, []), (101, 102, 3, 2, 1, 0, 0, []), (102, 104, 3, 0, 8, 1, 0, []), (104, 105, 19, 0, 0, 0, 0, []), (105, 108, 14, 3, 116, 0, 0, []), (108, 110, 3, 0, 6, 1, 0, []), (110, 111, 0, 0, 0, 0, 1, []), (111, 112, 6, 0, 0, 0, 0, []), (112, 113, 4, 0, 3, 9, 0, []), (113, 116, 12, 0, 122, 0, 0, []), (116, 118, 3, 0, 6, 1, 0, []), (118, 119, 0, 0, 0, 0, 1, []), (119, 120, 6, 1, 0, 0, 0, []), (120, 122, 4, 0, 4, 9, 1, []), (122, 125, 5, 5, 0, 9, 1, []), (125, 128, 12, 0, 13, 0, 0, []), (128, 129, 0, 0, 0, 0, (-1), []), (129, 130, 3, 0, 3, 0, 0, []), (130, 131, 6, 1, 0, 0, 0, []), (131, 132, 25, 0, 0, 0, 0, [])]
noncomputable def p_X8_find : rx_P := o_prog o_X8_find
noncomputable def m_X8_find : rx_M := (yX8_find, cX8_find, 9, (some .int), { frames := 0, cells := 0, slots := 0, locals := 0 }, p_X8_find)
theorem hd_X8_find : yX8_find.cls ≠ "java/lang/invoke/MethodHandle" ∧ yX8_find.cls ≠ "java/lang/invoke/VarHandle" ∧ (parseMethodDescriptor yX8_find.desc).map (fun d => d.parameters.length) = some 2 := by decide +kernel
theorem pn_X8_find : plainName yX8_find.cls = true := by decide +kernel
abbrev cX8_hasVariable : ByteArray := prog_10_method_5_code
def yX8_hasVariable : MethodName := ⟨"SeedBench$Share", "hasVariable", "(I)Z"⟩
def h_X8_hasVariable : pm_H := (yX8_hasVariable, cX8_hasVariable, 2, (some .boolean), { frames := 0, cells := 0, slots := 0, locals := 0 })
def o_X8_hasVariable : pm_P := [(0, 1, 3, 0, 1, 0, 0, []), (1, 4, 15, 0, 16, 0, 0, []), (4, 5, 3, 0, 1, 0, 0, []), (5, 6, 3, 2, 0, 0, 0, []), (6, 9, 17, 8, 0, 19, 0, [1, 38]), (9, 12, 14, 1, 16, 0, 0, []), (12, 13, 0, 0, 0, 0, 1, []), (13, 16, 12, 0, 17, 0, 0, []), (16, 17, 0, 0, 0, 0, 0, []), (17, 18, 25, 2, 0, 0, 0, [])]
noncomputable def p_X8_hasVariable : rx_P := o_prog o_X8_hasVariable
noncomputable def m_X8_hasVariable : rx_M := (yX8_hasVariable, cX8_hasVariable, 2, (some .boolean), { frames := 0, cells := 0, slots := 0, locals := 0 }, p_X8_hasVariable)
theorem hd_X8_hasVariable : yX8_hasVariable.cls ≠ "java/lang/invoke/MethodHandle" ∧ yX8_hasVariable.cls ≠ "java/lang/invoke/VarHandle" ∧ (parseMethodDescriptor yX8_hasVariable.desc).map (fun d => d.parameters.length) = some 1 := by decide +kernel
theorem pn_X8_hasVariable : plainName yX8_hasVariable.cls = true := by decide +kernel
abbrev cX8_init : ByteArray := prog_10_method_1_code
def yX8_init : MethodName := ⟨"SeedBench$Share", "<init>", "()V"⟩
def h_X8_init : pm_H := (yX8_init, cX8_init, 1, none, { frames := 1, cells := 2, slots := 2600, locals := 12 })
theorem dX8_init_0 : decode cX8_init 0 = .ok (.aload_n 0, 1) := by decide +kernel
theorem dX8_init_1 : decode cX8_init 1 = .ok (.invokespecial 3, 3) := by decide +kernel
theorem dX8_init_4 : decode cX8_init 4 = .ok (.aload_n 0, 1) := by decide +kernel
theorem dX8_init_5 : decode cX8_init 5 = .ok (.sipush 200, 3) := by decide +kernel
theorem dX8_init_8 : decode cX8_init 8 = .ok (.newarray .long, 2) := by decide +kernel
theorem dX8_init_10 : decode cX8_init 10 = .ok (.putfield 9, 3) := by decide +kernel
theorem dX8_init_13 : decode cX8_init 13 = .ok (.aload_n 0, 1) := by decide +kernel
theorem dX8_init_14 : decode cX8_init 14 = .ok (.sipush 2400, 3) := by decide +kernel
theorem dX8_init_17 : decode cX8_init 17 = .ok (.newarray .int, 2) := by decide +kernel
theorem dX8_init_19 : decode cX8_init 19 = .ok (.putfield 15, 3) := by decide +kernel
theorem dX8_init_22 : decode cX8_init 22 = .ok (.return_, 1) := by decide +kernel
noncomputable def p_X8_init : rx_P := [(0, rx_ld 2 0 1), (1, rx_obj 12 4), (4, rx_ld 2 0 5), (5, rx_pure (rx_push (.int 200)) 8), (8, rx_nwa 1 2 2600 10), (10, rx_putf 8 2 (.array .long) 13), (13, rx_ld 2 0 14), (14, rx_pure (rx_push (.int 2400)) 17), (17, rx_nwa 0 2 2600 19), (19, rx_putf 8 3 (.array .int) 22), (22, rx_ret0 2 2600)]
noncomputable def m_X8_init : rx_M := (yX8_init, cX8_init, 1, none, { frames := 1, cells := 2, slots := 2600, locals := 12 }, p_X8_init)
theorem hd_X8_init : yX8_init.cls ≠ "java/lang/invoke/MethodHandle" ∧ yX8_init.cls ≠ "java/lang/invoke/VarHandle" ∧ (parseMethodDescriptor yX8_init.desc).map (fun d => d.parameters.length) = some 0 := by decide +kernel
theorem pn_X8_init : plainName yX8_init.cls = true := by decide +kernel
abbrev cX8_isLike : ByteArray := prog_10_method_8_code
def yX8_isLike : MethodName := ⟨"SeedBench$Share", "isLike", "(LSeedBench$Share;)Z"⟩
def h_X8_isLike : pm_H := (yX8_isLike, cX8_isLike, 3, (some .boolean), { frames := 0, cells := 0, slots := 0, locals := 0 })
def o_X8_isLike : pm_P := [(0, 1, 3, 2, 0, 0, 0, []), (1, 4, 17, 8, 1, 23, 0, [1, 41]), (4, 5, 3, 2, 1, 0, 0, []), (5, 8, 17, 8, 1, 23, 0, [1, 41]), (8, 11, 14, 5, 22, 0, 0, []), (11, 12, 3, 2, 0, 0, 0, []), (12, 15, 17, 8, 0, 19, 0, [1, 38]), (15, 16, 3, 2, 1, 0, 0, []), (16, 19, 17, 8, 0, 19, 0, [1, 38]), (19, 22, 14, 4, 24, 0, 0, []), (22, 23, 0, 0, 0, 0, 0, []), (23, 24, 25, 2, 0, 0, 0, []), (24, 25, 0, 0, 0, 0, 0, []), (25, 26, 4, 0, 2, 3, 0, []), (26, 27, 3, 0, 2, 0, 0, []), (27, 28, 3, 2, 0, 0, 0, []), (28, 31, 17, 8, 1, 23, 0, [1, 41]), (31, 34, 14, 1, 58, 0, 0, []), (34, 35, 3, 2, 0, 0, 0, []), (35, 38, 17, 8, 2, 9, 2, [1, 46]), (38, 39, 3, 0, 2, 0, 0, []), (39, 40, 19, 1, 0, 0, 0, []), (40, 41, 3, 2, 1, 0, 0, []), (41, 44, 17, 8, 2, 9, 2, [1, 46]), (44, 45, 3, 0, 2, 0, 0, []), (45, 46, 19, 1, 0, 0, 0, []), (46, 47, 11, 4, 0, 0, 0, []), (47, 50, 15, 4, 52, 0, 0, []), (50, 51, 0, 0, 0, 0, 0, []), (51, 52, 25, 2, 0, 0, 0, []), (52, 55, 5, 2, 0, 3, 1, []), (55, 58, 12, 0, 26, 0, 0, []), (58, 59, 0, 0, 0, 0, 0, []), (59, 60, 4, 0, 2, 3, 0, []), (60, 61, 3, 0, 2, 0, 0, []), (61, 62, 3, 2, 0, 0, 0, []), (62, 65, 17, 8, 1, 23, 0, [1, 41]), (65, 66, 3, 2, 0, 0, 0, []), (66, 69, 17, 8, 0, 19, 0, [1, 38]), (69, 70, 6, 2, 0, 0, 0, []), (70, 73, 14, 1, 96, 0, 0, []), (73, 74, 3, 2, 0, 0, 0, []), (74, 77, 17, 8, 3, 15, 2, [1, 49]), (77, 78, 3, 0, 2, 0, 0, []), (78, 79, 19, 0, 0, 0, 0, []), (79, 80, 3, 2, 1, 0, 0, []), (80, 83, 17, 8, 3, 15, 2, [1, 49]), (83, 84, 3, 0, 2, 0, 0, []), (84, 85, 19, 0, 0, 0, 0, []), (85, 88, 14, 4, 90, 0, 0, []), (88, 89, 0, 0, 0, 0, 0, []), (89, 90, 25, 2, 0, 0, 0, []), (90, 93, 5, 2, 0, 3, 1, []), (93, 96, 12, 0, 60, 0, 0, []), (96, 97, 0, 0, 0, 0, 1, []), (97, 98, 25, 2, 0, 0, 0, [])]
noncomputable def p_X8_isLike : rx_P := o_prog o_X8_isLike
noncomputable def m_X8_isLike : rx_M := (yX8_isLike, cX8_isLike, 3, (some .boolean), { frames := 0, cells := 0, slots := 0, locals := 0 }, p_X8_isLike)
theorem hd_X8_isLike : yX8_isLike.cls ≠ "java/lang/invoke/MethodHandle" ∧ yX8_isLike.cls ≠ "java/lang/invoke/VarHandle" ∧ (parseMethodDescriptor yX8_isLike.desc).map (fun d => d.parameters.length) = some 1 := by decide +kernel
theorem pn_X8_isLike : plainName yX8_isLike.cls = true := by decide +kernel
abbrev cX8_leastPower : ByteArray := prog_10_method_9_code
def yX8_leastPower : MethodName := ⟨"SeedBench$Share", "leastPower", "(I)I"⟩
def h_X8_leastPower : pm_H := (yX8_leastPower, cX8_leastPower, 4, (some .int), { frames := 1, cells := 0, slots := 0, locals := 13 })
def o_X8_leastPower : pm_P := [(0, 1, 3, 2, 0, 0, 0, []), (1, 4, 17, 8, 1, 23, 0, [1, 41]), (4, 7, 15, 3, 16, 0, 0, []), (7, 8, 3, 2, 0, 0, 0, []), (8, 11, 17, 8, 3, 15, 2, [1, 49]), (11, 12, 3, 0, 1, 0, 0, []), (12, 13, 19, 0, 0, 0, 0, []), (13, 16, 12, 0, 17, 0, 0, []), (16, 17, 0, 0, 0, 0, 0, []), (17, 18, 4, 0, 2, 4, 0, []), (18, 19, 0, 0, 0, 0, 1, []), (19, 20, 4, 0, 3, 4, 0, []), (20, 21, 3, 0, 3, 0, 0, []), (21, 22, 3, 2, 0, 0, 0, []), (22, 25, 17, 8, 1, 23, 0, [1, 41]), (25, 28, 14, 1, 52, 0, 0, []), (28, 29, 3, 0, 2, 0, 0, []), (29, 30, 3, 2, 0, 0, 0, []), (30, 33, 17, 8, 3, 15, 2, [1, 49]), (33, 34, 3, 0, 3, 0, 0, []), (34, 35, 3, 2, 0, 0, 0, []), (35, 38, 17, 8, 0, 19, 0, [1, 38]), (38, 39, 6, 2, 0, 0, 0, []), (39, 40, 3, 0, 1, 0, 0, []), (40, 41, 6, 0, 0, 0, 0, []), (41, 42, 19, 0, 0, 0, 0, []), (42, 45, 29, 1, 0, 13, 0, []), (45, 46, 4, 0, 2, 4, 0, []), (46, 49, 5, 3, 0, 4, 1, []), (49, 52, 12, 0, 20, 0, 0, []), (52, 53, 3, 0, 2, 0, 0, []), (53, 54, 25, 0, 0, 0, 0, [])]
noncomputable def p_X8_leastPower : rx_P := o_prog o_X8_leastPower
noncomputable def m_X8_leastPower : rx_M := (yX8_leastPower, cX8_leastPower, 4, (some .int), { frames := 1, cells := 0, slots := 0, locals := 13 }, p_X8_leastPower)
theorem hd_X8_leastPower : yX8_leastPower.cls ≠ "java/lang/invoke/MethodHandle" ∧ yX8_leastPower.cls ≠ "java/lang/invoke/VarHandle" ∧ (parseMethodDescriptor yX8_leastPower.desc).map (fun d => d.parameters.length) = some 1 := by decide +kernel
theorem pn_X8_leastPower : plainName yX8_leastPower.cls = true := by decide +kernel
abbrev cX8_sum : ByteArray := prog_10_method_10_code
def yX8_sum : MethodName := ⟨"SeedBench$Share", "sum", "()J"⟩
def h_X8_sum : pm_H := (yX8_sum, cX8_sum, 4, (some .long), { frames := 0, cells := 0, slots := 0, locals := 0 })
def o_X8_sum : pm_P := [(0, 1, 1, 0, 0, 0, 0, []), (1, 2, 4, 1, 1, 4, 0, []), (2, 3, 0, 0, 0, 0, 0, []), (3, 4, 4, 0, 3, 4, 0, []), (4, 5, 3, 0, 3, 0, 0, []), (5, 6, 3, 2, 0, 0, 0, []), (6, 9, 17, 8, 1, 23, 0, [1, 41]), (9, 12, 14, 1, 27, 0, 0, []), (12, 13, 3, 1, 1, 0, 0, []), (13, 14, 3, 2, 0, 0, 0, []), (14, 17, 17, 8, 2, 9, 2, [1, 46]), (17, 18, 3, 0, 3, 0, 0, []), (18, 19, 19, 1, 0, 0, 0, []), (19, 20, 8, 0, 0, 0, 0, []), (20, 21, 4, 1, 1, 4, 0, []), (21, 24, 5, 3, 0, 4, 1, []), (24, 27, 12, 0, 4, 0, 0, []), (27, 28, 3, 1, 1, 0, 0, []), (28, 29, 25, 1, 0, 0, 0, [])]
noncomputable def p_X8_sum : rx_P := o_prog o_X8_sum
noncomputable def m_X8_sum : rx_M := (yX8_sum, cX8_sum, 4, (some .long), { frames := 0, cells := 0, slots := 0, locals := 0 }, p_X8_sum)
theorem hd_X8_sum : yX8_sum.cls ≠ "java/lang/invoke/MethodHandle" ∧ yX8_sum.cls ≠ "java/lang/invoke/VarHandle" ∧ (parseMethodDescriptor yX8_sum.desc).map (fun d => d.parameters.length) = some 0 := by decide +kernel
theorem pn_X8_sum : plainName yX8_sum.cls = true := by decide +kernel
abbrev cX9_all : ByteArray := prog_1_method_15_code
def yX9_all : MethodName := ⟨"SeedBench", "all", "()I"⟩
def h_X9_all : pm_H := (yX9_all, cX9_all, 2, (some .int), { frames := 6, cells := 0, slots := 0, locals := 164 })
def o_X9_all : pm_P := [(0, 1, 3, 2, 0, 0, 0, []), (1, 4, 17, 9, 9, 47, 2, [2, 102]), (4, 5, 3, 2, 0, 0, 0, []), (5, 8, 17, 9, 0, 12, 2, [2, 93]), (8, 9, 3, 2, 0, 0, 0, []), (9, 12, 17, 9, 2, 26, 2, [2, 95]), (12, 15, 23, 7, 3, 0, 1, []), (15, 16, 4, 0, 1, 2, 0, []), (16, 17, 3, 2, 0, 0, 0, []), (17, 18, 3, 0, 1, 0, 0, []), (18, 19, 0, 0, 0, 0, 0, []), (19, 22, 29, 0, 0, 164, 0, []), (22, 25, 18, 9, 10, 0, 178, [2, 103]), (25, 26, 3, 0, 1, 0, 0, []), (26, 27, 25, 0, 0, 0, 0, [])]
noncomputable def p_X9_all : rx_P := o_prog o_X9_all
noncomputable def m_X9_all : rx_M := (yX9_all, cX9_all, 2, (some .int), { frames := 6, cells := 0, slots := 0, locals := 164 }, p_X9_all)
theorem hd_X9_all : yX9_all.cls ≠ "java/lang/invoke/MethodHandle" ∧ yX9_all.cls ≠ "java/lang/invoke/VarHandle" ∧ (parseMethodDescriptor yX9_all.desc).map (fun d => d.parameters.length) = some 0 := by decide +kernel
theorem pn_X9_all : plainName yX9_all.cls = true := by decide +kernel
abbrev cX9_arrows : ByteArray := prog_1_method_3_code
def yX9_arrows : MethodName := ⟨"SeedBench", "arrows", "(III)Z"⟩
def h_X9_arrows : pm_H := (yX9_arrows, cX9_arrows, 4, (some .boolean), { frames := 1, cells := 0, slots := 0, locals := 23 })
def o_X9_arrows : pm_P := [(0, 1, 3, 2, 0, 0, 0, []), (1, 4, 17, 9, 1, 19, 2, [2, 94]), (4, 7, 17, 2, 0, 95, 0, [1, 102]), (7, 8, 3, 2, 0, 0, 0, []), (8, 11, 17, 9, 1, 19, 2, [2, 94]), (11, 14, 17, 2, 1, 99, 0, [1, 104]), (14, 15, 3, 0, 1, 0, 0, []), (15, 16, 3, 0, 2, 0, 0, []), (16, 19, 23, 95, 4, 0, 0, []), (19, 22, 15, 4, 34, 0, 0, []), (22, 23, 3, 0, 3, 0, 0, []), (23, 25, 0, 1, 0, 0, (-9), []), (25, 28, 14, 0, 34, 0, 0, []), (28, 29, 3, 0, 3, 0, 0, []), (29, 31, 0, 1, 0, 0, 9, []), (31, 34, 14, 3, 36, 0, 0, []), (34, 35, 0, 0, 0, 0, 0, []), (35, 36, 25, 2, 0, 0, 0, []), (36, 37, 3, 2, 0, 0, 0, []), (37, 40, 17, 9, 1, 19, 2, [2, 94]), (40, 43, 17, 2, 2, 78, 2, [1, 106]), (43, 44, 3, 0, 1, 0, 0, []), (44, 46, 0, 1, 0, 0, 6, []), (46, 47, 6, 2, 0, 0, 0, []), (47, 48, 3, 0, 2, 0, 0, []), (48, 49, 6, 0, 0, 0, 0, []), (49, 50, 3, 0, 3, 0, 0, []), (50, 51, 20, 0, 0, 0, 0, []), (51, 52, 0, 0, 0, 0, 1, []), (52, 53, 25, 2, 0, 0, 0, [])]
noncomputable def p_X9_arrows : rx_P := o_prog o_X9_arrows
noncomputable def m_X9_arrows : rx_M := (yX9_arrows, cX9_arrows, 4, (some .boolean), { frames := 1, cells := 0, slots := 0, locals := 23 }, p_X9_arrows)
theorem hd_X9_arrows : yX9_arrows.cls ≠ "java/lang/invoke/MethodHandle" ∧ yX9_arrows.cls ≠ "java/lang/invoke/VarHandle" ∧ (parseMethodDescriptor yX9_arrows.desc).map (fun d => d.parameters.length) = some 3 := by decide +kernel
theorem pn_X9_arrows : plainName yX9_arrows.cls = true := by decide +kernel
abbrev cX9_b : ByteArray := prog_1_method_8_code
def yX9_b : MethodName := ⟨"SeedBench", "b", "(II)I"⟩
def h_X9_b : pm_H := (yX9_b, cX9_b, 3, (some .int), { frames := 1, cells := 0, slots := 0, locals := 23 })
def o_X9_b : pm_P := [(0, 1, 3, 2, 0, 0, 0, []), (1, 4, 17, 9, 0, 12, 2, [2, 93]), (4, 7, 17, 7, 0, 137, 0, [1, 66]), (7, 8, 3, 2, 0, 0, 0, []), (8, 11, 17, 9, 0, 12, 2, [2, 93]), (11, 14, 17, 7, 1, 138, 0, [1, 70]), (14, 15, 3, 0, 1, 0, 0, []), (15, 16, 3, 0, 2, 0, 0, []), (16, 19, 23, 95, 4, 0, 0, []), (19, 22, 15, 4, 39, 0, 0, []), (22, 23, 3, 2, 0, 0, 0, []), (23, 26, 17, 9, 0, 12, 2, [2, 93]), (26, 29, 17, 7, 2, 139, 2, [1, 74]), (29, 30, 3, 0, 1, 0, 0, []), (30, 32, 0, 1, 0, 0, 6, []), (32, 33, 6, 2, 0, 0, 0, []), (33, 34, 3, 0, 2, 0, 0, []), (34, 35, 6, 0, 0, 0, 0, []), (35, 36, 19, 0, 0, 0, 0, []), (36, 39, 12, 0, 40, 0, 0, []), (39, 40, 0, 0, 0, 0, 0, []), (40, 41, 25, 0, 0, 0, 0, [])]
noncomputable def p_X9_b : rx_P := o_prog o_X9_b
noncomputable def m_X9_b : rx_M := (yX9_b, cX9_b, 3, (some .int), { frames := 1, cells := 0, slots := 0, locals := 23 }, p_X9_b)
theorem hd_X9_b : yX9_b.cls ≠ "java/lang/invoke/MethodHandle" ∧ yX9_b.cls ≠ "java/lang/invoke/VarHandle" ∧ (parseMethodDescriptor yX9_b.desc).map (fun d => d.parameters.length) = some 2 := by decide +kernel
theorem pn_X9_b : plainName yX9_b.cls = true := by decide +kernel
abbrev cX9_back : ByteArray := prog_1_method_7_code
def yX9_back : MethodName := ⟨"SeedBench", "back", "()Z"⟩
def h_X9_back : pm_H := (yX9_back, cX9_back, 2, (some .boolean), { frames := 5, cells := 0, slots := 0, locals := 140 })
def o_X9_back : pm_P := [(0, 1, 3, 2, 0, 0, 0, []), (1, 4, 17, 9, 4, 121, 0, [2, 97]), (4, 5, 0, 0, 0, 0, 1, []), (5, 8, 14, 0, 17, 0, 0, []), (8, 9, 3, 2, 0, 0, 0, []), (9, 12, 17, 9, 4, 121, 0, [2, 97]), (12, 14, 0, 1, 0, 0, 100, []), (14, 17, 14, 3, 19, 0, 0, []), (17, 18, 0, 0, 0, 0, 0, []), (18, 19, 25, 2, 0, 0, 0, []), (19, 20, 3, 2, 0, 0, 0, []), (20, 23, 17, 9, 3, 30, 2, [2, 96]), (23, 24, 3, 2, 0, 0, 0, []), (24, 27, 17, 9, 4, 121, 0, [2, 97]), (27, 28, 0, 0, 0, 0, 1, []), (28, 29, 6, 1, 0, 0, 0, []), (29, 30, 19, 0, 0, 0, 0, []), (30, 31, 4, 0, 1, 2, 0, []), (31, 32, 3, 2, 0, 0, 0, []), (32, 33, 3, 0, 1, 0, 0, []), (33, 36, 23, 96, 2, 9, 1, []), (36, 39, 15, 4, 54, 0, 0, []), (39, 40, 3, 2, 0, 0, 0, []), (40, 43, 17, 9, 2, 26, 2, [2, 95]), (43, 44, 3, 2, 0, 0, 0, []), (44, 47, 17, 9, 0, 12, 2, [2, 93]), (47, 48, 3, 0, 1, 0, 0, []), (48, 51, 23, 42, 3, 5, 1, []), (51, 54, 15, 5, 56, 0, 0, []), (54, 55, 0, 0, 0, 0, 0, []), (55, 56, 25, 2, 0, 0, 0, []), (56, 57, 3, 2, 0, 0, 0, []), (57, 60, 17, 9, 2, 26, 2, [2, 95]), (60, 61, 3, 2, 0, 0, 0, []), (61, 64, 17, 9, 0, 12, 2, [2, 93]), (64, 65, 3, 0, 1, 0, 0, []), (65, 68, 23, 47, 3, 5, 1, []), (68, 69, 3, 2, 0, 0, 0, []), (69, 70, 11, 5, 0, 0, 0, []), (70, 73, 17, 9, 4, 121, 0, [2, 97]), (73, 74, 0, 0, 0, 0, 1, []), (74, 75, 6, 1, 0, 0, 0, []), (75, 78, 18, 9, 4, 0, 121, [2, 97]), (78, 79, 0, 0, 0, 0, 1, []), (79, 80, 25, 2, 0, 0, 0, [])]
noncomputable def p_X9_back : rx_P := o_prog o_X9_back
noncomputable def m_X9_back : rx_M := (yX9_back, cX9_back, 2, (some .boolean), { frames := 5, cells := 0, slots := 0, locals := 140 }, p_X9_back)
theorem hd_X9_back : yX9_back.cls ≠ "java/lang/invoke/MethodHandle" ∧ yX9_back.cls ≠ "java/lang/invoke/VarHandle" ∧ (parseMethodDescriptor yX9_back.desc).map (fun d => d.parameters.length) = some 0 := by decide +kernel
theorem pn_X9_back : plainName yX9_back.cls = true := by decide +kernel
abbrev cX9_begin : ByteArray := prog_1_method_4_code
def yX9_begin : MethodName := ⟨"SeedBench", "begin", "()I"⟩
def h_X9_begin : pm_H := (yX9_begin, cX9_begin, 2, (some .int), { frames := 5, cells := 0, slots := 0, locals := 135 })
def o_X9_begin : pm_P := [(0, 1, 3, 2, 0, 0, 0, []), (1, 4, 17, 9, 1, 19, 2, [2, 94]), (4, 7, 17, 2, 0, 95, 0, [1, 102]), (7, 10, 15, 5, 12, 0, 0, []), (10, 11, 0, 0, 0, 0, (-1), []), (11, 12, 25, 0, 0, 0, 0, []), (12, 13, 3, 2, 0, 0, 0, []), (13, 16, 17, 9, 1, 19, 2, [2, 94]), (16, 19, 23, 21, 1, 2, 1, []), (19, 20, 4, 0, 1, 2, 0, []), (20, 21, 3, 0, 1, 0, 0, []), (21, 24, 15, 5, 28, 0, 0, []), (24, 25, 3, 2, 0, 0, 0, []), (25, 28, 23, 109, 1, 9, 1, []), (28, 29, 3, 0, 1, 0, 0, []), (29, 30, 25, 0, 0, 0, 0, [])]
noncomputable def p_X9_begin : rx_P := o_prog o_X9_begin
noncomputable def m_X9_begin : rx_M := (yX9_begin, cX9_begin, 2, (some .int), { frames := 5, cells := 0, slots := 0, locals := 135 }, p_X9_begin)
theorem hd_X9_begin : yX9_begin.cls ≠ "java/lang/invoke/MethodHandle" ∧ yX9_begin.cls ≠ "java/lang/invoke/VarHandle" ∧ (parseMethodDescriptor yX9_begin.desc).map (fun d => d.parameters.length) = some 0 := by decide +kernel
theorem pn_X9_begin : plainName yX9_begin.cls = true := by decide +kernel
abbrev cX9_count : ByteArray := prog_1_method_30_code
def yX9_count : MethodName := ⟨"SeedBench", "count", "(I)I"⟩
def h_X9_count : pm_H := (yX9_count, cX9_count, 2, (some .int), { frames := 1, cells := 0, slots := 0, locals := 22 })
def o_X9_count : pm_P := [(0, 1, 3, 0, 1, 0, 0, []), (1, 36, 16, 0, 70, 35, 0, [36, 44, 52, 57, 65]), (36, 37, 3, 2, 0, 0, 0, []), (37, 40, 17, 9, 0, 12, 2, [2, 93]), (40, 43, 17, 7, 0, 137, 0, [1, 66]), (43, 44, 25, 0, 0, 0, 0, []), (44, 45, 3, 2, 0, 0, 0, []), (45, 48, 17, 9, 0, 12, 2, [2, 93]), (48, 51, 17, 7, 1, 138, 0, [1, 70]), (51, 52, 25, 0, 0, 0, 0, []), (52, 53, 3, 2, 0, 0, 0, []), (53, 56, 17, 9, 4, 121, 0, [2, 97]), (56, 57, 25, 0, 0, 0, 0, []), (57, 58, 3, 2, 0, 0, 0, []), (58, 61, 17, 9, 0, 12, 2, [2, 93]), (61, 64, 23, 66, 1, 7, 1, []), (64, 65, 25, 0, 0, 0, 0, []), (65, 66, 3, 2, 0, 0, 0, []), (66, 69, 17, 9, 10, 178, 0, [2, 103]), (69, 70, 25, 0, 0, 0, 0, []), (70, 71, 0, 0, 0, 0, (-1), []), (71, 72, 25, 0, 0, 0, 0, [])]
noncomputable def p_X9_count : rx_P := o_prog o_X9_count
noncomputable def m_X9_count : rx_M := (yX9_count, cX9_count, 2, (some .int), { frames := 1, cells := 0, slots := 0, locals := 22 }, p_X9_count)
theorem hd_X9_count : yX9_count.cls ≠ "java/lang/invoke/MethodHandle" ∧ yX9_count.cls ≠ "java/lang/invoke/VarHandle" ∧ (parseMethodDescriptor yX9_count.desc).map (fun d => d.parameters.length) = some 1 := by decide +kernel
theorem pn_X9_count : plainName yX9_count.cls = true := by decide +kernel
abbrev cX9_fence : ByteArray := prog_1_method_23_code
def yX9_fence : MethodName := ⟨"SeedBench", "fence", "(III)I"⟩
def h_X9_fence : pm_H := (yX9_fence, cX9_fence, 5, (some .int), { frames := 3, cells := 0, slots := 0, locals := 69 })
def o_X9_fence : pm_P := [(0, 1, 3, 0, 1, 0, 0, []), (1, 4, 23, 97, 1, 0, 0, []), (4, 7, 15, 5, 9, 0, 0, []), (7, 8, 0, 0, 0, 0, (-1), []), (8, 9, 25, 0, 0, 0, 0, []), (9, 10, 3, 2, 0, 0, 0, []), (10, 13, 17, 9, 13, 67, 2, [2, 106]), (13, 14, 3, 0, 1, 0, 0, []), (14, 15, 19, 3, 0, 0, 0, []), (15, 17, 4, 2, 4, 5, 1, []), (17, 19, 3, 2, 4, 1, 0, []), (19, 20, 3, 0, 2, 0, 0, []), (20, 23, 23, 57, 2, 6, 1, []), (23, 26, 15, 4, 50, 0, 0, []), (26, 28, 3, 2, 4, 1, 0, []), (28, 29, 3, 0, 3, 0, 0, []), (29, 32, 23, 57, 2, 6, 1, []), (32, 35, 15, 4, 50, 0, 0, []), (35, 36, 3, 0, 2, 0, 0, []), (36, 37, 3, 0, 3, 0, 0, []), (37, 40, 14, 4, 50, 0, 0, []), (40, 42, 3, 2, 4, 1, 0, []), (42, 43, 3, 0, 2, 0, 0, []), (43, 44, 3, 0, 3, 0, 0, []), (44, 47, 23, 50, 3, 6, 1, []), (47, 50, 15, 4, 52, 0, 0, []), (50, 51, 0, 0, 0, 0, (-1), []), (51, 52, 25, 0, 0, 0, 0, []), (52, 54, 3, 2, 4, 1, 0, []), (54, 55, 3, 0, 2, 0, 0, []), (55, 56, 3, 0, 3, 0, 0, []), (56, 59, 23, 55, 3, 6, 1, []), (59, 62, 15, 5, 80, 0, 0, []), (62, 64, 3, 2, 4, 1, 0, []), (64, 65, 3, 0, 2, 0, 0, []), (65, 66, 3, 0, 3, 0, 0, []), (66, 69, 29, 1, 0, 69, 0, []), (69, 70, 3, 0, 2, 0, 0, []), (70, 71, 3, 0, 3, 0, 0, []), (71, 74, 29, 0, 0, 69, 0, []), (74, 77, 23, 58, 3, 6, 1, []), (77, 80, 15, 4, 82, 0, 0, []), (80, 81, 0, 0, 0, 0, (-1), []), (81, 82, 25, 0, 0, 0, 0, []), (82, 84, 3, 2, 4, 1, 0, []), (84, 85, 11, 5, 0, 0, 0, []), (85, 88, 17, 6, 1, 217, 1, [2, 59]), (88, 89, 3, 0, 2, 0, 0, []), (89, 90, 3, 0, 3, 0, 0, []), (90, 93, 23, 51, 2, 0, 0, []), (93, 94, 8, 4, 0, 0, 0, []), (94, 97, 18, 6, 1, 1, 217, [2, 59]), (97, 99, 3, 2, 4, 1, 0, []), (99, 102, 23, 53, 1, 6, 1, []), (102, 103, 25, 0, 0, 0, 0, [])]
noncomputable def p_X9_fence : rx_P := o_prog o_X9_fence
noncomputable def m_X9_fence : rx_M := (yX9_fence, cX9_fence, 5, (some .int), { frames := 3, cells := 0, slots := 0, locals := 69 }, p_X9_fence)
theorem hd_X9_fence : yX9_fence.cls ≠ "java/lang/invoke/MethodHandle" ∧ yX9_fence.cls ≠ "java/lang/invoke/VarHandle" ∧ (parseMethodDescriptor yX9_fence.desc).map (fun d => d.parameters.length) = some 3 := by decide +kernel
theorem pn_X9_fence : plainName yX9_fence.cls = true := by decide +kernel
abbrev cX9_finite : ByteArray := prog_1_method_17_code
def yX9_finite : MethodName := ⟨"SeedBench", "finite", "()I"⟩
def h_X9_finite : pm_H := (yX9_finite, cX9_finite, 1, (some .int), { frames := 4, cells := 0, slots := 0, locals := 90 })
def o_X9_finite : pm_P := [(0, 1, 3, 2, 0, 0, 0, []), (1, 4, 17, 9, 12, 61, 2, [2, 105]), (4, 5, 3, 2, 0, 0, 0, []), (5, 8, 17, 9, 0, 12, 2, [2, 93]), (8, 11, 17, 7, 2, 139, 2, [1, 74]), (11, 12, 3, 2, 0, 0, 0, []), (12, 15, 17, 9, 0, 12, 2, [2, 93]), (15, 18, 17, 7, 0, 137, 0, [1, 66]), (18, 19, 3, 2, 0, 0, 0, []), (19, 22, 17, 9, 11, 54, 2, [2, 104]), (22, 25, 23, 35, 4, 4, 1, []), (25, 26, 25, 0, 0, 0, 0, [])]
noncomputable def p_X9_finite : rx_P := o_prog o_X9_finite
noncomputable def m_X9_finite : rx_M := (yX9_finite, cX9_finite, 1, (some .int), { frames := 4, cells := 0, slots := 0, locals := 90 }, p_X9_finite)
theorem hd_X9_finite : yX9_finite.cls ≠ "java/lang/invoke/MethodHandle" ∧ yX9_finite.cls ≠ "java/lang/invoke/VarHandle" ∧ (parseMethodDescriptor yX9_finite.desc).map (fun d => d.parameters.length) = some 0 := by decide +kernel
theorem pn_X9_finite : plainName yX9_finite.cls = true := by decide +kernel
abbrev cX9_flip : ByteArray := prog_1_method_24_code
def yX9_flip : MethodName := ⟨"SeedBench", "flip", "(III)I"⟩
def h_X9_flip : pm_H := (yX9_flip, cX9_flip, 6, (some .int), { frames := 4, cells := 0, slots := 0, locals := 92 })
def o_X9_flip : pm_P := [(0, 1, 3, 0, 1, 0, 0, []), (1, 4, 23, 97, 1, 0, 0, []), (4, 7, 15, 4, 19, 0, 0, []), (7, 8, 3, 2, 0, 0, 0, []), (8, 11, 17, 9, 13, 67, 2, [2, 106]), (11, 12, 3, 0, 1, 0, 0, []), (12, 13, 19, 3, 0, 0, 0, []), (13, 16, 23, 59, 1, 6, 1, []), (16, 19, 15, 5, 21, 0, 0, []), (19, 20, 0, 0, 0, 0, (-1), []), (20, 21, 25, 0, 0, 0, 0, []), (21, 22, 3, 2, 0, 0, 0, []), (22, 25, 17, 9, 13, 67, 2, [2, 106]), (25, 26, 3, 0, 1, 0, 0, []), (26, 27, 19, 3, 0, 0, 0, []), (27, 29, 4, 2, 4, 6, 1, []), (29, 31, 3, 2, 4, 1, 0, []), (31, 32, 3, 0, 2, 0, 0, []), (32, 35, 23, 57, 2, 6, 1, []), (35, 38, 15, 4, 57, 0, 0, []), (38, 40, 3, 2, 4, 1, 0, []), (40, 41, 3, 0, 3, 0, 0, []), (41, 44, 23, 57, 2, 6, 1, []), (44, 47, 15, 4, 57, 0, 0, []), (47, 49, 3, 2, 4, 1, 0, []), (49, 50, 3, 0, 2, 0, 0, []), (50, 51, 3, 0, 3, 0, 0, []), (51, 54, 23, 55, 3, 6, 1, []), (54, 57, 15, 5, 59, 0, 0, []), (57, 58, 0, 0, 0, 0, (-1), []), (58, 59, 25, 0, 0, 0, 0, []), (59, 61, 3, 2, 4, 1, 0, []), (61, 62, 3, 0, 2, 0, 0, []), (62, 63, 3, 0, 3, 0, 0, []), (63, 66, 29, 1, 0, 92, 0, []), (66, 67, 3, 0, 2, 0, 0, []), (67, 68, 3, 0, 3, 0, 0, []), (68, 71, 29, 0, 0, 92, 0, []), (71, 74, 23, 60, 3, 6, 1, []), (74, 76, 4, 0, 5, 6, 1, []), (76, 78, 3, 0, 5, 1, 0, []), (78, 79, 0, 0, 0, 0, (-1), []), (79, 82, 14, 4, 111, 0, 0, []), (82, 84, 3, 2, 4, 1, 0, []), (84, 85, 11, 5, 0, 0, 0, []), (85, 88, 17, 6, 1, 217, 1, [2, 59]), (88, 89, 3, 0, 2, 0, 0, []), (89, 90, 3, 0, 3, 0, 0, []), (90, 93, 23, 51, 2, 0, 0, []), (93, 95, 3, 0, 5, 1, 0, []), (95, 97, 0, 1, 0, 0, 100, []), (97, 98, 7, 0, 0, 0, 0, []), (98, 100, 3, 0, 5, 1, 0, []), (100, 102, 0, 1, 0, 0, 100, []), (102, 103, 7, 1, 0, 0, 0, []), (103, 106, 23, 51, 2, 0, 0, []), (106, 107, 8, 5, 0, 0, 0, []), (107, 108, 8, 5, 0, 0, 0, []), (108, 111, 18, 6, 1, 1, 217, [2, 59]), (111, 113, 3, 0, 5, 1, 0, []), (113, 114, 25, 0, 0, 0, 0, [])]
noncomputable def p_X9_flip : rx_P := o_prog o_X9_flip
noncomputable def m_X9_flip : rx_M := (yX9_flip, cX9_flip, 6, (some .int), { frames := 4, cells := 0, slots := 0, locals := 92 }, p_X9_flip)
theorem hd_X9_flip : yX9_flip.cls ≠ "java/lang/invoke/MethodHandle" ∧ yX9_flip.cls ≠ "java/lang/invoke/VarHandle" ∧ (parseMethodDescriptor yX9_flip.desc).map (fun d => d.parameters.length) = some 3 := by decide +kernel
theorem pn_X9_flip : plainName yX9_flip.cls = true := by decide +kernel
abbrev cX9_frieze : ByteArray := prog_1_method_26_code
def yX9_frieze : MethodName := ⟨"SeedBench", "frieze", "(III)J"⟩
def h_X9_frieze : pm_H := (yX9_frieze, cX9_frieze, 4, (some .long), { frames := 4, cells := 0, slots := 0, locals := 97 })
def o_X9_frieze : pm_P := [(0, 1, 3, 0, 1, 0, 0, []), (1, 4, 23, 97, 1, 0, 0, []), (4, 7, 15, 4, 32, 0, 0, []), (7, 8, 3, 2, 0, 0, 0, []), (8, 11, 17, 9, 13, 67, 2, [2, 106]), (11, 12, 3, 0, 1, 0, 0, []), (12, 13, 19, 3, 0, 0, 0, []), (13, 16, 23, 59, 1, 6, 1, []), (16, 19, 15, 4, 32, 0, 0, []), (19, 20, 3, 2, 0, 0, 0, []), (20, 23, 17, 9, 13, 67, 2, [2, 106]), (23, 24, 3, 0, 1, 0, 0, []), (24, 25, 19, 3, 0, 0, 0, []), (25, 26, 3, 0, 2, 0, 0, []), (26, 29, 23, 57, 2, 6, 1, []), (29, 32, 15, 5, 34, 0, 0, []), (32, 33, 1, 0, 0, 0, 0, []), (33, 34, 25, 1, 0, 0, 0, []), (34, 35, 3, 0, 3, 0, 0, []), (35, 36, 3, 0, 2, 0, 0, []), (36, 39, 14, 0, 54, 0, 0, []), (39, 40, 3, 0, 3, 0, 0, []), (40, 41, 3, 0, 2, 0, 0, []), (41, 42, 3, 2, 0, 0, 0, []), (42, 45, 17, 9, 13, 67, 2, [2, 106]), (45, 46, 3, 0, 1, 0, 0, []), (46, 47, 19, 3, 0, 0, 0, []), (47, 50, 17, 6, 0, 214, 0, [2, 56]), (50, 51, 6, 0, 0, 0, 0, []), (51, 54, 14, 3, 56, 0, 0, []), (54, 55, 1, 0, 0, 0, 0, []), (55, 56, 25, 1, 0, 0, 0, []), (56, 57, 3, 2, 0, 0, 0, []), (57, 60, 17, 9, 13, 67, 2, [2, 106]), (60, 61, 3, 0, 1, 0, 0, []), (61, 62, 19, 3, 0, 0, 0, []), (62, 63, 3, 0, 2, 0, 0, []), (63, 64, 3, 0, 3, 0, 0, []), (64, 67, 23, 54, 3, 6, 1, []), (67, 68, 25, 1, 0, 0, 0, [])]
noncomputable def p_X9_frieze : rx_P := o_prog o_X9_frieze
noncomputable def m_X9_frieze : rx_M := (yX9_frieze, cX9_frieze, 4, (some .long), { frames := 4, cells := 0, slots := 0, locals := 97 }, p_X9_frieze)
theorem hd_X9_frieze : yX9_frieze.cls ≠ "java/lang/invoke/MethodHandle" ∧ yX9_frieze.cls ≠ "java/lang/invoke/VarHandle" ∧ (parseMethodDescriptor yX9_frieze.desc).map (fun d => d.parameters.length) = some 3 := by decide +kernel
theorem pn_X9_frieze : plainName yX9_frieze.cls = true := by decide +kernel
abbrev cX9_goes : ByteArray := prog_1_method_28_code
def yX9_goes : MethodName := ⟨"SeedBench", "goes", "(I)I"⟩
def h_X9_goes : pm_H := (yX9_goes, cX9_goes, 2, (some .int), { frames := 0, cells := 0, slots := 0, locals := 0 })
def o_X9_goes : pm_P := [(0, 1, 3, 0, 1, 0, 0, []), (1, 4, 15, 0, 15, 0, 0, []), (4, 5, 3, 0, 1, 0, 0, []), (5, 6, 3, 2, 0, 0, 0, []), (6, 9, 17, 9, 14, 74, 2, [2, 107]), (9, 12, 17, 3, 0, 262, 0, [2, 66]), (12, 15, 14, 0, 19, 0, 0, []), (15, 16, 0, 0, 0, 0, (-1), []), (16, 19, 12, 0, 28, 0, 0, []), (19, 20, 3, 2, 0, 0, 0, []), (20, 23, 17, 9, 14, 74, 2, [2, 107]), (23, 26, 17, 3, 1, 265, 2, [2, 68]), (26, 27, 3, 0, 1, 0, 0, []), (27, 28, 19, 0, 0, 0, 0, []), (28, 29, 25, 0, 0, 0, 0, [])]
noncomputable def p_X9_goes : rx_P := o_prog o_X9_goes
noncomputable def m_X9_goes : rx_M := (yX9_goes, cX9_goes, 2, (some .int), { frames := 0, cells := 0, slots := 0, locals := 0 }, p_X9_goes)
theorem hd_X9_goes : yX9_goes.cls ≠ "java/lang/invoke/MethodHandle" ∧ yX9_goes.cls ≠ "java/lang/invoke/VarHandle" ∧ (parseMethodDescriptor yX9_goes.desc).map (fun d => d.parameters.length) = some 1 := by decide +kernel
theorem pn_X9_goes : plainName yX9_goes.cls = true := by decide +kernel
abbrev cX9_init : ByteArray := prog_1_method_1_code
def yX9_init : MethodName := ⟨"SeedBench", "<init>", "()V"⟩
def h_X9_init : pm_H := (yX9_init, cX9_init, 2, none, { frames := 4, cells := 513, slots := 421477, locals := 74 })
theorem dX9_init_0 : decode cX9_init 0 = .ok (.aload_n 0, 1) := by decide +kernel
theorem dX9_init_1 : decode cX9_init 1 = .ok (.invokespecial 3, 3) := by decide +kernel
theorem dX9_init_4 : decode cX9_init 4 = .ok (.aload_n 0, 1) := by decide +kernel
theorem dX9_init_5 : decode cX9_init 5 = .ok (.new 9, 3) := by decide +kernel
theorem dX9_init_8 : decode cX9_init 8 = .ok (.dup, 1) := by decide +kernel
theorem dX9_init_9 : decode cX9_init 9 = .ok (.invokespecial 11, 3) := by decide +kernel
theorem dX9_init_12 : decode cX9_init 12 = .ok (.putfield 12, 3) := by decide +kernel
theorem dX9_init_15 : decode cX9_init 15 = .ok (.aload_n 0, 1) := by decide +kernel
theorem dX9_init_16 : decode cX9_init 16 = .ok (.new 16, 3) := by decide +kernel
theorem dX9_init_19 : decode cX9_init 19 = .ok (.dup, 1) := by decide +kernel
theorem dX9_init_20 : decode cX9_init 20 = .ok (.invokespecial 18, 3) := by decide +kernel
theorem dX9_init_23 : decode cX9_init 23 = .ok (.putfield 19, 3) := by decide +kernel
theorem dX9_init_26 : decode cX9_init 26 = .ok (.aload_n 0, 1) := by decide +kernel
theorem dX9_init_27 : decode cX9_init 27 = .ok (.new 23, 3) := by decide +kernel
theorem dX9_init_30 : decode cX9_init 30 = .ok (.dup, 1) := by decide +kernel
theorem dX9_init_31 : decode cX9_init 31 = .ok (.invokespecial 25, 3) := by decide +kernel
theorem dX9_init_34 : decode cX9_init 34 = .ok (.putfield 26, 3) := by decide +kernel
theorem dX9_init_37 : decode cX9_init 37 = .ok (.aload_n 0, 1) := by decide +kernel
theorem dX9_init_38 : decode cX9_init 38 = .ok (.bipush 100, 2) := by decide +kernel
theorem dX9_init_40 : decode cX9_init 40 = .ok (.newarray .int, 2) := by decide +kernel
theorem dX9_init_42 : decode cX9_init 42 = .ok (.putfield 30, 3) := by decide +kernel
theorem dX9_init_45 : decode cX9_init 45 = .ok (.aload_n 0, 1) := by decide +kernel
theorem dX9_init_46 : decode cX9_init 46 = .ok (.iconst 4, 1) := by decide +kernel
theorem dX9_init_47 : decode cX9_init 47 = .ok (.anewarray 9, 3) := by decide +kernel
theorem dX9_init_50 : decode cX9_init 50 = .ok (.putfield 34, 3) := by decide +kernel
theorem dX9_init_53 : decode cX9_init 53 = .ok (.aload_n 0, 1) := by decide +kernel
theorem dX9_init_54 : decode cX9_init 54 = .ok (.bipush 12, 2) := by decide +kernel
theorem dX9_init_56 : decode cX9_init 56 = .ok (.newarray .int, 2) := by decide +kernel
theorem dX9_init_58 : decode cX9_init 58 = .ok (.putfield 38, 3) := by decide +kernel
theorem dX9_init_61 : decode cX9_init 61 = .ok (.aload_n 0, 1) := by decide +kernel
theorem dX9_init_62 : decode cX9_init 62 = .ok (.new 9, 3) := by decide +kernel
theorem dX9_init_65 : decode cX9_init 65 = .ok (.dup, 1) := by decide +kernel
theorem dX9_init_66 : decode cX9_init 66 = .ok (.invokespecial 11, 3) := by decide +kernel
theorem dX9_init_69 : decode cX9_init 69 = .ok (.putfield 41, 3) := by decide +kernel
theorem dX9_init_72 : decode cX9_init 72 = .ok (.aload_n 0, 1) := by decide +kernel
theorem dX9_init_73 : decode cX9_init 73 = .ok (.new 44, 3) := by decide +kernel
theorem dX9_init_76 : decode cX9_init 76 = .ok (.dup, 1) := by decide +kernel
theorem dX9_init_77 : decode cX9_init 77 = .ok (.invokespecial 46, 3) := by decide +kernel
theorem dX9_init_80 : decode cX9_init 80 = .ok (.putfield 47, 3) := by decide +kernel
theorem dX9_init_83 : decode cX9_init 83 = .ok (.aload_n 0, 1) := by decide +kernel
theorem dX9_init_84 : decode cX9_init 84 = .ok (.new 51, 3) := by decide +kernel
theorem dX9_init_87 : decode cX9_init 87 = .ok (.dup, 1) := by decide +kernel
theorem dX9_init_88 : decode cX9_init 88 = .ok (.invokespecial 53, 3) := by decide +kernel
theorem dX9_init_91 : decode cX9_init 91 = .ok (.putfield 54, 3) := by decide +kernel
theorem dX9_init_94 : decode cX9_init 94 = .ok (.aload_n 0, 1) := by decide +kernel
theorem dX9_init_95 : decode cX9_init 95 = .ok (.new 58, 3) := by decide +kernel
theorem dX9_init_98 : decode cX9_init 98 = .ok (.dup, 1) := by decide +kernel
theorem dX9_init_99 : decode cX9_init 99 = .ok (.invokespecial 60, 3) := by decide +kernel
theorem dX9_init_102 : decode cX9_init 102 = .ok (.putfield 61, 3) := by decide +kernel
theorem dX9_init_105 : decode cX9_init 105 = .ok (.aload_n 0, 1) := by decide +kernel
theorem dX9_init_106 : decode cX9_init 106 = .ok (.iconst 2, 1) := by decide +kernel
theorem dX9_init_107 : decode cX9_init 107 = .ok (.anewarray 65, 3) := by decide +kernel
theorem dX9_init_110 : decode cX9_init 110 = .ok (.putfield 67, 3) := by decide +kernel
theorem dX9_init_113 : decode cX9_init 113 = .ok (.aload_n 0, 1) := by decide +kernel
theorem dX9_init_114 : decode cX9_init 114 = .ok (.new 71, 3) := by decide +kernel
theorem dX9_init_117 : decode cX9_init 117 = .ok (.dup, 1) := by decide +kernel
theorem dX9_init_118 : decode cX9_init 118 = .ok (.invokespecial 73, 3) := by decide +kernel
theorem dX9_init_121 : decode cX9_init 121 = .ok (.putfield 74, 3) := by decide +kernel
theorem dX9_init_124 : decode cX9_init 124 = .ok (.aload_n 0, 1) := by decide +kernel
theorem dX9_init_125 : decode cX9_init 125 = .ok (.getfield 12, 3) := by decide +kernel
theorem dX9_init_128 : decode cX9_init 128 = .ok (.iconst 1, 1) := by decide +kernel
theorem dX9_init_129 : decode cX9_init 129 = .ok (.iconst 0, 1) := by decide +kernel
theorem dX9_init_130 : decode cX9_init 130 = .ok (.aload_n 0, 1) := by decide +kernel
theorem dX9_init_131 : decode cX9_init 131 = .ok (.getfield 19, 3) := by decide +kernel
theorem dX9_init_134 : decode cX9_init 134 = .ok (.getfield 78, 3) := by decide +kernel
theorem dX9_init_137 : decode cX9_init 137 = .ok (.aload_n 0, 1) := by decide +kernel
theorem dX9_init_138 : decode cX9_init 138 = .ok (.getfield 19, 3) := by decide +kernel
theorem dX9_init_141 : decode cX9_init 141 = .ok (.getfield 81, 3) := by decide +kernel
theorem dX9_init_144 : decode cX9_init 144 = .ok (.invokevirtual 85, 3) := by decide +kernel
theorem dX9_init_147 : decode cX9_init 147 = .ok (.aload_n 0, 1) := by decide +kernel
theorem dX9_init_148 : decode cX9_init 148 = .ok (.getfield 12, 3) := by decide +kernel
theorem dX9_init_151 : decode cX9_init 151 = .ok (.getfield 89, 3) := by decide +kernel
theorem dX9_init_154 : decode cX9_init 154 = .ok (.iconst 0, 1) := by decide +kernel
theorem dX9_init_155 : decode cX9_init 155 = .ok (.lconst 1, 1) := by decide +kernel
theorem dX9_init_156 : decode cX9_init 156 = .ok (.lastore, 1) := by decide +kernel
theorem dX9_init_157 : decode cX9_init 157 = .ok (.iconst 0, 1) := by decide +kernel
theorem dX9_init_158 : decode cX9_init 158 = .ok (.istore_n 1, 1) := by decide +kernel
theorem dX9_init_159 : decode cX9_init 159 = .ok (.iload_n 1, 1) := by decide +kernel
theorem dX9_init_160 : decode cX9_init 160 = .ok (.iconst 4, 1) := by decide +kernel
theorem dX9_init_161 : decode cX9_init 161 = .ok (.if_icmp .ge 22, 3) := by decide +kernel
theorem dX9_init_164 : decode cX9_init 164 = .ok (.aload_n 0, 1) := by decide +kernel
theorem dX9_init_165 : decode cX9_init 165 = .ok (.getfield 34, 3) := by decide +kernel
theorem dX9_init_168 : decode cX9_init 168 = .ok (.iload_n 1, 1) := by decide +kernel
theorem dX9_init_169 : decode cX9_init 169 = .ok (.new 9, 3) := by decide +kernel
theorem dX9_init_172 : decode cX9_init 172 = .ok (.dup, 1) := by decide +kernel
theorem dX9_init_173 : decode cX9_init 173 = .ok (.invokespecial 11, 3) := by decide +kernel
theorem dX9_init_176 : decode cX9_init 176 = .ok (.aastore, 1) := by decide +kernel
theorem dX9_init_177 : decode cX9_init 177 = .ok (.iinc 1 1, 3) := by decide +kernel
theorem dX9_init_180 : decode cX9_init 180 = .ok (.goto (-21), 3) := by decide +kernel
theorem dX9_init_183 : decode cX9_init 183 = .ok (.iconst 0, 1) := by decide +kernel
theorem dX9_init_184 : decode cX9_init 184 = .ok (.istore_n 1, 1) := by decide +kernel
theorem dX9_init_185 : decode cX9_init 185 = .ok (.iload_n 1, 1) := by decide +kernel
theorem dX9_init_186 : decode cX9_init 186 = .ok (.iconst 2, 1) := by decide +kernel
theorem dX9_init_187 : decode cX9_init 187 = .ok (.if_icmp .ge 22, 3) := by decide +kernel
theorem dX9_init_190 : decode cX9_init 190 = .ok (.aload_n 0, 1) := by decide +kernel
theorem dX9_init_191 : decode cX9_init 191 = .ok (.getfield 67, 3) := by decide +kernel
theorem dX9_init_194 : decode cX9_init 194 = .ok (.iload_n 1, 1) := by decide +kernel
theorem dX9_init_195 : decode cX9_init 195 = .ok (.new 65, 3) := by decide +kernel
theorem dX9_init_198 : decode cX9_init 198 = .ok (.dup, 1) := by decide +kernel
theorem dX9_init_199 : decode cX9_init 199 = .ok (.invokespecial 90, 3) := by decide +kernel
theorem dX9_init_202 : decode cX9_init 202 = .ok (.aastore, 1) := by decide +kernel
theorem dX9_init_203 : decode cX9_init 203 = .ok (.iinc 1 1, 3) := by decide +kernel
theorem dX9_init_206 : decode cX9_init 206 = .ok (.goto (-21), 3) := by decide +kernel
theorem dX9_init_209 : decode cX9_init 209 = .ok (.return_, 1) := by decide +kernel
noncomputable def p_X9_init : rx_P := [(0, rx_ld 2 0 1), (1, rx_obj 74 4), (4, rx_ld 2 0 5), (5, rx_new 7 fs_X7 513 421477 8), (8, rx_pure rx_dup 9), (9, rx_cl 69 1 7 true 22 15714 513 421477 12), (12, rx_putf 9 0 (.object "SeedBench$Seed") 15), (15, rx_ld 2 0 16), (16, rx_new 2 fs_X2 513 421477 19), (19, rx_pure rx_dup 20), (20, rx_cl 24 1 2 true 3 84 513 421477 23), (23, rx_putf 9 1 (.object "SeedBench$Draft") 26), (26, rx_ld 2 0 27), (27, rx_new 5 fs_X5 513 421477 30), (30, rx_pure rx_dup 31), (31, rx_cl 43 1 5 true 17 13044 513 421477 34), (34, rx_putf 9 2 (.object "SeedBench$Mill") 37), (37, rx_ld 2 0 38), (38, rx_pure (rx_push (.int 100)) 40), (40, rx_nwa 0 513 421477 42), (42, rx_putf 9 3 (.array .int) 45), (45, rx_ld 2 0 46), (46, rx_pure (rx_push (.int 4)) 47), (47, rx_nwa 4 513 421477 50), (50, rx_putf 9 5 (.array (.object "SeedBench$Seed")) 53), (53, rx_ld 2 0 54), (54, rx_pure (rx_push (.int 12)) 56), (56, rx_nwa 0 513 421477 58), (58, rx_putf 9 6 (.array .int) 61), (61, rx_ld 2 0 62), (62, rx_new 7 fs_X7 513 421477 65), (65, rx_pure rx_dup 66), (66, rx_cl 69 1 7 true 22 15714 513 421477 69), (69, rx_putf 9 8 (.object "SeedBench$Seed") 72), (72, rx_ld 2 0 73), (73, rx_new 0 fs_X0 513 421477 76), (76, rx_pure rx_dup 77), (77, rx_cl 9 1 0 true 334 290532 513 421477 80), (80, rx_putf 9 9 (.object "SeedBench$Atlas") 83), (83, rx_ld 2 0 84), (84, rx_new 1 fs_X1 513 421477 87), (87, rx_pure rx_dup 88), (88, rx_cl 19 1 1 true 5 20192 513 421477 91), (91, rx_putf 9 11 (.object "SeedBench$Book") 94), (94, rx_ld 2 0 95), (95, rx_new 4 fs_X4 513 421477 98), (98, rx_pure rx_dup 99), (99, rx_cl 33 1 4 true 2 3072 513 421477 102), (102, rx_putf 9 12 (.object "SeedBench$Kinds") 105), (105, rx_ld 2 0 106), (106, rx_pure (rx_push (.int 2)) 107), (107, rx_nwa 3 513 421477 110), (110, rx_putf 9 13 (.array (.object "SeedBench$Ring")) 113), (113, rx_ld 2 0 114), (114, rx_new 3 fs_X3 513 421477 117), (117, rx_pure rx_dup 118), (118, rx_cl 30 1 3 true 2 66 513 421477 121), (121, rx_putf 9 14 (.object "SeedBench$Guide") 124), (124, rx_ld 2 0 125), (125, rx_get 9 0 128), (128, rx_pure (rx_push (.int 1)) 129), (129, rx_pure (rx_push (.int 0)) 130), (130, rx_ld 2 0 131), (131, rx_get 9 1 134), (134, rx_get 2 2 137), (137, rx_ld 2 0 138), (138, rx_get 9 1 141), (141, rx_get 2 3 144), (144, rx_cl 72 5 7 true 0 0 513 421477 147), (147, rx_ld 2 0 148), (148, rx_get 9 0 151), (151, rx_get 7 3 154), (154, rx_pure (rx_push (.int 0)) 155), (155, rx_pure (rx_push (.long 1)) 156), (156, rx_ast Yo 1 .long 157), (157, rx_pure (rx_push (.int 0)) 158), (158, rx_st 0 1 159 2), (159, rx_ld 0 1 160), (160, rx_pure (rx_push (.int 4)) 161), (161, rx_br (rx_cmp Yo 1) 183 164), (164, rx_ld 2 0 165), (165, rx_get 9 5 168), (168, rx_ld 0 1 169), (169, rx_new 7 fs_X7 513 421477 172), (172, rx_pure rx_dup 173), (173, rx_cl 69 1 7 true 22 15714 513 421477 176), (176, rx_asq 4 7 177), (177, rx_inc 1 1 180 2), (180, rx_br rx_goto 159 183), (183, rx_pure (rx_push (.int 0)) 184), (184, rx_st 0 1 185 2), (185, rx_ld 0 1 186), (186, rx_pure (rx_push (.int 2)) 187), (187, rx_br (rx_cmp Yo 1) 209 190), (190, rx_ld 2 0 191), (191, rx_get 9 13 194), (194, rx_ld 0 1 195), (195, rx_new 6 fs_X6 513 421477 198), (198, rx_pure rx_dup 199), (199, rx_cl 56 1 6 true 0 0 513 421477 202), (202, rx_asq 3 6 203), (203, rx_inc 1 1 206 2), (206, rx_br rx_goto 185 209), (209, rx_ret0 513 421477)]
noncomputable def m_X9_init : rx_M := (yX9_init, cX9_init, 2, none, { frames := 4, cells := 513, slots := 421477, locals := 74 }, p_X9_init)
theorem hd_X9_init : yX9_init.cls ≠ "java/lang/invoke/MethodHandle" ∧ yX9_init.cls ≠ "java/lang/invoke/VarHandle" ∧ (parseMethodDescriptor yX9_init.desc).map (fun d => d.parameters.length) = some 0 := by decide +kernel
theorem pn_X9_init : plainName yX9_init.cls = true := by decide +kernel
abbrev cX9_isCell : ByteArray := prog_1_method_32_code
def yX9_isCell : MethodName := ⟨"SeedBench", "isCell", "(IIII)Z"⟩
def h_X9_isCell : pm_H := (yX9_isCell, cX9_isCell, 4, (some .boolean), { frames := 0, cells := 0, slots := 0, locals := 0 })
def o_X9_isCell : pm_P := [(0, 1, 3, 0, 2, 0, 0, []), (1, 4, 15, 0, 24, 0, 0, []), (4, 5, 3, 0, 2, 0, 0, []), (5, 6, 3, 0, 0, 0, 0, []), (6, 7, 3, 0, 1, 0, 0, []), (7, 8, 6, 0, 0, 0, 0, []), (8, 11, 14, 1, 24, 0, 0, []), (11, 12, 3, 0, 3, 0, 0, []), (12, 15, 15, 0, 24, 0, 0, []), (15, 16, 3, 0, 3, 0, 0, []), (16, 17, 3, 0, 0, 0, 0, []), (17, 20, 14, 1, 24, 0, 0, []), (20, 21, 0, 0, 0, 0, 1, []), (21, 24, 12, 0, 25, 0, 0, []), (24, 25, 0, 0, 0, 0, 0, []), (25, 26, 25, 2, 0, 0, 0, [])]
noncomputable def p_X9_isCell : rx_P := o_prog o_X9_isCell
noncomputable def m_X9_isCell : rx_M := (yX9_isCell, cX9_isCell, 4, (some .boolean), { frames := 0, cells := 0, slots := 0, locals := 0 }, p_X9_isCell)
theorem hd_X9_isCell : yX9_isCell.cls ≠ "java/lang/invoke/MethodHandle" ∧ yX9_isCell.cls ≠ "java/lang/invoke/VarHandle" ∧ (parseMethodDescriptor yX9_isCell.desc).map (fun d => d.parameters.length) = some 4 := by decide +kernel
theorem pn_X9_isCell : plainName yX9_isCell.cls = true := by decide +kernel
abbrev cX9_isPlace : ByteArray := prog_1_method_31_code
def yX9_isPlace : MethodName := ⟨"SeedBench", "isPlace", "(I)Z"⟩
def h_X9_isPlace : pm_H := (yX9_isPlace, cX9_isPlace, 2, (some .boolean), { frames := 0, cells := 0, slots := 0, locals := 0 })
def o_X9_isPlace : pm_P := [(0, 1, 3, 0, 1, 0, 0, []), (1, 4, 15, 0, 19, 0, 0, []), (4, 5, 3, 0, 1, 0, 0, []), (5, 6, 3, 2, 0, 0, 0, []), (6, 9, 17, 9, 0, 12, 2, [2, 93]), (9, 12, 17, 7, 0, 137, 0, [1, 66]), (12, 15, 14, 1, 19, 0, 0, []), (15, 16, 0, 0, 0, 0, 1, []), (16, 19, 12, 0, 20, 0, 0, []), (19, 20, 0, 0, 0, 0, 0, []), (20, 21, 25, 2, 0, 0, 0, [])]
noncomputable def p_X9_isPlace : rx_P := o_prog o_X9_isPlace
noncomputable def m_X9_isPlace : rx_M := (yX9_isPlace, cX9_isPlace, 2, (some .boolean), { frames := 0, cells := 0, slots := 0, locals := 0 }, p_X9_isPlace)
theorem hd_X9_isPlace : yX9_isPlace.cls ≠ "java/lang/invoke/MethodHandle" ∧ yX9_isPlace.cls ≠ "java/lang/invoke/VarHandle" ∧ (parseMethodDescriptor yX9_isPlace.desc).map (fun d => d.parameters.length) = some 1 := by decide +kernel
theorem pn_X9_isPlace : plainName yX9_isPlace.cls = true := by decide +kernel
abbrev cX9_isSlot : ByteArray := prog_1_method_33_code
def yX9_isSlot : MethodName := ⟨"SeedBench", "isSlot", "(I)Z"⟩
def h_X9_isSlot : pm_H := (yX9_isSlot, cX9_isSlot, 1, (some .boolean), { frames := 0, cells := 0, slots := 0, locals := 0 })
def o_X9_isSlot : pm_P := [(0, 1, 3, 0, 0, 0, 0, []), (1, 4, 15, 0, 13, 0, 0, []), (4, 5, 3, 0, 0, 0, 0, []), (5, 6, 0, 0, 0, 0, 2, []), (6, 9, 14, 1, 13, 0, 0, []), (9, 10, 0, 0, 0, 0, 1, []), (10, 13, 12, 0, 14, 0, 0, []), (13, 14, 0, 0, 0, 0, 0, []), (14, 15, 25, 2, 0, 0, 0, [])]
noncomputable def p_X9_isSlot : rx_P := o_prog o_X9_isSlot
noncomputable def m_X9_isSlot : rx_M := (yX9_isSlot, cX9_isSlot, 1, (some .boolean), { frames := 0, cells := 0, slots := 0, locals := 0 }, p_X9_isSlot)
theorem hd_X9_isSlot : yX9_isSlot.cls ≠ "java/lang/invoke/MethodHandle" ∧ yX9_isSlot.cls ≠ "java/lang/invoke/VarHandle" ∧ (parseMethodDescriptor yX9_isSlot.desc).map (fun d => d.parameters.length) = some 1 := by decide +kernel
theorem pn_X9_isSlot : plainName yX9_isSlot.cls = true := by decide +kernel
abbrev cX9_isTableTurnable : ByteArray := prog_1_method_37_code
def yX9_isTableTurnable : MethodName := ⟨"SeedBench", "isTableTurnable", "([IIII)Z"⟩
def h_X9_isTableTurnable : pm_H := (yX9_isTableTurnable, cX9_isTableTurnable, 6, (some .boolean), { frames := 2, cells := 0, slots := 0, locals := 40 })
def o_X9_isTableTurnable : pm_P := [(0, 1, 0, 0, 0, 0, 0, []), (1, 3, 4, 0, 4, 6, 1, []), (3, 5, 3, 0, 4, 1, 0, []), (5, 6, 3, 0, 1, 0, 0, []), (6, 9, 14, 1, 62, 0, 0, []), (9, 10, 0, 0, 0, 0, 0, []), (10, 12, 4, 0, 5, 6, 1, []), (12, 14, 3, 0, 5, 1, 0, []), (14, 15, 3, 0, 2, 0, 0, []), (15, 18, 14, 1, 56, 0, 0, []), (18, 20, 3, 0, 4, 1, 0, []), (20, 21, 3, 0, 3, 0, 0, []), (21, 24, 14, 4, 50, 0, 0, []), (24, 26, 3, 0, 5, 1, 0, []), (26, 27, 3, 0, 3, 0, 0, []), (27, 30, 14, 4, 50, 0, 0, []), (30, 31, 3, 2, 0, 0, 0, []), (31, 33, 3, 0, 4, 1, 0, []), (33, 35, 3, 0, 5, 1, 0, []), (35, 36, 3, 0, 3, 0, 0, []), (36, 39, 23, 117, 4, 0, 0, []), (39, 42, 30, 0, 0, 40, 0, []), (42, 45, 0, 2, 0, 0, 9999, []), (45, 48, 14, 3, 50, 0, 0, []), (48, 49, 0, 0, 0, 0, 0, []), (49, 50, 25, 2, 0, 0, 0, []), (50, 53, 5, 5, 0, 6, 1, []), (53, 56, 12, 0, 12, 0, 0, []), (56, 59, 5, 4, 0, 6, 1, []), (59, 62, 12, 0, 3, 0, 0, []), (62, 63, 0, 0, 0, 0, 1, []), (63, 64, 25, 2, 0, 0, 0, [])]
noncomputable def p_X9_isTableTurnable : rx_P := o_prog o_X9_isTableTurnable
noncomputable def m_X9_isTableTurnable : rx_M := (yX9_isTableTurnable, cX9_isTableTurnable, 6, (some .boolean), { frames := 2, cells := 0, slots := 0, locals := 40 }, p_X9_isTableTurnable)
theorem hd_X9_isTableTurnable : yX9_isTableTurnable.cls ≠ "java/lang/invoke/MethodHandle" ∧ yX9_isTableTurnable.cls ≠ "java/lang/invoke/VarHandle" ∧ (parseMethodDescriptor yX9_isTableTurnable.desc).map (fun d => d.parameters.length) = some 4 := by decide +kernel
theorem pn_X9_isTableTurnable : plainName yX9_isTableTurnable.cls = true := by decide +kernel
abbrev cX9_keep : ByteArray := prog_1_method_13_code
def yX9_keep : MethodName := ⟨"SeedBench", "keep", "(I)Z"⟩
def h_X9_keep : pm_H := (yX9_keep, cX9_keep, 2, (some .boolean), { frames := 3, cells := 0, slots := 0, locals := 64 })
def o_X9_keep : pm_P := [(0, 1, 3, 0, 1, 0, 0, []), (1, 4, 15, 0, 9, 0, 0, []), (4, 5, 3, 0, 1, 0, 0, []), (5, 6, 0, 0, 0, 0, 4, []), (6, 9, 14, 0, 11, 0, 0, []), (9, 10, 0, 0, 0, 0, 0, []), (10, 11, 25, 2, 0, 0, 0, []), (11, 12, 3, 2, 0, 0, 0, []), (12, 15, 17, 9, 5, 34, 2, [2, 98]), (15, 16, 3, 0, 1, 0, 0, []), (16, 17, 19, 4, 0, 0, 0, []), (17, 18, 3, 2, 0, 0, 0, []), (18, 21, 17, 9, 0, 12, 2, [2, 93]), (21, 24, 23, 67, 2, 7, 1, []), (24, 25, 0, 0, 0, 0, 1, []), (25, 26, 25, 2, 0, 0, 0, [])]
noncomputable def p_X9_keep : rx_P := o_prog o_X9_keep
noncomputable def m_X9_keep : rx_M := (yX9_keep, cX9_keep, 2, (some .boolean), { frames := 3, cells := 0, slots := 0, locals := 64 }, p_X9_keep)
theorem hd_X9_keep : yX9_keep.cls ≠ "java/lang/invoke/MethodHandle" ∧ yX9_keep.cls ≠ "java/lang/invoke/VarHandle" ∧ (parseMethodDescriptor yX9_keep.desc).map (fun d => d.parameters.length) = some 1 := by decide +kernel
theorem pn_X9_keep : plainName yX9_keep.cls = true := by decide +kernel
abbrev cX9_least : ByteArray := prog_1_method_11_code
def yX9_least : MethodName := ⟨"SeedBench", "least", "(II)I"⟩
def h_X9_least : pm_H := (yX9_least, cX9_least, 3, (some .int), { frames := 2, cells := 0, slots := 0, locals := 36 })
def o_X9_least : pm_P := [(0, 1, 3, 2, 0, 0, 0, []), (1, 2, 3, 0, 1, 0, 0, []), (2, 5, 23, 96, 2, 9, 1, []), (5, 8, 15, 4, 40, 0, 0, []), (8, 9, 3, 2, 0, 0, 0, []), (9, 12, 17, 9, 0, 12, 2, [2, 93]), (12, 15, 17, 7, 4, 128, 2, [1, 80]), (15, 16, 3, 0, 1, 0, 0, []), (16, 17, 19, 5, 0, 0, 0, []), (17, 18, 3, 0, 2, 0, 0, []), (18, 21, 23, 78, 2, 8, 1, []), (21, 24, 15, 4, 40, 0, 0, []), (24, 25, 3, 2, 0, 0, 0, []), (25, 28, 17, 9, 0, 12, 2, [2, 93]), (28, 31, 17, 7, 4, 128, 2, [1, 80]), (31, 32, 3, 0, 1, 0, 0, []), (32, 33, 19, 5, 0, 0, 0, []), (33, 34, 3, 0, 2, 0, 0, []), (34, 37, 23, 81, 2, 8, 1, []), (37, 40, 12, 0, 41, 0, 0, []), (40, 41, 0, 0, 0, 0, 0, []), (41, 42, 25, 0, 0, 0, 0, [])]
noncomputable def p_X9_least : rx_P := o_prog o_X9_least
noncomputable def m_X9_least : rx_M := (yX9_least, cX9_least, 3, (some .int), { frames := 2, cells := 0, slots := 0, locals := 36 }, p_X9_least)
theorem hd_X9_least : yX9_least.cls ≠ "java/lang/invoke/MethodHandle" ∧ yX9_least.cls ≠ "java/lang/invoke/VarHandle" ∧ (parseMethodDescriptor yX9_least.desc).map (fun d => d.parameters.length) = some 2 := by decide +kernel
theorem pn_X9_least : plainName yX9_least.cls = true := by decide +kernel
abbrev cX9_ones : ByteArray := prog_1_method_12_code
def yX9_ones : MethodName := ⟨"SeedBench", "ones", "(I)J"⟩
def h_X9_ones : pm_H := (yX9_ones, cX9_ones, 2, (some .long), { frames := 1, cells := 0, slots := 0, locals := 23 })
def o_X9_ones : pm_P := [(0, 1, 3, 2, 0, 0, 0, []), (1, 2, 3, 0, 1, 0, 0, []), (2, 5, 23, 96, 2, 9, 1, []), (5, 8, 15, 4, 23, 0, 0, []), (8, 9, 3, 2, 0, 0, 0, []), (9, 12, 17, 9, 0, 12, 2, [2, 93]), (12, 15, 17, 7, 4, 128, 2, [1, 80]), (15, 16, 3, 0, 1, 0, 0, []), (16, 17, 19, 5, 0, 0, 0, []), (17, 20, 23, 82, 1, 8, 1, []), (20, 23, 12, 0, 24, 0, 0, []), (23, 24, 1, 0, 0, 0, 0, []), (24, 25, 25, 1, 0, 0, 0, [])]
noncomputable def p_X9_ones : rx_P := o_prog o_X9_ones
noncomputable def m_X9_ones : rx_M := (yX9_ones, cX9_ones, 2, (some .long), { frames := 1, cells := 0, slots := 0, locals := 23 }, p_X9_ones)
theorem hd_X9_ones : yX9_ones.cls ≠ "java/lang/invoke/MethodHandle" ∧ yX9_ones.cls ≠ "java/lang/invoke/VarHandle" ∧ (parseMethodDescriptor yX9_ones.desc).map (fun d => d.parameters.length) = some 1 := by decide +kernel
theorem pn_X9_ones : plainName yX9_ones.cls = true := by decide +kernel
abbrev cX9_order : ByteArray := prog_1_method_21_code
def yX9_order : MethodName := ⟨"SeedBench", "order", "()I"⟩
def h_X9_order : pm_H := (yX9_order, cX9_order, 2, (some .int), { frames := 6, cells := 0, slots := 0, locals := 161 })
def o_X9_order : pm_P := [(0, 1, 3, 2, 0, 0, 0, []), (1, 4, 17, 9, 7, 198, 0, [2, 100]), (4, 7, 15, 5, 9, 0, 0, []), (7, 8, 0, 0, 0, 0, (-1), []), (8, 9, 25, 0, 0, 0, 0, []), (9, 10, 0, 0, 0, 0, 0, []), (10, 11, 4, 0, 1, 2, 0, []), (11, 12, 3, 0, 1, 0, 0, []), (12, 13, 3, 2, 0, 0, 0, []), (13, 16, 17, 9, 7, 198, 0, [2, 100]), (16, 19, 14, 1, 40, 0, 0, []), (19, 20, 3, 2, 0, 0, 0, []), (20, 21, 3, 2, 0, 0, 0, []), (21, 24, 17, 9, 6, 38, 2, [2, 99]), (24, 25, 3, 0, 1, 0, 0, []), (25, 26, 19, 0, 0, 0, 0, []), (26, 29, 23, 96, 2, 9, 1, []), (29, 32, 15, 5, 34, 0, 0, []), (32, 33, 0, 0, 0, 0, (-1), []), (33, 34, 25, 0, 0, 0, 0, []), (34, 37, 5, 1, 0, 2, 1, []), (37, 40, 12, 0, 11, 0, 0, []), (40, 41, 3, 2, 0, 0, 0, []), (41, 44, 17, 9, 8, 41, 2, [2, 101]), (44, 45, 3, 2, 0, 0, 0, []), (45, 48, 17, 9, 0, 12, 2, [2, 93]), (48, 51, 23, 67, 2, 7, 1, []), (51, 52, 0, 0, 0, 0, 1, []), (52, 53, 4, 0, 1, 2, 0, []), (53, 54, 3, 0, 1, 0, 0, []), (54, 56, 0, 1, 0, 0, 40, []), (56, 59, 14, 2, 91, 0, 0, []), (59, 60, 3, 2, 0, 0, 0, []), (60, 63, 23, 118, 1, 9, 1, []), (63, 66, 15, 5, 69, 0, 0, []), (66, 68, 0, 1, 0, 0, (-2), []), (68, 69, 25, 0, 0, 0, 0, []), (69, 70, 3, 2, 0, 0, 0, []), (70, 73, 17, 9, 8, 41, 2, [2, 101]), (73, 74, 3, 2, 0, 0, 0, []), (74, 77, 17, 9, 0, 12, 2, [2, 93]), (77, 80, 23, 70, 2, 7, 1, []), (80, 83, 15, 4, 85, 0, 0, []), (83, 84, 3, 0, 1, 0, 0, []), (84, 85, 25, 0, 0, 0, 0, []), (85, 88, 5, 1, 0, 2, 1, []), (88, 91, 12, 0, 53, 0, 0, []), (91, 93, 0, 1, 0, 0, (-2), []), (93, 94, 25, 0, 0, 0, 0, [])]
noncomputable def p_X9_order : rx_P := o_prog o_X9_order
noncomputable def m_X9_order : rx_M := (yX9_order, cX9_order, 2, (some .int), { frames := 6, cells := 0, slots := 0, locals := 161 }, p_X9_order)
theorem hd_X9_order : yX9_order.cls ≠ "java/lang/invoke/MethodHandle" ∧ yX9_order.cls ≠ "java/lang/invoke/VarHandle" ∧ (parseMethodDescriptor yX9_order.desc).map (fun d => d.parameters.length) = some 0 := by decide +kernel
theorem pn_X9_order : plainName yX9_order.cls = true := by decide +kernel
abbrev cX9_ring : ByteArray := prog_1_method_22_code
def yX9_ring : MethodName := ⟨"SeedBench", "ring", "(II)Z"⟩
def h_X9_ring : pm_H := (yX9_ring, cX9_ring, 3, (some .boolean), { frames := 1, cells := 0, slots := 0, locals := 20 })
def o_X9_ring : pm_P := [(0, 1, 3, 0, 1, 0, 0, []), (1, 4, 23, 97, 1, 0, 0, []), (4, 7, 15, 4, 18, 0, 0, []), (7, 8, 3, 0, 2, 0, 0, []), (8, 9, 0, 0, 0, 0, 4, []), (9, 12, 14, 0, 18, 0, 0, []), (12, 13, 3, 0, 2, 0, 0, []), (13, 15, 0, 1, 0, 0, 10, []), (15, 18, 14, 3, 20, 0, 0, []), (18, 19, 0, 0, 0, 0, 0, []), (19, 20, 25, 2, 0, 0, 0, []), (20, 21, 3, 2, 0, 0, 0, []), (21, 24, 17, 9, 13, 67, 2, [2, 106]), (24, 25, 3, 0, 1, 0, 0, []), (25, 26, 19, 3, 0, 0, 0, []), (26, 27, 3, 0, 2, 0, 0, []), (27, 30, 18, 6, 0, 0, 214, [2, 56]), (30, 31, 3, 2, 0, 0, 0, []), (31, 34, 17, 9, 13, 67, 2, [2, 106]), (34, 35, 3, 0, 1, 0, 0, []), (35, 36, 19, 3, 0, 0, 0, []), (36, 37, 1, 0, 0, 0, 0, []), (37, 40, 18, 6, 1, 1, 217, [2, 59]), (40, 41, 0, 0, 0, 0, 1, []), (41, 42, 25, 2, 0, 0, 0, [])]
noncomputable def p_X9_ring : rx_P := o_prog o_X9_ring
noncomputable def m_X9_ring : rx_M := (yX9_ring, cX9_ring, 3, (some .boolean), { frames := 1, cells := 0, slots := 0, locals := 20 }, p_X9_ring)
theorem hd_X9_ring : yX9_ring.cls ≠ "java/lang/invoke/MethodHandle" ∧ yX9_ring.cls ≠ "java/lang/invoke/VarHandle" ∧ (parseMethodDescriptor yX9_ring.desc).map (fun d => d.parameters.length) = some 2 := by decide +kernel
theorem pn_X9_ring : plainName yX9_ring.cls = true := by decide +kernel
abbrev cX9_ringOf : ByteArray := prog_1_method_25_code
def yX9_ringOf : MethodName := ⟨"SeedBench", "ringOf", "(II)I"⟩
def h_X9_ringOf : pm_H := (yX9_ringOf, cX9_ringOf, 3, (some .int), { frames := 4, cells := 0, slots := 0, locals := 90 })
def o_X9_ringOf : pm_P := [(0, 1, 3, 0, 1, 0, 0, []), (1, 4, 23, 97, 1, 0, 0, []), (4, 7, 15, 4, 20, 0, 0, []), (7, 8, 3, 2, 0, 0, 0, []), (8, 11, 17, 9, 13, 67, 2, [2, 106]), (11, 12, 3, 0, 1, 0, 0, []), (12, 13, 19, 3, 0, 0, 0, []), (13, 14, 3, 0, 2, 0, 0, []), (14, 17, 23, 62, 2, 6, 1, []), (17, 20, 12, 0, 21, 0, 0, []), (20, 21, 0, 0, 0, 0, (-1), []), (21, 22, 25, 0, 0, 0, 0, [])]
noncomputable def p_X9_ringOf : rx_P := o_prog o_X9_ringOf
noncomputable def m_X9_ringOf : rx_M := (yX9_ringOf, cX9_ringOf, 3, (some .int), { frames := 4, cells := 0, slots := 0, locals := 90 }, p_X9_ringOf)
theorem hd_X9_ringOf : yX9_ringOf.cls ≠ "java/lang/invoke/MethodHandle" ∧ yX9_ringOf.cls ≠ "java/lang/invoke/VarHandle" ∧ (parseMethodDescriptor yX9_ringOf.desc).map (fun d => d.parameters.length) = some 2 := by decide +kernel
theorem pn_X9_ringOf : plainName yX9_ringOf.cls = true := by decide +kernel
abbrev cX9_row : ByteArray := prog_1_method_20_code
def yX9_row : MethodName := ⟨"SeedBench", "row", "(III)Z"⟩
def h_X9_row : pm_H := (yX9_row, cX9_row, 4, (some .boolean), { frames := 1, cells := 0, slots := 0, locals := 23 })
def o_X9_row : pm_P := [(0, 1, 3, 0, 1, 0, 0, []), (1, 2, 0, 0, 0, 0, 1, []), (2, 5, 14, 0, 30, 0, 0, []), (5, 6, 3, 0, 1, 0, 0, []), (6, 8, 0, 1, 0, 0, 12, []), (8, 11, 14, 2, 30, 0, 0, []), (11, 12, 3, 0, 2, 0, 0, []), (12, 15, 15, 0, 30, 0, 0, []), (15, 16, 3, 0, 2, 0, 0, []), (16, 17, 3, 0, 1, 0, 0, []), (17, 20, 14, 1, 30, 0, 0, []), (20, 21, 3, 0, 3, 0, 0, []), (21, 24, 15, 0, 30, 0, 0, []), (24, 25, 3, 0, 3, 0, 0, []), (25, 27, 0, 1, 0, 0, 6, []), (27, 30, 14, 0, 32, 0, 0, []), (30, 31, 0, 0, 0, 0, 0, []), (31, 32, 25, 2, 0, 0, 0, []), (32, 33, 3, 0, 1, 0, 0, []), (33, 34, 3, 2, 0, 0, 0, []), (34, 37, 17, 9, 7, 198, 0, [2, 100]), (37, 40, 14, 4, 53, 0, 0, []), (40, 41, 3, 2, 0, 0, 0, []), (41, 42, 3, 0, 1, 0, 0, []), (42, 45, 18, 9, 7, 0, 198, [2, 100]), (45, 46, 3, 2, 0, 0, 0, []), (46, 49, 17, 9, 6, 38, 2, [2, 99]), (49, 50, 0, 0, 0, 0, 0, []), (50, 53, 23, 1, 2, 0, 0, []), (53, 54, 3, 2, 0, 0, 0, []), (54, 57, 17, 9, 6, 38, 2, [2, 99]), (57, 58, 3, 0, 2, 0, 0, []), (58, 59, 3, 0, 3, 0, 0, []), (59, 60, 20, 0, 0, 0, 0, []), (60, 61, 0, 0, 0, 0, 1, []), (61, 62, 25, 2, 0, 0, 0, [])]
noncomputable def p_X9_row : rx_P := o_prog o_X9_row
noncomputable def m_X9_row : rx_M := (yX9_row, cX9_row, 4, (some .boolean), { frames := 1, cells := 0, slots := 0, locals := 23 }, p_X9_row)
theorem hd_X9_row : yX9_row.cls ≠ "java/lang/invoke/MethodHandle" ∧ yX9_row.cls ≠ "java/lang/invoke/VarHandle" ∧ (parseMethodDescriptor yX9_row.desc).map (fun d => d.parameters.length) = some 3 := by decide +kernel
theorem pn_X9_row : plainName yX9_row.cls = true := by decide +kernel
abbrev cX9_same : ByteArray := prog_1_method_14_code
def yX9_same : MethodName := ⟨"SeedBench", "same", "(I)I"⟩
def h_X9_same : pm_H := (yX9_same, cX9_same, 2, (some .int), { frames := 3, cells := 0, slots := 0, locals := 66 })
def o_X9_same : pm_P := [(0, 1, 3, 0, 1, 0, 0, []), (1, 4, 15, 0, 21, 0, 0, []), (4, 5, 3, 0, 1, 0, 0, []), (5, 6, 0, 0, 0, 0, 4, []), (6, 9, 14, 1, 21, 0, 0, []), (9, 10, 3, 2, 0, 0, 0, []), (10, 13, 17, 9, 5, 34, 2, [2, 98]), (13, 14, 3, 0, 1, 0, 0, []), (14, 15, 19, 4, 0, 0, 0, []), (15, 18, 17, 7, 0, 137, 0, [1, 66]), (18, 21, 15, 5, 23, 0, 0, []), (21, 22, 0, 0, 0, 0, (-1), []), (22, 23, 25, 0, 0, 0, 0, []), (23, 24, 3, 2, 0, 0, 0, []), (24, 27, 17, 9, 0, 12, 2, [2, 93]), (27, 28, 3, 2, 0, 0, 0, []), (28, 31, 17, 9, 5, 34, 2, [2, 98]), (31, 32, 3, 0, 1, 0, 0, []), (32, 33, 19, 4, 0, 0, 0, []), (33, 36, 23, 70, 2, 7, 1, []), (36, 39, 15, 4, 43, 0, 0, []), (39, 40, 0, 0, 0, 0, 1, []), (40, 43, 12, 0, 44, 0, 0, []), (43, 44, 0, 0, 0, 0, 0, []), (44, 45, 25, 0, 0, 0, 0, [])]
noncomputable def p_X9_same : rx_P := o_prog o_X9_same
noncomputable def m_X9_same : rx_M := (yX9_same, cX9_same, 2, (some .int), { frames := 3, cells := 0, slots := 0, locals := 66 }, p_X9_same)
theorem hd_X9_same : yX9_same.cls ≠ "java/lang/invoke/MethodHandle" ∧ yX9_same.cls ≠ "java/lang/invoke/VarHandle" ∧ (parseMethodDescriptor yX9_same.desc).map (fun d => d.parameters.length) = some 1 := by decide +kernel
theorem pn_X9_same : plainName yX9_same.cls = true := by decide +kernel
abbrev cX9_seed : ByteArray := prog_1_method_29_code
def yX9_seed : MethodName := ⟨"SeedBench", "seed", "(I)Z"⟩
def h_X9_seed : pm_H := (yX9_seed, cX9_seed, 2, (some .boolean), { frames := 5, cells := 0, slots := 0, locals := 135 })
def o_X9_seed : pm_P := [(0, 1, 3, 0, 1, 0, 0, []), (1, 4, 23, 97, 1, 0, 0, []), (4, 7, 15, 4, 35, 0, 0, []), (7, 8, 3, 2, 0, 0, 0, []), (8, 11, 17, 9, 13, 67, 2, [2, 106]), (11, 12, 3, 0, 1, 0, 0, []), (12, 13, 19, 3, 0, 0, 0, []), (13, 16, 23, 59, 1, 6, 1, []), (16, 19, 15, 4, 35, 0, 0, []), (19, 20, 3, 2, 0, 0, 0, []), (20, 23, 17, 9, 13, 67, 2, [2, 106]), (23, 24, 3, 0, 1, 0, 0, []), (24, 25, 19, 3, 0, 0, 0, []), (25, 28, 17, 6, 0, 214, 0, [2, 56]), (28, 29, 0, 0, 0, 0, 3, []), (29, 30, 6, 1, 0, 0, 0, []), (30, 32, 0, 1, 0, 0, 6, []), (32, 35, 14, 3, 37, 0, 0, []), (35, 36, 0, 0, 0, 0, 0, []), (36, 37, 25, 2, 0, 0, 0, []), (37, 38, 3, 2, 0, 0, 0, []), (38, 41, 17, 9, 1, 19, 2, [2, 94]), (41, 42, 3, 2, 0, 0, 0, []), (42, 45, 17, 9, 13, 67, 2, [2, 106]), (45, 46, 3, 0, 1, 0, 0, []), (46, 47, 19, 3, 0, 0, 0, []), (47, 50, 17, 6, 0, 214, 0, [2, 56]), (50, 51, 0, 0, 0, 0, 3, []), (51, 52, 6, 1, 0, 0, 0, []), (52, 53, 0, 0, 0, 0, 0, []), (53, 56, 23, 25, 3, 2, 1, []), (56, 57, 3, 2, 0, 0, 0, []), (57, 60, 17, 9, 13, 67, 2, [2, 106]), (60, 61, 3, 0, 1, 0, 0, []), (61, 62, 19, 3, 0, 0, 0, []), (62, 63, 3, 2, 0, 0, 0, []), (63, 66, 17, 9, 1, 19, 2, [2, 94]), (66, 69, 17, 2, 2, 78, 2, [1, 106]), (69, 72, 23, 64, 2, 6, 1, []), (72, 73, 3, 2, 0, 0, 0, []), (73, 76, 17, 9, 1, 19, 2, [2, 94]), (76, 79, 23, 21, 1, 2, 1, []), (79, 82, 15, 4, 84, 0, 0, []), (82, 83, 0, 0, 0, 0, 0, []), (83, 84, 25, 2, 0, 0, 0, []), (84, 85, 3, 2, 0, 0, 0, []), (85, 88, 23, 109, 1, 9, 1, []), (88, 89, 0, 0, 0, 0, 1, []), (89, 90, 25, 2, 0, 0, 0, [])]
noncomputable def p_X9_seed : rx_P := o_prog o_X9_seed
noncomputable def m_X9_seed : rx_M := (yX9_seed, cX9_seed, 2, (some .boolean), { frames := 5, cells := 0, slots := 0, locals := 135 }, p_X9_seed)
theorem hd_X9_seed : yX9_seed.cls ≠ "java/lang/invoke/MethodHandle" ∧ yX9_seed.cls ≠ "java/lang/invoke/VarHandle" ∧ (parseMethodDescriptor yX9_seed.desc).map (fun d => d.parameters.length) = some 1 := by decide +kernel
theorem pn_X9_seed : plainName yX9_seed.cls = true := by decide +kernel
abbrev cX9_size : ByteArray := prog_1_method_5_code
def yX9_size : MethodName := ⟨"SeedBench", "size", "(I)I"⟩
def h_X9_size : pm_H := (yX9_size, cX9_size, 2, (some .int), { frames := 1, cells := 0, slots := 0, locals := 21 })
def o_X9_size : pm_P := [(0, 1, 3, 2, 0, 0, 0, []), (1, 2, 3, 0, 1, 0, 0, []), (2, 5, 23, 96, 2, 9, 1, []), (5, 8, 15, 4, 21, 0, 0, []), (8, 9, 3, 2, 0, 0, 0, []), (9, 12, 17, 9, 0, 12, 2, [2, 93]), (12, 15, 17, 7, 3, 89, 2, [1, 76]), (15, 16, 3, 0, 1, 0, 0, []), (16, 17, 19, 1, 0, 0, 0, []), (17, 18, 11, 3, 0, 0, 0, []), (18, 21, 12, 0, 22, 0, 0, []), (21, 22, 0, 0, 0, 0, 0, []), (22, 23, 25, 0, 0, 0, 0, [])]
noncomputable def p_X9_size : rx_P := o_prog o_X9_size
noncomputable def m_X9_size : rx_M := (yX9_size, cX9_size, 2, (some .int), { frames := 1, cells := 0, slots := 0, locals := 21 }, p_X9_size)
theorem hd_X9_size : yX9_size.cls ≠ "java/lang/invoke/MethodHandle" ∧ yX9_size.cls ≠ "java/lang/invoke/VarHandle" ∧ (parseMethodDescriptor yX9_size.desc).map (fun d => d.parameters.length) = some 1 := by decide +kernel
theorem pn_X9_size : plainName yX9_size.cls = true := by decide +kernel
abbrev cX9_startSeed : ByteArray := prog_1_method_34_code
def yX9_startSeed : MethodName := ⟨"SeedBench", "startSeed", "()V"⟩
def h_X9_startSeed : pm_H := (yX9_startSeed, cX9_startSeed, 1, none, { frames := 3, cells := 0, slots := 0, locals := 69 })
def o_X9_startSeed : pm_P := [(0, 1, 3, 2, 0, 0, 0, []), (1, 4, 17, 9, 0, 12, 2, [2, 93]), (4, 5, 3, 2, 0, 0, 0, []), (5, 8, 17, 9, 1, 19, 2, [2, 94]), (8, 11, 17, 2, 0, 95, 0, [1, 102]), (11, 12, 3, 2, 0, 0, 0, []), (12, 15, 17, 9, 1, 19, 2, [2, 94]), (15, 18, 17, 2, 1, 99, 0, [1, 104]), (18, 19, 3, 2, 0, 0, 0, []), (19, 22, 17, 9, 1, 19, 2, [2, 94]), (22, 25, 17, 2, 2, 78, 2, [1, 106]), (25, 26, 3, 2, 0, 0, 0, []), (26, 29, 17, 9, 1, 19, 2, [2, 94]), (29, 32, 17, 2, 3, 81, 2, [1, 108]), (32, 35, 23, 72, 5, 7, 1, []), (35, 36, 3, 2, 0, 0, 0, []), (36, 37, 0, 0, 0, 0, 0, []), (37, 40, 18, 9, 4, 0, 121, [2, 97]), (40, 41, 24, 0, 0, 0, 0, [])]
noncomputable def p_X9_startSeed : rx_P := o_prog o_X9_startSeed
noncomputable def m_X9_startSeed : rx_M := (yX9_startSeed, cX9_startSeed, 1, none, { frames := 3, cells := 0, slots := 0, locals := 69 }, p_X9_startSeed)
theorem hd_X9_startSeed : yX9_startSeed.cls ≠ "java/lang/invoke/MethodHandle" ∧ yX9_startSeed.cls ≠ "java/lang/invoke/VarHandle" ∧ (parseMethodDescriptor yX9_startSeed.desc).map (fun d => d.parameters.length) = some 0 := by decide +kernel
theorem pn_X9_startSeed : plainName yX9_startSeed.cls = true := by decide +kernel
abbrev cX9_step : ByteArray := prog_1_method_18_code
def yX9_step : MethodName := ⟨"SeedBench", "step", "(I)I"⟩
def h_X9_step : pm_H := (yX9_step, cX9_step, 2, (some .int), { frames := 0, cells := 0, slots := 0, locals := 0 })
def o_X9_step : pm_P := [(0, 1, 3, 0, 1, 0, 0, []), (1, 4, 15, 0, 15, 0, 0, []), (4, 5, 3, 0, 1, 0, 0, []), (5, 6, 3, 2, 0, 0, 0, []), (6, 9, 17, 9, 12, 61, 2, [2, 105]), (9, 12, 17, 4, 0, 189, 0, [2, 19]), (12, 15, 14, 0, 19, 0, 0, []), (15, 16, 0, 0, 0, 0, (-1), []), (16, 19, 12, 0, 28, 0, 0, []), (19, 20, 3, 2, 0, 0, 0, []), (20, 23, 17, 9, 12, 61, 2, [2, 105]), (23, 26, 17, 4, 2, 192, 2, [2, 23]), (26, 27, 3, 0, 1, 0, 0, []), (27, 28, 19, 0, 0, 0, 0, []), (28, 29, 25, 0, 0, 0, 0, [])]
noncomputable def p_X9_step : rx_P := o_prog o_X9_step
noncomputable def m_X9_step : rx_M := (yX9_step, cX9_step, 2, (some .int), { frames := 0, cells := 0, slots := 0, locals := 0 }, p_X9_step)
theorem hd_X9_step : yX9_step.cls ≠ "java/lang/invoke/MethodHandle" ∧ yX9_step.cls ≠ "java/lang/invoke/VarHandle" ∧ (parseMethodDescriptor yX9_step.desc).map (fun d => d.parameters.length) = some 1 := by decide +kernel
theorem pn_X9_step : plainName yX9_step.cls = true := by decide +kernel
abbrev cX9_table : ByteArray := prog_1_method_2_code
def yX9_table : MethodName := ⟨"SeedBench", "table", "(II)Z"⟩
def h_X9_table : pm_H := (yX9_table, cX9_table, 3, (some .boolean), { frames := 2, cells := 0, slots := 0, locals := 45 })
def o_X9_table : pm_P := [(0, 1, 3, 0, 1, 0, 0, []), (1, 2, 0, 0, 0, 0, 1, []), (2, 5, 14, 0, 21, 0, 0, []), (5, 6, 3, 0, 1, 0, 0, []), (6, 8, 0, 1, 0, 0, 6, []), (8, 11, 14, 2, 21, 0, 0, []), (11, 12, 3, 0, 2, 0, 0, []), (12, 15, 15, 0, 21, 0, 0, []), (15, 16, 3, 0, 2, 0, 0, []), (16, 18, 0, 1, 0, 0, 6, []), (18, 21, 14, 3, 23, 0, 0, []), (21, 22, 0, 0, 0, 0, 0, []), (22, 23, 25, 2, 0, 0, 0, []), (23, 24, 3, 2, 0, 0, 0, []), (24, 27, 17, 9, 1, 19, 2, [2, 94]), (27, 28, 3, 0, 1, 0, 0, []), (28, 29, 3, 0, 2, 0, 0, []), (29, 32, 23, 25, 3, 2, 1, []), (32, 33, 0, 0, 0, 0, 1, []), (33, 34, 25, 2, 0, 0, 0, [])]
noncomputable def p_X9_table : rx_P := o_prog o_X9_table
noncomputable def m_X9_table : rx_M := (yX9_table, cX9_table, 3, (some .boolean), { frames := 2, cells := 0, slots := 0, locals := 45 }, p_X9_table)
theorem hd_X9_table : yX9_table.cls ≠ "java/lang/invoke/MethodHandle" ∧ yX9_table.cls ≠ "java/lang/invoke/VarHandle" ∧ (parseMethodDescriptor yX9_table.desc).map (fun d => d.parameters.length) = some 2 := by decide +kernel
theorem pn_X9_table : plainName yX9_table.cls = true := by decide +kernel
abbrev cX9_tables : ByteArray := prog_1_method_19_code
def yX9_tables : MethodName := ⟨"SeedBench", "tables", "()I"⟩
def h_X9_tables : pm_H := (yX9_tables, cX9_tables, 1, (some .int), { frames := 0, cells := 0, slots := 0, locals := 0 })
def o_X9_tables : pm_P := [(0, 1, 3, 2, 0, 0, 0, []), (1, 4, 17, 9, 12, 61, 2, [2, 105]), (4, 7, 17, 4, 1, 195, 0, [2, 21]), (7, 8, 25, 0, 0, 0, 0, [])]
noncomputable def p_X9_tables : rx_P := o_prog o_X9_tables
noncomputable def m_X9_tables : rx_M := (yX9_tables, cX9_tables, 1, (some .int), { frames := 0, cells := 0, slots := 0, locals := 0 }, p_X9_tables)
theorem hd_X9_tables : yX9_tables.cls ≠ "java/lang/invoke/MethodHandle" ∧ yX9_tables.cls ≠ "java/lang/invoke/VarHandle" ∧ (parseMethodDescriptor yX9_tables.desc).map (fun d => d.parameters.length) = some 0 := by decide +kernel
theorem pn_X9_tables : plainName yX9_tables.cls = true := by decide +kernel
abbrev cX9_term : ByteArray := prog_1_method_10_code
def yX9_term : MethodName := ⟨"SeedBench", "term", "(III)J"⟩
def h_X9_term : pm_H := (yX9_term, cX9_term, 5, (some .long), { frames := 1, cells := 0, slots := 0, locals := 21 })
def o_X9_term : pm_P := [(0, 1, 3, 2, 0, 0, 0, []), (1, 2, 3, 0, 1, 0, 0, []), (2, 5, 23, 96, 2, 9, 1, []), (5, 8, 15, 5, 10, 0, 0, []), (8, 9, 1, 0, 0, 0, 0, []), (9, 10, 25, 1, 0, 0, 0, []), (10, 11, 3, 2, 0, 0, 0, []), (11, 14, 17, 9, 0, 12, 2, [2, 93]), (14, 17, 17, 7, 4, 128, 2, [1, 80]), (17, 18, 3, 0, 1, 0, 0, []), (18, 19, 19, 5, 0, 0, 0, []), (19, 21, 4, 2, 4, 5, 1, []), (21, 22, 3, 0, 2, 0, 0, []), (22, 25, 15, 0, 34, 0, 0, []), (25, 26, 3, 0, 2, 0, 0, []), (26, 28, 3, 2, 4, 1, 0, []), (28, 31, 17, 8, 1, 132, 0, [1, 44]), (31, 34, 14, 0, 36, 0, 0, []), (34, 35, 1, 0, 0, 0, 0, []), (35, 36, 25, 1, 0, 0, 0, []), (36, 37, 3, 0, 3, 0, 0, []), (37, 38, 0, 0, 0, 0, (-1), []), (38, 41, 14, 5, 49, 0, 0, []), (41, 43, 3, 2, 4, 1, 0, []), (43, 46, 17, 8, 2, 140, 2, [1, 48]), (46, 47, 3, 0, 2, 0, 0, []), (47, 48, 19, 1, 0, 0, 0, []), (48, 49, 25, 1, 0, 0, 0, []), (49, 51, 3, 2, 4, 1, 0, []), (51, 52, 3, 0, 3, 0, 0, []), (52, 55, 23, 78, 2, 8, 1, []), (55, 58, 15, 4, 77, 0, 0, []), (58, 60, 3, 2, 4, 1, 0, []), (60, 63, 17, 8, 3, 146, 2, [1, 51]), (63, 64, 3, 0, 2, 0, 0, []), (64, 66, 3, 2, 4, 1, 0, []), (66, 69, 17, 8, 0, 149, 0, [1, 40]), (69, 70, 6, 2, 0, 0, 0, []), (70, 71, 3, 0, 3, 0, 0, []), (71, 72, 6, 0, 0, 0, 0, []), (72, 73, 19, 0, 0, 0, 0, []), (73, 74, 11, 2, 0, 0, 0, []), (74, 77, 12, 0, 78, 0, 0, []), (77, 78, 1, 0, 0, 0, 0, []), (78, 79, 25, 1, 0, 0, 0, [])]
noncomputable def p_X9_term : rx_P := o_prog o_X9_term
noncomputable def m_X9_term : rx_M := (yX9_term, cX9_term, 5, (some .long), { frames := 1, cells := 0, slots := 0, locals := 21 }, p_X9_term)
theorem hd_X9_term : yX9_term.cls ≠ "java/lang/invoke/MethodHandle" ∧ yX9_term.cls ≠ "java/lang/invoke/VarHandle" ∧ (parseMethodDescriptor yX9_term.desc).map (fun d => d.parameters.length) = some 3 := by decide +kernel
theorem pn_X9_term : plainName yX9_term.cls = true := by decide +kernel
abbrev cX9_terms : ByteArray := prog_1_method_9_code
def yX9_terms : MethodName := ⟨"SeedBench", "terms", "(I)I"⟩
def h_X9_terms : pm_H := (yX9_terms, cX9_terms, 2, (some .int), { frames := 1, cells := 0, slots := 0, locals := 21 })
def o_X9_terms : pm_P := [(0, 1, 3, 2, 0, 0, 0, []), (1, 2, 3, 0, 1, 0, 0, []), (2, 5, 23, 96, 2, 9, 1, []), (5, 8, 15, 4, 23, 0, 0, []), (8, 9, 3, 2, 0, 0, 0, []), (9, 12, 17, 9, 0, 12, 2, [2, 93]), (12, 15, 17, 7, 4, 128, 2, [1, 80]), (15, 16, 3, 0, 1, 0, 0, []), (16, 17, 19, 5, 0, 0, 0, []), (17, 20, 17, 8, 1, 132, 0, [1, 44]), (20, 23, 12, 0, 24, 0, 0, []), (23, 24, 0, 0, 0, 0, 0, []), (24, 25, 25, 0, 0, 0, 0, [])]
noncomputable def p_X9_terms : rx_P := o_prog o_X9_terms
noncomputable def m_X9_terms : rx_M := (yX9_terms, cX9_terms, 2, (some .int), { frames := 1, cells := 0, slots := 0, locals := 21 }, p_X9_terms)
theorem hd_X9_terms : yX9_terms.cls ≠ "java/lang/invoke/MethodHandle" ∧ yX9_terms.cls ≠ "java/lang/invoke/VarHandle" ∧ (parseMethodDescriptor yX9_terms.desc).map (fun d => d.parameters.length) = some 1 := by decide +kernel
theorem pn_X9_terms : plainName yX9_terms.cls = true := by decide +kernel
abbrev cX9_turn : ByteArray := prog_1_method_6_code
def yX9_turn : MethodName := ⟨"SeedBench", "turn", "(I)I"⟩
def h_X9_turn : pm_H := (yX9_turn, cX9_turn, 2, (some .int), { frames := 5, cells := 0, slots := 0, locals := 140 })
def o_X9_turn : pm_P := [(0, 1, 3, 2, 0, 0, 0, []), (1, 2, 3, 0, 1, 0, 0, []), (2, 5, 23, 96, 2, 9, 1, []), (5, 8, 15, 5, 10, 0, 0, []), (8, 9, 0, 0, 0, 0, (-1), []), (9, 10, 25, 0, 0, 0, 0, []), (10, 11, 3, 2, 0, 0, 0, []), (11, 14, 17, 9, 2, 26, 2, [2, 95]), (14, 15, 3, 2, 0, 0, 0, []), (15, 18, 17, 9, 0, 12, 2, [2, 93]), (18, 19, 3, 0, 1, 0, 0, []), (19, 22, 23, 42, 3, 5, 1, []), (22, 25, 15, 5, 28, 0, 0, []), (25, 27, 0, 1, 0, 0, (-2), []), (27, 28, 25, 0, 0, 0, 0, []), (28, 29, 3, 2, 0, 0, 0, []), (29, 32, 17, 9, 4, 121, 0, [2, 97]), (32, 34, 0, 1, 0, 0, 100, []), (34, 37, 14, 0, 40, 0, 0, []), (37, 39, 0, 1, 0, 0, (-3), []), (39, 40, 25, 0, 0, 0, 0, []), (40, 41, 3, 2, 0, 0, 0, []), (41, 44, 17, 9, 2, 26, 2, [2, 95]), (44, 45, 3, 2, 0, 0, 0, []), (45, 48, 17, 9, 0, 12, 2, [2, 93]), (48, 49, 3, 0, 1, 0, 0, []), (49, 52, 23, 47, 3, 5, 1, []), (52, 53, 3, 2, 0, 0, 0, []), (53, 56, 17, 9, 3, 30, 2, [2, 96]), (56, 57, 3, 2, 0, 0, 0, []), (57, 60, 17, 9, 4, 121, 0, [2, 97]), (60, 61, 3, 0, 1, 0, 0, []), (61, 62, 20, 0, 0, 0, 0, []), (62, 63, 3, 2, 0, 0, 0, []), (63, 64, 11, 5, 0, 0, 0, []), (64, 67, 17, 9, 4, 121, 0, [2, 97]), (67, 68, 0, 0, 0, 0, 1, []), (68, 69, 6, 0, 0, 0, 0, []), (69, 72, 18, 9, 4, 0, 121, [2, 97]), (72, 73, 3, 2, 0, 0, 0, []), (73, 76, 17, 9, 0, 12, 2, [2, 93]), (76, 79, 17, 7, 4, 128, 2, [1, 80]), (79, 80, 3, 0, 1, 0, 0, []), (80, 81, 19, 5, 0, 0, 0, []), (81, 84, 17, 8, 1, 132, 0, [1, 44]), (84, 85, 25, 0, 0, 0, 0, [])]
noncomputable def p_X9_turn : rx_P := o_prog o_X9_turn
noncomputable def m_X9_turn : rx_M := (yX9_turn, cX9_turn, 2, (some .int), { frames := 5, cells := 0, slots := 0, locals := 140 }, p_X9_turn)
theorem hd_X9_turn : yX9_turn.cls ≠ "java/lang/invoke/MethodHandle" ∧ yX9_turn.cls ≠ "java/lang/invoke/VarHandle" ∧ (parseMethodDescriptor yX9_turn.desc).map (fun d => d.parameters.length) = some 1 := by decide +kernel
theorem pn_X9_turn : plainName yX9_turn.cls = true := by decide +kernel
abbrev cX9_turnTable : ByteArray := prog_1_method_38_code
def yX9_turnTable : MethodName := ⟨"SeedBench", "turnTable", "([IIII)V"⟩
def h_X9_turnTable : pm_H := (yX9_turnTable, cX9_turnTable, 6, none, { frames := 2, cells := 0, slots := 0, locals := 40 })
def o_X9_turnTable : pm_P := [(0, 1, 0, 0, 0, 0, 0, []), (1, 3, 4, 0, 4, 6, 1, []), (3, 5, 3, 0, 4, 1, 0, []), (5, 6, 3, 0, 1, 0, 0, []), (6, 9, 14, 1, 61, 0, 0, []), (9, 10, 0, 0, 0, 0, 0, []), (10, 12, 4, 0, 5, 6, 1, []), (12, 14, 3, 0, 5, 1, 0, []), (14, 15, 3, 0, 2, 0, 0, []), (15, 18, 14, 1, 55, 0, 0, []), (18, 20, 3, 0, 4, 1, 0, []), (20, 21, 3, 0, 3, 0, 0, []), (21, 24, 14, 4, 49, 0, 0, []), (24, 26, 3, 0, 5, 1, 0, []), (26, 27, 3, 0, 3, 0, 0, []), (27, 30, 14, 4, 49, 0, 0, []), (30, 31, 3, 2, 0, 0, 0, []), (31, 33, 3, 0, 4, 1, 0, []), (33, 35, 0, 1, 0, 0, 6, []), (35, 36, 6, 2, 0, 0, 0, []), (36, 38, 3, 0, 5, 1, 0, []), (38, 39, 6, 0, 0, 0, 0, []), (39, 40, 3, 2, 0, 0, 0, []), (40, 42, 3, 0, 4, 1, 0, []), (42, 44, 3, 0, 5, 1, 0, []), (44, 45, 3, 0, 3, 0, 0, []), (45, 48, 23, 117, 4, 0, 0, []), (48, 49, 20, 0, 0, 0, 0, []), (49, 52, 5, 5, 0, 6, 1, []), (52, 55, 12, 0, 12, 0, 0, []), (55, 58, 5, 4, 0, 6, 1, []), (58, 61, 12, 0, 3, 0, 0, []), (61, 62, 0, 0, 0, 0, 0, []), (62, 64, 4, 0, 4, 6, 1, []), (64, 66, 3, 0, 4, 1, 0, []), (66, 67, 3, 0, 1, 0, 0, []), (67, 70, 14, 1, 95, 0, 0, []), (70, 71, 3, 2, 0, 0, 0, []), (71, 73, 3, 0, 4, 1, 0, []), (73, 75, 0, 1, 0, 0, 6, []), (75, 76, 6, 2, 0, 0, 0, []), (76, 77, 3, 0, 3, 0, 0, []), (77, 78, 6, 0, 0, 0, 0, []), (78, 79, 3, 2, 0, 0, 0, []), (79, 81, 3, 0, 4, 1, 0, []), (81, 83, 0, 1, 0, 0, 6, []), (83, 84, 6, 2, 0, 0, 0, []), (84, 85, 3, 0, 3, 0, 0, []), (85, 86, 6, 0, 0, 0, 0, []), (86, 87, 19, 0, 0, 0, 0, []), (87, 88, 11, 0, 0, 0, 0, []), (88, 89, 20, 0, 0, 0, 0, []), (89, 92, 5, 4, 0, 6, 1, []), (92, 95, 12, 0, 64, 0, 0, []), (95, 96, 0, 0, 0, 0, 0, []), (96, 98, 4, 0, 4, 6, 1, []), (98, 100, 3, 0, 4, 1, 0, []), (100, 101, 3, 0, 2, 0, 0, []), (101, 104, 14, 1, 135, 0, 0, []), (104, 106, 3, 0, 4, 1, 0, []), (106, 107, 3, 0, 3, 0, 0, []), (107, 110, 14, 4, 129, 0, 0, []), (110, 111, 3, 2, 0, 0, 0, []), (111, 112, 3, 0, 3, 0, 0, []), (112, 114, 0, 1, 0, 0, 6, []), (114, 115, 6, 2, 0, 0, 0, []), (115, 117, 3, 0, 4, 1, 0, []), (117, 118, 6, 0, 0, 0, 0, []), (118, 119, 3, 2, 0, 0, 0, []), (119, 120, 3, 0, 3, 0, 0, []), (120, 122, 0, 1, 0, 0, 6, []), (122, 123, 6, 2, 0, 0, 0, []), (123, 125, 3, 0, 4, 1, 0, []), (125, 126, 6, 0, 0, 0, 0, []), (126, 127, 19, 0, 0, 0, 0, []), (127, 128, 11, 0, 0, 0, 0, []), (128, 129, 20, 0, 0, 0, 0, []), (129, 132, 5, 4, 0, 6, 1, []), (132, 135, 12, 0, 98, 0, 0, []), (135, 136, 24, 0, 0, 0, 0, [])]
noncomputable def p_X9_turnTable : rx_P := o_prog o_X9_turnTable
noncomputable def m_X9_turnTable : rx_M := (yX9_turnTable, cX9_turnTable, 6, none, { frames := 2, cells := 0, slots := 0, locals := 40 }, p_X9_turnTable)
theorem hd_X9_turnTable : yX9_turnTable.cls ≠ "java/lang/invoke/MethodHandle" ∧ yX9_turnTable.cls ≠ "java/lang/invoke/VarHandle" ∧ (parseMethodDescriptor yX9_turnTable.desc).map (fun d => d.parameters.length) = some 4 := by decide +kernel
theorem pn_X9_turnTable : plainName yX9_turnTable.cls = true := by decide +kernel
abbrev cX9_turnedEntry : ByteArray := prog_1_method_36_code
def yX9_turnedEntry : MethodName := ⟨"SeedBench", "turnedEntry", "([IIII)I"⟩
def h_X9_turnedEntry : pm_H := (yX9_turnedEntry, cX9_turnedEntry, 7, (some .int), { frames := 1, cells := 0, slots := 0, locals := 14 })
def o_X9_turnedEntry : pm_P := [(0, 1, 3, 2, 0, 0, 0, []), (1, 2, 3, 0, 1, 0, 0, []), (2, 4, 0, 1, 0, 0, 6, []), (4, 5, 6, 2, 0, 0, 0, []), (5, 6, 3, 0, 3, 0, 0, []), (6, 7, 6, 0, 0, 0, 0, []), (7, 8, 19, 0, 0, 0, 0, []), (8, 10, 4, 0, 4, 7, 1, []), (10, 11, 3, 2, 0, 0, 0, []), (11, 12, 3, 0, 3, 0, 0, []), (12, 14, 0, 1, 0, 0, 6, []), (14, 15, 6, 2, 0, 0, 0, []), (15, 16, 3, 0, 2, 0, 0, []), (16, 17, 6, 0, 0, 0, 0, []), (17, 18, 19, 0, 0, 0, 0, []), (18, 20, 4, 0, 5, 7, 1, []), (20, 22, 3, 0, 4, 1, 0, []), (22, 25, 15, 3, 30, 0, 0, []), (25, 27, 3, 0, 5, 1, 0, []), (27, 30, 15, 2, 40, 0, 0, []), (30, 32, 3, 0, 4, 1, 0, []), (32, 35, 15, 1, 44, 0, 0, []), (35, 37, 3, 0, 5, 1, 0, []), (37, 40, 15, 1, 44, 0, 0, []), (40, 41, 0, 0, 0, 0, 1, []), (41, 44, 12, 0, 45, 0, 0, []), (44, 45, 0, 0, 0, 0, 0, []), (45, 47, 4, 0, 6, 7, 1, []), (47, 48, 3, 2, 0, 0, 0, []), (48, 49, 3, 0, 1, 0, 0, []), (49, 51, 0, 1, 0, 0, 6, []), (51, 52, 6, 2, 0, 0, 0, []), (52, 53, 3, 0, 2, 0, 0, []), (53, 54, 6, 0, 0, 0, 0, []), (54, 55, 19, 0, 0, 0, 0, []), (55, 57, 3, 0, 6, 1, 0, []), (57, 60, 15, 4, 71, 0, 0, []), (60, 62, 3, 0, 4, 1, 0, []), (62, 65, 30, 0, 0, 14, 0, []), (65, 67, 3, 0, 5, 1, 0, []), (67, 68, 6, 2, 0, 0, 0, []), (68, 71, 12, 0, 72, 0, 0, []), (71, 72, 0, 0, 0, 0, 0, []), (72, 73, 6, 0, 0, 0, 0, []), (73, 74, 25, 0, 0, 0, 0, [])]
noncomputable def p_X9_turnedEntry : rx_P := o_prog o_X9_turnedEntry
noncomputable def m_X9_turnedEntry : rx_M := (yX9_turnedEntry, cX9_turnedEntry, 7, (some .int), { frames := 1, cells := 0, slots := 0, locals := 14 }, p_X9_turnedEntry)
theorem hd_X9_turnedEntry : yX9_turnedEntry.cls ≠ "java/lang/invoke/MethodHandle" ∧ yX9_turnedEntry.cls ≠ "java/lang/invoke/VarHandle" ∧ (parseMethodDescriptor yX9_turnedEntry.desc).map (fun d => d.parameters.length) = some 4 := by decide +kernel
theorem pn_X9_turnedEntry : plainName yX9_turnedEntry.cls = true := by decide +kernel
abbrev cX9_walkRow : ByteArray := prog_1_method_35_code
def yX9_walkRow : MethodName := ⟨"SeedBench", "walkRow", "()Z"⟩
def h_X9_walkRow : pm_H := (yX9_walkRow, cX9_walkRow, 2, (some .boolean), { frames := 5, cells := 0, slots := 0, locals := 140 })
def o_X9_walkRow : pm_P := [(0, 1, 0, 0, 0, 0, 0, []), (1, 2, 4, 0, 1, 2, 0, []), (2, 3, 3, 0, 1, 0, 0, []), (3, 4, 3, 2, 0, 0, 0, []), (4, 7, 17, 9, 7, 198, 0, [2, 100]), (7, 10, 14, 1, 55, 0, 0, []), (10, 11, 3, 2, 0, 0, 0, []), (11, 14, 17, 9, 2, 26, 2, [2, 95]), (14, 15, 3, 2, 0, 0, 0, []), (15, 18, 17, 9, 8, 41, 2, [2, 101]), (18, 19, 3, 2, 0, 0, 0, []), (19, 22, 17, 9, 6, 38, 2, [2, 99]), (22, 23, 3, 0, 1, 0, 0, []), (23, 24, 19, 0, 0, 0, 0, []), (24, 27, 23, 42, 3, 5, 1, []), (27, 30, 15, 5, 32, 0, 0, []), (30, 31, 0, 0, 0, 0, 0, []), (31, 32, 25, 2, 0, 0, 0, []), (32, 33, 3, 2, 0, 0, 0, []), (33, 36, 17, 9, 2, 26, 2, [2, 95]), (36, 37, 3, 2, 0, 0, 0, []), (37, 40, 17, 9, 8, 41, 2, [2, 101]), (40, 41, 3, 2, 0, 0, 0, []), (41, 44, 17, 9, 6, 38, 2, [2, 99]), (44, 45, 3, 0, 1, 0, 0, []), (45, 46, 19, 0, 0, 0, 0, []), (46, 49, 23, 47, 3, 5, 1, []), (49, 52, 5, 1, 0, 2, 1, []), (52, 55, 12, 0, 2, 0, 0, []), (55, 56, 0, 0, 0, 0, 1, []), (56, 57, 25, 2, 0, 0, 0, [])]
noncomputable def p_X9_walkRow : rx_P := o_prog o_X9_walkRow
noncomputable def m_X9_walkRow : rx_M := (yX9_walkRow, cX9_walkRow, 2, (some .boolean), { frames := 5, cells := 0, slots := 0, locals := 140 }, p_X9_walkRow)
theorem hd_X9_walkRow : yX9_walkRow.cls ≠ "java/lang/invoke/MethodHandle" ∧ yX9_walkRow.cls ≠ "java/lang/invoke/VarHandle" ∧ (parseMethodDescriptor yX9_walkRow.desc).map (fun d => d.parameters.length) = some 0 := by decide +kernel
theorem pn_X9_walkRow : plainName yX9_walkRow.cls = true := by decide +kernel
abbrev cX9_way : ByteArray := prog_1_method_27_code
def yX9_way : MethodName := ⟨"SeedBench", "way", "()I"⟩
def h_X9_way : pm_H := (yX9_way, cX9_way, 1, (some .int), { frames := 7, cells := 0, slots := 0, locals := 166 })
def o_X9_way : pm_P := [(0, 1, 3, 2, 0, 0, 0, []), (1, 4, 17, 9, 13, 67, 2, [2, 106]), (4, 5, 0, 0, 0, 0, 0, []), (5, 6, 19, 3, 0, 0, 0, []), (6, 9, 23, 59, 1, 6, 1, []), (9, 12, 15, 4, 45, 0, 0, []), (12, 13, 3, 2, 0, 0, 0, []), (13, 16, 17, 9, 13, 67, 2, [2, 106]), (16, 17, 0, 0, 0, 0, 1, []), (17, 18, 19, 3, 0, 0, 0, []), (18, 21, 23, 59, 1, 6, 1, []), (21, 24, 15, 4, 45, 0, 0, []), (24, 25, 3, 2, 0, 0, 0, []), (25, 28, 17, 9, 13, 67, 2, [2, 106]), (28, 29, 0, 0, 0, 0, 0, []), (29, 30, 19, 3, 0, 0, 0, []), (30, 33, 17, 6, 0, 214, 0, [2, 56]), (33, 34, 3, 2, 0, 0, 0, []), (34, 37, 17, 9, 13, 67, 2, [2, 106]), (37, 38, 0, 0, 0, 0, 1, []), (38, 39, 19, 3, 0, 0, 0, []), (39, 42, 17, 6, 0, 214, 0, [2, 56]), (42, 45, 14, 4, 47, 0, 0, []), (45, 46, 0, 0, 0, 0, (-1), []), (46, 47, 25, 0, 0, 0, 0, []), (47, 48, 3, 2, 0, 0, 0, []), (48, 51, 17, 9, 14, 74, 2, [2, 107]), (51, 52, 3, 2, 0, 0, 0, []), (52, 55, 17, 9, 13, 67, 2, [2, 106]), (55, 56, 0, 0, 0, 0, 0, []), (56, 57, 19, 3, 0, 0, 0, []), (57, 58, 3, 2, 0, 0, 0, []), (58, 61, 17, 9, 13, 67, 2, [2, 106]), (61, 62, 0, 0, 0, 0, 1, []), (62, 63, 19, 3, 0, 0, 0, []), (63, 64, 3, 2, 0, 0, 0, []), (64, 67, 17, 9, 11, 54, 2, [2, 104]), (67, 70, 23, 32, 4, 3, 1, []), (70, 71, 3, 2, 0, 0, 0, []), (71, 74, 17, 9, 14, 74, 2, [2, 107]), (74, 75, 3, 2, 0, 0, 0, []), (75, 78, 17, 9, 13, 67, 2, [2, 106]), (78, 79, 0, 0, 0, 0, 0, []), (79, 80, 19, 3, 0, 0, 0, []), (80, 81, 3, 2, 0, 0, 0, []), (81, 84, 17, 9, 11, 54, 2, [2, 104]), (84, 87, 23, 31, 3, 3, 1, []), (87, 88, 25, 0, 0, 0, 0, [])]
noncomputable def p_X9_way : rx_P := o_prog o_X9_way
noncomputable def m_X9_way : rx_M := (yX9_way, cX9_way, 1, (some .int), { frames := 7, cells := 0, slots := 0, locals := 166 }, p_X9_way)
theorem hd_X9_way : yX9_way.cls ≠ "java/lang/invoke/MethodHandle" ∧ yX9_way.cls ≠ "java/lang/invoke/VarHandle" ∧ (parseMethodDescriptor yX9_way.desc).map (fun d => d.parameters.length) = some 0 := by decide +kernel
theorem pn_X9_way : plainName yX9_way.cls = true := by decide +kernel
abbrev cX9_what : ByteArray := prog_1_method_16_code
def yX9_what : MethodName := ⟨"SeedBench", "what", "(II)J"⟩
def h_X9_what : pm_H := (yX9_what, cX9_what, 3, (some .long), { frames := 1, cells := 0, slots := 0, locals := 22 })
def o_X9_what : pm_P := [(0, 1, 3, 2, 0, 0, 0, []), (1, 4, 17, 9, 9, 47, 2, [2, 102]), (4, 5, 3, 0, 1, 0, 0, []), (5, 6, 3, 0, 2, 0, 0, []), (6, 9, 23, 15, 3, 0, 1, []), (9, 10, 25, 1, 0, 0, 0, [])]
noncomputable def p_X9_what : rx_P := o_prog o_X9_what
noncomputable def m_X9_what : rx_M := (yX9_what, cX9_what, 3, (some .long), { frames := 1, cells := 0, slots := 0, locals := 22 }, p_X9_what)
theorem hd_X9_what : yX9_what.cls ≠ "java/lang/invoke/MethodHandle" ∧ yX9_what.cls ≠ "java/lang/invoke/VarHandle" ∧ (parseMethodDescriptor yX9_what.desc).map (fun d => d.parameters.length) = some 2 := by decide +kernel
theorem pn_X9_what : plainName yX9_what.cls = true := by decide +kernel
abbrev cX10_add : ByteArray := prog_12_method_7_code
def yX10_add : MethodName := ⟨"SeedBenchModel", "add", "(I)V"⟩
def h_X10_add : pm_H := (yX10_add, cX10_add, 5, none, { frames := 2, cells := 0, slots := 0, locals := 48 })
def o_X10_add : pm_P := [(0, 1, 3, 2, 0, 0, 0, []), (1, 2, 3, 0, 1, 0, 0, []), (2, 5, 23, 173, 2, 10, 1, []), (5, 6, 4, 0, 2, 5, 0, []), (6, 7, 3, 0, 2, 0, 0, []), (7, 8, 3, 2, 0, 0, 0, []), (8, 11, 17, 10, 1, 13, 2, [4, 147]), (11, 12, 3, 0, 1, 0, 0, []), (12, 13, 19, 0, 0, 0, 0, []), (13, 16, 14, 1, 47, 0, 0, []), (16, 17, 3, 2, 0, 0, 0, []), (17, 18, 3, 0, 1, 0, 0, []), (18, 19, 3, 0, 2, 0, 0, []), (19, 22, 23, 122, 3, 10, 1, []), (22, 25, 15, 5, 47, 0, 0, []), (25, 26, 3, 2, 0, 0, 0, []), (26, 29, 17, 10, 2, 17, 2, [4, 148]), (29, 32, 0, 2, 0, 0, 200, []), (32, 33, 3, 0, 1, 0, 0, []), (33, 34, 6, 2, 0, 0, 0, []), (34, 35, 3, 0, 2, 0, 0, []), (35, 36, 6, 0, 0, 0, 0, []), (36, 37, 11, 6, 0, 0, 0, []), (37, 38, 19, 1, 0, 0, 0, []), (38, 39, 3, 2, 0, 0, 0, []), (39, 42, 17, 10, 5, 146, 1, [4, 151]), (42, 43, 8, 0, 0, 0, 0, []), (43, 44, 20, 1, 0, 0, 0, []), (44, 47, 12, 0, 226, 0, 0, []), (47, 48, 3, 2, 0, 0, 0, []), (48, 51, 17, 10, 1, 13, 2, [4, 147]), (51, 52, 3, 0, 1, 0, 0, []), (52, 53, 19, 0, 0, 0, 0, []), (53, 56, 0, 2, 0, 0, 200, []), (56, 59, 14, 5, 65, 0, 0, []), (59, 60, 3, 2, 0, 0, 0, []), (60, 61, 0, 0, 0, 0, 1, []), (61, 64, 18, 10, 4, 2, 150, [4, 150]), (64, 65, 24, 0, 0, 0, 0, []), (65, 66, 3, 2, 0, 0, 0, []), (66, 69, 17, 10, 1, 13, 2, [4, 147]), (69, 70, 3, 0, 1, 0, 0, []), (70, 71, 19, 0, 0, 0, 0, []), (71, 72, 4, 0, 3, 5, 0, []), (72, 73, 3, 0, 3, 0, 0, []), (73, 74, 3, 0, 2, 0, 0, []), (74, 77, 14, 3, 163, 0, 0, []), (77, 78, 3, 2, 0, 0, 0, []), (78, 81, 17, 10, 2, 17, 2, [4, 148]), (81, 84, 0, 2, 0, 0, 200, []), (84, 85, 3, 0, 1, 0, 0, []), (85, 86, 6, 2, 0, 0, 0, []), (86, 87, 3, 0, 3, 0, 0, []), (87, 88, 6, 0, 0, 0, 0, []), (88, 89, 3, 2, 0, 0, 0, []), (89, 92, 17, 10, 2, 17, 2, [4, 148]), (92, 95, 0, 2, 0, 0, 200, []), (95, 96, 3, 0, 1, 0, 0, []), (96, 97, 6, 2, 0, 0, 0, []), (97, 98, 3, 0, 3, 0, 0, []), (98, 99, 6, 0, 0, 0, 0, []), (99, 100, 0, 0, 0, 0, 1, []), (100, 101, 6, 1, 0, 0, 0, []), (101, 102, 19, 1, 0, 0, 0, []), (102, 103, 20, 1, 0, 0, 0, []), (103, 104, 0, 0, 0, 0, 0, []), (104, 106, 4, 0, 4, 5, 1, []), (106, 108, 3, 0, 4, 1, 0, []), (108, 110, 0, 1, 0, 0, 12, []), (110, 113, 14, 1, 157, 0, 0, []), (113, 114, 3, 2, 0, 0, 0, []), (114, 117, 17, 10, 3, 22, 2, [4, 149]), (117, 119, 0, 1, 0, 0, 12, []), (119, 122, 0, 2, 0, 0, 200, []), (122, 123, 3, 0, 1, 0, 0, []), (123, 124, 6, 2, 0, 0, 0, []), (124, 125, 3, 0, 3, 0, 0, []), (125, 126, 6, 0, 0, 0, 0, []), (126, 127, 6, 2, 0, 0, 0, []), (127, 129, 3, 0, 4, 1, 0, []), (129, 130, 6, 0, 0, 0, 0, []), (130, 131, 3, 2, 0, 0, 0, []), (131, 134, 17, 10, 3, 22, 2, [4, 149]), (134, 136, 0, 1, 0, 0, 12, []), (136, 139, 0, 2, 0, 0, 200, []), (139, 140, 3, 0, 1, 0, 0, []), (140, 141, 6, 2, 0, 0, 0, []), (141, 142, 3, 0, 3, 0, 0, []), (142, 143, 6, 0, 0, 0, 0, []), (143, 144, 0, 0, 0, 0, 1, []), (144, 145, 6, 1, 0, 0, 0, []), (145, 146, 6, 2, 0, 0, 0, []), (146, 148, 3, 0, 4, 1, 0, []), (148, 149, 6, 0, 0, 0, 0, []), (149, 150, 19, 0, 0, 0, 0, []), (150, 151, 20, 0, 0, 0, 0, []), (151, 154, 5, 4, 0, 5, 1, []), (154, 157, 12, 0, 106, 0, 0, []), (157, 160, 5, 3, 0, 5, (-1), []), (160, 163, 12, 0, 72, 0, 0, []), (163, 164, 3, 2, 0, 0, 0, []), (164, 167, 17, 10, 1, 13, 2, [4, 147]), (167, 168, 3, 0, 1, 0, 0, []), (168, 169, 11, 6, 0, 0, 0, []), (169, 170, 19, 0, 0, 0, 0, []), (170, 171, 0, 0, 0, 0, 1, []), (171, 172, 6, 0, 0, 0, 0, []), (172, 173, 20, 0, 0, 0, 0, []), (173, 174, 3, 2, 0, 0, 0, []), (174, 177, 17, 10, 2, 17, 2, [4, 148]), (177, 180, 0, 2, 0, 0, 200, []), (180, 181, 3, 0, 1, 0, 0, []), (181, 182, 6, 2, 0, 0, 0, []), (182, 183, 3, 0, 2, 0, 0, []), (183, 184, 6, 0, 0, 0, 0, []), (184, 185, 3, 2, 0, 0, 0, []), (185, 188, 17, 10, 5, 146, 1, [4, 151]), (188, 189, 20, 1, 0, 0, 0, []), (189, 190, 0, 0, 0, 0, 0, []), (190, 191, 4, 0, 3, 5, 0, []), (191, 192, 3, 0, 3, 0, 0, []), (192, 194, 0, 1, 0, 0, 12, []), (194, 197, 14, 1, 226, 0, 0, []), (197, 198, 3, 2, 0, 0, 0, []), (198, 201, 17, 10, 3, 22, 2, [4, 149]), (201, 203, 0, 1, 0, 0, 12, []), (203, 206, 0, 2, 0, 0, 200, []), (206, 207, 3, 0, 1, 0, 0, []), (207, 208, 6, 2, 0, 0, 0, []), (208, 209, 3, 0, 2, 0, 0, []), (209, 210, 6, 0, 0, 0, 0, []), (210, 211, 6, 2, 0, 0, 0, []), (211, 212, 3, 0, 3, 0, 0, []), (212, 213, 6, 0, 0, 0, 0, []), (213, 214, 3, 2, 0, 0, 0, []), (214, 217, 17, 10, 6, 25, 2, [4, 152]), (217, 218, 3, 0, 3, 0, 0, []), (218, 219, 19, 0, 0, 0, 0, []), (219, 220, 20, 0, 0, 0, 0, []), (220, 223, 5, 3, 0, 5, 1, []), (223, 226, 12, 0, 191, 0, 0, []), (226, 227, 3, 2, 0, 0, 0, []), (227, 230, 17, 10, 2, 17, 2, [4, 148]), (230, 233, 0, 2, 0, 0, 200, []), (233, 234, 3, 0, 1, 0, 0, []), (234, 235, 6, 2, 0, 0, 0, []), (235, 236, 3, 0, 2, 0, 0, []), (236, 237, 6, 0, 0, 0, 0, []), (237, 238, 19, 1, 0, 0, 0, []), (238, 241, 27, 154, 0, 0, 1000000000000, [5, 140]), (241, 242, 11, 4, 0, 0, 0, []), (242, 245, 15, 3, 250, 0, 0, []), (245, 246, 3, 2, 0, 0, 0, []), (246, 247, 0, 0, 0, 0, 1, []), (247, 250, 18, 10, 4, 2, 150, [4, 150]), (250, 251, 24, 0, 0, 0, 0, [])]
noncomputable def p_X10_add : rx_P := o_prog o_X10_add
noncomputable def m_X10_add : rx_M := (yX10_add, cX10_add, 5, none, { frames := 2, cells := 0, slots := 0, locals := 48 }, p_X10_add)
theorem hd_X10_add : yX10_add.cls ≠ "java/lang/invoke/MethodHandle" ∧ yX10_add.cls ≠ "java/lang/invoke/VarHandle" ∧ (parseMethodDescriptor yX10_add.desc).map (fun d => d.parameters.length) = some 1 := by decide +kernel
theorem pn_X10_add : plainName yX10_add.cls = true := by decide +kernel
abbrev cX10_against : ByteArray := prog_12_method_5_code
def yX10_against : MethodName := ⟨"SeedBenchModel", "against", "(II)I"⟩
def h_X10_against : pm_H := (yX10_against, cX10_against, 5, (some .int), { frames := 0, cells := 0, slots := 0, locals := 0 })
def o_X10_against : pm_P := [(0, 1, 0, 0, 0, 0, 0, []), (1, 2, 4, 0, 3, 5, 0, []), (2, 3, 3, 0, 3, 0, 0, []), (3, 5, 0, 1, 0, 0, 12, []), (5, 8, 14, 1, 61, 0, 0, []), (8, 9, 3, 2, 0, 0, 0, []), (9, 12, 17, 10, 3, 22, 2, [4, 149]), (12, 14, 0, 1, 0, 0, 12, []), (14, 17, 0, 2, 0, 0, 200, []), (17, 18, 3, 0, 1, 0, 0, []), (18, 19, 6, 2, 0, 0, 0, []), (19, 20, 3, 0, 2, 0, 0, []), (20, 21, 6, 0, 0, 0, 0, []), (21, 22, 6, 2, 0, 0, 0, []), (22, 23, 3, 0, 3, 0, 0, []), (23, 24, 6, 0, 0, 0, 0, []), (24, 25, 19, 0, 0, 0, 0, []), (25, 27, 4, 0, 4, 5, 1, []), (27, 29, 3, 0, 4, 1, 0, []), (29, 30, 3, 2, 0, 0, 0, []), (30, 33, 17, 10, 6, 25, 2, [4, 152]), (33, 34, 3, 0, 3, 0, 0, []), (34, 35, 19, 0, 0, 0, 0, []), (35, 38, 14, 4, 55, 0, 0, []), (38, 40, 3, 0, 4, 1, 0, []), (40, 41, 3, 2, 0, 0, 0, []), (41, 44, 17, 10, 6, 25, 2, [4, 152]), (44, 45, 3, 0, 3, 0, 0, []), (45, 46, 19, 0, 0, 0, 0, []), (46, 49, 14, 3, 53, 0, 0, []), (49, 50, 0, 0, 0, 0, 1, []), (50, 53, 12, 0, 54, 0, 0, []), (53, 54, 0, 0, 0, 0, (-1), []), (54, 55, 25, 0, 0, 0, 0, []), (55, 58, 5, 3, 0, 5, 1, []), (58, 61, 12, 0, 2, 0, 0, []), (61, 62, 0, 0, 0, 0, 0, []), (62, 63, 25, 0, 0, 0, 0, [])]
noncomputable def p_X10_against : rx_P := o_prog o_X10_against
noncomputable def m_X10_against : rx_M := (yX10_against, cX10_against, 5, (some .int), { frames := 0, cells := 0, slots := 0, locals := 0 }, p_X10_against)
theorem hd_X10_against : yX10_against.cls ≠ "java/lang/invoke/MethodHandle" ∧ yX10_against.cls ≠ "java/lang/invoke/VarHandle" ∧ (parseMethodDescriptor yX10_against.desc).map (fun d => d.parameters.length) = some 2 := by decide +kernel
theorem pn_X10_against : plainName yX10_against.cls = true := by decide +kernel
abbrev cX10_all : ByteArray := prog_12_method_48_code
def yX10_all : MethodName := ⟨"SeedBenchModel", "all", "()I"⟩
def h_X10_all : pm_H := (yX10_all, cX10_all, 4, (some .int), { frames := 8, cells := 0, slots := 0, locals := 200 })
def o_X10_all : pm_P := [(0, 1, 3, 2, 0, 0, 0, []), (1, 3, 0, 1, 0, 0, 30, []), (3, 6, 23, 181, 2, 10, 1, []), (6, 7, 3, 2, 0, 0, 0, []), (7, 10, 23, 147, 1, 10, 1, []), (10, 11, 4, 0, 1, 4, 0, []), (11, 12, 3, 2, 0, 0, 0, []), (12, 14, 0, 1, 0, 0, 30, []), (14, 17, 23, 176, 2, 10, 1, []), (17, 18, 3, 2, 0, 0, 0, []), (18, 19, 3, 0, 1, 0, 0, []), (19, 22, 15, 4, 29, 0, 0, []), (22, 23, 3, 2, 0, 0, 0, []), (23, 26, 17, 10, 24, 245, 0, [4, 170]), (26, 29, 12, 0, 30, 0, 0, []), (29, 30, 0, 0, 0, 0, 0, []), (30, 33, 18, 10, 25, 0, 269, [4, 171]), (33, 34, 3, 0, 1, 0, 0, []), (34, 37, 15, 5, 40, 0, 0, []), (37, 39, 0, 1, 0, 0, (-2), []), (39, 40, 25, 0, 0, 0, 0, []), (40, 41, 3, 2, 0, 0, 0, []), (41, 42, 0, 0, 0, 0, 1, []), (42, 45, 18, 10, 29, 2, 272, [4, 175]), (45, 46, 3, 2, 0, 0, 0, []), (46, 47, 3, 2, 0, 0, 0, []), (47, 50, 17, 10, 26, 242, 0, [4, 172]), (50, 53, 18, 10, 30, 0, 275, [4, 176]), (53, 54, 0, 0, 0, 0, 0, []), (54, 55, 4, 0, 2, 4, 0, []), (55, 56, 3, 0, 2, 0, 0, []), (56, 57, 3, 2, 0, 0, 0, []), (57, 60, 17, 10, 26, 242, 0, [4, 172]), (60, 63, 14, 1, 132, 0, 0, []), (63, 64, 3, 2, 0, 0, 0, []), (64, 67, 17, 10, 31, 71, 2, [4, 177]), (67, 68, 3, 0, 2, 0, 0, []), (68, 69, 3, 2, 0, 0, 0, []), (69, 72, 17, 10, 1, 13, 2, [4, 147]), (72, 74, 0, 1, 0, 0, 50, []), (74, 75, 3, 0, 2, 0, 0, []), (75, 76, 6, 0, 0, 0, 0, []), (76, 77, 19, 0, 0, 0, 0, []), (77, 78, 20, 0, 0, 0, 0, []), (78, 79, 3, 2, 0, 0, 0, []), (79, 82, 17, 10, 32, 74, 2, [4, 178]), (82, 83, 3, 0, 2, 0, 0, []), (83, 84, 3, 2, 0, 0, 0, []), (84, 86, 0, 1, 0, 0, 50, []), (86, 87, 3, 0, 2, 0, 0, []), (87, 88, 6, 0, 0, 0, 0, []), (88, 91, 23, 186, 2, 10, 1, []), (91, 92, 20, 1, 0, 0, 0, []), (92, 93, 0, 0, 0, 0, 0, []), (93, 94, 4, 0, 3, 4, 0, []), (94, 95, 3, 0, 3, 0, 0, []), (95, 97, 0, 1, 0, 0, 12, []), (97, 100, 14, 1, 126, 0, 0, []), (100, 101, 3, 2, 0, 0, 0, []), (101, 104, 17, 10, 33, 77, 2, [4, 179]), (104, 106, 0, 1, 0, 0, 12, []), (106, 107, 3, 0, 2, 0, 0, []), (107, 108, 6, 2, 0, 0, 0, []), (108, 109, 3, 0, 3, 0, 0, []), (109, 110, 6, 0, 0, 0, 0, []), (110, 111, 3, 2, 0, 0, 0, []), (111, 113, 0, 1, 0, 0, 50, []), (113, 114, 3, 0, 2, 0, 0, []), (114, 115, 6, 0, 0, 0, 0, []), (115, 116, 3, 0, 3, 0, 0, []), (116, 119, 23, 163, 3, 10, 1, []), (119, 120, 20, 0, 0, 0, 0, []), (120, 123, 5, 3, 0, 4, 1, []), (123, 126, 12, 0, 94, 0, 0, []), (126, 129, 5, 2, 0, 4, 1, []), (129, 132, 12, 0, 55, 0, 0, []), (132, 133, 3, 2, 0, 0, 0, []), (133, 134, 3, 2, 0, 0, 0, []), (134, 137, 17, 10, 7, 132, 0, [4, 153]), (137, 138, 3, 2, 0, 0, 0, []), (138, 141, 17, 10, 8, 204, 0, [4, 154]), (141, 142, 6, 0, 0, 0, 0, []), (142, 145, 18, 10, 36, 0, 278, [4, 182]), (145, 146, 3, 2, 0, 0, 0, []), (146, 149, 17, 10, 24, 245, 0, [4, 170]), (149, 150, 25, 0, 0, 0, 0, [])]
noncomputable def p_X10_all : rx_P := o_prog o_X10_all
noncomputable def m_X10_all : rx_M := (yX10_all, cX10_all, 4, (some .int), { frames := 8, cells := 0, slots := 0, locals := 200 }, p_X10_all)
theorem hd_X10_all : yX10_all.cls ≠ "java/lang/invoke/MethodHandle" ∧ yX10_all.cls ≠ "java/lang/invoke/VarHandle" ∧ (parseMethodDescriptor yX10_all.desc).map (fun d => d.parameters.length) = some 0 := by decide +kernel
theorem pn_X10_all : plainName yX10_all.cls = true := by decide +kernel
