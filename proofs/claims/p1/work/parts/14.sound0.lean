set_option maxRecDepth 100000 in
set_option maxHeartbeats 4000000 in
theorem s_J7_fill_53178 {l : Launch} {D : va_G} {cy : Nat → ClassId} {σ : Nat → Int32} {Y : rx_Y} (hY : rx_YOk Y σ) : ∀ q ∈ p_J7_fill_53178 Y, rx_Sd (gG l D cy σ) (mt Y) (m_J7_fill_53178 Y) q.1 q.2 := by
  unfold p_J7_fill_53178
  refine rx_ac (rx_sd_iconst dJ7_fill_53178_0 (by decide)) ?_
  refine rx_ac (rx_sd_istore_n (M := m_J7_fill_53178 Y) dJ7_fill_53178_1 rfl) ?_
  refine rx_ac (rx_sd_aload_n dJ7_fill_53178_2 rfl) ?_
  refine rx_ac (rx_sd_alnI ⟨rfl, rfl, rfl⟩ dJ7_fill_53178_3) ?_
  refine rx_ac (rx_sd_istore_n (M := m_J7_fill_53178 Y) dJ7_fill_53178_4 rfl) ?_
  refine rx_ac (rx_sd_fil ⟨rfl, rfl, rfl⟩ rfl dJ7_fill_53178_5 dJ7_fill_53178_6 dJ7_fill_53178_7 dJ7_fill_53178_10 dJ7_fill_53178_11 dJ7_fill_53178_12 dJ7_fill_53178_13 dJ7_fill_53178_14 dJ7_fill_53178_17) ?_
  refine rx_ac (rx_sd_ret0 (M := m_J7_fill_53178 Y) rfl dJ7_fill_53178_20) ?_
  exact rx_an
set_option maxRecDepth 100000 in
set_option maxHeartbeats 4000000 in
theorem s_J13_bitCount_95d88 {l : Launch} {D : va_G} {cy : Nat → ClassId} {σ : Nat → Int32} {Y : rx_Y} (hY : rx_YOk Y σ) : ∀ q ∈ p_J13_bitCount_95d88 Y, rx_Sd (gG l D cy σ) (mt Y) (m_J13_bitCount_95d88 Y) q.1 q.2 := by
  unfold p_J13_bitCount_95d88
  refine rx_ac (rx_sd_lload_n dJ13_bitCount_95d88_0 rfl) ?_
  refine rx_ac (rx_sd_lload_n dJ13_bitCount_95d88_1 rfl) ?_
  refine rx_ac (rx_sd_iconst dJ13_bitCount_95d88_2 (by decide)) ?_
  refine rx_ac (rx_sd_lushr dJ13_bitCount_95d88_3) ?_
  refine rx_ac (rx_sd_ldc2 (M := m_J13_bitCount_95d88 Y) kw_0 dJ13_bitCount_95d88_4) ?_
  refine rx_ac (rx_sd_land dJ13_bitCount_95d88_7) ?_
  refine rx_ac (rx_sd_lsub dJ13_bitCount_95d88_8) ?_
  refine rx_ac (rx_sd_lstore_n (M := m_J13_bitCount_95d88 Y) dJ13_bitCount_95d88_9 rfl) ?_
  refine rx_ac (rx_sd_lload_n dJ13_bitCount_95d88_10 rfl) ?_
  refine rx_ac (rx_sd_ldc2 (M := m_J13_bitCount_95d88 Y) kw_1 dJ13_bitCount_95d88_11) ?_
  refine rx_ac (rx_sd_land dJ13_bitCount_95d88_14) ?_
  refine rx_ac (rx_sd_lload_n dJ13_bitCount_95d88_15 rfl) ?_
  refine rx_ac (rx_sd_iconst dJ13_bitCount_95d88_16 (by decide)) ?_
  refine rx_ac (rx_sd_lushr dJ13_bitCount_95d88_17) ?_
  refine rx_ac (rx_sd_ldc2 (M := m_J13_bitCount_95d88 Y) kw_1 dJ13_bitCount_95d88_18) ?_
  refine rx_ac (rx_sd_land dJ13_bitCount_95d88_21) ?_
  refine rx_ac (rx_sd_ladd dJ13_bitCount_95d88_22) ?_
  refine rx_ac (rx_sd_lstore_n (M := m_J13_bitCount_95d88 Y) dJ13_bitCount_95d88_23 rfl) ?_
  refine rx_ac (rx_sd_lload_n dJ13_bitCount_95d88_24 rfl) ?_
  refine rx_ac (rx_sd_lload_n dJ13_bitCount_95d88_25 rfl) ?_
  refine rx_ac (rx_sd_iconst dJ13_bitCount_95d88_26 (by decide)) ?_
  refine rx_ac (rx_sd_lushr dJ13_bitCount_95d88_27) ?_
  refine rx_ac (rx_sd_ladd dJ13_bitCount_95d88_28) ?_
  refine rx_ac (rx_sd_ldc2 (M := m_J13_bitCount_95d88 Y) kw_2 dJ13_bitCount_95d88_29) ?_
  refine rx_ac (rx_sd_land dJ13_bitCount_95d88_32) ?_
  refine rx_ac (rx_sd_lstore_n (M := m_J13_bitCount_95d88 Y) dJ13_bitCount_95d88_33 rfl) ?_
  refine rx_ac (rx_sd_lload_n dJ13_bitCount_95d88_34 rfl) ?_
  refine rx_ac (rx_sd_lload_n dJ13_bitCount_95d88_35 rfl) ?_
  refine rx_ac (rx_sd_bipush dJ13_bitCount_95d88_36 (by decide)) ?_
  refine rx_ac (rx_sd_lushr dJ13_bitCount_95d88_38) ?_
  refine rx_ac (rx_sd_ladd dJ13_bitCount_95d88_39) ?_
  refine rx_ac (rx_sd_lstore_n (M := m_J13_bitCount_95d88 Y) dJ13_bitCount_95d88_40 rfl) ?_
  refine rx_ac (rx_sd_lload_n dJ13_bitCount_95d88_41 rfl) ?_
  refine rx_ac (rx_sd_lload_n dJ13_bitCount_95d88_42 rfl) ?_
  refine rx_ac (rx_sd_bipush dJ13_bitCount_95d88_43 (by decide)) ?_
  refine rx_ac (rx_sd_lushr dJ13_bitCount_95d88_45) ?_
  refine rx_ac (rx_sd_ladd dJ13_bitCount_95d88_46) ?_
  refine rx_ac (rx_sd_lstore_n (M := m_J13_bitCount_95d88 Y) dJ13_bitCount_95d88_47 rfl) ?_
  refine rx_ac (rx_sd_lload_n dJ13_bitCount_95d88_48 rfl) ?_
  refine rx_ac (rx_sd_lload_n dJ13_bitCount_95d88_49 rfl) ?_
  refine rx_ac (rx_sd_bipush dJ13_bitCount_95d88_50 (by decide)) ?_
  refine rx_ac (rx_sd_lushr dJ13_bitCount_95d88_52) ?_
  refine rx_ac (rx_sd_ladd dJ13_bitCount_95d88_53) ?_
  refine rx_ac (rx_sd_lstore_n (M := m_J13_bitCount_95d88 Y) dJ13_bitCount_95d88_54 rfl) ?_
  refine rx_ac (rx_sd_lload_n dJ13_bitCount_95d88_55 rfl) ?_
  refine rx_ac (rx_sd_l2i dJ13_bitCount_95d88_56) ?_
  refine rx_ac (rx_sd_bipush dJ13_bitCount_95d88_57 (by decide)) ?_
  refine rx_ac (rx_sd_iand dJ13_bitCount_95d88_59) ?_
  refine rx_ac (rx_sd_retI (M := m_J13_bitCount_95d88 Y) rfl (Or.inl rfl) dJ13_bitCount_95d88_60) ?_
  exact rx_an
set_option maxRecDepth 100000 in
set_option maxHeartbeats 4000000 in
theorem s_X0_arrive {l : Launch} {D : va_G} {cy : Nat → ClassId} {σ : Nat → Int32} {Y : rx_Y} (hY : rx_YOk Y σ) : ∀ q ∈ p_X0_arrive Y, rx_Sd (gG l D cy σ) (mt Y) (m_X0_arrive Y) q.1 q.2 := by
  unfold p_X0_arrive
  refine rx_ac (rx_sd_aload_n dX0_arrive_0 rfl) ?_
  refine rx_ac (rx_sd_cl (M := m_X0_arrive Y) (rx_lk_V gok (mid := 6) (ci := 0) (C := (RX0, TX0, 18)) ⟨kw_3, kw_4, hd_X0_gatherLetters, Nat.le_of_ble_eq_true rfl, Nat.le_of_ble_eq_true rfl⟩ rfl kw_5 kw_6 kw_7 dX0_arrive_1) (fun _ => ⟨_, rfl⟩) rfl rfl) ?_
  refine rx_ac (rx_sd_aload_n dX0_arrive_4 rfl) ?_
  refine rx_ac (rx_sd_cl (M := m_X0_arrive Y) (rx_lk_V gok (mid := 11) (ci := 0) (C := (RX0, TX0, 18)) ⟨kw_8, kw_4, hd_X0_rowOf, Nat.le_of_ble_eq_true rfl, Nat.le_of_ble_eq_true rfl⟩ rfl kw_9 kw_10 kw_11 dX0_arrive_5) (fun _ => ⟨_, rfl⟩) rfl rfl) ?_
  refine rx_ac (rx_sd_istore_n (M := m_X0_arrive Y) dX0_arrive_8 rfl) ?_
  refine rx_ac (rx_sd_iload_n dX0_arrive_9 rfl) ?_
  refine rx_ac (rx_sd_iconst dX0_arrive_10 (by decide)) ?_
  refine rx_ac (rx_sd_icmp_ne hY dX0_arrive_11 (by decide)) ?_
  refine rx_ac (rx_sd_aload_n dX0_arrive_14 rfl) ?_
  refine rx_ac (rx_sd_get (C := RX0) (T := TX0) (N := 18) in_X0 rfl (by decide) kw_12 dX0_arrive_15) ?_
  refine rx_ac (rx_sd_istore_n (M := m_X0_arrive Y) dX0_arrive_18 rfl) ?_
  refine rx_ac (rx_sd_aload_n dX0_arrive_19 rfl) ?_
  refine rx_ac (rx_sd_cl (M := m_X0_arrive Y) (rx_lk_V gok (mid := 3) (ci := 0) (C := (RX0, TX0, 18)) ⟨kw_13, kw_4, hd_X0_enter, Nat.le_of_ble_eq_true rfl, Nat.le_of_ble_eq_true rfl⟩ rfl kw_14 kw_15 kw_16 dX0_arrive_20) (fun _ => ⟨_, rfl⟩) rfl rfl) ?_
  refine rx_ac (rx_sd_if_ne hY dX0_arrive_23 (by decide)) ?_
  refine rx_ac (rx_sd_aload_n dX0_arrive_28 rfl) ?_
  refine rx_ac (rx_sd_get (C := RX0) (T := TX0) (N := 18) in_X0 rfl (by decide) kw_17 dX0_arrive_29) ?_
  refine rx_ac (rx_sd_iload_n dX0_arrive_32 rfl) ?_
  refine rx_ac (rx_sd_bipush dX0_arrive_33 (by decide)) ?_
  refine rx_ac (rx_sd_imul dX0_arrive_35) ?_
  refine rx_ac (rx_sd_aload_n dX0_arrive_36 rfl) ?_
  refine rx_ac (rx_sd_get (C := RX0) (T := TX0) (N := 18) in_X0 rfl (by decide) kw_18 dX0_arrive_37) ?_
  refine rx_ac (rx_sd_iload_n dX0_arrive_40 rfl) ?_
  refine rx_ac (rx_sd_iald ⟨rfl, rfl, rfl⟩ dX0_arrive_41) ?_
  refine rx_ac (rx_sd_iadd dX0_arrive_42) ?_
  refine rx_ac (rx_sd_iconst dX0_arrive_43 (by decide)) ?_
  refine rx_ac (rx_sd_zast ⟨rfl, rfl, rfl⟩ dX0_arrive_44) ?_
  refine rx_ac (rx_sd_iconst dX0_arrive_45 (by decide)) ?_
  refine rx_ac (rx_sd_retI (M := m_X0_arrive Y) rfl (Or.inr rfl) dX0_arrive_46) ?_
  exact rx_an
set_option maxRecDepth 100000 in
set_option maxHeartbeats 4000000 in
theorem s_X0_enter {l : Launch} {D : va_G} {cy : Nat → ClassId} {σ : Nat → Int32} {Y : rx_Y} (hY : rx_YOk Y σ) : ∀ q ∈ p_X0_enter Y, rx_Sd (gG l D cy σ) (mt Y) (m_X0_enter Y) q.1 q.2 := by
  unfold p_X0_enter
  refine rx_ac (rx_sd_aload_n dX0_enter_0 rfl) ?_
  refine rx_ac (rx_sd_get (C := RX0) (T := TX0) (N := 18) in_X0 rfl (by decide) kw_12 dX0_enter_1) ?_
  refine rx_ac (rx_sd_sipush dX0_enter_4 (by decide)) ?_
  refine rx_ac (rx_sd_icmp_lt hY dX0_enter_7 (by decide)) ?_
  refine rx_ac (rx_sd_iconst dX0_enter_12 (by decide)) ?_
  refine rx_ac (rx_sd_istore_n (M := m_X0_enter Y) dX0_enter_13 rfl) ?_
  refine rx_ac (rx_sd_iload_n dX0_enter_14 rfl) ?_
  refine rx_ac (rx_sd_aload_n dX0_enter_15 rfl) ?_
  refine rx_ac (rx_sd_get (C := RX0) (T := TX0) (N := 18) in_X0 rfl (by decide) kw_19 dX0_enter_16) ?_
  refine rx_ac (rx_sd_get (C := RX7) (T := TX7) (N := 6) in_X7 rfl (by decide) kw_20 dX0_enter_19) ?_
  refine rx_ac (rx_sd_icmp_ge hY dX0_enter_22 (by decide)) ?_
  refine rx_ac (rx_sd_aload_n dX0_enter_25 rfl) ?_
  refine rx_ac (rx_sd_get (C := RX0) (T := TX0) (N := 18) in_X0 rfl (by decide) kw_18 dX0_enter_26) ?_
  refine rx_ac (rx_sd_iload_n dX0_enter_29 rfl) ?_
  refine rx_ac (rx_sd_iload_n dX0_enter_30 rfl) ?_
  refine rx_ac (rx_sd_iast hY ⟨rfl, rfl, rfl⟩ dX0_enter_31) ?_
  refine rx_ac (rx_sd_aload_n dX0_enter_32 rfl) ?_
  refine rx_ac (rx_sd_get (C := RX0) (T := TX0) (N := 18) in_X0 rfl (by decide) kw_21 dX0_enter_33) ?_
  refine rx_ac (rx_sd_aload_n dX0_enter_36 rfl) ?_
  refine rx_ac (rx_sd_get (C := RX0) (T := TX0) (N := 18) in_X0 rfl (by decide) kw_12 dX0_enter_37) ?_
  refine rx_ac (rx_sd_bipush dX0_enter_40 (by decide)) ?_
  refine rx_ac (rx_sd_imul dX0_enter_42) ?_
  refine rx_ac (rx_sd_iload_n dX0_enter_43 rfl) ?_
  refine rx_ac (rx_sd_iadd dX0_enter_44) ?_
  refine rx_ac (rx_sd_aload_n dX0_enter_45 rfl) ?_
  refine rx_ac (rx_sd_get (C := RX0) (T := TX0) (N := 18) in_X0 rfl (by decide) kw_22 dX0_enter_46) ?_
  refine rx_ac (rx_sd_iload_n dX0_enter_49 rfl) ?_
  refine rx_ac (rx_sd_iald ⟨rfl, rfl, rfl⟩ dX0_enter_50) ?_
  refine rx_ac (rx_sd_iast hY ⟨rfl, rfl, rfl⟩ dX0_enter_51) ?_
  refine rx_ac (rx_sd_aload_n dX0_enter_52 rfl) ?_
  refine rx_ac (rx_sd_get (C := RX0) (T := TX0) (N := 18) in_X0 rfl (by decide) kw_17 dX0_enter_53) ?_
  refine rx_ac (rx_sd_aload_n dX0_enter_56 rfl) ?_
  refine rx_ac (rx_sd_get (C := RX0) (T := TX0) (N := 18) in_X0 rfl (by decide) kw_12 dX0_enter_57) ?_
  refine rx_ac (rx_sd_bipush dX0_enter_60 (by decide)) ?_
  refine rx_ac (rx_sd_imul dX0_enter_62) ?_
  refine rx_ac (rx_sd_iload_n dX0_enter_63 rfl) ?_
  refine rx_ac (rx_sd_iadd dX0_enter_64) ?_
  refine rx_ac (rx_sd_iconst dX0_enter_65 (by decide)) ?_
  refine rx_ac (rx_sd_zast ⟨rfl, rfl, rfl⟩ dX0_enter_66) ?_
  refine rx_ac (rx_sd_iinc (M := m_X0_enter Y) dX0_enter_67 (by decide)) ?_
  refine rx_ac (rx_sd_goto dX0_enter_70 (by decide)) ?_
  refine rx_ac (rx_sd_aload_n dX0_enter_73 rfl) ?_
  refine rx_ac (rx_sd_get (C := RX0) (T := TX0) (N := 18) in_X0 rfl (by decide) kw_19 dX0_enter_74) ?_
  refine rx_ac (rx_sd_get (C := RX7) (T := TX7) (N := 6) in_X7 rfl (by decide) kw_23 dX0_enter_77) ?_
  refine rx_ac (rx_sd_iconst dX0_enter_80 (by decide)) ?_
  refine rx_ac (rx_sd_aload_n dX0_enter_81 rfl) ?_
  refine rx_ac (rx_sd_get (C := RX0) (T := TX0) (N := 18) in_X0 rfl (by decide) kw_24 dX0_enter_82) ?_
  refine rx_ac (rx_sd_aload_n dX0_enter_85 rfl) ?_
  refine rx_ac (rx_sd_get (C := RX0) (T := TX0) (N := 18) in_X0 rfl (by decide) kw_12 dX0_enter_86) ?_
  refine rx_ac (rx_sd_bipush dX0_enter_89 (by decide)) ?_
  refine rx_ac (rx_sd_imul dX0_enter_91) ?_
  refine rx_ac (rx_sd_bipush dX0_enter_92 (by decide)) ?_
  refine rx_ac (rx_sd_cpI (M := m_X0_enter Y) ⟨rfl, rfl, rfl⟩ kw_25 kw_26 kw_27 kw_28 (Nat.le_of_ble_eq_true rfl) dX0_enter_94) ?_
  refine rx_ac (rx_sd_aload_n dX0_enter_97 rfl) ?_
  refine rx_ac (rx_sd_get (C := RX0) (T := TX0) (N := 18) in_X0 rfl (by decide) kw_29 dX0_enter_98) ?_
  refine rx_ac (rx_sd_aload_n dX0_enter_101 rfl) ?_
  refine rx_ac (rx_sd_get (C := RX0) (T := TX0) (N := 18) in_X0 rfl (by decide) kw_12 dX0_enter_102) ?_
  refine rx_ac (rx_sd_aload_n dX0_enter_105 rfl) ?_
  refine rx_ac (rx_sd_get (C := RX0) (T := TX0) (N := 18) in_X0 rfl (by decide) kw_30 dX0_enter_106) ?_
  refine rx_ac (rx_sd_last ⟨rfl, rfl, rfl⟩ dX0_enter_109) ?_
  refine rx_ac (rx_sd_aload_n dX0_enter_110 rfl) ?_
  refine rx_ac (rx_sd_get (C := RX0) (T := TX0) (N := 18) in_X0 rfl (by decide) kw_31 dX0_enter_111) ?_
  refine rx_ac (rx_sd_aload_n dX0_enter_114 rfl) ?_
  refine rx_ac (rx_sd_get (C := RX0) (T := TX0) (N := 18) in_X0 rfl (by decide) kw_12 dX0_enter_115) ?_
  refine rx_ac (rx_sd_aload_n dX0_enter_118 rfl) ?_
  refine rx_ac (rx_sd_get (C := RX0) (T := TX0) (N := 18) in_X0 rfl (by decide) kw_32 dX0_enter_119) ?_
  refine rx_ac (rx_sd_last ⟨rfl, rfl, rfl⟩ dX0_enter_122) ?_
  refine rx_ac (rx_sd_aload_n dX0_enter_123 rfl) ?_
  refine rx_ac (rx_sd_dup dX0_enter_124) ?_
  refine rx_ac (rx_sd_get (C := RX0) (T := TX0) (N := 18) in_X0 rfl (by decide) kw_12 dX0_enter_125) ?_
  refine rx_ac (rx_sd_iconst dX0_enter_128 (by decide)) ?_
  refine rx_ac (rx_sd_iadd dX0_enter_129) ?_
  refine rx_ac (rx_sd_putf (C := RX0) (T := TX0) (N := 18) (ty0 := tyX0) in_X0 tyX0_ok nmX0 rfl (by decide) kw_12 (Or.inl rfl) rfl dX0_enter_130) ?_
  refine rx_ac (rx_sd_iconst dX0_enter_133 (by decide)) ?_
  refine rx_ac (rx_sd_retI (M := m_X0_enter Y) rfl (Or.inr rfl) dX0_enter_134) ?_
  exact rx_an
set_option maxRecDepth 100000 in
set_option maxHeartbeats 4000000 in
theorem s_X0_enterFirst {l : Launch} {D : va_G} {cy : Nat → ClassId} {σ : Nat → Int32} {Y : rx_Y} (hY : rx_YOk Y σ) : ∀ q ∈ p_X0_enterFirst Y, rx_Sd (gG l D cy σ) (mt Y) (m_X0_enterFirst Y) q.1 q.2 := by
  unfold p_X0_enterFirst
  refine rx_ac (rx_sd_aload_n dX0_enterFirst_0 rfl) ?_
  refine rx_ac (rx_sd_iconst dX0_enterFirst_1 (by decide)) ?_
  refine rx_ac (rx_sd_putf (C := RX0) (T := TX0) (N := 18) (ty0 := tyX0) in_X0 tyX0_ok nmX0 rfl (by decide) kw_33 (Or.inl rfl) rfl dX0_enterFirst_2) ?_
  refine rx_ac (rx_sd_aload_n dX0_enterFirst_5 rfl) ?_
  refine rx_ac (rx_sd_iconst dX0_enterFirst_6 (by decide)) ?_
  refine rx_ac (rx_sd_putf (C := RX0) (T := TX0) (N := 18) (ty0 := tyX0) in_X0 tyX0_ok nmX0 rfl (by decide) kw_12 (Or.inl rfl) rfl dX0_enterFirst_7) ?_
  refine rx_ac (rx_sd_aload_n dX0_enterFirst_10 rfl) ?_
  refine rx_ac (rx_sd_get (C := RX0) (T := TX0) (N := 18) in_X0 rfl (by decide) kw_19 dX0_enterFirst_11) ?_
  refine rx_ac (rx_sd_aload_n dX0_enterFirst_14 rfl) ?_
  refine rx_ac (rx_sd_get (C := RX7) (T := TX7) (N := 6) in_X7 rfl (by decide) kw_20 dX0_enterFirst_15) ?_
  refine rx_ac (rx_sd_putf (C := RX7) (T := TX7) (N := 6) (ty0 := tyX7) in_X7 tyX7_ok nmX7 rfl (by decide) kw_20 (Or.inl rfl) rfl dX0_enterFirst_18) ?_
  refine rx_ac (rx_sd_aload_n dX0_enterFirst_21 rfl) ?_
  refine rx_ac (rx_sd_get (C := RX0) (T := TX0) (N := 18) in_X0 rfl (by decide) kw_19 dX0_enterFirst_22) ?_
  refine rx_ac (rx_sd_aload_n dX0_enterFirst_25 rfl) ?_
  refine rx_ac (rx_sd_get (C := RX7) (T := TX7) (N := 6) in_X7 rfl (by decide) kw_34 dX0_enterFirst_26) ?_
  refine rx_ac (rx_sd_putf (C := RX7) (T := TX7) (N := 6) (ty0 := tyX7) in_X7 tyX7_ok nmX7 rfl (by decide) kw_34 (Or.inl rfl) rfl dX0_enterFirst_29) ?_
  refine rx_ac (rx_sd_aload_n dX0_enterFirst_32 rfl) ?_
  refine rx_ac (rx_sd_get (C := RX7) (T := TX7) (N := 6) in_X7 rfl (by decide) kw_23 dX0_enterFirst_33) ?_
  refine rx_ac (rx_sd_iconst dX0_enterFirst_36 (by decide)) ?_
  refine rx_ac (rx_sd_aload_n dX0_enterFirst_37 rfl) ?_
  refine rx_ac (rx_sd_get (C := RX0) (T := TX0) (N := 18) in_X0 rfl (by decide) kw_19 dX0_enterFirst_38) ?_
  refine rx_ac (rx_sd_get (C := RX7) (T := TX7) (N := 6) in_X7 rfl (by decide) kw_23 dX0_enterFirst_41) ?_
  refine rx_ac (rx_sd_iconst dX0_enterFirst_44 (by decide)) ?_
  refine rx_ac (rx_sd_bipush dX0_enterFirst_45 (by decide)) ?_
  refine rx_ac (rx_sd_cpI (M := m_X0_enterFirst Y) ⟨rfl, rfl, rfl⟩ kw_25 kw_26 kw_27 kw_28 (Nat.le_of_ble_eq_true rfl) dX0_enterFirst_47) ?_
  refine rx_ac (rx_sd_iconst dX0_enterFirst_50 (by decide)) ?_
  refine rx_ac (rx_sd_istore_n (M := m_X0_enterFirst Y) dX0_enterFirst_51 rfl) ?_
  refine rx_ac (rx_sd_iload_n dX0_enterFirst_52 rfl) ?_
  refine rx_ac (rx_sd_aload_n dX0_enterFirst_53 rfl) ?_
  refine rx_ac (rx_sd_get (C := RX7) (T := TX7) (N := 6) in_X7 rfl (by decide) kw_20 dX0_enterFirst_54) ?_
  refine rx_ac (rx_sd_icmp_ge hY dX0_enterFirst_57 (by decide)) ?_
  refine rx_ac (rx_sd_aload_n dX0_enterFirst_60 rfl) ?_
  refine rx_ac (rx_sd_get (C := RX0) (T := TX0) (N := 18) in_X0 rfl (by decide) kw_22 dX0_enterFirst_61) ?_
  refine rx_ac (rx_sd_iload_n dX0_enterFirst_64 rfl) ?_
  refine rx_ac (rx_sd_aload_n dX0_enterFirst_65 rfl) ?_
  refine rx_ac (rx_sd_aload_n dX0_enterFirst_66 rfl) ?_
  refine rx_ac (rx_sd_get (C := RX7) (T := TX7) (N := 6) in_X7 rfl (by decide) kw_35 dX0_enterFirst_67) ?_
  refine rx_ac (rx_sd_iload_n dX0_enterFirst_70 rfl) ?_
  refine rx_ac (rx_sd_aald (t := 2) rfl dX0_enterFirst_71) ?_
  refine rx_ac (rx_sd_cl (M := m_X0_enterFirst Y) (rx_lk_V gok (mid := 9) (ci := 0) (C := (RX0, TX0, 18)) ⟨kw_36, kw_4, hd_X0_numberOf, Nat.le_of_ble_eq_true rfl, Nat.le_of_ble_eq_true rfl⟩ rfl kw_37 kw_38 kw_39 dX0_enterFirst_72) (fun _ => ⟨_, rfl⟩) rfl rfl) ?_
  refine rx_ac (rx_sd_iast hY ⟨rfl, rfl, rfl⟩ dX0_enterFirst_75) ?_
  refine rx_ac (rx_sd_aload_n dX0_enterFirst_76 rfl) ?_
  refine rx_ac (rx_sd_get (C := RX0) (T := TX0) (N := 18) in_X0 rfl (by decide) kw_22 dX0_enterFirst_77) ?_
  refine rx_ac (rx_sd_iload_n dX0_enterFirst_80 rfl) ?_
  refine rx_ac (rx_sd_iald ⟨rfl, rfl, rfl⟩ dX0_enterFirst_81) ?_
  refine rx_ac (rx_sd_iconst dX0_enterFirst_82 (by decide)) ?_
  refine rx_ac (rx_sd_icmp_ne hY dX0_enterFirst_83 (by decide)) ?_
  refine rx_ac (rx_sd_iinc (M := m_X0_enterFirst Y) dX0_enterFirst_88 (by decide)) ?_
  refine rx_ac (rx_sd_goto dX0_enterFirst_91 (by decide)) ?_
  refine rx_ac (rx_sd_aload_n dX0_enterFirst_94 rfl) ?_
  refine rx_ac (rx_sd_cl (M := m_X0_enterFirst Y) (rx_lk_V gok (mid := 6) (ci := 0) (C := (RX0, TX0, 18)) ⟨kw_3, kw_4, hd_X0_gatherLetters, Nat.le_of_ble_eq_true rfl, Nat.le_of_ble_eq_true rfl⟩ rfl kw_5 kw_6 kw_7 dX0_enterFirst_95) (fun _ => ⟨_, rfl⟩) rfl rfl) ?_
  refine rx_ac (rx_sd_aload_n dX0_enterFirst_98 rfl) ?_
  refine rx_ac (rx_sd_cl (M := m_X0_enterFirst Y) (rx_lk_V gok (mid := 3) (ci := 0) (C := (RX0, TX0, 18)) ⟨kw_13, kw_4, hd_X0_enter, Nat.le_of_ble_eq_true rfl, Nat.le_of_ble_eq_true rfl⟩ rfl kw_14 kw_15 kw_16 dX0_enterFirst_99) (fun _ => ⟨_, rfl⟩) rfl rfl) ?_
  refine rx_ac (rx_sd_retI (M := m_X0_enterFirst Y) rfl (Or.inr rfl) dX0_enterFirst_102) ?_
  exact rx_an
set_option maxRecDepth 100000 in
set_option maxHeartbeats 4000000 in
theorem s_X0_explore {l : Launch} {D : va_G} {cy : Nat → ClassId} {σ : Nat → Int32} {Y : rx_Y} (hY : rx_YOk Y σ) : ∀ q ∈ p_X0_explore Y, rx_Sd (gG l D cy σ) (mt Y) (m_X0_explore Y) q.1 q.2 := by
  unfold p_X0_explore
  refine rx_ac (rx_sd_aload_n dX0_explore_0 rfl) ?_
  refine rx_ac (rx_sd_aload_n dX0_explore_1 rfl) ?_
  refine rx_ac (rx_sd_cl (M := m_X0_explore Y) (rx_lk_V gok (mid := 4) (ci := 0) (C := (RX0, TX0, 18)) ⟨kw_40, kw_4, hd_X0_enterFirst, Nat.le_of_ble_eq_true rfl, Nat.le_of_ble_eq_true rfl⟩ rfl kw_41 kw_42 kw_43 dX0_explore_2) (fun _ => ⟨_, rfl⟩) rfl rfl) ?_
  refine rx_ac (rx_sd_if_ne hY dX0_explore_5 (by decide)) ?_
  refine rx_ac (rx_sd_iconst dX0_explore_11 (by decide)) ?_
  refine rx_ac (rx_sd_istore_n (M := m_X0_explore Y) dX0_explore_12 rfl) ?_
  refine rx_ac (rx_sd_iload_n dX0_explore_13 rfl) ?_
  refine rx_ac (rx_sd_aload_n dX0_explore_14 rfl) ?_
  refine rx_ac (rx_sd_get (C := RX0) (T := TX0) (N := 18) in_X0 rfl (by decide) kw_12 dX0_explore_15) ?_
  refine rx_ac (rx_sd_icmp_ge hY dX0_explore_18 (by decide)) ?_
  refine rx_ac (rx_sd_iload_n dX0_explore_21 rfl) ?_
  refine rx_ac (rx_sd_sipush dX0_explore_22 (by decide)) ?_
  refine rx_ac (rx_sd_icmp_ge hY dX0_explore_25 (by decide)) ?_
  refine rx_ac (rx_sd_iconst dX0_explore_28 (by decide)) ?_
  refine rx_ac (rx_sd_istore (M := m_X0_explore Y) dX0_explore_29) ?_
  refine rx_ac (rx_sd_iload dX0_explore_31) ?_
  refine rx_ac (rx_sd_aload_n dX0_explore_33 rfl) ?_
  refine rx_ac (rx_sd_get (C := RX0) (T := TX0) (N := 18) in_X0 rfl (by decide) kw_19 dX0_explore_34) ?_
  refine rx_ac (rx_sd_get (C := RX7) (T := TX7) (N := 6) in_X7 rfl (by decide) kw_20 dX0_explore_37) ?_
  refine rx_ac (rx_sd_icmp_ge hY dX0_explore_40 (by decide)) ?_
  refine rx_ac (rx_sd_aload_n dX0_explore_43 rfl) ?_
  refine rx_ac (rx_sd_get (C := RX0) (T := TX0) (N := 18) in_X0 rfl (by decide) kw_17 dX0_explore_44) ?_
  refine rx_ac (rx_sd_iload_n dX0_explore_47 rfl) ?_
  refine rx_ac (rx_sd_bipush dX0_explore_48 (by decide)) ?_
  refine rx_ac (rx_sd_imul dX0_explore_50) ?_
  refine rx_ac (rx_sd_iload dX0_explore_51) ?_
  refine rx_ac (rx_sd_iadd dX0_explore_53) ?_
  refine rx_ac (rx_sd_zald ⟨rfl, rfl, rfl⟩ dX0_explore_54) ?_
  refine rx_ac (rx_sd_if_eq hY dX0_explore_55 (by decide)) ?_
  refine rx_ac (rx_sd_goto dX0_explore_58 (by decide)) ?_
  refine rx_ac (rx_sd_aload_n dX0_explore_61 rfl) ?_
  refine rx_ac (rx_sd_iload_n dX0_explore_62 rfl) ?_
  refine rx_ac (rx_sd_cl (M := m_X0_explore Y) (rx_lk_V gok (mid := 8) (ci := 0) (C := (RX0, TX0, 18)) ⟨kw_44, kw_4, hd_X0_load, Nat.le_of_ble_eq_true rfl, Nat.le_of_ble_eq_true rfl⟩ rfl kw_45 kw_46 kw_47 dX0_explore_63) (fun _ => ⟨_, rfl⟩) rfl rfl) ?_
  refine rx_ac (rx_sd_aload_n dX0_explore_66 rfl) ?_
  refine rx_ac (rx_sd_aload_n dX0_explore_67 rfl) ?_
  refine rx_ac (rx_sd_get (C := RX0) (T := TX0) (N := 18) in_X0 rfl (by decide) kw_19 dX0_explore_68) ?_
  refine rx_ac (rx_sd_iload dX0_explore_71) ?_
  refine rx_ac (rx_sd_cl (M := m_X0_explore Y) (rx_lk_V gok (mid := 29) (ci := 5) (C := (RX5, TX5, 7)) ⟨kw_48, kw_49, hd_X5_exchange, Nat.le_of_ble_eq_true rfl, Nat.le_of_ble_eq_true rfl⟩ rfl kw_50 kw_51 kw_52 dX0_explore_73) (fun _ => ⟨_, rfl⟩) rfl rfl) ?_
  refine rx_ac (rx_sd_if_ne hY dX0_explore_76 (by decide)) ?_
  refine rx_ac (rx_sd_aload_n dX0_explore_82 rfl) ?_
  refine rx_ac (rx_sd_get (C := RX0) (T := TX0) (N := 18) in_X0 rfl (by decide) kw_19 dX0_explore_83) ?_
  refine rx_ac (rx_sd_get (C := RX7) (T := TX7) (N := 6) in_X7 rfl (by decide) kw_23 dX0_explore_86) ?_
  refine rx_ac (rx_sd_aload_n dX0_explore_89 rfl) ?_
  refine rx_ac (rx_sd_get (C := RX0) (T := TX0) (N := 18) in_X0 rfl (by decide) kw_19 dX0_explore_90) ?_
  refine rx_ac (rx_sd_get (C := RX7) (T := TX7) (N := 6) in_X7 rfl (by decide) kw_20 dX0_explore_93) ?_
  refine rx_ac (rx_sd_aload_n dX0_explore_96 rfl) ?_
  refine rx_ac (rx_sd_get (C := RX0) (T := TX0) (N := 18) in_X0 rfl (by decide) kw_19 dX0_explore_97) ?_
  refine rx_ac (rx_sd_get (C := RX7) (T := TX7) (N := 6) in_X7 rfl (by decide) kw_34 dX0_explore_100) ?_
  refine rx_ac (rx_sd_iadd dX0_explore_103) ?_
  refine rx_ac (rx_sd_aload_n dX0_explore_104 rfl) ?_
  refine rx_ac (rx_sd_get (C := RX0) (T := TX0) (N := 18) in_X0 rfl (by decide) kw_19 dX0_explore_105) ?_
  refine rx_ac (rx_sd_get (C := RX7) (T := TX7) (N := 6) in_X7 rfl (by decide) kw_20 dX0_explore_108) ?_
  refine rx_ac (rx_sd_iload dX0_explore_111) ?_
  refine rx_ac (rx_sd_cl (M := m_X0_explore Y) (rx_lk_SN gok (host := "SeedBench") (mid := 91) ⟨kw_53, kw_54, hd_X9_turnTable, Nat.le_of_ble_eq_true rfl, Nat.le_of_ble_eq_true rfl⟩ (List.mem_of_getElem? (i := 12) rfl) kw_55 dX0_explore_113) (fun h => nomatch h) rfl rfl) ?_
  refine rx_ac (rx_sd_aload_n dX0_explore_116 rfl) ?_
  refine rx_ac (rx_sd_get (C := RX0) (T := TX0) (N := 18) in_X0 rfl (by decide) kw_22 dX0_explore_117) ?_
  refine rx_ac (rx_sd_iload dX0_explore_120) ?_
  refine rx_ac (rx_sd_aload_n dX0_explore_122 rfl) ?_
  refine rx_ac (rx_sd_aload_n dX0_explore_123 rfl) ?_
  refine rx_ac (rx_sd_get (C := RX5) (T := TX5) (N := 7) in_X5 rfl (by decide) kw_56 dX0_explore_124) ?_
  refine rx_ac (rx_sd_cl (M := m_X0_explore Y) (rx_lk_V gok (mid := 9) (ci := 0) (C := (RX0, TX0, 18)) ⟨kw_36, kw_4, hd_X0_numberOf, Nat.le_of_ble_eq_true rfl, Nat.le_of_ble_eq_true rfl⟩ rfl kw_37 kw_38 kw_39 dX0_explore_127) (fun _ => ⟨_, rfl⟩) rfl rfl) ?_
  refine rx_ac (rx_sd_iast hY ⟨rfl, rfl, rfl⟩ dX0_explore_130) ?_
  refine rx_ac (rx_sd_aload_n dX0_explore_131 rfl) ?_
  refine rx_ac (rx_sd_get (C := RX0) (T := TX0) (N := 18) in_X0 rfl (by decide) kw_22 dX0_explore_132) ?_
  refine rx_ac (rx_sd_iload dX0_explore_135) ?_
  refine rx_ac (rx_sd_iald ⟨rfl, rfl, rfl⟩ dX0_explore_137) ?_
  refine rx_ac (rx_sd_iconst dX0_explore_138 (by decide)) ?_
  refine rx_ac (rx_sd_icmp_eq hY dX0_explore_139 (by decide)) ?_
  refine rx_ac (rx_sd_aload_n dX0_explore_142 rfl) ?_
  refine rx_ac (rx_sd_iload dX0_explore_143) ?_
  refine rx_ac (rx_sd_cl (M := m_X0_explore Y) (rx_lk_V gok (mid := 2) (ci := 0) (C := (RX0, TX0, 18)) ⟨kw_57, kw_4, hd_X0_arrive, Nat.le_of_ble_eq_true rfl, Nat.le_of_ble_eq_true rfl⟩ rfl kw_58 kw_59 kw_60 dX0_explore_145) (fun _ => ⟨_, rfl⟩) rfl rfl) ?_
  refine rx_ac (rx_sd_if_ne hY dX0_explore_148 (by decide)) ?_
  refine rx_ac (rx_sd_iinc (M := m_X0_explore Y) dX0_explore_154 (by decide)) ?_
  refine rx_ac (rx_sd_goto dX0_explore_157 (by decide)) ?_
  refine rx_ac (rx_sd_iinc (M := m_X0_explore Y) dX0_explore_160 (by decide)) ?_
  refine rx_ac (rx_sd_goto dX0_explore_163 (by decide)) ?_
  refine rx_ac (rx_sd_aload_n dX0_explore_166 rfl) ?_
  refine rx_ac (rx_sd_cl (M := m_X0_explore Y) (rx_lk_V gok (mid := 10) (ci := 0) (C := (RX0, TX0, 18)) ⟨kw_61, kw_4, hd_X0_remember, Nat.le_of_ble_eq_true rfl, Nat.le_of_ble_eq_true rfl⟩ rfl kw_62 kw_63 kw_64 dX0_explore_167) (fun _ => ⟨_, rfl⟩) rfl rfl) ?_
  refine rx_ac (rx_sd_aload_n dX0_explore_170 rfl) ?_
  refine rx_ac (rx_sd_get (C := RX0) (T := TX0) (N := 18) in_X0 rfl (by decide) kw_12 dX0_explore_171) ?_
  refine rx_ac (rx_sd_retI (M := m_X0_explore Y) rfl (Or.inl rfl) dX0_explore_174) ?_
  exact rx_an
set_option maxRecDepth 100000 in
set_option maxHeartbeats 4000000 in
theorem s_X0_gatherLetters {l : Launch} {D : va_G} {cy : Nat → ClassId} {σ : Nat → Int32} {Y : rx_Y} (hY : rx_YOk Y σ) : ∀ q ∈ p_X0_gatherLetters Y, rx_Sd (gG l D cy σ) (mt Y) (m_X0_gatherLetters Y) q.1 q.2 := by
  unfold p_X0_gatherLetters
  refine rx_ac (rx_sd_aload_n dX0_gatherLetters_0 rfl) ?_
  refine rx_ac (rx_sd_lconst dX0_gatherLetters_1 (by decide)) ?_
  refine rx_ac (rx_sd_putf (C := RX0) (T := TX0) (N := 18) (ty0 := tyX0) in_X0 tyX0_ok nmX0 rfl (by decide) kw_30 (Or.inl rfl) rfl dX0_gatherLetters_2) ?_
  refine rx_ac (rx_sd_aload_n dX0_gatherLetters_5 rfl) ?_
  refine rx_ac (rx_sd_lconst dX0_gatherLetters_6 (by decide)) ?_
  refine rx_ac (rx_sd_putf (C := RX0) (T := TX0) (N := 18) (ty0 := tyX0) in_X0 tyX0_ok nmX0 rfl (by decide) kw_32 (Or.inl rfl) rfl dX0_gatherLetters_7) ?_
  refine rx_ac (rx_sd_iconst dX0_gatherLetters_10 (by decide)) ?_
  refine rx_ac (rx_sd_istore_n (M := m_X0_gatherLetters Y) dX0_gatherLetters_11 rfl) ?_
  refine rx_ac (rx_sd_iload_n dX0_gatherLetters_12 rfl) ?_
  refine rx_ac (rx_sd_aload_n dX0_gatherLetters_13 rfl) ?_
  refine rx_ac (rx_sd_get (C := RX0) (T := TX0) (N := 18) in_X0 rfl (by decide) kw_19 dX0_gatherLetters_14) ?_
  refine rx_ac (rx_sd_get (C := RX7) (T := TX7) (N := 6) in_X7 rfl (by decide) kw_20 dX0_gatherLetters_17) ?_
  refine rx_ac (rx_sd_icmp_ge hY dX0_gatherLetters_20 (by decide)) ?_
  refine rx_ac (rx_sd_aload_n dX0_gatherLetters_23 rfl) ?_
  refine rx_ac (rx_sd_get (C := RX0) (T := TX0) (N := 18) in_X0 rfl (by decide) kw_22 dX0_gatherLetters_24) ?_
  refine rx_ac (rx_sd_iload_n dX0_gatherLetters_27 rfl) ?_
  refine rx_ac (rx_sd_iald ⟨rfl, rfl, rfl⟩ dX0_gatherLetters_28) ?_
  refine rx_ac (rx_sd_bipush dX0_gatherLetters_29 (by decide)) ?_
  refine rx_ac (rx_sd_icmp_ge hY dX0_gatherLetters_31 (by decide)) ?_
  refine rx_ac (rx_sd_aload_n dX0_gatherLetters_34 rfl) ?_
  refine rx_ac (rx_sd_dup dX0_gatherLetters_35) ?_
  refine rx_ac (rx_sd_get (C := RX0) (T := TX0) (N := 18) in_X0 rfl (by decide) kw_30 dX0_gatherLetters_36) ?_
  refine rx_ac (rx_sd_lconst dX0_gatherLetters_39 (by decide)) ?_
  refine rx_ac (rx_sd_aload_n dX0_gatherLetters_40 rfl) ?_
  refine rx_ac (rx_sd_get (C := RX0) (T := TX0) (N := 18) in_X0 rfl (by decide) kw_22 dX0_gatherLetters_41) ?_
  refine rx_ac (rx_sd_iload_n dX0_gatherLetters_44 rfl) ?_
  refine rx_ac (rx_sd_iald ⟨rfl, rfl, rfl⟩ dX0_gatherLetters_45) ?_
  refine rx_ac (rx_sd_lshl dX0_gatherLetters_46) ?_
  refine rx_ac (rx_sd_lor dX0_gatherLetters_47) ?_
  refine rx_ac (rx_sd_putf (C := RX0) (T := TX0) (N := 18) (ty0 := tyX0) in_X0 tyX0_ok nmX0 rfl (by decide) kw_30 (Or.inl rfl) rfl dX0_gatherLetters_48) ?_
  refine rx_ac (rx_sd_goto dX0_gatherLetters_51 (by decide)) ?_
  refine rx_ac (rx_sd_iinc (M := m_X0_gatherLetters Y) dX0_gatherLetters_74 (by decide)) ?_
  refine rx_ac (rx_sd_goto dX0_gatherLetters_77 (by decide)) ?_
  refine rx_ac (rx_sd_ret0 (M := m_X0_gatherLetters Y) rfl dX0_gatherLetters_80) ?_
  exact rx_an
set_option maxRecDepth 100000 in
set_option maxHeartbeats 4000000 in
theorem s_X0_init {l : Launch} {D : va_G} {cy : Nat → ClassId} {σ : Nat → Int32} {Y : rx_Y} (hY : rx_YOk Y σ) : ∀ q ∈ p_X0_init Y, rx_Sd (gG l D cy σ) (mt Y) (m_X0_init Y) q.1 q.2 := by
  unfold p_X0_init
  refine rx_ac (rx_sd_aload_n dX0_init_0 rfl) ?_
  refine rx_ac (rx_sd_obj (M := m_X0_init Y) kw_65 kw_66 kw_objcode (Nat.le_of_ble_eq_true rfl) dX0_init_1) ?_
  refine rx_ac (rx_sd_aload_n dX0_init_4 rfl) ?_
  refine rx_ac (rx_sd_bipush dX0_init_5 (by decide)) ?_
  refine rx_ac (rx_sd_newq (M := m_X0_init Y) (t := 2) (C := "SeedBench$Share") rfl (List.mem_of_getElem? (i := 2) rfl) kw_67 dX0_init_7) ?_
  refine rx_ac (rx_sd_putf (C := RX0) (T := TX0) (N := 18) (ty0 := tyX0) in_X0 tyX0_ok nmX0 rfl (by decide) kw_68 (Or.inr ⟨rfl, rfl, rfl⟩) rfl dX0_init_10) ?_
  refine rx_ac (rx_sd_aload_n dX0_init_13 rfl) ?_
  refine rx_ac (rx_sd_sipush dX0_init_14 (by decide)) ?_
  refine rx_ac (rx_sd_newI (M := m_X0_init Y) ⟨rfl, rfl, rfl⟩ kw_69 rfl dX0_init_17) ?_
  refine rx_ac (rx_sd_putf (C := RX0) (T := TX0) (N := 18) (ty0 := tyX0) in_X0 tyX0_ok nmX0 rfl (by decide) kw_21 (Or.inr ⟨rfl, rfl, rfl⟩) rfl dX0_init_19) ?_
  refine rx_ac (rx_sd_aload_n dX0_init_22 rfl) ?_
  refine rx_ac (rx_sd_sipush dX0_init_23 (by decide)) ?_
  refine rx_ac (rx_sd_newZ (M := m_X0_init Y) ⟨rfl, rfl, rfl⟩ kw_70 rfl dX0_init_26) ?_
  refine rx_ac (rx_sd_putf (C := RX0) (T := TX0) (N := 18) (ty0 := tyX0) in_X0 tyX0_ok nmX0 rfl (by decide) kw_17 (Or.inr ⟨rfl, rfl, rfl⟩) rfl dX0_init_28) ?_
  refine rx_ac (rx_sd_aload_n dX0_init_31 rfl) ?_
  refine rx_ac (rx_sd_sipush dX0_init_32 (by decide)) ?_
  refine rx_ac (rx_sd_newI (M := m_X0_init Y) ⟨rfl, rfl, rfl⟩ kw_69 rfl dX0_init_35) ?_
  refine rx_ac (rx_sd_putf (C := RX0) (T := TX0) (N := 18) (ty0 := tyX0) in_X0 tyX0_ok nmX0 rfl (by decide) kw_24 (Or.inr ⟨rfl, rfl, rfl⟩) rfl dX0_init_37) ?_
  refine rx_ac (rx_sd_aload_n dX0_init_40 rfl) ?_
  refine rx_ac (rx_sd_sipush dX0_init_41 (by decide)) ?_
  refine rx_ac (rx_sd_newL (M := m_X0_init Y) ⟨rfl, rfl, rfl⟩ kw_71 rfl dX0_init_44) ?_
  refine rx_ac (rx_sd_putf (C := RX0) (T := TX0) (N := 18) (ty0 := tyX0) in_X0 tyX0_ok nmX0 rfl (by decide) kw_29 (Or.inr ⟨rfl, rfl, rfl⟩) rfl dX0_init_46) ?_
  refine rx_ac (rx_sd_aload_n dX0_init_49 rfl) ?_
  refine rx_ac (rx_sd_sipush dX0_init_50 (by decide)) ?_
  refine rx_ac (rx_sd_newL (M := m_X0_init Y) ⟨rfl, rfl, rfl⟩ kw_71 rfl dX0_init_53) ?_
  refine rx_ac (rx_sd_putf (C := RX0) (T := TX0) (N := 18) (ty0 := tyX0) in_X0 tyX0_ok nmX0 rfl (by decide) kw_31 (Or.inr ⟨rfl, rfl, rfl⟩) rfl dX0_init_55) ?_
  refine rx_ac (rx_sd_aload_n dX0_init_58 rfl) ?_
  refine rx_ac (rx_sd_new (M := m_X0_init Y) (C := RX7) (T := TX7) (N := 6) (ty := tyX7) in_X7 tyX7_ok rfl kw_72 kw_73 kw_74 df_X7 rfl (cs_X7 σ) dX0_init_59) ?_
  refine rx_ac (rx_sd_dup dX0_init_62) ?_
  refine rx_ac (rx_sd_cl (M := m_X0_init Y) (rx_lk_I gok (mid := 47) (ci := 7) (C := (RX7, TX7, 6)) ⟨kw_75, kw_74, hd_X7_init, Nat.le_of_ble_eq_true rfl, Nat.le_of_ble_eq_true rfl⟩ rfl rfl kw_76 kw_77 rfl dX0_init_63) (fun _ => ⟨_, rfl⟩) rfl rfl) ?_
  refine rx_ac (rx_sd_putf (C := RX0) (T := TX0) (N := 18) (ty0 := tyX0) in_X0 tyX0_ok nmX0 rfl (by decide) kw_19 (Or.inr ⟨rfl, rfl, rfl⟩) rfl dX0_init_66) ?_
  refine rx_ac (rx_sd_aload_n dX0_init_69 rfl) ?_
  refine rx_ac (rx_sd_bipush dX0_init_70 (by decide)) ?_
  refine rx_ac (rx_sd_newI (M := m_X0_init Y) ⟨rfl, rfl, rfl⟩ kw_69 rfl dX0_init_72) ?_
  refine rx_ac (rx_sd_putf (C := RX0) (T := TX0) (N := 18) (ty0 := tyX0) in_X0 tyX0_ok nmX0 rfl (by decide) kw_22 (Or.inr ⟨rfl, rfl, rfl⟩) rfl dX0_init_74) ?_
  refine rx_ac (rx_sd_aload_n dX0_init_77 rfl) ?_
  refine rx_ac (rx_sd_bipush dX0_init_78 (by decide)) ?_
  refine rx_ac (rx_sd_newI (M := m_X0_init Y) ⟨rfl, rfl, rfl⟩ kw_69 rfl dX0_init_80) ?_
  refine rx_ac (rx_sd_putf (C := RX0) (T := TX0) (N := 18) (ty0 := tyX0) in_X0 tyX0_ok nmX0 rfl (by decide) kw_18 (Or.inr ⟨rfl, rfl, rfl⟩) rfl dX0_init_82) ?_
  refine rx_ac (rx_sd_aload_n dX0_init_85 rfl) ?_
  refine rx_ac (rx_sd_iconst dX0_init_86 (by decide)) ?_
  refine rx_ac (rx_sd_putf (C := RX0) (T := TX0) (N := 18) (ty0 := tyX0) in_X0 tyX0_ok nmX0 rfl (by decide) kw_78 (Or.inl rfl) rfl dX0_init_87) ?_
  refine rx_ac (rx_sd_aload_n dX0_init_90 rfl) ?_
  refine rx_ac (rx_sd_bipush dX0_init_91 (by decide)) ?_
  refine rx_ac (rx_sd_newI (M := m_X0_init Y) ⟨rfl, rfl, rfl⟩ kw_69 rfl dX0_init_93) ?_
  refine rx_ac (rx_sd_putf (C := RX0) (T := TX0) (N := 18) (ty0 := tyX0) in_X0 tyX0_ok nmX0 rfl (by decide) kw_79 (Or.inr ⟨rfl, rfl, rfl⟩) rfl dX0_init_95) ?_
  refine rx_ac (rx_sd_aload_n dX0_init_98 rfl) ?_
  refine rx_ac (rx_sd_bipush dX0_init_99 (by decide)) ?_
  refine rx_ac (rx_sd_newL (M := m_X0_init Y) ⟨rfl, rfl, rfl⟩ kw_71 rfl dX0_init_101) ?_
  refine rx_ac (rx_sd_putf (C := RX0) (T := TX0) (N := 18) (ty0 := tyX0) in_X0 tyX0_ok nmX0 rfl (by decide) kw_80 (Or.inr ⟨rfl, rfl, rfl⟩) rfl dX0_init_103) ?_
  refine rx_ac (rx_sd_aload_n dX0_init_106 rfl) ?_
  refine rx_ac (rx_sd_sipush dX0_init_107 (by decide)) ?_
  refine rx_ac (rx_sd_newI (M := m_X0_init Y) ⟨rfl, rfl, rfl⟩ kw_69 rfl dX0_init_110) ?_
  refine rx_ac (rx_sd_putf (C := RX0) (T := TX0) (N := 18) (ty0 := tyX0) in_X0 tyX0_ok nmX0 rfl (by decide) kw_81 (Or.inr ⟨rfl, rfl, rfl⟩) rfl dX0_init_112) ?_
  refine rx_ac (rx_sd_iconst dX0_init_115 (by decide)) ?_
  refine rx_ac (rx_sd_istore_n (M := m_X0_init Y) dX0_init_116 rfl) ?_
  refine rx_ac (rx_sd_iload_n dX0_init_117 rfl) ?_
  refine rx_ac (rx_sd_bipush dX0_init_118 (by decide)) ?_
  refine rx_ac (rx_sd_icmp_ge hY dX0_init_120 (by decide)) ?_
  refine rx_ac (rx_sd_aload_n dX0_init_123 rfl) ?_
  refine rx_ac (rx_sd_get (C := RX0) (T := TX0) (N := 18) in_X0 rfl (by decide) kw_68 dX0_init_124) ?_
  refine rx_ac (rx_sd_iload_n dX0_init_127 rfl) ?_
  refine rx_ac (rx_sd_new (M := m_X0_init Y) (C := RX8) (T := TX8) (N := 4) (ty := tyX8) in_X8 tyX8_ok rfl kw_67 kw_82 kw_83 df_X8 rfl (cs_X8 σ) dX0_init_128) ?_
  refine rx_ac (rx_sd_dup dX0_init_131) ?_
  refine rx_ac (rx_sd_cl (M := m_X0_init Y) (rx_lk_IN gok (host := "SeedBench") (mid := 55) (ci := 8) (C := (RX8, TX8, 4)) ⟨kw_84, kw_83, hd_X8_init, Nat.le_of_ble_eq_true rfl, Nat.le_of_ble_eq_true rfl⟩ rfl rfl (List.mem_of_getElem? (i := 4) rfl) kw_85 rfl dX0_init_132) (fun _ => ⟨_, rfl⟩) rfl rfl) ?_
  refine rx_ac (rx_sd_aast (t := 2) (ci := 8) (C := (RX8, TX8, 4)) rfl rfl dX0_init_135) ?_
  refine rx_ac (rx_sd_iinc (M := m_X0_init Y) dX0_init_136 (by decide)) ?_
  refine rx_ac (rx_sd_goto dX0_init_139 (by decide)) ?_
  refine rx_ac (rx_sd_ret0 (M := m_X0_init Y) rfl dX0_init_142) ?_
  exact rx_an
set_option maxRecDepth 100000 in
set_option maxHeartbeats 4000000 in
theorem s_X0_load {l : Launch} {D : va_G} {cy : Nat → ClassId} {σ : Nat → Int32} {Y : rx_Y} (hY : rx_YOk Y σ) : ∀ q ∈ p_X0_load Y, rx_Sd (gG l D cy σ) (mt Y) (m_X0_load Y) q.1 q.2 := by
  unfold p_X0_load
  refine rx_ac (rx_sd_aload_n dX0_load_0 rfl) ?_
  refine rx_ac (rx_sd_get (C := RX0) (T := TX0) (N := 18) in_X0 rfl (by decide) kw_24 dX0_load_1) ?_
  refine rx_ac (rx_sd_iload_n dX0_load_4 rfl) ?_
  refine rx_ac (rx_sd_bipush dX0_load_5 (by decide)) ?_
  refine rx_ac (rx_sd_imul dX0_load_7) ?_
  refine rx_ac (rx_sd_aload_n dX0_load_8 rfl) ?_
  refine rx_ac (rx_sd_get (C := RX0) (T := TX0) (N := 18) in_X0 rfl (by decide) kw_19 dX0_load_9) ?_
  refine rx_ac (rx_sd_get (C := RX7) (T := TX7) (N := 6) in_X7 rfl (by decide) kw_23 dX0_load_12) ?_
  refine rx_ac (rx_sd_iconst dX0_load_15 (by decide)) ?_
  refine rx_ac (rx_sd_bipush dX0_load_16 (by decide)) ?_
  refine rx_ac (rx_sd_cpI (M := m_X0_load Y) ⟨rfl, rfl, rfl⟩ kw_25 kw_26 kw_27 kw_28 (Nat.le_of_ble_eq_true rfl) dX0_load_18) ?_
  refine rx_ac (rx_sd_iconst dX0_load_21 (by decide)) ?_
  refine rx_ac (rx_sd_istore_n (M := m_X0_load Y) dX0_load_22 rfl) ?_
  refine rx_ac (rx_sd_iload_n dX0_load_23 rfl) ?_
  refine rx_ac (rx_sd_aload_n dX0_load_24 rfl) ?_
  refine rx_ac (rx_sd_get (C := RX0) (T := TX0) (N := 18) in_X0 rfl (by decide) kw_19 dX0_load_25) ?_
  refine rx_ac (rx_sd_get (C := RX7) (T := TX7) (N := 6) in_X7 rfl (by decide) kw_20 dX0_load_28) ?_
  refine rx_ac (rx_sd_icmp_ge hY dX0_load_31 (by decide)) ?_
  refine rx_ac (rx_sd_aload_n dX0_load_34 rfl) ?_
  refine rx_ac (rx_sd_get (C := RX0) (T := TX0) (N := 18) in_X0 rfl (by decide) kw_22 dX0_load_35) ?_
  refine rx_ac (rx_sd_iload_n dX0_load_38 rfl) ?_
  refine rx_ac (rx_sd_aload_n dX0_load_39 rfl) ?_
  refine rx_ac (rx_sd_get (C := RX0) (T := TX0) (N := 18) in_X0 rfl (by decide) kw_21 dX0_load_40) ?_
  refine rx_ac (rx_sd_iload_n dX0_load_43 rfl) ?_
  refine rx_ac (rx_sd_bipush dX0_load_44 (by decide)) ?_
  refine rx_ac (rx_sd_imul dX0_load_46) ?_
  refine rx_ac (rx_sd_iload_n dX0_load_47 rfl) ?_
  refine rx_ac (rx_sd_iadd dX0_load_48) ?_
  refine rx_ac (rx_sd_iald ⟨rfl, rfl, rfl⟩ dX0_load_49) ?_
  refine rx_ac (rx_sd_iast hY ⟨rfl, rfl, rfl⟩ dX0_load_50) ?_
  refine rx_ac (rx_sd_aload_n dX0_load_51 rfl) ?_
  refine rx_ac (rx_sd_get (C := RX0) (T := TX0) (N := 18) in_X0 rfl (by decide) kw_19 dX0_load_52) ?_
  refine rx_ac (rx_sd_get (C := RX7) (T := TX7) (N := 6) in_X7 rfl (by decide) kw_35 dX0_load_55) ?_
  refine rx_ac (rx_sd_iload_n dX0_load_58 rfl) ?_
  refine rx_ac (rx_sd_aload_n dX0_load_59 rfl) ?_
  refine rx_ac (rx_sd_get (C := RX0) (T := TX0) (N := 18) in_X0 rfl (by decide) kw_68 dX0_load_60) ?_
  refine rx_ac (rx_sd_aload_n dX0_load_63 rfl) ?_
  refine rx_ac (rx_sd_get (C := RX0) (T := TX0) (N := 18) in_X0 rfl (by decide) kw_22 dX0_load_64) ?_
  refine rx_ac (rx_sd_iload_n dX0_load_67 rfl) ?_
  refine rx_ac (rx_sd_iald ⟨rfl, rfl, rfl⟩ dX0_load_68) ?_
  refine rx_ac (rx_sd_aald (t := 2) rfl dX0_load_69) ?_
  refine rx_ac (rx_sd_aast (t := 2) (ci := 8) (C := (RX8, TX8, 4)) rfl rfl dX0_load_70) ?_
  refine rx_ac (rx_sd_iinc (M := m_X0_load Y) dX0_load_71 (by decide)) ?_
  refine rx_ac (rx_sd_goto dX0_load_74 (by decide)) ?_
  refine rx_ac (rx_sd_ret0 (M := m_X0_load Y) rfl dX0_load_77) ?_
  exact rx_an
set_option maxRecDepth 100000 in
set_option maxHeartbeats 4000000 in
theorem s_X0_numberOf {l : Launch} {D : va_G} {cy : Nat → ClassId} {σ : Nat → Int32} {Y : rx_Y} (hY : rx_YOk Y σ) : ∀ q ∈ p_X0_numberOf Y, rx_Sd (gG l D cy σ) (mt Y) (m_X0_numberOf Y) q.1 q.2 := by
  unfold p_X0_numberOf
  refine rx_ac (rx_sd_iconst dX0_numberOf_0 (by decide)) ?_
  refine rx_ac (rx_sd_istore_n (M := m_X0_numberOf Y) dX0_numberOf_1 rfl) ?_
  refine rx_ac (rx_sd_iload_n dX0_numberOf_2 rfl) ?_
  refine rx_ac (rx_sd_aload_n dX0_numberOf_3 rfl) ?_
  refine rx_ac (rx_sd_get (C := RX0) (T := TX0) (N := 18) in_X0 rfl (by decide) kw_33 dX0_numberOf_4) ?_
  refine rx_ac (rx_sd_icmp_ge hY dX0_numberOf_7 (by decide)) ?_
  refine rx_ac (rx_sd_aload_n dX0_numberOf_10 rfl) ?_
  refine rx_ac (rx_sd_get (C := RX0) (T := TX0) (N := 18) in_X0 rfl (by decide) kw_68 dX0_numberOf_11) ?_
  refine rx_ac (rx_sd_iload_n dX0_numberOf_14 rfl) ?_
  refine rx_ac (rx_sd_aald (t := 2) rfl dX0_numberOf_15) ?_
  refine rx_ac (rx_sd_aload_n dX0_numberOf_16 rfl) ?_
  refine rx_ac (rx_sd_cl (M := m_X0_numberOf Y) (rx_lk_V gok (mid := 56) (ci := 8) (C := (RX8, TX8, 4)) ⟨kw_86, kw_83, hd_X8_isLike, Nat.le_of_ble_eq_true rfl, Nat.le_of_ble_eq_true rfl⟩ rfl kw_87 kw_88 kw_89 dX0_numberOf_17) (fun _ => ⟨_, rfl⟩) rfl rfl) ?_
  refine rx_ac (rx_sd_if_eq hY dX0_numberOf_20 (by decide)) ?_
  refine rx_ac (rx_sd_iinc (M := m_X0_numberOf Y) dX0_numberOf_25 (by decide)) ?_
  refine rx_ac (rx_sd_goto dX0_numberOf_28 (by decide)) ?_
  refine rx_ac (rx_sd_aload_n dX0_numberOf_31 rfl) ?_
  refine rx_ac (rx_sd_get (C := RX0) (T := TX0) (N := 18) in_X0 rfl (by decide) kw_33 dX0_numberOf_32) ?_
  refine rx_ac (rx_sd_bipush dX0_numberOf_35 (by decide)) ?_
  refine rx_ac (rx_sd_icmp_lt hY dX0_numberOf_37 (by decide)) ?_
  refine rx_ac (rx_sd_aload_n dX0_numberOf_42 rfl) ?_
  refine rx_ac (rx_sd_get (C := RX0) (T := TX0) (N := 18) in_X0 rfl (by decide) kw_68 dX0_numberOf_43) ?_
  refine rx_ac (rx_sd_aload_n dX0_numberOf_46 rfl) ?_
  refine rx_ac (rx_sd_get (C := RX0) (T := TX0) (N := 18) in_X0 rfl (by decide) kw_33 dX0_numberOf_47) ?_
  refine rx_ac (rx_sd_aald (t := 2) rfl dX0_numberOf_50) ?_
  refine rx_ac (rx_sd_aload_n dX0_numberOf_51 rfl) ?_
  refine rx_ac (rx_sd_cl (M := m_X0_numberOf Y) (rx_lk_V gok (mid := 52) (ci := 8) (C := (RX8, TX8, 4)) ⟨kw_90, kw_83, hd_X8_copyFrom, Nat.le_of_ble_eq_true rfl, Nat.le_of_ble_eq_true rfl⟩ rfl kw_91 kw_92 kw_93 dX0_numberOf_52) (fun _ => ⟨_, rfl⟩) rfl rfl) ?_
  refine rx_ac (rx_sd_aload_n dX0_numberOf_55 rfl) ?_
  refine rx_ac (rx_sd_dup dX0_numberOf_56) ?_
  refine rx_ac (rx_sd_get (C := RX0) (T := TX0) (N := 18) in_X0 rfl (by decide) kw_33 dX0_numberOf_57) ?_
  refine rx_ac (rx_sd_iconst dX0_numberOf_60 (by decide)) ?_
  refine rx_ac (rx_sd_iadd dX0_numberOf_61) ?_
  refine rx_ac (rx_sd_putf (C := RX0) (T := TX0) (N := 18) (ty0 := tyX0) in_X0 tyX0_ok nmX0 rfl (by decide) kw_33 (Or.inl rfl) rfl dX0_numberOf_62) ?_
  refine rx_ac (rx_sd_aload_n dX0_numberOf_65 rfl) ?_
  refine rx_ac (rx_sd_get (C := RX0) (T := TX0) (N := 18) in_X0 rfl (by decide) kw_33 dX0_numberOf_66) ?_
  refine rx_ac (rx_sd_iconst dX0_numberOf_69 (by decide)) ?_
  refine rx_ac (rx_sd_isub dX0_numberOf_70) ?_
  refine rx_ac (rx_sd_retI (M := m_X0_numberOf Y) rfl (Or.inl rfl) dX0_numberOf_71) ?_
  exact rx_an
set_option maxRecDepth 100000 in
set_option maxHeartbeats 4000000 in
theorem s_X0_remember {l : Launch} {D : va_G} {cy : Nat → ClassId} {σ : Nat → Int32} {Y : rx_Y} (hY : rx_YOk Y σ) : ∀ q ∈ p_X0_remember Y, rx_Sd (gG l D cy σ) (mt Y) (m_X0_remember Y) q.1 q.2 := by
  unfold p_X0_remember
  refine rx_ac (rx_sd_aload_n dX0_remember_0 rfl) ?_
  refine rx_ac (rx_sd_aload_n dX0_remember_1 rfl) ?_
  refine rx_ac (rx_sd_get (C := RX0) (T := TX0) (N := 18) in_X0 rfl (by decide) kw_33 dX0_remember_2) ?_
  refine rx_ac (rx_sd_putf (C := RX0) (T := TX0) (N := 18) (ty0 := tyX0) in_X0 tyX0_ok nmX0 rfl (by decide) kw_78 (Or.inl rfl) rfl dX0_remember_5) ?_
  refine rx_ac (rx_sd_aload_n dX0_remember_8 rfl) ?_
  refine rx_ac (rx_sd_aload_n dX0_remember_9 rfl) ?_
  refine rx_ac (rx_sd_get (C := RX0) (T := TX0) (N := 18) in_X0 rfl (by decide) kw_19 dX0_remember_10) ?_
  refine rx_ac (rx_sd_get (C := RX7) (T := TX7) (N := 6) in_X7 rfl (by decide) kw_20 dX0_remember_13) ?_
  refine rx_ac (rx_sd_aload_n dX0_remember_16 rfl) ?_
  refine rx_ac (rx_sd_get (C := RX0) (T := TX0) (N := 18) in_X0 rfl (by decide) kw_19 dX0_remember_17) ?_
  refine rx_ac (rx_sd_get (C := RX7) (T := TX7) (N := 6) in_X7 rfl (by decide) kw_34 dX0_remember_20) ?_
  refine rx_ac (rx_sd_iadd dX0_remember_23) ?_
  refine rx_ac (rx_sd_putf (C := RX0) (T := TX0) (N := 18) (ty0 := tyX0) in_X0 tyX0_ok nmX0 rfl (by decide) kw_94 (Or.inl rfl) rfl dX0_remember_24) ?_
  refine rx_ac (rx_sd_iconst dX0_remember_27 (by decide)) ?_
  refine rx_ac (rx_sd_istore_n (M := m_X0_remember Y) dX0_remember_28 rfl) ?_
  refine rx_ac (rx_sd_iload_n dX0_remember_29 rfl) ?_
  refine rx_ac (rx_sd_aload_n dX0_remember_30 rfl) ?_
  refine rx_ac (rx_sd_get (C := RX0) (T := TX0) (N := 18) in_X0 rfl (by decide) kw_33 dX0_remember_31) ?_
  refine rx_ac (rx_sd_icmp_ge hY dX0_remember_34 (by decide)) ?_
  refine rx_ac (rx_sd_aload_n dX0_remember_37 rfl) ?_
  refine rx_ac (rx_sd_get (C := RX0) (T := TX0) (N := 18) in_X0 rfl (by decide) kw_79 dX0_remember_38) ?_
  refine rx_ac (rx_sd_iload_n dX0_remember_41 rfl) ?_
  refine rx_ac (rx_sd_aload_n dX0_remember_42 rfl) ?_
  refine rx_ac (rx_sd_get (C := RX0) (T := TX0) (N := 18) in_X0 rfl (by decide) kw_68 dX0_remember_43) ?_
  refine rx_ac (rx_sd_iload_n dX0_remember_46 rfl) ?_
  refine rx_ac (rx_sd_aald (t := 2) rfl dX0_remember_47) ?_
  refine rx_ac (rx_sd_get (C := RX8) (T := TX8) (N := 4) in_X8 rfl (by decide) kw_95 dX0_remember_48) ?_
  refine rx_ac (rx_sd_iast hY ⟨rfl, rfl, rfl⟩ dX0_remember_51) ?_
  refine rx_ac (rx_sd_aload_n dX0_remember_52 rfl) ?_
  refine rx_ac (rx_sd_get (C := RX0) (T := TX0) (N := 18) in_X0 rfl (by decide) kw_80 dX0_remember_53) ?_
  refine rx_ac (rx_sd_iload_n dX0_remember_56 rfl) ?_
  refine rx_ac (rx_sd_aload_n dX0_remember_57 rfl) ?_
  refine rx_ac (rx_sd_get (C := RX0) (T := TX0) (N := 18) in_X0 rfl (by decide) kw_68 dX0_remember_58) ?_
  refine rx_ac (rx_sd_iload_n dX0_remember_61 rfl) ?_
  refine rx_ac (rx_sd_aald (t := 2) rfl dX0_remember_62) ?_
  refine rx_ac (rx_sd_cl (M := m_X0_remember Y) (rx_lk_V gok (mid := 58) (ci := 8) (C := (RX8, TX8, 4)) ⟨kw_96, kw_83, hd_X8_sum, Nat.le_of_ble_eq_true rfl, Nat.le_of_ble_eq_true rfl⟩ rfl kw_97 kw_98 kw_99 dX0_remember_63) (fun _ => ⟨_, rfl⟩) rfl rfl) ?_
  refine rx_ac (rx_sd_last ⟨rfl, rfl, rfl⟩ dX0_remember_66) ?_
  refine rx_ac (rx_sd_iconst dX0_remember_67 (by decide)) ?_
  refine rx_ac (rx_sd_istore_n (M := m_X0_remember Y) dX0_remember_68 rfl) ?_
  refine rx_ac (rx_sd_iload_n dX0_remember_69 rfl) ?_
  refine rx_ac (rx_sd_aload_n dX0_remember_70 rfl) ?_
  refine rx_ac (rx_sd_get (C := RX0) (T := TX0) (N := 18) in_X0 rfl (by decide) kw_94 dX0_remember_71) ?_
  refine rx_ac (rx_sd_icmp_ge hY dX0_remember_74 (by decide)) ?_
  refine rx_ac (rx_sd_aload_n dX0_remember_77 rfl) ?_
  refine rx_ac (rx_sd_get (C := RX0) (T := TX0) (N := 18) in_X0 rfl (by decide) kw_81 dX0_remember_78) ?_
  refine rx_ac (rx_sd_iload_n dX0_remember_81 rfl) ?_
  refine rx_ac (rx_sd_bipush dX0_remember_82 (by decide)) ?_
  refine rx_ac (rx_sd_imul dX0_remember_84) ?_
  refine rx_ac (rx_sd_iload_n dX0_remember_85 rfl) ?_
  refine rx_ac (rx_sd_iadd dX0_remember_86) ?_
  refine rx_ac (rx_sd_aload_n dX0_remember_87 rfl) ?_
  refine rx_ac (rx_sd_get (C := RX0) (T := TX0) (N := 18) in_X0 rfl (by decide) kw_68 dX0_remember_88) ?_
  refine rx_ac (rx_sd_iload_n dX0_remember_91 rfl) ?_
  refine rx_ac (rx_sd_aald (t := 2) rfl dX0_remember_92) ?_
  refine rx_ac (rx_sd_iload_n dX0_remember_93 rfl) ?_
  refine rx_ac (rx_sd_cl (M := m_X0_remember Y) (rx_lk_V gok (mid := 57) (ci := 8) (C := (RX8, TX8, 4)) ⟨kw_100, kw_83, hd_X8_leastPower, Nat.le_of_ble_eq_true rfl, Nat.le_of_ble_eq_true rfl⟩ rfl kw_101 kw_102 kw_103 dX0_remember_94) (fun _ => ⟨_, rfl⟩) rfl rfl) ?_
  refine rx_ac (rx_sd_iast hY ⟨rfl, rfl, rfl⟩ dX0_remember_97) ?_
  refine rx_ac (rx_sd_iinc (M := m_X0_remember Y) dX0_remember_98 (by decide)) ?_
  refine rx_ac (rx_sd_goto dX0_remember_101 (by decide)) ?_
  refine rx_ac (rx_sd_iinc (M := m_X0_remember Y) dX0_remember_104 (by decide)) ?_
  refine rx_ac (rx_sd_goto dX0_remember_107 (by decide)) ?_
  refine rx_ac (rx_sd_ret0 (M := m_X0_remember Y) rfl dX0_remember_110) ?_
  exact rx_an
set_option maxRecDepth 100000 in
set_option maxHeartbeats 4000000 in
theorem s_X0_rowOf {l : Launch} {D : va_G} {cy : Nat → ClassId} {σ : Nat → Int32} {Y : rx_Y} (hY : rx_YOk Y σ) : ∀ q ∈ p_X0_rowOf Y, rx_Sd (gG l D cy σ) (mt Y) (m_X0_rowOf Y) q.1 q.2 := by
  unfold p_X0_rowOf
  refine rx_ac (rx_sd_iconst dX0_rowOf_0 (by decide)) ?_
  refine rx_ac (rx_sd_istore_n (M := m_X0_rowOf Y) dX0_rowOf_1 rfl) ?_
  refine rx_ac (rx_sd_iload_n dX0_rowOf_2 rfl) ?_
  refine rx_ac (rx_sd_aload_n dX0_rowOf_3 rfl) ?_
  refine rx_ac (rx_sd_get (C := RX0) (T := TX0) (N := 18) in_X0 rfl (by decide) kw_12 dX0_rowOf_4) ?_
  refine rx_ac (rx_sd_icmp_ge hY dX0_rowOf_7 (by decide)) ?_
  refine rx_ac (rx_sd_aload_n dX0_rowOf_10 rfl) ?_
  refine rx_ac (rx_sd_get (C := RX0) (T := TX0) (N := 18) in_X0 rfl (by decide) kw_29 dX0_rowOf_11) ?_
  refine rx_ac (rx_sd_iload_n dX0_rowOf_14 rfl) ?_
  refine rx_ac (rx_sd_lald ⟨rfl, rfl, rfl⟩ dX0_rowOf_15) ?_
  refine rx_ac (rx_sd_aload_n dX0_rowOf_16 rfl) ?_
  refine rx_ac (rx_sd_get (C := RX0) (T := TX0) (N := 18) in_X0 rfl (by decide) kw_30 dX0_rowOf_17) ?_
  refine rx_ac (rx_sd_lcmp dX0_rowOf_20) ?_
  refine rx_ac (rx_sd_if_ne hY dX0_rowOf_21 (by decide)) ?_
  refine rx_ac (rx_sd_iinc (M := m_X0_rowOf Y) dX0_rowOf_67 (by decide)) ?_
  refine rx_ac (rx_sd_goto dX0_rowOf_70 (by decide)) ?_
  refine rx_ac (rx_sd_iconst dX0_rowOf_73 (by decide)) ?_
  refine rx_ac (rx_sd_retI (M := m_X0_rowOf Y) rfl (Or.inl rfl) dX0_rowOf_74) ?_
  exact rx_an
set_option maxRecDepth 100000 in
set_option maxHeartbeats 4000000 in
theorem s_X0_tell {l : Launch} {D : va_G} {cy : Nat → ClassId} {σ : Nat → Int32} {Y : rx_Y} (hY : rx_YOk Y σ) : ∀ q ∈ p_X0_tell Y, rx_Sd (gG l D cy σ) (mt Y) (m_X0_tell Y) q.1 q.2 := by
  unfold p_X0_tell
  refine rx_ac (rx_sd_iload_n dX0_tell_0 rfl) ?_
  refine rx_ac (rx_sd_if_ne hY dX0_tell_1 (by decide)) ?_
  refine rx_ac (rx_sd_aload_n dX0_tell_4 rfl) ?_
  refine rx_ac (rx_sd_get (C := RX0) (T := TX0) (N := 18) in_X0 rfl (by decide) kw_78 dX0_tell_5) ?_
  refine rx_ac (rx_sd_i2l dX0_tell_8) ?_
  refine rx_ac (rx_sd_retL (M := m_X0_tell Y) rfl dX0_tell_9) ?_
  refine rx_ac (rx_sd_iload_n dX0_tell_10 rfl) ?_
  refine rx_ac (rx_sd_if_lt hY dX0_tell_11 (by decide)) ?_
  refine rx_ac (rx_sd_iload_n dX0_tell_14 rfl) ?_
  refine rx_ac (rx_sd_aload_n dX0_tell_15 rfl) ?_
  refine rx_ac (rx_sd_get (C := RX0) (T := TX0) (N := 18) in_X0 rfl (by decide) kw_78 dX0_tell_16) ?_
  refine rx_ac (rx_sd_icmp_lt hY dX0_tell_19 (by decide)) ?_
  refine rx_ac (rx_sd_ldc2 (M := m_X0_tell Y) kw_104 dX0_tell_22) ?_
  refine rx_ac (rx_sd_retL (M := m_X0_tell Y) rfl dX0_tell_25) ?_
  exact rx_an
set_option maxRecDepth 100000 in
set_option maxHeartbeats 4000000 in
theorem s_X1_clear {l : Launch} {D : va_G} {cy : Nat → ClassId} {σ : Nat → Int32} {Y : rx_Y} (hY : rx_YOk Y σ) : ∀ q ∈ p_X1_clear Y, rx_Sd (gG l D cy σ) (mt Y) (m_X1_clear Y) q.1 q.2 := by
  unfold p_X1_clear
  refine rx_ac (rx_sd_aload_n dX1_clear_0 rfl) ?_
  refine rx_ac (rx_sd_iconst dX1_clear_1 (by decide)) ?_
  refine rx_ac (rx_sd_putf (C := RX1) (T := TX1) (N := 6) (ty0 := tyX1) in_X1 tyX1_ok nmX1 rfl (by decide) kw_105 (Or.inl rfl) rfl dX1_clear_2) ?_
  refine rx_ac (rx_sd_aload_n dX1_clear_5 rfl) ?_
  refine rx_ac (rx_sd_get (C := RX1) (T := TX1) (N := 6) in_X1 rfl (by decide) kw_106 dX1_clear_6) ?_
  refine rx_ac (rx_sd_iconst dX1_clear_9 (by decide)) ?_
  refine rx_ac (rx_sd_cl (M := m_X1_clear Y) (rx_lk_S gok (mid := 0) ⟨kw_107, kw_108, hd_J7_fill_53178, Nat.le_of_ble_eq_true rfl, Nat.le_of_ble_eq_true rfl⟩ kw_109 kw_110 dX1_clear_10) (fun h => nomatch h) rfl rfl) ?_
  refine rx_ac (rx_sd_ret0 (M := m_X1_clear Y) rfl dX1_clear_13) ?_
  exact rx_an
set_option maxRecDepth 100000 in
set_option maxHeartbeats 4000000 in
theorem s_X1_enter {l : Launch} {D : va_G} {cy : Nat → ClassId} {σ : Nat → Int32} {Y : rx_Y} (hY : rx_YOk Y σ) : ∀ q ∈ p_X1_enter Y, rx_Sd (gG l D cy σ) (mt Y) (m_X1_enter Y) q.1 q.2 := by
  unfold p_X1_enter
  refine rx_ac (rx_sd_aload_n dX1_enter_0 rfl) ?_
  refine rx_ac (rx_sd_get (C := RX1) (T := TX1) (N := 6) in_X1 rfl (by decide) kw_105 dX1_enter_1) ?_
  refine rx_ac (rx_sd_sipush dX1_enter_4 (by decide)) ?_
  refine rx_ac (rx_sd_icmp_lt hY dX1_enter_7 (by decide)) ?_
  refine rx_ac (rx_sd_aload_n dX1_enter_12 rfl) ?_
  refine rx_ac (rx_sd_get (C := RX1) (T := TX1) (N := 6) in_X1 rfl (by decide) kw_111 dX1_enter_13) ?_
  refine rx_ac (rx_sd_aload_n dX1_enter_16 rfl) ?_
  refine rx_ac (rx_sd_get (C := RX1) (T := TX1) (N := 6) in_X1 rfl (by decide) kw_105 dX1_enter_17) ?_
  refine rx_ac (rx_sd_lload_n dX1_enter_20 rfl) ?_
  refine rx_ac (rx_sd_last ⟨rfl, rfl, rfl⟩ dX1_enter_21) ?_
  refine rx_ac (rx_sd_aload_n dX1_enter_22 rfl) ?_
  refine rx_ac (rx_sd_get (C := RX1) (T := TX1) (N := 6) in_X1 rfl (by decide) kw_112 dX1_enter_23) ?_
  refine rx_ac (rx_sd_aload_n dX1_enter_26 rfl) ?_
  refine rx_ac (rx_sd_get (C := RX1) (T := TX1) (N := 6) in_X1 rfl (by decide) kw_105 dX1_enter_27) ?_
  refine rx_ac (rx_sd_lload_n dX1_enter_30 rfl) ?_
  refine rx_ac (rx_sd_last ⟨rfl, rfl, rfl⟩ dX1_enter_31) ?_
  refine rx_ac (rx_sd_aload_n dX1_enter_32 rfl) ?_
  refine rx_ac (rx_sd_get (C := RX1) (T := TX1) (N := 6) in_X1 rfl (by decide) kw_113 dX1_enter_33) ?_
  refine rx_ac (rx_sd_aload_n dX1_enter_36 rfl) ?_
  refine rx_ac (rx_sd_get (C := RX1) (T := TX1) (N := 6) in_X1 rfl (by decide) kw_105 dX1_enter_37) ?_
  refine rx_ac (rx_sd_iload dX1_enter_40) ?_
  refine rx_ac (rx_sd_iast hY ⟨rfl, rfl, rfl⟩ dX1_enter_42) ?_
  refine rx_ac (rx_sd_aload_n dX1_enter_43 rfl) ?_
  refine rx_ac (rx_sd_get (C := RX1) (T := TX1) (N := 6) in_X1 rfl (by decide) kw_114 dX1_enter_44) ?_
  refine rx_ac (rx_sd_aload_n dX1_enter_47 rfl) ?_
  refine rx_ac (rx_sd_get (C := RX1) (T := TX1) (N := 6) in_X1 rfl (by decide) kw_105 dX1_enter_48) ?_
  refine rx_ac (rx_sd_iload dX1_enter_51) ?_
  refine rx_ac (rx_sd_iast hY ⟨rfl, rfl, rfl⟩ dX1_enter_53) ?_
  refine rx_ac (rx_sd_aload_n dX1_enter_54 rfl) ?_
  refine rx_ac (rx_sd_dup dX1_enter_55) ?_
  refine rx_ac (rx_sd_get (C := RX1) (T := TX1) (N := 6) in_X1 rfl (by decide) kw_105 dX1_enter_56) ?_
  refine rx_ac (rx_sd_iconst dX1_enter_59 (by decide)) ?_
  refine rx_ac (rx_sd_iadd dX1_enter_60) ?_
  refine rx_ac (rx_sd_putf (C := RX1) (T := TX1) (N := 6) (ty0 := tyX1) in_X1 tyX1_ok nmX1 rfl (by decide) kw_105 (Or.inl rfl) rfl dX1_enter_61) ?_
  refine rx_ac (rx_sd_aload_n dX1_enter_64 rfl) ?_
  refine rx_ac (rx_sd_get (C := RX1) (T := TX1) (N := 6) in_X1 rfl (by decide) kw_106 dX1_enter_65) ?_
  refine rx_ac (rx_sd_aload_n dX1_enter_68 rfl) ?_
  refine rx_ac (rx_sd_lload_n dX1_enter_69 rfl) ?_
  refine rx_ac (rx_sd_lload_n dX1_enter_70 rfl) ?_
  refine rx_ac (rx_sd_cl (M := m_X1_enter Y) (rx_lk_V gok (mid := 17) (ci := 1) (C := (RX1, TX1, 6)) ⟨kw_115, kw_116, hd_X1_slotOf, Nat.le_of_ble_eq_true rfl, Nat.le_of_ble_eq_true rfl⟩ rfl kw_117 kw_118 kw_119 dX1_enter_71) (fun _ => ⟨_, rfl⟩) rfl rfl) ?_
  refine rx_ac (rx_sd_aload_n dX1_enter_74 rfl) ?_
  refine rx_ac (rx_sd_get (C := RX1) (T := TX1) (N := 6) in_X1 rfl (by decide) kw_105 dX1_enter_75) ?_
  refine rx_ac (rx_sd_iast hY ⟨rfl, rfl, rfl⟩ dX1_enter_78) ?_
  refine rx_ac (rx_sd_iconst dX1_enter_79 (by decide)) ?_
  refine rx_ac (rx_sd_retI (M := m_X1_enter Y) rfl (Or.inr rfl) dX1_enter_80) ?_
  exact rx_an
set_option maxRecDepth 100000 in
set_option maxHeartbeats 4000000 in
theorem s_X1_find {l : Launch} {D : va_G} {cy : Nat → ClassId} {σ : Nat → Int32} {Y : rx_Y} (hY : rx_YOk Y σ) : ∀ q ∈ p_X1_find Y, rx_Sd (gG l D cy σ) (mt Y) (m_X1_find Y) q.1 q.2 := by
  unfold p_X1_find
  refine rx_ac (rx_sd_aload_n dX1_find_0 rfl) ?_
  refine rx_ac (rx_sd_get (C := RX1) (T := TX1) (N := 6) in_X1 rfl (by decide) kw_106 dX1_find_1) ?_
  refine rx_ac (rx_sd_aload_n dX1_find_4 rfl) ?_
  refine rx_ac (rx_sd_lload_n dX1_find_5 rfl) ?_
  refine rx_ac (rx_sd_lload_n dX1_find_6 rfl) ?_
  refine rx_ac (rx_sd_cl (M := m_X1_find Y) (rx_lk_V gok (mid := 17) (ci := 1) (C := (RX1, TX1, 6)) ⟨kw_115, kw_116, hd_X1_slotOf, Nat.le_of_ble_eq_true rfl, Nat.le_of_ble_eq_true rfl⟩ rfl kw_117 kw_118 kw_119 dX1_find_7) (fun _ => ⟨_, rfl⟩) rfl rfl) ?_
  refine rx_ac (rx_sd_iald ⟨rfl, rfl, rfl⟩ dX1_find_10) ?_
  refine rx_ac (rx_sd_iconst dX1_find_11 (by decide)) ?_
  refine rx_ac (rx_sd_isub dX1_find_12) ?_
  refine rx_ac (rx_sd_retI (M := m_X1_find Y) rfl (Or.inl rfl) dX1_find_13) ?_
  exact rx_an
set_option maxRecDepth 100000 in
set_option maxHeartbeats 4000000 in
theorem s_X1_init {l : Launch} {D : va_G} {cy : Nat → ClassId} {σ : Nat → Int32} {Y : rx_Y} (hY : rx_YOk Y σ) : ∀ q ∈ p_X1_init Y, rx_Sd (gG l D cy σ) (mt Y) (m_X1_init Y) q.1 q.2 := by
  unfold p_X1_init
  refine rx_ac (rx_sd_aload_n dX1_init_0 rfl) ?_
  refine rx_ac (rx_sd_obj (M := m_X1_init Y) kw_120 kw_66 kw_objcode (Nat.le_of_ble_eq_true rfl) dX1_init_1) ?_
  refine rx_ac (rx_sd_aload_n dX1_init_4 rfl) ?_
  refine rx_ac (rx_sd_sipush dX1_init_5 (by decide)) ?_
  refine rx_ac (rx_sd_newL (M := m_X1_init Y) ⟨rfl, rfl, rfl⟩ kw_71 rfl dX1_init_8) ?_
  refine rx_ac (rx_sd_putf (C := RX1) (T := TX1) (N := 6) (ty0 := tyX1) in_X1 tyX1_ok nmX1 rfl (by decide) kw_111 (Or.inr ⟨rfl, rfl, rfl⟩) rfl dX1_init_10) ?_
  refine rx_ac (rx_sd_aload_n dX1_init_13 rfl) ?_
  refine rx_ac (rx_sd_sipush dX1_init_14 (by decide)) ?_
  refine rx_ac (rx_sd_newL (M := m_X1_init Y) ⟨rfl, rfl, rfl⟩ kw_71 rfl dX1_init_17) ?_
  refine rx_ac (rx_sd_putf (C := RX1) (T := TX1) (N := 6) (ty0 := tyX1) in_X1 tyX1_ok nmX1 rfl (by decide) kw_112 (Or.inr ⟨rfl, rfl, rfl⟩) rfl dX1_init_19) ?_
  refine rx_ac (rx_sd_aload_n dX1_init_22 rfl) ?_
  refine rx_ac (rx_sd_sipush dX1_init_23 (by decide)) ?_
  refine rx_ac (rx_sd_newI (M := m_X1_init Y) ⟨rfl, rfl, rfl⟩ kw_69 rfl dX1_init_26) ?_
  refine rx_ac (rx_sd_putf (C := RX1) (T := TX1) (N := 6) (ty0 := tyX1) in_X1 tyX1_ok nmX1 rfl (by decide) kw_113 (Or.inr ⟨rfl, rfl, rfl⟩) rfl dX1_init_28) ?_
  refine rx_ac (rx_sd_aload_n dX1_init_31 rfl) ?_
  refine rx_ac (rx_sd_sipush dX1_init_32 (by decide)) ?_
  refine rx_ac (rx_sd_newI (M := m_X1_init Y) ⟨rfl, rfl, rfl⟩ kw_69 rfl dX1_init_35) ?_
  refine rx_ac (rx_sd_putf (C := RX1) (T := TX1) (N := 6) (ty0 := tyX1) in_X1 tyX1_ok nmX1 rfl (by decide) kw_114 (Or.inr ⟨rfl, rfl, rfl⟩) rfl dX1_init_37) ?_
  refine rx_ac (rx_sd_aload_n dX1_init_40 rfl) ?_
  refine rx_ac (rx_sd_sipush dX1_init_41 (by decide)) ?_
  refine rx_ac (rx_sd_newI (M := m_X1_init Y) ⟨rfl, rfl, rfl⟩ kw_69 rfl dX1_init_44) ?_
  refine rx_ac (rx_sd_putf (C := RX1) (T := TX1) (N := 6) (ty0 := tyX1) in_X1 tyX1_ok nmX1 rfl (by decide) kw_106 (Or.inr ⟨rfl, rfl, rfl⟩) rfl dX1_init_46) ?_
  refine rx_ac (rx_sd_ret0 (M := m_X1_init Y) rfl dX1_init_49) ?_
  exact rx_an
set_option maxRecDepth 100000 in
set_option maxHeartbeats 4000000 in
theorem s_X1_slotOf {l : Launch} {D : va_G} {cy : Nat → ClassId} {σ : Nat → Int32} {Y : rx_Y} (hY : rx_YOk Y σ) : ∀ q ∈ p_X1_slotOf Y, rx_Sd (gG l D cy σ) (mt Y) (m_X1_slotOf Y) q.1 q.2 := by
  unfold p_X1_slotOf
  refine rx_ac (rx_sd_lload_n dX1_slotOf_0 rfl) ?_
  refine rx_ac (rx_sd_ldc2 (M := m_X1_slotOf Y) kw_121 dX1_slotOf_1) ?_
  refine rx_ac (rx_sd_lmul dX1_slotOf_4) ?_
  refine rx_ac (rx_sd_lload_n dX1_slotOf_5 rfl) ?_
  refine rx_ac (rx_sd_ldc2 (M := m_X1_slotOf Y) kw_122 dX1_slotOf_6) ?_
  refine rx_ac (rx_sd_lmul dX1_slotOf_9) ?_
  refine rx_ac (rx_sd_ladd dX1_slotOf_10) ?_
  refine rx_ac (rx_sd_lstore (M := m_X1_slotOf Y) dX1_slotOf_11) ?_
  refine rx_ac (rx_sd_lload dX1_slotOf_13) ?_
  refine rx_ac (rx_sd_lload dX1_slotOf_15) ?_
  refine rx_ac (rx_sd_bipush dX1_slotOf_17 (by decide)) ?_
  refine rx_ac (rx_sd_lushr dX1_slotOf_19) ?_
  refine rx_ac (rx_sd_lxor dX1_slotOf_20) ?_
  refine rx_ac (rx_sd_bipush dX1_slotOf_21 (by decide)) ?_
  refine rx_ac (rx_sd_lushr dX1_slotOf_23) ?_
  refine rx_ac (rx_sd_l2i dX1_slotOf_24) ?_
  refine rx_ac (rx_sd_sipush dX1_slotOf_25 (by decide)) ?_
  refine rx_ac (rx_sd_iand dX1_slotOf_28) ?_
  refine rx_ac (rx_sd_istore (M := m_X1_slotOf Y) dX1_slotOf_29) ?_
  refine rx_ac (rx_sd_iconst dX1_slotOf_31 (by decide)) ?_
  refine rx_ac (rx_sd_istore (M := m_X1_slotOf Y) dX1_slotOf_32) ?_
  refine rx_ac (rx_sd_iload dX1_slotOf_34) ?_
  refine rx_ac (rx_sd_sipush dX1_slotOf_36 (by decide)) ?_
  refine rx_ac (rx_sd_icmp_ge hY dX1_slotOf_39 (by decide)) ?_
  refine rx_ac (rx_sd_aload_n dX1_slotOf_42 rfl) ?_
  refine rx_ac (rx_sd_get (C := RX1) (T := TX1) (N := 6) in_X1 rfl (by decide) kw_106 dX1_slotOf_43) ?_
  refine rx_ac (rx_sd_iload dX1_slotOf_46) ?_
  refine rx_ac (rx_sd_iald ⟨rfl, rfl, rfl⟩ dX1_slotOf_48) ?_
  refine rx_ac (rx_sd_iconst dX1_slotOf_49 (by decide)) ?_
  refine rx_ac (rx_sd_isub dX1_slotOf_50) ?_
  refine rx_ac (rx_sd_istore (M := m_X1_slotOf Y) dX1_slotOf_51) ?_
  refine rx_ac (rx_sd_iload dX1_slotOf_53) ?_
  refine rx_ac (rx_sd_if_lt hY dX1_slotOf_55 (by decide)) ?_
  refine rx_ac (rx_sd_aload_n dX1_slotOf_58 rfl) ?_
  refine rx_ac (rx_sd_get (C := RX1) (T := TX1) (N := 6) in_X1 rfl (by decide) kw_111 dX1_slotOf_59) ?_
  refine rx_ac (rx_sd_iload dX1_slotOf_62) ?_
  refine rx_ac (rx_sd_lald ⟨rfl, rfl, rfl⟩ dX1_slotOf_64) ?_
  refine rx_ac (rx_sd_lload_n dX1_slotOf_65 rfl) ?_
  refine rx_ac (rx_sd_lcmp dX1_slotOf_66) ?_
  refine rx_ac (rx_sd_if_ne hY dX1_slotOf_67 (by decide)) ?_
  refine rx_ac (rx_sd_aload_n dX1_slotOf_70 rfl) ?_
  refine rx_ac (rx_sd_get (C := RX1) (T := TX1) (N := 6) in_X1 rfl (by decide) kw_112 dX1_slotOf_71) ?_
  refine rx_ac (rx_sd_iload dX1_slotOf_74) ?_
  refine rx_ac (rx_sd_lald ⟨rfl, rfl, rfl⟩ dX1_slotOf_76) ?_
  refine rx_ac (rx_sd_lload_n dX1_slotOf_77 rfl) ?_
  refine rx_ac (rx_sd_lcmp dX1_slotOf_78) ?_
  refine rx_ac (rx_sd_if_ne hY dX1_slotOf_79 (by decide)) ?_
  refine rx_ac (rx_sd_goto dX1_slotOf_82 (by decide)) ?_
  refine rx_ac (rx_sd_iload dX1_slotOf_101) ?_
  refine rx_ac (rx_sd_retI (M := m_X1_slotOf Y) rfl (Or.inl rfl) dX1_slotOf_103) ?_
  exact rx_an
set_option maxRecDepth 100000 in
set_option maxHeartbeats 4000000 in
theorem s_X2_init {l : Launch} {D : va_G} {cy : Nat → ClassId} {σ : Nat → Int32} {Y : rx_Y} (hY : rx_YOk Y σ) : ∀ q ∈ p_X2_init Y, rx_Sd (gG l D cy σ) (mt Y) (m_X2_init Y) q.1 q.2 := by
  unfold p_X2_init
  refine rx_ac (rx_sd_aload_n dX2_init_0 rfl) ?_
  refine rx_ac (rx_sd_obj (M := m_X2_init Y) kw_123 kw_66 kw_objcode (Nat.le_of_ble_eq_true rfl) dX2_init_1) ?_
  refine rx_ac (rx_sd_aload_n dX2_init_4 rfl) ?_
  refine rx_ac (rx_sd_bipush dX2_init_5 (by decide)) ?_
  refine rx_ac (rx_sd_newI (M := m_X2_init Y) ⟨rfl, rfl, rfl⟩ kw_69 rfl dX2_init_7) ?_
  refine rx_ac (rx_sd_putf (C := RX2) (T := TX2) (N := 5) (ty0 := tyX2) in_X2 tyX2_ok nmX2 rfl (by decide) kw_124 (Or.inr ⟨rfl, rfl, rfl⟩) rfl dX2_init_9) ?_
  refine rx_ac (rx_sd_aload_n dX2_init_12 rfl) ?_
  refine rx_ac (rx_sd_bipush dX2_init_13 (by decide)) ?_
  refine rx_ac (rx_sd_newL (M := m_X2_init Y) ⟨rfl, rfl, rfl⟩ kw_71 rfl dX2_init_15) ?_
  refine rx_ac (rx_sd_putf (C := RX2) (T := TX2) (N := 5) (ty0 := tyX2) in_X2 tyX2_ok nmX2 rfl (by decide) kw_125 (Or.inr ⟨rfl, rfl, rfl⟩) rfl dX2_init_17) ?_
  refine rx_ac (rx_sd_aload_n dX2_init_20 rfl) ?_
  refine rx_ac (rx_sd_bipush dX2_init_21 (by decide)) ?_
  refine rx_ac (rx_sd_newI (M := m_X2_init Y) ⟨rfl, rfl, rfl⟩ kw_69 rfl dX2_init_23) ?_
  refine rx_ac (rx_sd_putf (C := RX2) (T := TX2) (N := 5) (ty0 := tyX2) in_X2 tyX2_ok nmX2 rfl (by decide) kw_126 (Or.inr ⟨rfl, rfl, rfl⟩) rfl dX2_init_25) ?_
  refine rx_ac (rx_sd_ret0 (M := m_X2_init Y) rfl dX2_init_28) ?_
  exact rx_an
set_option maxRecDepth 100000 in
set_option maxHeartbeats 4000000 in
theorem s_X2_restart {l : Launch} {D : va_G} {cy : Nat → ClassId} {σ : Nat → Int32} {Y : rx_Y} (hY : rx_YOk Y σ) : ∀ q ∈ p_X2_restart Y, rx_Sd (gG l D cy σ) (mt Y) (m_X2_restart Y) q.1 q.2 := by
  unfold p_X2_restart
  refine rx_ac (rx_sd_aload_n dX2_restart_0 rfl) ?_
  refine rx_ac (rx_sd_iload_n dX2_restart_1 rfl) ?_
  refine rx_ac (rx_sd_putf (C := RX2) (T := TX2) (N := 5) (ty0 := tyX2) in_X2 tyX2_ok nmX2 rfl (by decide) kw_127 (Or.inl rfl) rfl dX2_restart_2) ?_
  refine rx_ac (rx_sd_aload_n dX2_restart_5 rfl) ?_
  refine rx_ac (rx_sd_iload_n dX2_restart_6 rfl) ?_
  refine rx_ac (rx_sd_putf (C := RX2) (T := TX2) (N := 5) (ty0 := tyX2) in_X2 tyX2_ok nmX2 rfl (by decide) kw_128 (Or.inl rfl) rfl dX2_restart_7) ?_
  refine rx_ac (rx_sd_aload_n dX2_restart_10 rfl) ?_
  refine rx_ac (rx_sd_get (C := RX2) (T := TX2) (N := 5) in_X2 rfl (by decide) kw_124 dX2_restart_11) ?_
  refine rx_ac (rx_sd_iconst dX2_restart_14 (by decide)) ?_
  refine rx_ac (rx_sd_cl (M := m_X2_restart Y) (rx_lk_S gok (mid := 0) ⟨kw_107, kw_108, hd_J7_fill_53178, Nat.le_of_ble_eq_true rfl, Nat.le_of_ble_eq_true rfl⟩ kw_129 kw_110 dX2_restart_15) (fun h => nomatch h) rfl rfl) ?_
  refine rx_ac (rx_sd_ret0 (M := m_X2_restart Y) rfl dX2_restart_18) ?_
  exact rx_an
set_option maxRecDepth 100000 in
set_option maxHeartbeats 4000000 in
theorem s_X3_init {l : Launch} {D : va_G} {cy : Nat → ClassId} {σ : Nat → Int32} {Y : rx_Y} (hY : rx_YOk Y σ) : ∀ q ∈ p_X3_init Y, rx_Sd (gG l D cy σ) (mt Y) (m_X3_init Y) q.1 q.2 := by
  unfold p_X3_init
  refine rx_ac (rx_sd_aload_n dX3_init_0 rfl) ?_
  refine rx_ac (rx_sd_obj (M := m_X3_init Y) kw_130 kw_66 kw_objcode (Nat.le_of_ble_eq_true rfl) dX3_init_1) ?_
  refine rx_ac (rx_sd_aload_n dX3_init_4 rfl) ?_
  refine rx_ac (rx_sd_bipush dX3_init_5 (by decide)) ?_
  refine rx_ac (rx_sd_newI (M := m_X3_init Y) ⟨rfl, rfl, rfl⟩ kw_69 rfl dX3_init_7) ?_
  refine rx_ac (rx_sd_putf (C := RX3) (T := TX3) (N := 3) (ty0 := tyX3) in_X3 tyX3_ok nmX3 rfl (by decide) kw_131 (Or.inr ⟨rfl, rfl, rfl⟩) rfl dX3_init_9) ?_
  refine rx_ac (rx_sd_aload_n dX3_init_12 rfl) ?_
  refine rx_ac (rx_sd_new (M := m_X3_init Y) (C := RX6) (T := TX6) (N := 2) (ty := tyX6) in_X6 tyX6_ok rfl kw_132 kw_133 kw_134 df_X6 rfl (cs_X6 σ) dX3_init_13) ?_
  refine rx_ac (rx_sd_dup dX3_init_16) ?_
  refine rx_ac (rx_sd_cl (M := m_X3_init Y) (rx_lk_IN gok (host := "SeedBench") (mid := 39) (ci := 6) (C := (RX6, TX6, 2)) ⟨kw_135, kw_134, hd_X6_init, Nat.le_of_ble_eq_true rfl, Nat.le_of_ble_eq_true rfl⟩ rfl rfl (List.mem_of_getElem? (i := 8) rfl) kw_136 rfl dX3_init_17) (fun _ => ⟨_, rfl⟩) rfl rfl) ?_
  refine rx_ac (rx_sd_putf (C := RX3) (T := TX3) (N := 3) (ty0 := tyX3) in_X3 tyX3_ok nmX3 rfl (by decide) kw_137 (Or.inr ⟨rfl, rfl, rfl⟩) rfl dX3_init_20) ?_
  refine rx_ac (rx_sd_ret0 (M := m_X3_init Y) rfl dX3_init_23) ?_
  exact rx_an
set_option maxRecDepth 100000 in
set_option maxHeartbeats 4000000 in
theorem s_X4_init {l : Launch} {D : va_G} {cy : Nat → ClassId} {σ : Nat → Int32} {Y : rx_Y} (hY : rx_YOk Y σ) : ∀ q ∈ p_X4_init Y, rx_Sd (gG l D cy σ) (mt Y) (m_X4_init Y) q.1 q.2 := by
  unfold p_X4_init
  refine rx_ac (rx_sd_aload_n dX4_init_0 rfl) ?_
  refine rx_ac (rx_sd_obj (M := m_X4_init Y) kw_138 kw_66 kw_objcode (Nat.le_of_ble_eq_true rfl) dX4_init_1) ?_
  refine rx_ac (rx_sd_aload_n dX4_init_4 rfl) ?_
  refine rx_ac (rx_sd_sipush dX4_init_5 (by decide)) ?_
  refine rx_ac (rx_sd_newI (M := m_X4_init Y) ⟨rfl, rfl, rfl⟩ kw_69 rfl dX4_init_8) ?_
  refine rx_ac (rx_sd_putf (C := RX4) (T := TX4) (N := 6) (ty0 := tyX4) in_X4 tyX4_ok nmX4 rfl (by decide) kw_139 (Or.inr ⟨rfl, rfl, rfl⟩) rfl dX4_init_10) ?_
  refine rx_ac (rx_sd_aload_n dX4_init_13 rfl) ?_
  refine rx_ac (rx_sd_bipush dX4_init_14 (by decide)) ?_
  refine rx_ac (rx_sd_newI (M := m_X4_init Y) ⟨rfl, rfl, rfl⟩ kw_69 rfl dX4_init_16) ?_
  refine rx_ac (rx_sd_putf (C := RX4) (T := TX4) (N := 6) (ty0 := tyX4) in_X4 tyX4_ok nmX4 rfl (by decide) kw_140 (Or.inr ⟨rfl, rfl, rfl⟩) rfl dX4_init_18) ?_
  refine rx_ac (rx_sd_ret0 (M := m_X4_init Y) rfl dX4_init_21) ?_
  exact rx_an
set_option maxRecDepth 100000 in
set_option maxHeartbeats 4000000 in
theorem s_X4_isWild {l : Launch} {D : va_G} {cy : Nat → ClassId} {σ : Nat → Int32} {Y : rx_Y} (hY : rx_YOk Y σ) : ∀ q ∈ p_X4_isWild Y, rx_Sd (gG l D cy σ) (mt Y) (m_X4_isWild Y) q.1 q.2 := by
  unfold p_X4_isWild
  refine rx_ac (rx_sd_iconst dX4_isWild_0 (by decide)) ?_
  refine rx_ac (rx_sd_istore_n (M := m_X4_isWild Y) dX4_isWild_1 rfl) ?_
  refine rx_ac (rx_sd_iload_n dX4_isWild_2 rfl) ?_
  refine rx_ac (rx_sd_iload_n dX4_isWild_3 rfl) ?_
  refine rx_ac (rx_sd_icmp_ge hY dX4_isWild_4 (by decide)) ?_
  refine rx_ac (rx_sd_iconst dX4_isWild_7 (by decide)) ?_
  refine rx_ac (rx_sd_istore_n (M := m_X4_isWild Y) dX4_isWild_8 rfl) ?_
  refine rx_ac (rx_sd_iload_n dX4_isWild_9 rfl) ?_
  refine rx_ac (rx_sd_iload_n dX4_isWild_10 rfl) ?_
  refine rx_ac (rx_sd_icmp_ge hY dX4_isWild_11 (by decide)) ?_
  refine rx_ac (rx_sd_iinc (M := m_X4_isWild Y) dX4_isWild_50 (by decide)) ?_
  refine rx_ac (rx_sd_goto dX4_isWild_53 (by decide)) ?_
  refine rx_ac (rx_sd_iconst dX4_isWild_56 (by decide)) ?_
  refine rx_ac (rx_sd_retI (M := m_X4_isWild Y) rfl (Or.inr rfl) dX4_isWild_57) ?_
  exact rx_an
set_option maxRecDepth 100000 in
set_option maxHeartbeats 4000000 in
theorem s_X4_judge {l : Launch} {D : va_G} {cy : Nat → ClassId} {σ : Nat → Int32} {Y : rx_Y} (hY : rx_YOk Y σ) : ∀ q ∈ p_X4_judge Y, rx_Sd (gG l D cy σ) (mt Y) (m_X4_judge Y) q.1 q.2 := by
  unfold p_X4_judge
  refine rx_ac (rx_sd_aload_n dX4_judge_0 rfl) ?_
  refine rx_ac (rx_sd_iconst dX4_judge_1 (by decide)) ?_
  refine rx_ac (rx_sd_aload_n dX4_judge_2 rfl) ?_
  refine rx_ac (rx_sd_get (C := RX4) (T := TX4) (N := 6) in_X4 rfl (by decide) kw_140 dX4_judge_3) ?_
  refine rx_ac (rx_sd_iconst dX4_judge_6 (by decide)) ?_
  refine rx_ac (rx_sd_bipush dX4_judge_7 (by decide)) ?_
  refine rx_ac (rx_sd_cpI (M := m_X4_judge Y) ⟨rfl, rfl, rfl⟩ kw_141 kw_26 kw_27 kw_28 (Nat.le_of_ble_eq_true rfl) dX4_judge_9) ?_
  refine rx_ac (rx_sd_aload_n dX4_judge_12 rfl) ?_
  refine rx_ac (rx_sd_iconst dX4_judge_13 (by decide)) ?_
  refine rx_ac (rx_sd_putf (C := RX4) (T := TX4) (N := 6) (ty0 := tyX4) in_X4 tyX4_ok nmX4 rfl (by decide) kw_142 (Or.inl rfl) rfl dX4_judge_14) ?_
  refine rx_ac (rx_sd_aload_n dX4_judge_17 rfl) ?_
  refine rx_ac (rx_sd_iconst dX4_judge_18 (by decide)) ?_
  refine rx_ac (rx_sd_putf (C := RX4) (T := TX4) (N := 6) (ty0 := tyX4) in_X4 tyX4_ok nmX4 rfl (by decide) kw_143 (Or.inl rfl) rfl dX4_judge_19) ?_
  refine rx_ac (rx_sd_aload_n dX4_judge_22 rfl) ?_
  refine rx_ac (rx_sd_iload_n dX4_judge_23 rfl) ?_
  refine rx_ac (rx_sd_cl (M := m_X4_judge Y) (rx_lk_V gok (mid := 22) (ci := 4) (C := (RX4, TX4, 6)) ⟨kw_144, kw_145, hd_X4_isWild, Nat.le_of_ble_eq_true rfl, Nat.le_of_ble_eq_true rfl⟩ rfl kw_146 kw_147 kw_148 dX4_judge_24) (fun _ => ⟨_, rfl⟩) rfl rfl) ?_
  refine rx_ac (rx_sd_if_eq hY dX4_judge_27 (by decide)) ?_
  refine rx_ac (rx_sd_aload_n dX4_judge_32 rfl) ?_
  refine rx_ac (rx_sd_cl (M := m_X4_judge Y) (rx_lk_V gok (mid := 13) (ci := 1) (C := (RX1, TX1, 6)) ⟨kw_149, kw_116, hd_X1_clear, Nat.le_of_ble_eq_true rfl, Nat.le_of_ble_eq_true rfl⟩ rfl kw_150 kw_151 kw_152 dX4_judge_33) (fun _ => ⟨_, rfl⟩) rfl rfl) ?_
  refine rx_ac (rx_sd_aload_n dX4_judge_36 rfl) ?_
  refine rx_ac (rx_sd_iload_n dX4_judge_37 rfl) ?_
  refine rx_ac (rx_sd_cl (M := m_X4_judge Y) (rx_lk_V gok (mid := 24) (ci := 4) (C := (RX4, TX4, 6)) ⟨kw_153, kw_145, hd_X4_pack, Nat.le_of_ble_eq_true rfl, Nat.le_of_ble_eq_true rfl⟩ rfl kw_154 kw_155 kw_156 dX4_judge_38) (fun _ => ⟨_, rfl⟩) rfl rfl) ?_
  refine rx_ac (rx_sd_aload_n dX4_judge_41 rfl) ?_
  refine rx_ac (rx_sd_aload_n dX4_judge_42 rfl) ?_
  refine rx_ac (rx_sd_get (C := RX4) (T := TX4) (N := 6) in_X4 rfl (by decide) kw_157 dX4_judge_43) ?_
  refine rx_ac (rx_sd_aload_n dX4_judge_46 rfl) ?_
  refine rx_ac (rx_sd_get (C := RX4) (T := TX4) (N := 6) in_X4 rfl (by decide) kw_158 dX4_judge_47) ?_
  refine rx_ac (rx_sd_iconst dX4_judge_50 (by decide)) ?_
  refine rx_ac (rx_sd_iconst dX4_judge_51 (by decide)) ?_
  refine rx_ac (rx_sd_cl (M := m_X4_judge Y) (rx_lk_V gok (mid := 14) (ci := 1) (C := (RX1, TX1, 6)) ⟨kw_159, kw_116, hd_X1_enter, Nat.le_of_ble_eq_true rfl, Nat.le_of_ble_eq_true rfl⟩ rfl kw_160 kw_161 kw_162 dX4_judge_52) (fun _ => ⟨_, rfl⟩) rfl rfl) ?_
  refine rx_ac (rx_sd_pop dX4_judge_55) ?_
  refine rx_ac (rx_sd_iconst dX4_judge_56 (by decide)) ?_
  refine rx_ac (rx_sd_istore (M := m_X4_judge Y) dX4_judge_57) ?_
  refine rx_ac (rx_sd_iload dX4_judge_59) ?_
  refine rx_ac (rx_sd_aload_n dX4_judge_61 rfl) ?_
  refine rx_ac (rx_sd_get (C := RX1) (T := TX1) (N := 6) in_X1 rfl (by decide) kw_163 dX4_judge_62) ?_
  refine rx_ac (rx_sd_icmp_ge hY dX4_judge_65 (by decide)) ?_
  refine rx_ac (rx_sd_iload dX4_judge_68) ?_
  refine rx_ac (rx_sd_sipush dX4_judge_70 (by decide)) ?_
  refine rx_ac (rx_sd_icmp_ge hY dX4_judge_73 (by decide)) ?_
  refine rx_ac (rx_sd_iconst dX4_judge_76 (by decide)) ?_
  refine rx_ac (rx_sd_istore (M := m_X4_judge Y) dX4_judge_77) ?_
  refine rx_ac (rx_sd_iload dX4_judge_79) ?_
  refine rx_ac (rx_sd_iload_n dX4_judge_81 rfl) ?_
  refine rx_ac (rx_sd_icmp_ge hY dX4_judge_82 (by decide)) ?_
  refine rx_ac (rx_sd_aload_n dX4_judge_85 rfl) ?_
  refine rx_ac (rx_sd_aload_n dX4_judge_86 rfl) ?_
  refine rx_ac (rx_sd_iload dX4_judge_87) ?_
  refine rx_ac (rx_sd_iload_n dX4_judge_89 rfl) ?_
  refine rx_ac (rx_sd_cl (M := m_X4_judge Y) (rx_lk_V gok (mid := 25) (ci := 4) (C := (RX4, TX4, 6)) ⟨kw_164, kw_145, hd_X4_unpack, Nat.le_of_ble_eq_true rfl, Nat.le_of_ble_eq_true rfl⟩ rfl kw_165 kw_166 kw_167 dX4_judge_90) (fun _ => ⟨_, rfl⟩) rfl rfl) ?_
  refine rx_ac (rx_sd_aload_n dX4_judge_93 rfl) ?_
  refine rx_ac (rx_sd_get (C := RX4) (T := TX4) (N := 6) in_X4 rfl (by decide) kw_140 dX4_judge_94) ?_
  refine rx_ac (rx_sd_iload_n dX4_judge_97 rfl) ?_
  refine rx_ac (rx_sd_iload_n dX4_judge_98 rfl) ?_
  refine rx_ac (rx_sd_iload dX4_judge_99) ?_
  refine rx_ac (rx_sd_cl (M := m_X4_judge Y) (rx_lk_SN gok (host := "SeedBench") (mid := 91) ⟨kw_53, kw_54, hd_X9_turnTable, Nat.le_of_ble_eq_true rfl, Nat.le_of_ble_eq_true rfl⟩ (List.mem_of_getElem? (i := 13) rfl) kw_55 dX4_judge_101) (fun h => nomatch h) rfl rfl) ?_
  refine rx_ac (rx_sd_aload_n dX4_judge_104 rfl) ?_
  refine rx_ac (rx_sd_iload_n dX4_judge_105 rfl) ?_
  refine rx_ac (rx_sd_cl (M := m_X4_judge Y) (rx_lk_V gok (mid := 22) (ci := 4) (C := (RX4, TX4, 6)) ⟨kw_144, kw_145, hd_X4_isWild, Nat.le_of_ble_eq_true rfl, Nat.le_of_ble_eq_true rfl⟩ rfl kw_146 kw_147 kw_148 dX4_judge_106) (fun _ => ⟨_, rfl⟩) rfl rfl) ?_
  refine rx_ac (rx_sd_if_eq hY dX4_judge_109 (by decide)) ?_
  refine rx_ac (rx_sd_aload_n dX4_judge_133 rfl) ?_
  refine rx_ac (rx_sd_iload_n dX4_judge_134 rfl) ?_
  refine rx_ac (rx_sd_cl (M := m_X4_judge Y) (rx_lk_V gok (mid := 24) (ci := 4) (C := (RX4, TX4, 6)) ⟨kw_153, kw_145, hd_X4_pack, Nat.le_of_ble_eq_true rfl, Nat.le_of_ble_eq_true rfl⟩ rfl kw_154 kw_155 kw_156 dX4_judge_135) (fun _ => ⟨_, rfl⟩) rfl rfl) ?_
  refine rx_ac (rx_sd_aload_n dX4_judge_138 rfl) ?_
  refine rx_ac (rx_sd_aload_n dX4_judge_139 rfl) ?_
  refine rx_ac (rx_sd_get (C := RX4) (T := TX4) (N := 6) in_X4 rfl (by decide) kw_157 dX4_judge_140) ?_
  refine rx_ac (rx_sd_aload_n dX4_judge_143 rfl) ?_
  refine rx_ac (rx_sd_get (C := RX4) (T := TX4) (N := 6) in_X4 rfl (by decide) kw_158 dX4_judge_144) ?_
  refine rx_ac (rx_sd_cl (M := m_X4_judge Y) (rx_lk_V gok (mid := 15) (ci := 1) (C := (RX1, TX1, 6)) ⟨kw_168, kw_116, hd_X1_find, Nat.le_of_ble_eq_true rfl, Nat.le_of_ble_eq_true rfl⟩ rfl kw_169 kw_170 kw_171 dX4_judge_147) (fun _ => ⟨_, rfl⟩) rfl rfl) ?_
  refine rx_ac (rx_sd_iconst dX4_judge_150 (by decide)) ?_
  refine rx_ac (rx_sd_icmp_ne hY dX4_judge_151 (by decide)) ?_
  refine rx_ac (rx_sd_iinc (M := m_X4_judge Y) dX4_judge_184 (by decide)) ?_
  refine rx_ac (rx_sd_goto dX4_judge_187 (by decide)) ?_
  refine rx_ac (rx_sd_iinc (M := m_X4_judge Y) dX4_judge_190 (by decide)) ?_
  refine rx_ac (rx_sd_goto dX4_judge_193 (by decide)) ?_
  refine rx_ac (rx_sd_aload_n dX4_judge_196 rfl) ?_
  refine rx_ac (rx_sd_aload_n dX4_judge_197 rfl) ?_
  refine rx_ac (rx_sd_get (C := RX1) (T := TX1) (N := 6) in_X1 rfl (by decide) kw_163 dX4_judge_198) ?_
  refine rx_ac (rx_sd_putf (C := RX4) (T := TX4) (N := 6) (ty0 := tyX4) in_X4 tyX4_ok nmX4 rfl (by decide) kw_143 (Or.inl rfl) rfl dX4_judge_201) ?_
  refine rx_ac (rx_sd_iconst dX4_judge_204 (by decide)) ?_
  refine rx_ac (rx_sd_retI (M := m_X4_judge Y) rfl (Or.inl rfl) dX4_judge_205) ?_
  exact rx_an
set_option maxRecDepth 100000 in
set_option maxHeartbeats 4000000 in
theorem s_X4_pack {l : Launch} {D : va_G} {cy : Nat → ClassId} {σ : Nat → Int32} {Y : rx_Y} (hY : rx_YOk Y σ) : ∀ q ∈ p_X4_pack Y, rx_Sd (gG l D cy σ) (mt Y) (m_X4_pack Y) q.1 q.2 := by
  unfold p_X4_pack
  refine rx_ac (rx_sd_aload_n dX4_pack_0 rfl) ?_
  refine rx_ac (rx_sd_lconst dX4_pack_1 (by decide)) ?_
  refine rx_ac (rx_sd_putf (C := RX4) (T := TX4) (N := 6) (ty0 := tyX4) in_X4 tyX4_ok nmX4 rfl (by decide) kw_157 (Or.inl rfl) rfl dX4_pack_2) ?_
  refine rx_ac (rx_sd_aload_n dX4_pack_5 rfl) ?_
  refine rx_ac (rx_sd_lconst dX4_pack_6 (by decide)) ?_
  refine rx_ac (rx_sd_putf (C := RX4) (T := TX4) (N := 6) (ty0 := tyX4) in_X4 tyX4_ok nmX4 rfl (by decide) kw_158 (Or.inl rfl) rfl dX4_pack_7) ?_
  refine rx_ac (rx_sd_iconst dX4_pack_10 (by decide)) ?_
  refine rx_ac (rx_sd_istore_n (M := m_X4_pack Y) dX4_pack_11 rfl) ?_
  refine rx_ac (rx_sd_iload_n dX4_pack_12 rfl) ?_
  refine rx_ac (rx_sd_iload_n dX4_pack_13 rfl) ?_
  refine rx_ac (rx_sd_icmp_ge hY dX4_pack_14 (by decide)) ?_
  refine rx_ac (rx_sd_iconst dX4_pack_17 (by decide)) ?_
  refine rx_ac (rx_sd_istore_n (M := m_X4_pack Y) dX4_pack_18 rfl) ?_
  refine rx_ac (rx_sd_iload_n dX4_pack_19 rfl) ?_
  refine rx_ac (rx_sd_iload_n dX4_pack_20 rfl) ?_
  refine rx_ac (rx_sd_icmp_ge hY dX4_pack_21 (by decide)) ?_
  refine rx_ac (rx_sd_aload_n dX4_pack_24 rfl) ?_
  refine rx_ac (rx_sd_get (C := RX4) (T := TX4) (N := 6) in_X4 rfl (by decide) kw_140 dX4_pack_25) ?_
  refine rx_ac (rx_sd_iload_n dX4_pack_28 rfl) ?_
  refine rx_ac (rx_sd_bipush dX4_pack_29 (by decide)) ?_
  refine rx_ac (rx_sd_imul dX4_pack_31) ?_
  refine rx_ac (rx_sd_iload_n dX4_pack_32 rfl) ?_
  refine rx_ac (rx_sd_iadd dX4_pack_33) ?_
  refine rx_ac (rx_sd_iald ⟨rfl, rfl, rfl⟩ dX4_pack_34) ?_
  refine rx_ac (rx_sd_iconst dX4_pack_35 (by decide)) ?_
  refine rx_ac (rx_sd_iadd dX4_pack_36) ?_
  refine rx_ac (rx_sd_istore (M := m_X4_pack Y) dX4_pack_37) ?_
  refine rx_ac (rx_sd_iload_n dX4_pack_39 rfl) ?_
  refine rx_ac (rx_sd_iconst dX4_pack_40 (by decide)) ?_
  refine rx_ac (rx_sd_icmp_ge hY dX4_pack_41 (by decide)) ?_
  refine rx_ac (rx_sd_aload_n dX4_pack_44 rfl) ?_
  refine rx_ac (rx_sd_aload_n dX4_pack_45 rfl) ?_
  refine rx_ac (rx_sd_get (C := RX4) (T := TX4) (N := 6) in_X4 rfl (by decide) kw_157 dX4_pack_46) ?_
  refine rx_ac (rx_sd_iconst dX4_pack_49 (by decide)) ?_
  refine rx_ac (rx_sd_lshl dX4_pack_50) ?_
  refine rx_ac (rx_sd_iload dX4_pack_51) ?_
  refine rx_ac (rx_sd_i2l dX4_pack_53) ?_
  refine rx_ac (rx_sd_lor dX4_pack_54) ?_
  refine rx_ac (rx_sd_putf (C := RX4) (T := TX4) (N := 6) (ty0 := tyX4) in_X4 tyX4_ok nmX4 rfl (by decide) kw_157 (Or.inl rfl) rfl dX4_pack_55) ?_
  refine rx_ac (rx_sd_goto dX4_pack_58 (by decide)) ?_
  refine rx_ac (rx_sd_iinc (M := m_X4_pack Y) dX4_pack_75 (by decide)) ?_
  refine rx_ac (rx_sd_goto dX4_pack_78 (by decide)) ?_
  refine rx_ac (rx_sd_iinc (M := m_X4_pack Y) dX4_pack_81 (by decide)) ?_
  refine rx_ac (rx_sd_goto dX4_pack_84 (by decide)) ?_
  refine rx_ac (rx_sd_ret0 (M := m_X4_pack Y) rfl dX4_pack_87) ?_
  exact rx_an
set_option maxRecDepth 100000 in
set_option maxHeartbeats 4000000 in
theorem s_X4_unpack {l : Launch} {D : va_G} {cy : Nat → ClassId} {σ : Nat → Int32} {Y : rx_Y} (hY : rx_YOk Y σ) : ∀ q ∈ p_X4_unpack Y, rx_Sd (gG l D cy σ) (mt Y) (m_X4_unpack Y) q.1 q.2 := by
  unfold p_X4_unpack
  refine rx_ac (rx_sd_aload_n dX4_unpack_0 rfl) ?_
  refine rx_ac (rx_sd_get (C := RX1) (T := TX1) (N := 6) in_X1 rfl (by decide) kw_172 dX4_unpack_1) ?_
  refine rx_ac (rx_sd_iload_n dX4_unpack_4 rfl) ?_
  refine rx_ac (rx_sd_lald ⟨rfl, rfl, rfl⟩ dX4_unpack_5) ?_
  refine rx_ac (rx_sd_lstore (M := m_X4_unpack Y) dX4_unpack_6) ?_
  refine rx_ac (rx_sd_aload_n dX4_unpack_8 rfl) ?_
  refine rx_ac (rx_sd_get (C := RX1) (T := TX1) (N := 6) in_X1 rfl (by decide) kw_173 dX4_unpack_9) ?_
  refine rx_ac (rx_sd_iload_n dX4_unpack_12 rfl) ?_
  refine rx_ac (rx_sd_lald ⟨rfl, rfl, rfl⟩ dX4_unpack_13) ?_
  refine rx_ac (rx_sd_lstore (M := m_X4_unpack Y) dX4_unpack_14) ?_
  refine rx_ac (rx_sd_iload_n dX4_unpack_16 rfl) ?_
  refine rx_ac (rx_sd_iconst dX4_unpack_17 (by decide)) ?_
  refine rx_ac (rx_sd_isub dX4_unpack_18) ?_
  refine rx_ac (rx_sd_istore (M := m_X4_unpack Y) dX4_unpack_19) ?_
  refine rx_ac (rx_sd_iload dX4_unpack_21) ?_
  refine rx_ac (rx_sd_if_lt hY dX4_unpack_23 (by decide)) ?_
  refine rx_ac (rx_sd_iload_n dX4_unpack_26 rfl) ?_
  refine rx_ac (rx_sd_iconst dX4_unpack_27 (by decide)) ?_
  refine rx_ac (rx_sd_isub dX4_unpack_28) ?_
  refine rx_ac (rx_sd_istore (M := m_X4_unpack Y) dX4_unpack_29) ?_
  refine rx_ac (rx_sd_iload dX4_unpack_31) ?_
  refine rx_ac (rx_sd_if_lt hY dX4_unpack_33 (by decide)) ?_
  refine rx_ac (rx_sd_iload dX4_unpack_36) ?_
  refine rx_ac (rx_sd_iconst dX4_unpack_38 (by decide)) ?_
  refine rx_ac (rx_sd_icmp_ge hY dX4_unpack_39 (by decide)) ?_
  refine rx_ac (rx_sd_aload_n dX4_unpack_42 rfl) ?_
  refine rx_ac (rx_sd_get (C := RX4) (T := TX4) (N := 6) in_X4 rfl (by decide) kw_140 dX4_unpack_43) ?_
  refine rx_ac (rx_sd_iload dX4_unpack_46) ?_
  refine rx_ac (rx_sd_bipush dX4_unpack_48 (by decide)) ?_
  refine rx_ac (rx_sd_imul dX4_unpack_50) ?_
  refine rx_ac (rx_sd_iload dX4_unpack_51) ?_
  refine rx_ac (rx_sd_iadd dX4_unpack_53) ?_
  refine rx_ac (rx_sd_lload dX4_unpack_54) ?_
  refine rx_ac (rx_sd_ldc2 (M := m_X4_unpack Y) kw_174 dX4_unpack_56) ?_
  refine rx_ac (rx_sd_land dX4_unpack_59) ?_
  refine rx_ac (rx_sd_l2i dX4_unpack_60) ?_
  refine rx_ac (rx_sd_iconst dX4_unpack_61 (by decide)) ?_
  refine rx_ac (rx_sd_isub dX4_unpack_62) ?_
  refine rx_ac (rx_sd_iast hY ⟨rfl, rfl, rfl⟩ dX4_unpack_63) ?_
  refine rx_ac (rx_sd_lload dX4_unpack_64) ?_
  refine rx_ac (rx_sd_iconst dX4_unpack_66 (by decide)) ?_
  refine rx_ac (rx_sd_lushr dX4_unpack_67) ?_
  refine rx_ac (rx_sd_lstore (M := m_X4_unpack Y) dX4_unpack_68) ?_
  refine rx_ac (rx_sd_goto dX4_unpack_70 (by decide)) ?_
  refine rx_ac (rx_sd_iinc (M := m_X4_unpack Y) dX4_unpack_101 (by decide)) ?_
  refine rx_ac (rx_sd_goto dX4_unpack_104 (by decide)) ?_
  refine rx_ac (rx_sd_iinc (M := m_X4_unpack Y) dX4_unpack_107 (by decide)) ?_
  refine rx_ac (rx_sd_goto dX4_unpack_110 (by decide)) ?_
  refine rx_ac (rx_sd_ret0 (M := m_X4_unpack Y) rfl dX4_unpack_113) ?_
  exact rx_an
