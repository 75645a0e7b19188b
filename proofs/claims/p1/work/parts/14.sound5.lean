set_option maxRecDepth 100000 in
set_option maxHeartbeats 4000000 in
theorem s_X10_tableHash {l : Launch} {D : va_G} {cy : Nat → ClassId} {σ : Nat → Int32} {Y : rx_Y} (hY : rx_YOk Y σ) : ∀ q ∈ p_X10_tableHash Y, rx_Sd (gG l D cy σ) (mt Y) (m_X10_tableHash Y) q.1 q.2 := by
  unfold p_X10_tableHash
  refine rx_ac (rx_sd_bipush dX10_tableHash_0 (by decide)) ?_
  refine rx_ac (rx_sd_istore_n (M := m_X10_tableHash Y) dX10_tableHash_2 rfl) ?_
  refine rx_ac (rx_sd_iconst dX10_tableHash_3 (by decide)) ?_
  refine rx_ac (rx_sd_istore_n (M := m_X10_tableHash Y) dX10_tableHash_4 rfl) ?_
  refine rx_ac (rx_sd_iload_n dX10_tableHash_5 rfl) ?_
  refine rx_ac (rx_sd_bipush dX10_tableHash_6 (by decide)) ?_
  refine rx_ac (rx_sd_icmp_ge hY dX10_tableHash_8 (by decide)) ?_
  refine rx_ac (rx_sd_bipush dX10_tableHash_11 (by decide)) ?_
  refine rx_ac (rx_sd_iload_n dX10_tableHash_13 rfl) ?_
  refine rx_ac (rx_sd_imul dX10_tableHash_14) ?_
  refine rx_ac (rx_sd_iload_n dX10_tableHash_15 rfl) ?_
  refine rx_ac (rx_sd_bipush dX10_tableHash_16 (by decide)) ?_
  refine rx_ac (rx_sd_idiv dX10_tableHash_18) ?_
  refine rx_ac (rx_sd_aload_n dX10_tableHash_19 rfl) ?_
  refine rx_ac (rx_sd_get (C := RX10) (T := TX10) (N := 58) in_X10 rfl (by decide) kw_469 dX10_tableHash_20) ?_
  refine rx_ac (rx_sd_icmp_ge hY dX10_tableHash_23 (by decide)) ?_
  refine rx_ac (rx_sd_iload_n dX10_tableHash_26 rfl) ?_
  refine rx_ac (rx_sd_bipush dX10_tableHash_27 (by decide)) ?_
  refine rx_ac (rx_sd_irem dX10_tableHash_29) ?_
  refine rx_ac (rx_sd_aload_n dX10_tableHash_30 rfl) ?_
  refine rx_ac (rx_sd_get (C := RX10) (T := TX10) (N := 58) in_X10 rfl (by decide) kw_469 dX10_tableHash_31) ?_
  refine rx_ac (rx_sd_icmp_ge hY dX10_tableHash_34 (by decide)) ?_
  refine rx_ac (rx_sd_aload_n dX10_tableHash_37 rfl) ?_
  refine rx_ac (rx_sd_get (C := RX10) (T := TX10) (N := 58) in_X10 rfl (by decide) kw_473 dX10_tableHash_38) ?_
  refine rx_ac (rx_sd_iload_n dX10_tableHash_41 rfl) ?_
  refine rx_ac (rx_sd_iald ⟨rfl, rfl, rfl⟩ dX10_tableHash_42) ?_
  refine rx_ac (rx_sd_goto dX10_tableHash_43 (by decide)) ?_
  refine rx_ac (rx_sd_iconst dX10_tableHash_46 (by decide)) ?_
  refine rx_ac (rx_sd_iadd dX10_tableHash_47) ?_
  refine rx_ac (rx_sd_istore_n (M := m_X10_tableHash Y) dX10_tableHash_48 rfl) ?_
  refine rx_ac (rx_sd_iinc (M := m_X10_tableHash Y) dX10_tableHash_49 (by decide)) ?_
  refine rx_ac (rx_sd_goto dX10_tableHash_52 (by decide)) ?_
  refine rx_ac (rx_sd_iload_n dX10_tableHash_55 rfl) ?_
  refine rx_ac (rx_sd_iload_n dX10_tableHash_56 rfl) ?_
  refine rx_ac (rx_sd_bipush dX10_tableHash_57 (by decide)) ?_
  refine rx_ac (rx_sd_iushr dX10_tableHash_59) ?_
  refine rx_ac (rx_sd_ixor dX10_tableHash_60) ?_
  refine rx_ac (rx_sd_sipush dX10_tableHash_61 (by decide)) ?_
  refine rx_ac (rx_sd_iand dX10_tableHash_64) ?_
  refine rx_ac (rx_sd_retI (M := m_X10_tableHash Y) rfl (Or.inl rfl) dX10_tableHash_65) ?_
  exact rx_an
set_option maxRecDepth 100000 in
set_option maxHeartbeats 4000000 in
theorem s_X10_tables {l : Launch} {D : va_G} {cy : Nat → ClassId} {σ : Nat → Int32} {Y : rx_Y} (hY : rx_YOk Y σ) : ∀ q ∈ p_X10_tables Y, rx_Sd (gG l D cy σ) (mt Y) (m_X10_tables Y) q.1 q.2 := by
  unfold p_X10_tables
  refine rx_ac (rx_sd_aload_n dX10_tables_0 rfl) ?_
  refine rx_ac (rx_sd_get (C := RX10) (T := TX10) (N := 58) in_X10 rfl (by decide) kw_594 dX10_tables_1) ?_
  refine rx_ac (rx_sd_retI (M := m_X10_tables Y) rfl (Or.inl rfl) dX10_tables_4) ?_
  exact rx_an
set_option maxRecDepth 100000 in
set_option maxHeartbeats 4000000 in
theorem s_X10_takes {l : Launch} {D : va_G} {cy : Nat → ClassId} {σ : Nat → Int32} {Y : rx_Y} (hY : rx_YOk Y σ) : ∀ q ∈ p_X10_takes Y, rx_Sd (gG l D cy σ) (mt Y) (m_X10_takes Y) q.1 q.2 := by
  unfold p_X10_takes
  refine rx_ac (rx_sd_iconst dX10_takes_0 (by decide)) ?_
  refine rx_ac (rx_sd_istore_n (M := m_X10_takes Y) dX10_takes_1 rfl) ?_
  refine rx_ac (rx_sd_iload_n dX10_takes_2 rfl) ?_
  refine rx_ac (rx_sd_aload_n dX10_takes_3 rfl) ?_
  refine rx_ac (rx_sd_get (C := RX10) (T := TX10) (N := 58) in_X10 rfl (by decide) kw_469 dX10_takes_4) ?_
  refine rx_ac (rx_sd_icmp_ge hY dX10_takes_7 (by decide)) ?_
  refine rx_ac (rx_sd_aload_n dX10_takes_10 rfl) ?_
  refine rx_ac (rx_sd_iload_n dX10_takes_11 rfl) ?_
  refine rx_ac (rx_sd_bipush dX10_takes_12 (by decide)) ?_
  refine rx_ac (rx_sd_aload_n dX10_takes_14 rfl) ?_
  refine rx_ac (rx_sd_get (C := RX10) (T := TX10) (N := 58) in_X10 rfl (by decide) kw_475 dX10_takes_15) ?_
  refine rx_ac (rx_sd_bipush dX10_takes_18 (by decide)) ?_
  refine rx_ac (rx_sd_iload_n dX10_takes_20 rfl) ?_
  refine rx_ac (rx_sd_imul dX10_takes_21) ?_
  refine rx_ac (rx_sd_iload_n dX10_takes_22 rfl) ?_
  refine rx_ac (rx_sd_iadd dX10_takes_23) ?_
  refine rx_ac (rx_sd_iald ⟨rfl, rfl, rfl⟩ dX10_takes_24) ?_
  refine rx_ac (rx_sd_iadd dX10_takes_25) ?_
  refine rx_ac (rx_sd_cl (M := m_X10_takes Y) (rx_lk_V gok (mid := 104) (ci := 10) (C := (RX10, TX10, 58)) ⟨kw_562, kw_427, hd_X10_copy, Nat.le_of_ble_eq_true rfl, Nat.le_of_ble_eq_true rfl⟩ rfl kw_563 kw_564 kw_565 dX10_takes_26) (fun _ => ⟨_, rfl⟩) rfl rfl) ?_
  refine rx_ac (rx_sd_iinc (M := m_X10_takes Y) dX10_takes_29 (by decide)) ?_
  refine rx_ac (rx_sd_goto dX10_takes_32 (by decide)) ?_
  refine rx_ac (rx_sd_iconst dX10_takes_35 (by decide)) ?_
  refine rx_ac (rx_sd_istore_n (M := m_X10_takes Y) dX10_takes_36 rfl) ?_
  refine rx_ac (rx_sd_iload_n dX10_takes_37 rfl) ?_
  refine rx_ac (rx_sd_bipush dX10_takes_38 (by decide)) ?_
  refine rx_ac (rx_sd_icmp_ge hY dX10_takes_40 (by decide)) ?_
  refine rx_ac (rx_sd_aload_n dX10_takes_43 rfl) ?_
  refine rx_ac (rx_sd_get (C := RX10) (T := TX10) (N := 58) in_X10 rfl (by decide) kw_473 dX10_takes_44) ?_
  refine rx_ac (rx_sd_iload_n dX10_takes_47 rfl) ?_
  refine rx_ac (rx_sd_aload_n dX10_takes_48 rfl) ?_
  refine rx_ac (rx_sd_get (C := RX10) (T := TX10) (N := 58) in_X10 rfl (by decide) kw_477 dX10_takes_49) ?_
  refine rx_ac (rx_sd_bipush dX10_takes_52 (by decide)) ?_
  refine rx_ac (rx_sd_iload_n dX10_takes_54 rfl) ?_
  refine rx_ac (rx_sd_imul dX10_takes_55) ?_
  refine rx_ac (rx_sd_iload_n dX10_takes_56 rfl) ?_
  refine rx_ac (rx_sd_iadd dX10_takes_57) ?_
  refine rx_ac (rx_sd_iald ⟨rfl, rfl, rfl⟩ dX10_takes_58) ?_
  refine rx_ac (rx_sd_iast hY ⟨rfl, rfl, rfl⟩ dX10_takes_59) ?_
  refine rx_ac (rx_sd_iinc (M := m_X10_takes Y) dX10_takes_60 (by decide)) ?_
  refine rx_ac (rx_sd_goto dX10_takes_63 (by decide)) ?_
  refine rx_ac (rx_sd_ret0 (M := m_X10_takes Y) rfl dX10_takes_66) ?_
  exact rx_an
set_option maxRecDepth 100000 in
set_option maxHeartbeats 4000000 in
theorem s_X10_tells {l : Launch} {D : va_G} {cy : Nat → ClassId} {σ : Nat → Int32} {Y : rx_Y} (hY : rx_YOk Y σ) : ∀ q ∈ p_X10_tells Y, rx_Sd (gG l D cy σ) (mt Y) (m_X10_tells Y) q.1 q.2 := by
  unfold p_X10_tells
  refine rx_ac (rx_sd_aload_n dX10_tells_0 rfl) ?_
  refine rx_ac (rx_sd_cl (M := m_X10_tells Y) (rx_lk_V gok (mid := 145) (ci := 10) (C := (RX10, TX10, 58)) ⟨kw_596, kw_427, hd_X10_tableHash, Nat.le_of_ble_eq_true rfl, Nat.le_of_ble_eq_true rfl⟩ rfl kw_597 kw_598 kw_599 dX10_tells_1) (fun _ => ⟨_, rfl⟩) rfl rfl) ?_
  refine rx_ac (rx_sd_istore_n (M := m_X10_tells Y) dX10_tells_4 rfl) ?_
  refine rx_ac (rx_sd_aload_n dX10_tells_5 rfl) ?_
  refine rx_ac (rx_sd_get (C := RX10) (T := TX10) (N := 58) in_X10 rfl (by decide) kw_549 dX10_tells_6) ?_
  refine rx_ac (rx_sd_iload_n dX10_tells_9 rfl) ?_
  refine rx_ac (rx_sd_iald ⟨rfl, rfl, rfl⟩ dX10_tells_10) ?_
  refine rx_ac (rx_sd_istore (M := m_X10_tells Y) dX10_tells_11) ?_
  refine rx_ac (rx_sd_iload dX10_tells_13) ?_
  refine rx_ac (rx_sd_iconst dX10_tells_15 (by decide)) ?_
  refine rx_ac (rx_sd_icmp_eq hY dX10_tells_16 (by decide)) ?_
  refine rx_ac (rx_sd_aload_n dX10_tells_19 rfl) ?_
  refine rx_ac (rx_sd_iload dX10_tells_20) ?_
  refine rx_ac (rx_sd_cl (M := m_X10_tells Y) (rx_lk_V gok (mid := 118) (ci := 10) (C := (RX10, TX10, 58)) ⟨kw_600, kw_427, hd_X10_isTable, Nat.le_of_ble_eq_true rfl, Nat.le_of_ble_eq_true rfl⟩ rfl kw_601 kw_602 kw_603 dX10_tells_22) (fun _ => ⟨_, rfl⟩) rfl rfl) ?_
  refine rx_ac (rx_sd_if_eq hY dX10_tells_25 (by decide)) ?_
  refine rx_ac (rx_sd_iconst dX10_tells_28 (by decide)) ?_
  refine rx_ac (rx_sd_retI (M := m_X10_tells Y) rfl (Or.inl rfl) dX10_tells_29) ?_
  refine rx_ac (rx_sd_aload_n dX10_tells_42 rfl) ?_
  refine rx_ac (rx_sd_cl (M := m_X10_tells Y) (rx_lk_V gok (mid := 120) (ci := 10) (C := (RX10, TX10, 58)) ⟨kw_604, kw_427, hd_X10_isWild, Nat.le_of_ble_eq_true rfl, Nat.le_of_ble_eq_true rfl⟩ rfl kw_605 kw_606 kw_607 dX10_tells_43) (fun _ => ⟨_, rfl⟩) rfl rfl) ?_
  refine rx_ac (rx_sd_if_eq hY dX10_tells_46 (by decide)) ?_
  refine rx_ac (rx_sd_aload_n dX10_tells_51 rfl) ?_
  refine rx_ac (rx_sd_get (C := RX10) (T := TX10) (N := 58) in_X10 rfl (by decide) kw_584 dX10_tells_52) ?_
  refine rx_ac (rx_sd_sipush dX10_tells_55 (by decide)) ?_
  refine rx_ac (rx_sd_icmp_ne hY dX10_tells_58 (by decide)) ?_
  refine rx_ac (rx_sd_iconst dX10_tells_63 (by decide)) ?_
  refine rx_ac (rx_sd_istore (M := m_X10_tells Y) dX10_tells_64) ?_
  refine rx_ac (rx_sd_iload dX10_tells_66) ?_
  refine rx_ac (rx_sd_bipush dX10_tells_68 (by decide)) ?_
  refine rx_ac (rx_sd_icmp_ge hY dX10_tells_70 (by decide)) ?_
  refine rx_ac (rx_sd_aload_n dX10_tells_73 rfl) ?_
  refine rx_ac (rx_sd_get (C := RX10) (T := TX10) (N := 58) in_X10 rfl (by decide) kw_545 dX10_tells_74) ?_
  refine rx_ac (rx_sd_bipush dX10_tells_77 (by decide)) ?_
  refine rx_ac (rx_sd_aload_n dX10_tells_79 rfl) ?_
  refine rx_ac (rx_sd_get (C := RX10) (T := TX10) (N := 58) in_X10 rfl (by decide) kw_584 dX10_tells_80) ?_
  refine rx_ac (rx_sd_imul dX10_tells_83) ?_
  refine rx_ac (rx_sd_iload dX10_tells_84) ?_
  refine rx_ac (rx_sd_iadd dX10_tells_86) ?_
  refine rx_ac (rx_sd_iload dX10_tells_87) ?_
  refine rx_ac (rx_sd_bipush dX10_tells_89 (by decide)) ?_
  refine rx_ac (rx_sd_idiv dX10_tells_91) ?_
  refine rx_ac (rx_sd_aload_n dX10_tells_92 rfl) ?_
  refine rx_ac (rx_sd_get (C := RX10) (T := TX10) (N := 58) in_X10 rfl (by decide) kw_469 dX10_tells_93) ?_
  refine rx_ac (rx_sd_icmp_ge hY dX10_tells_96 (by decide)) ?_
  refine rx_ac (rx_sd_iload dX10_tells_99) ?_
  refine rx_ac (rx_sd_bipush dX10_tells_101 (by decide)) ?_
  refine rx_ac (rx_sd_irem dX10_tells_103) ?_
  refine rx_ac (rx_sd_aload_n dX10_tells_104 rfl) ?_
  refine rx_ac (rx_sd_get (C := RX10) (T := TX10) (N := 58) in_X10 rfl (by decide) kw_469 dX10_tells_105) ?_
  refine rx_ac (rx_sd_icmp_ge hY dX10_tells_108 (by decide)) ?_
  refine rx_ac (rx_sd_aload_n dX10_tells_111 rfl) ?_
  refine rx_ac (rx_sd_get (C := RX10) (T := TX10) (N := 58) in_X10 rfl (by decide) kw_473 dX10_tells_112) ?_
  refine rx_ac (rx_sd_iload dX10_tells_115) ?_
  refine rx_ac (rx_sd_iald ⟨rfl, rfl, rfl⟩ dX10_tells_117) ?_
  refine rx_ac (rx_sd_goto dX10_tells_118 (by decide)) ?_
  refine rx_ac (rx_sd_iconst dX10_tells_121 (by decide)) ?_
  refine rx_ac (rx_sd_iast hY ⟨rfl, rfl, rfl⟩ dX10_tells_122) ?_
  refine rx_ac (rx_sd_iinc (M := m_X10_tells Y) dX10_tells_123 (by decide)) ?_
  refine rx_ac (rx_sd_goto dX10_tells_126 (by decide)) ?_
  refine rx_ac (rx_sd_aload_n dX10_tells_129 rfl) ?_
  refine rx_ac (rx_sd_get (C := RX10) (T := TX10) (N := 58) in_X10 rfl (by decide) kw_546 dX10_tells_130) ?_
  refine rx_ac (rx_sd_aload_n dX10_tells_133 rfl) ?_
  refine rx_ac (rx_sd_get (C := RX10) (T := TX10) (N := 58) in_X10 rfl (by decide) kw_584 dX10_tells_134) ?_
  refine rx_ac (rx_sd_iload_n dX10_tells_137 rfl) ?_
  refine rx_ac (rx_sd_iast hY ⟨rfl, rfl, rfl⟩ dX10_tells_138) ?_
  refine rx_ac (rx_sd_aload_n dX10_tells_139 rfl) ?_
  refine rx_ac (rx_sd_get (C := RX10) (T := TX10) (N := 58) in_X10 rfl (by decide) kw_547 dX10_tells_140) ?_
  refine rx_ac (rx_sd_aload_n dX10_tells_143 rfl) ?_
  refine rx_ac (rx_sd_get (C := RX10) (T := TX10) (N := 58) in_X10 rfl (by decide) kw_584 dX10_tells_144) ?_
  refine rx_ac (rx_sd_iload_n dX10_tells_147 rfl) ?_
  refine rx_ac (rx_sd_iast hY ⟨rfl, rfl, rfl⟩ dX10_tells_148) ?_
  refine rx_ac (rx_sd_aload_n dX10_tells_149 rfl) ?_
  refine rx_ac (rx_sd_get (C := RX10) (T := TX10) (N := 58) in_X10 rfl (by decide) kw_550 dX10_tells_150) ?_
  refine rx_ac (rx_sd_aload_n dX10_tells_153 rfl) ?_
  refine rx_ac (rx_sd_get (C := RX10) (T := TX10) (N := 58) in_X10 rfl (by decide) kw_584 dX10_tells_154) ?_
  refine rx_ac (rx_sd_aload_n dX10_tells_157 rfl) ?_
  refine rx_ac (rx_sd_get (C := RX10) (T := TX10) (N := 58) in_X10 rfl (by decide) kw_549 dX10_tells_158) ?_
  refine rx_ac (rx_sd_iload_n dX10_tells_161 rfl) ?_
  refine rx_ac (rx_sd_iald ⟨rfl, rfl, rfl⟩ dX10_tells_162) ?_
  refine rx_ac (rx_sd_iast hY ⟨rfl, rfl, rfl⟩ dX10_tells_163) ?_
  refine rx_ac (rx_sd_aload_n dX10_tells_164 rfl) ?_
  refine rx_ac (rx_sd_get (C := RX10) (T := TX10) (N := 58) in_X10 rfl (by decide) kw_549 dX10_tells_165) ?_
  refine rx_ac (rx_sd_iload_n dX10_tells_168 rfl) ?_
  refine rx_ac (rx_sd_aload_n dX10_tells_169 rfl) ?_
  refine rx_ac (rx_sd_get (C := RX10) (T := TX10) (N := 58) in_X10 rfl (by decide) kw_584 dX10_tells_170) ?_
  refine rx_ac (rx_sd_iast hY ⟨rfl, rfl, rfl⟩ dX10_tells_173) ?_
  refine rx_ac (rx_sd_aload_n dX10_tells_174 rfl) ?_
  refine rx_ac (rx_sd_dup dX10_tells_175) ?_
  refine rx_ac (rx_sd_get (C := RX10) (T := TX10) (N := 58) in_X10 rfl (by decide) kw_584 dX10_tells_176) ?_
  refine rx_ac (rx_sd_iconst dX10_tells_179 (by decide)) ?_
  refine rx_ac (rx_sd_iadd dX10_tells_180) ?_
  refine rx_ac (rx_sd_putf (C := RX10) (T := TX10) (N := 58) (ty0 := tyX10) in_X10 tyX10_ok nmX10 rfl (by decide) kw_584 (Or.inl rfl) rfl dX10_tells_181) ?_
  refine rx_ac (rx_sd_iconst dX10_tells_184 (by decide)) ?_
  refine rx_ac (rx_sd_retI (M := m_X10_tells Y) rfl (Or.inl rfl) dX10_tells_185) ?_
  exact rx_an
set_option maxRecDepth 100000 in
set_option maxHeartbeats 4000000 in
theorem s_X10_term {l : Launch} {D : va_G} {cy : Nat → ClassId} {σ : Nat → Int32} {Y : rx_Y} (hY : rx_YOk Y σ) : ∀ q ∈ p_X10_term Y, rx_Sd (gG l D cy σ) (mt Y) (m_X10_term Y) q.1 q.2 := by
  unfold p_X10_term
  refine rx_ac (rx_sd_iload_n dX10_term_0 rfl) ?_
  refine rx_ac (rx_sd_if_lt hY dX10_term_1 (by decide)) ?_
  refine rx_ac (rx_sd_iload_n dX10_term_4 rfl) ?_
  refine rx_ac (rx_sd_aload_n dX10_term_5 rfl) ?_
  refine rx_ac (rx_sd_get (C := RX10) (T := TX10) (N := 58) in_X10 rfl (by decide) kw_469 dX10_term_6) ?_
  refine rx_ac (rx_sd_icmp_ge hY dX10_term_9 (by decide)) ?_
  refine rx_ac (rx_sd_iload_n dX10_term_12 rfl) ?_
  refine rx_ac (rx_sd_if_lt hY dX10_term_13 (by decide)) ?_
  refine rx_ac (rx_sd_iload_n dX10_term_16 rfl) ?_
  refine rx_ac (rx_sd_aload_n dX10_term_17 rfl) ?_
  refine rx_ac (rx_sd_get (C := RX10) (T := TX10) (N := 58) in_X10 rfl (by decide) kw_431 dX10_term_18) ?_
  refine rx_ac (rx_sd_iload_n dX10_term_21 rfl) ?_
  refine rx_ac (rx_sd_iald ⟨rfl, rfl, rfl⟩ dX10_term_22) ?_
  refine rx_ac (rx_sd_icmp_ge hY dX10_term_23 (by decide)) ?_
  refine rx_ac (rx_sd_iload_n dX10_term_26 rfl) ?_
  refine rx_ac (rx_sd_iconst dX10_term_27 (by decide)) ?_
  refine rx_ac (rx_sd_icmp_lt hY dX10_term_28 (by decide)) ?_
  refine rx_ac (rx_sd_iload_n dX10_term_31 rfl) ?_
  refine rx_ac (rx_sd_aload_n dX10_term_32 rfl) ?_
  refine rx_ac (rx_sd_get (C := RX10) (T := TX10) (N := 58) in_X10 rfl (by decide) kw_469 dX10_term_33) ?_
  refine rx_ac (rx_sd_aload_n dX10_term_36 rfl) ?_
  refine rx_ac (rx_sd_get (C := RX10) (T := TX10) (N := 58) in_X10 rfl (by decide) kw_470 dX10_term_37) ?_
  refine rx_ac (rx_sd_iadd dX10_term_40) ?_
  refine rx_ac (rx_sd_icmp_lt hY dX10_term_41 (by decide)) ?_
  refine rx_ac (rx_sd_lconst dX10_term_44 (by decide)) ?_
  refine rx_ac (rx_sd_retL (M := m_X10_term Y) rfl dX10_term_45) ?_
  refine rx_ac (rx_sd_iload_n dX10_term_46 rfl) ?_
  refine rx_ac (rx_sd_iconst dX10_term_47 (by decide)) ?_
  refine rx_ac (rx_sd_icmp_ne hY dX10_term_48 (by decide)) ?_
  refine rx_ac (rx_sd_aload_n dX10_term_51 rfl) ?_
  refine rx_ac (rx_sd_get (C := RX10) (T := TX10) (N := 58) in_X10 rfl (by decide) kw_436 dX10_term_52) ?_
  refine rx_ac (rx_sd_sipush dX10_term_55 (by decide)) ?_
  refine rx_ac (rx_sd_iload_n dX10_term_58 rfl) ?_
  refine rx_ac (rx_sd_imul dX10_term_59) ?_
  refine rx_ac (rx_sd_iload_n dX10_term_60 rfl) ?_
  refine rx_ac (rx_sd_iadd dX10_term_61) ?_
  refine rx_ac (rx_sd_lald ⟨rfl, rfl, rfl⟩ dX10_term_62) ?_
  refine rx_ac (rx_sd_goto dX10_term_63 (by decide)) ?_
  refine rx_ac (rx_sd_aload_n dX10_term_66 rfl) ?_
  refine rx_ac (rx_sd_get (C := RX10) (T := TX10) (N := 58) in_X10 rfl (by decide) kw_439 dX10_term_67) ?_
  refine rx_ac (rx_sd_bipush dX10_term_70 (by decide)) ?_
  refine rx_ac (rx_sd_sipush dX10_term_72 (by decide)) ?_
  refine rx_ac (rx_sd_iload_n dX10_term_75 rfl) ?_
  refine rx_ac (rx_sd_imul dX10_term_76) ?_
  refine rx_ac (rx_sd_iload_n dX10_term_77 rfl) ?_
  refine rx_ac (rx_sd_iadd dX10_term_78) ?_
  refine rx_ac (rx_sd_imul dX10_term_79) ?_
  refine rx_ac (rx_sd_iload_n dX10_term_80 rfl) ?_
  refine rx_ac (rx_sd_iadd dX10_term_81) ?_
  refine rx_ac (rx_sd_iald ⟨rfl, rfl, rfl⟩ dX10_term_82) ?_
  refine rx_ac (rx_sd_i2l dX10_term_83) ?_
  refine rx_ac (rx_sd_retL (M := m_X10_term Y) rfl dX10_term_84) ?_
  exact rx_an
set_option maxRecDepth 100000 in
set_option maxHeartbeats 4000000 in
theorem s_X10_terms {l : Launch} {D : va_G} {cy : Nat → ClassId} {σ : Nat → Int32} {Y : rx_Y} (hY : rx_YOk Y σ) : ∀ q ∈ p_X10_terms Y, rx_Sd (gG l D cy σ) (mt Y) (m_X10_terms Y) q.1 q.2 := by
  unfold p_X10_terms
  refine rx_ac (rx_sd_iload_n dX10_terms_0 rfl) ?_
  refine rx_ac (rx_sd_if_lt hY dX10_terms_1 (by decide)) ?_
  refine rx_ac (rx_sd_iload_n dX10_terms_4 rfl) ?_
  refine rx_ac (rx_sd_aload_n dX10_terms_5 rfl) ?_
  refine rx_ac (rx_sd_get (C := RX10) (T := TX10) (N := 58) in_X10 rfl (by decide) kw_469 dX10_terms_6) ?_
  refine rx_ac (rx_sd_icmp_lt hY dX10_terms_9 (by decide)) ?_
  refine rx_ac (rx_sd_iconst dX10_terms_12 (by decide)) ?_
  refine rx_ac (rx_sd_goto dX10_terms_13 (by decide)) ?_
  refine rx_ac (rx_sd_aload_n dX10_terms_16 rfl) ?_
  refine rx_ac (rx_sd_get (C := RX10) (T := TX10) (N := 58) in_X10 rfl (by decide) kw_431 dX10_terms_17) ?_
  refine rx_ac (rx_sd_iload_n dX10_terms_20 rfl) ?_
  refine rx_ac (rx_sd_iald ⟨rfl, rfl, rfl⟩ dX10_terms_21) ?_
  refine rx_ac (rx_sd_retI (M := m_X10_terms Y) rfl (Or.inl rfl) dX10_terms_22) ?_
  exact rx_an
set_option maxRecDepth 100000 in
set_option maxHeartbeats 4000000 in
theorem s_X10_thirds {l : Launch} {D : va_G} {cy : Nat → ClassId} {σ : Nat → Int32} {Y : rx_Y} (hY : rx_YOk Y σ) : ∀ q ∈ p_X10_thirds Y, rx_Sd (gG l D cy σ) (mt Y) (m_X10_thirds Y) q.1 q.2 := by
  unfold p_X10_thirds
  refine rx_ac (rx_sd_iconst dX10_thirds_0 (by decide)) ?_
  refine rx_ac (rx_sd_istore_n (M := m_X10_thirds Y) dX10_thirds_1 rfl) ?_
  refine rx_ac (rx_sd_iconst dX10_thirds_2 (by decide)) ?_
  refine rx_ac (rx_sd_istore (M := m_X10_thirds Y) dX10_thirds_3) ?_
  refine rx_ac (rx_sd_iload dX10_thirds_5) ?_
  refine rx_ac (rx_sd_bipush dX10_thirds_7 (by decide)) ?_
  refine rx_ac (rx_sd_icmp_ge hY dX10_thirds_9 (by decide)) ?_
  refine rx_ac (rx_sd_aload_n dX10_thirds_12 rfl) ?_
  refine rx_ac (rx_sd_get (C := RX10) (T := TX10) (N := 58) in_X10 rfl (by decide) kw_492 dX10_thirds_13) ?_
  refine rx_ac (rx_sd_bipush dX10_thirds_16 (by decide)) ?_
  refine rx_ac (rx_sd_iload_n dX10_thirds_18 rfl) ?_
  refine rx_ac (rx_sd_imul dX10_thirds_19) ?_
  refine rx_ac (rx_sd_iload dX10_thirds_20) ?_
  refine rx_ac (rx_sd_iadd dX10_thirds_22) ?_
  refine rx_ac (rx_sd_zald ⟨rfl, rfl, rfl⟩ dX10_thirds_23) ?_
  refine rx_ac (rx_sd_if_eq hY dX10_thirds_24 (by decide)) ?_
  refine rx_ac (rx_sd_iinc (M := m_X10_thirds Y) dX10_thirds_48 (by decide)) ?_
  refine rx_ac (rx_sd_goto dX10_thirds_51 (by decide)) ?_
  refine rx_ac (rx_sd_iload_n dX10_thirds_54 rfl) ?_
  refine rx_ac (rx_sd_retI (M := m_X10_thirds Y) rfl (Or.inl rfl) dX10_thirds_55) ?_
  exact rx_an
set_option maxRecDepth 100000 in
set_option maxHeartbeats 4000000 in
theorem s_X10_turn {l : Launch} {D : va_G} {cy : Nat → ClassId} {σ : Nat → Int32} {Y : rx_Y} (hY : rx_YOk Y σ) : ∀ q ∈ p_X10_turn Y, rx_Sd (gG l D cy σ) (mt Y) (m_X10_turn Y) q.1 q.2 := by
  unfold p_X10_turn
  refine rx_ac (rx_sd_iload_n dX10_turn_0 rfl) ?_
  refine rx_ac (rx_sd_if_lt hY dX10_turn_1 (by decide)) ?_
  refine rx_ac (rx_sd_iload_n dX10_turn_4 rfl) ?_
  refine rx_ac (rx_sd_aload_n dX10_turn_5 rfl) ?_
  refine rx_ac (rx_sd_get (C := RX10) (T := TX10) (N := 58) in_X10 rfl (by decide) kw_469 dX10_turn_6) ?_
  refine rx_ac (rx_sd_icmp_lt hY dX10_turn_9 (by decide)) ?_
  refine rx_ac (rx_sd_iconst dX10_turn_12 (by decide)) ?_
  refine rx_ac (rx_sd_retI (M := m_X10_turn Y) rfl (Or.inl rfl) dX10_turn_13) ?_
  refine rx_ac (rx_sd_aload_n dX10_turn_14 rfl) ?_
  refine rx_ac (rx_sd_get (C := RX10) (T := TX10) (N := 58) in_X10 rfl (by decide) kw_474 dX10_turn_15) ?_
  refine rx_ac (rx_sd_bipush dX10_turn_18 (by decide)) ?_
  refine rx_ac (rx_sd_icmp_ne hY dX10_turn_20 (by decide)) ?_
  refine rx_ac (rx_sd_aload_n dX10_turn_26 rfl) ?_
  refine rx_ac (rx_sd_iload_n dX10_turn_27 rfl) ?_
  refine rx_ac (rx_sd_cl (M := m_X10_turn Y) (rx_lk_V gok (mid := 154) (ci := 10) (C := (RX10, TX10, 58)) ⟨kw_523, kw_427, hd_X10_turns, Nat.le_of_ble_eq_true rfl, Nat.le_of_ble_eq_true rfl⟩ rfl kw_524 kw_525 kw_526 dX10_turn_28) (fun _ => ⟨_, rfl⟩) rfl rfl) ?_
  refine rx_ac (rx_sd_if_ne hY dX10_turn_31 (by decide)) ?_
  refine rx_ac (rx_sd_aload_n dX10_turn_37 rfl) ?_
  refine rx_ac (rx_sd_get (C := RX10) (T := TX10) (N := 58) in_X10 rfl (by decide) kw_533 dX10_turn_38) ?_
  refine rx_ac (rx_sd_aload_n dX10_turn_41 rfl) ?_
  refine rx_ac (rx_sd_get (C := RX10) (T := TX10) (N := 58) in_X10 rfl (by decide) kw_474 dX10_turn_42) ?_
  refine rx_ac (rx_sd_iload_n dX10_turn_45 rfl) ?_
  refine rx_ac (rx_sd_iast hY ⟨rfl, rfl, rfl⟩ dX10_turn_46) ?_
  refine rx_ac (rx_sd_aload_n dX10_turn_47 rfl) ?_
  refine rx_ac (rx_sd_dup dX10_turn_48) ?_
  refine rx_ac (rx_sd_get (C := RX10) (T := TX10) (N := 58) in_X10 rfl (by decide) kw_474 dX10_turn_49) ?_
  refine rx_ac (rx_sd_iconst dX10_turn_52 (by decide)) ?_
  refine rx_ac (rx_sd_iadd dX10_turn_53) ?_
  refine rx_ac (rx_sd_putf (C := RX10) (T := TX10) (N := 58) (ty0 := tyX10) in_X10 tyX10_ok nmX10 rfl (by decide) kw_474 (Or.inl rfl) rfl dX10_turn_54) ?_
  refine rx_ac (rx_sd_aload_n dX10_turn_57 rfl) ?_
  refine rx_ac (rx_sd_get (C := RX10) (T := TX10) (N := 58) in_X10 rfl (by decide) kw_431 dX10_turn_58) ?_
  refine rx_ac (rx_sd_iload_n dX10_turn_61 rfl) ?_
  refine rx_ac (rx_sd_iald ⟨rfl, rfl, rfl⟩ dX10_turn_62) ?_
  refine rx_ac (rx_sd_retI (M := m_X10_turn Y) rfl (Or.inl rfl) dX10_turn_63) ?_
  exact rx_an
set_option maxRecDepth 100000 in
set_option maxHeartbeats 4000000 in
theorem s_X10_turnRound {l : Launch} {D : va_G} {cy : Nat → ClassId} {σ : Nat → Int32} {Y : rx_Y} (hY : rx_YOk Y σ) : ∀ q ∈ p_X10_turnRound Y, rx_Sd (gG l D cy σ) (mt Y) (m_X10_turnRound Y) q.1 q.2 := by
  unfold p_X10_turnRound
  refine rx_ac (rx_sd_iconst dX10_turnRound_0 (by decide)) ?_
  refine rx_ac (rx_sd_istore_n (M := m_X10_turnRound Y) dX10_turnRound_1 rfl) ?_
  refine rx_ac (rx_sd_iconst dX10_turnRound_2 (by decide)) ?_
  refine rx_ac (rx_sd_iload_n dX10_turnRound_3 rfl) ?_
  refine rx_ac (rx_sd_imul dX10_turnRound_4) ?_
  refine rx_ac (rx_sd_aload_n dX10_turnRound_5 rfl) ?_
  refine rx_ac (rx_sd_get (C := RX10) (T := TX10) (N := 58) in_X10 rfl (by decide) kw_431 dX10_turnRound_6) ?_
  refine rx_ac (rx_sd_iload_n dX10_turnRound_9 rfl) ?_
  refine rx_ac (rx_sd_iald ⟨rfl, rfl, rfl⟩ dX10_turnRound_10) ?_
  refine rx_ac (rx_sd_iconst dX10_turnRound_11 (by decide)) ?_
  refine rx_ac (rx_sd_isub dX10_turnRound_12) ?_
  refine rx_ac (rx_sd_icmp_ge hY dX10_turnRound_13 (by decide)) ?_
  refine rx_ac (rx_sd_ret0 (M := m_X10_turnRound Y) rfl dX10_turnRound_177) ?_
  exact rx_an
set_option maxRecDepth 100000 in
set_option maxHeartbeats 4000000 in
theorem s_X10_turns {l : Launch} {D : va_G} {cy : Nat → ClassId} {σ : Nat → Int32} {Y : rx_Y} (hY : rx_YOk Y σ) : ∀ q ∈ p_X10_turns Y, rx_Sd (gG l D cy σ) (mt Y) (m_X10_turns Y) q.1 q.2 := by
  unfold p_X10_turns
  refine rx_ac (rx_sd_aload_n dX10_turns_0 rfl) ?_
  refine rx_ac (rx_sd_iconst dX10_turns_1 (by decide)) ?_
  refine rx_ac (rx_sd_putf (C := RX10) (T := TX10) (N := 58) (ty0 := tyX10) in_X10 tyX10_ok nmX10 rfl (by decide) kw_579 (Or.inl rfl) rfl dX10_turns_2) ?_
  refine rx_ac (rx_sd_aload_n dX10_turns_5 rfl) ?_
  refine rx_ac (rx_sd_bipush dX10_turns_6 (by decide)) ?_
  refine rx_ac (rx_sd_iload_n dX10_turns_8 rfl) ?_
  refine rx_ac (rx_sd_iconst dX10_turns_9 (by decide)) ?_
  refine rx_ac (rx_sd_cl (M := m_X10_turns Y) (rx_lk_V gok (mid := 132) (ci := 10) (C := (RX10, TX10, 58)) ⟨kw_608, kw_427, hd_X10_product, Nat.le_of_ble_eq_true rfl, Nat.le_of_ble_eq_true rfl⟩ rfl kw_609 kw_610 kw_611 dX10_turns_10) (fun _ => ⟨_, rfl⟩) rfl rfl) ?_
  refine rx_ac (rx_sd_aload_n dX10_turns_13 rfl) ?_
  refine rx_ac (rx_sd_get (C := RX10) (T := TX10) (N := 58) in_X10 rfl (by decide) kw_579 dX10_turns_14) ?_
  refine rx_ac (rx_sd_if_ne hY dX10_turns_17 (by decide)) ?_
  refine rx_ac (rx_sd_aload_n dX10_turns_20 rfl) ?_
  refine rx_ac (rx_sd_bipush dX10_turns_21 (by decide)) ?_
  refine rx_ac (rx_sd_iload_n dX10_turns_23 rfl) ?_
  refine rx_ac (rx_sd_iconst dX10_turns_24 (by decide)) ?_
  refine rx_ac (rx_sd_cl (M := m_X10_turns Y) (rx_lk_V gok (mid := 132) (ci := 10) (C := (RX10, TX10, 58)) ⟨kw_608, kw_427, hd_X10_product, Nat.le_of_ble_eq_true rfl, Nat.le_of_ble_eq_true rfl⟩ rfl kw_609 kw_610 kw_611 dX10_turns_25) (fun _ => ⟨_, rfl⟩) rfl rfl) ?_
  refine rx_ac (rx_sd_aload_n dX10_turns_28 rfl) ?_
  refine rx_ac (rx_sd_get (C := RX10) (T := TX10) (N := 58) in_X10 rfl (by decide) kw_579 dX10_turns_29) ?_
  refine rx_ac (rx_sd_if_eq hY dX10_turns_32 (by decide)) ?_
  refine rx_ac (rx_sd_aload_n dX10_turns_37 rfl) ?_
  refine rx_ac (rx_sd_bipush dX10_turns_38 (by decide)) ?_
  refine rx_ac (rx_sd_bipush dX10_turns_40 (by decide)) ?_
  refine rx_ac (rx_sd_cl (M := m_X10_turns Y) (rx_lk_V gok (mid := 104) (ci := 10) (C := (RX10, TX10, 58)) ⟨kw_562, kw_427, hd_X10_copy, Nat.le_of_ble_eq_true rfl, Nat.le_of_ble_eq_true rfl⟩ rfl kw_563 kw_564 kw_565 dX10_turns_42) (fun _ => ⟨_, rfl⟩) rfl rfl) ?_
  refine rx_ac (rx_sd_iconst dX10_turns_45 (by decide)) ?_
  refine rx_ac (rx_sd_istore_n (M := m_X10_turns Y) dX10_turns_46 rfl) ?_
  refine rx_ac (rx_sd_iload_n dX10_turns_47 rfl) ?_
  refine rx_ac (rx_sd_aload_n dX10_turns_48 rfl) ?_
  refine rx_ac (rx_sd_get (C := RX10) (T := TX10) (N := 58) in_X10 rfl (by decide) kw_431 dX10_turns_49) ?_
  refine rx_ac (rx_sd_bipush dX10_turns_52 (by decide)) ?_
  refine rx_ac (rx_sd_iald ⟨rfl, rfl, rfl⟩ dX10_turns_54) ?_
  refine rx_ac (rx_sd_icmp_ge hY dX10_turns_55 (by decide)) ?_
  refine rx_ac (rx_sd_aload_n dX10_turns_58 rfl) ?_
  refine rx_ac (rx_sd_get (C := RX10) (T := TX10) (N := 58) in_X10 rfl (by decide) kw_579 dX10_turns_59) ?_
  refine rx_ac (rx_sd_if_ne hY dX10_turns_62 (by decide)) ?_
  refine rx_ac (rx_sd_aload_n dX10_turns_65 rfl) ?_
  refine rx_ac (rx_sd_aload_n dX10_turns_66 rfl) ?_
  refine rx_ac (rx_sd_get (C := RX10) (T := TX10) (N := 58) in_X10 rfl (by decide) kw_436 dX10_turns_67) ?_
  refine rx_ac (rx_sd_sipush dX10_turns_70 (by decide)) ?_
  refine rx_ac (rx_sd_iload_n dX10_turns_73 rfl) ?_
  refine rx_ac (rx_sd_iadd dX10_turns_74) ?_
  refine rx_ac (rx_sd_lald ⟨rfl, rfl, rfl⟩ dX10_turns_75) ?_
  refine rx_ac (rx_sd_putf (C := RX10) (T := TX10) (N := 58) (ty0 := tyX10) in_X10 tyX10_ok nmX10 rfl (by decide) kw_437 (Or.inl rfl) rfl dX10_turns_76) ?_
  refine rx_ac (rx_sd_iconst dX10_turns_79 (by decide)) ?_
  refine rx_ac (rx_sd_istore_n (M := m_X10_turns Y) dX10_turns_80 rfl) ?_
  refine rx_ac (rx_sd_iload_n dX10_turns_81 rfl) ?_
  refine rx_ac (rx_sd_bipush dX10_turns_82 (by decide)) ?_
  refine rx_ac (rx_sd_icmp_ge hY dX10_turns_84 (by decide)) ?_
  refine rx_ac (rx_sd_aload_n dX10_turns_87 rfl) ?_
  refine rx_ac (rx_sd_get (C := RX10) (T := TX10) (N := 58) in_X10 rfl (by decide) kw_440 dX10_turns_88) ?_
  refine rx_ac (rx_sd_iload_n dX10_turns_91 rfl) ?_
  refine rx_ac (rx_sd_aload_n dX10_turns_92 rfl) ?_
  refine rx_ac (rx_sd_get (C := RX10) (T := TX10) (N := 58) in_X10 rfl (by decide) kw_439 dX10_turns_93) ?_
  refine rx_ac (rx_sd_bipush dX10_turns_96 (by decide)) ?_
  refine rx_ac (rx_sd_sipush dX10_turns_98 (by decide)) ?_
  refine rx_ac (rx_sd_iload_n dX10_turns_101 rfl) ?_
  refine rx_ac (rx_sd_iadd dX10_turns_102) ?_
  refine rx_ac (rx_sd_imul dX10_turns_103) ?_
  refine rx_ac (rx_sd_iload_n dX10_turns_104 rfl) ?_
  refine rx_ac (rx_sd_iadd dX10_turns_105) ?_
  refine rx_ac (rx_sd_iald ⟨rfl, rfl, rfl⟩ dX10_turns_106) ?_
  refine rx_ac (rx_sd_iast hY ⟨rfl, rfl, rfl⟩ dX10_turns_107) ?_
  refine rx_ac (rx_sd_iinc (M := m_X10_turns Y) dX10_turns_108 (by decide)) ?_
  refine rx_ac (rx_sd_goto dX10_turns_111 (by decide)) ?_
  refine rx_ac (rx_sd_aload_n dX10_turns_114 rfl) ?_
  refine rx_ac (rx_sd_bipush dX10_turns_115 (by decide)) ?_
  refine rx_ac (rx_sd_cl (M := m_X10_turns Y) (rx_lk_V gok (mid := 94) (ci := 10) (C := (RX10, TX10, 58)) ⟨kw_612, kw_427, hd_X10_add, Nat.le_of_ble_eq_true rfl, Nat.le_of_ble_eq_true rfl⟩ rfl kw_613 kw_614 kw_615 dX10_turns_117) (fun _ => ⟨_, rfl⟩) rfl rfl) ?_
  refine rx_ac (rx_sd_iinc (M := m_X10_turns Y) dX10_turns_120 (by decide)) ?_
  refine rx_ac (rx_sd_goto dX10_turns_123 (by decide)) ?_
  refine rx_ac (rx_sd_aload_n dX10_turns_126 rfl) ?_
  refine rx_ac (rx_sd_get (C := RX10) (T := TX10) (N := 58) in_X10 rfl (by decide) kw_579 dX10_turns_127) ?_
  refine rx_ac (rx_sd_if_ne hY dX10_turns_130 (by decide)) ?_
  refine rx_ac (rx_sd_aload_n dX10_turns_133 rfl) ?_
  refine rx_ac (rx_sd_iload_n dX10_turns_134 rfl) ?_
  refine rx_ac (rx_sd_cl (M := m_X10_turns Y) (rx_lk_V gok (mid := 155) (ci := 10) (C := (RX10, TX10, 58)) ⟨kw_590, kw_427, hd_X10_turnsArrows, Nat.le_of_ble_eq_true rfl, Nat.le_of_ble_eq_true rfl⟩ rfl kw_591 kw_592 kw_593 dX10_turns_135) (fun _ => ⟨_, rfl⟩) rfl rfl) ?_
  refine rx_ac (rx_sd_if_ne hY dX10_turns_138 (by decide)) ?_
  refine rx_ac (rx_sd_aload_n dX10_turns_143 rfl) ?_
  refine rx_ac (rx_sd_bipush dX10_turns_144 (by decide)) ?_
  refine rx_ac (rx_sd_bipush dX10_turns_146 (by decide)) ?_
  refine rx_ac (rx_sd_iload_n dX10_turns_148 rfl) ?_
  refine rx_ac (rx_sd_cl (M := m_X10_turns Y) (rx_lk_V gok (mid := 130) (ci := 10) (C := (RX10, TX10, 58)) ⟨kw_616, kw_427, hd_X10_parts, Nat.le_of_ble_eq_true rfl, Nat.le_of_ble_eq_true rfl⟩ rfl kw_617 kw_618 kw_619 dX10_turns_149) (fun _ => ⟨_, rfl⟩) rfl rfl) ?_
  refine rx_ac (rx_sd_aload_n dX10_turns_152 rfl) ?_
  refine rx_ac (rx_sd_iload_n dX10_turns_153 rfl) ?_
  refine rx_ac (rx_sd_bipush dX10_turns_154 (by decide)) ?_
  refine rx_ac (rx_sd_cl (M := m_X10_turns Y) (rx_lk_V gok (mid := 104) (ci := 10) (C := (RX10, TX10, 58)) ⟨kw_562, kw_427, hd_X10_copy, Nat.le_of_ble_eq_true rfl, Nat.le_of_ble_eq_true rfl⟩ rfl kw_563 kw_564 kw_565 dX10_turns_156) (fun _ => ⟨_, rfl⟩) rfl rfl) ?_
  refine rx_ac (rx_sd_iconst dX10_turns_159 (by decide)) ?_
  refine rx_ac (rx_sd_istore_n (M := m_X10_turns Y) dX10_turns_160 rfl) ?_
  refine rx_ac (rx_sd_iload_n dX10_turns_161 rfl) ?_
  refine rx_ac (rx_sd_bipush dX10_turns_162 (by decide)) ?_
  refine rx_ac (rx_sd_aload_n dX10_turns_164 rfl) ?_
  refine rx_ac (rx_sd_get (C := RX10) (T := TX10) (N := 58) in_X10 rfl (by decide) kw_469 dX10_turns_165) ?_
  refine rx_ac (rx_sd_aload_n dX10_turns_168 rfl) ?_
  refine rx_ac (rx_sd_get (C := RX10) (T := TX10) (N := 58) in_X10 rfl (by decide) kw_470 dX10_turns_169) ?_
  refine rx_ac (rx_sd_iadd dX10_turns_172) ?_
  refine rx_ac (rx_sd_imul dX10_turns_173) ?_
  refine rx_ac (rx_sd_icmp_ge hY dX10_turns_174 (by decide)) ?_
  refine rx_ac (rx_sd_aload_n dX10_turns_177 rfl) ?_
  refine rx_ac (rx_sd_get (C := RX10) (T := TX10) (N := 58) in_X10 rfl (by decide) kw_473 dX10_turns_178) ?_
  refine rx_ac (rx_sd_iload_n dX10_turns_181 rfl) ?_
  refine rx_ac (rx_sd_iload_n dX10_turns_182 rfl) ?_
  refine rx_ac (rx_sd_bipush dX10_turns_183 (by decide)) ?_
  refine rx_ac (rx_sd_irem dX10_turns_185) ?_
  refine rx_ac (rx_sd_aload_n dX10_turns_186 rfl) ?_
  refine rx_ac (rx_sd_get (C := RX10) (T := TX10) (N := 58) in_X10 rfl (by decide) kw_469 dX10_turns_187) ?_
  refine rx_ac (rx_sd_icmp_ge hY dX10_turns_190 (by decide)) ?_
  refine rx_ac (rx_sd_aload_n dX10_turns_193 rfl) ?_
  refine rx_ac (rx_sd_get (C := RX10) (T := TX10) (N := 58) in_X10 rfl (by decide) kw_538 dX10_turns_194) ?_
  refine rx_ac (rx_sd_iload_n dX10_turns_197 rfl) ?_
  refine rx_ac (rx_sd_iald ⟨rfl, rfl, rfl⟩ dX10_turns_198) ?_
  refine rx_ac (rx_sd_goto dX10_turns_199 (by decide)) ?_
  refine rx_ac (rx_sd_aload_n dX10_turns_202 rfl) ?_
  refine rx_ac (rx_sd_get (C := RX10) (T := TX10) (N := 58) in_X10 rfl (by decide) kw_473 dX10_turns_203) ?_
  refine rx_ac (rx_sd_iload_n dX10_turns_206 rfl) ?_
  refine rx_ac (rx_sd_iald ⟨rfl, rfl, rfl⟩ dX10_turns_207) ?_
  refine rx_ac (rx_sd_iast hY ⟨rfl, rfl, rfl⟩ dX10_turns_208) ?_
  refine rx_ac (rx_sd_iinc (M := m_X10_turns Y) dX10_turns_209 (by decide)) ?_
  refine rx_ac (rx_sd_goto dX10_turns_212 (by decide)) ?_
  refine rx_ac (rx_sd_iconst dX10_turns_215 (by decide)) ?_
  refine rx_ac (rx_sd_retI (M := m_X10_turns Y) rfl (Or.inr rfl) dX10_turns_216) ?_
  exact rx_an
set_option maxRecDepth 100000 in
set_option maxHeartbeats 4000000 in
theorem s_X10_turnsArrows {l : Launch} {D : va_G} {cy : Nat → ClassId} {σ : Nat → Int32} {Y : rx_Y} (hY : rx_YOk Y σ) : ∀ q ∈ p_X10_turnsArrows Y, rx_Sd (gG l D cy σ) (mt Y) (m_X10_turnsArrows Y) q.1 q.2 := by
  unfold p_X10_turnsArrows
  refine rx_ac (rx_sd_iconst dX10_turnsArrows_0 (by decide)) ?_
  refine rx_ac (rx_sd_istore_n (M := m_X10_turnsArrows Y) dX10_turnsArrows_1 rfl) ?_
  refine rx_ac (rx_sd_iconst dX10_turnsArrows_2 (by decide)) ?_
  refine rx_ac (rx_sd_istore_n (M := m_X10_turnsArrows Y) dX10_turnsArrows_3 rfl) ?_
  refine rx_ac (rx_sd_iload_n dX10_turnsArrows_4 rfl) ?_
  refine rx_ac (rx_sd_aload_n dX10_turnsArrows_5 rfl) ?_
  refine rx_ac (rx_sd_get (C := RX10) (T := TX10) (N := 58) in_X10 rfl (by decide) kw_469 dX10_turnsArrows_6) ?_
  refine rx_ac (rx_sd_aload_n dX10_turnsArrows_9 rfl) ?_
  refine rx_ac (rx_sd_get (C := RX10) (T := TX10) (N := 58) in_X10 rfl (by decide) kw_470 dX10_turnsArrows_10) ?_
  refine rx_ac (rx_sd_iadd dX10_turnsArrows_13) ?_
  refine rx_ac (rx_sd_icmp_ge hY dX10_turnsArrows_14 (by decide)) ?_
  refine rx_ac (rx_sd_iconst dX10_turnsArrows_17 (by decide)) ?_
  refine rx_ac (rx_sd_istore (M := m_X10_turnsArrows Y) dX10_turnsArrows_18) ?_
  refine rx_ac (rx_sd_iload dX10_turnsArrows_20) ?_
  refine rx_ac (rx_sd_aload_n dX10_turnsArrows_22 rfl) ?_
  refine rx_ac (rx_sd_get (C := RX10) (T := TX10) (N := 58) in_X10 rfl (by decide) kw_469 dX10_turnsArrows_23) ?_
  refine rx_ac (rx_sd_icmp_ge hY dX10_turnsArrows_26 (by decide)) ?_
  refine rx_ac (rx_sd_aload_n dX10_turnsArrows_29 rfl) ?_
  refine rx_ac (rx_sd_get (C := RX10) (T := TX10) (N := 58) in_X10 rfl (by decide) kw_473 dX10_turnsArrows_30) ?_
  refine rx_ac (rx_sd_bipush dX10_turnsArrows_33 (by decide)) ?_
  refine rx_ac (rx_sd_iload_n dX10_turnsArrows_35 rfl) ?_
  refine rx_ac (rx_sd_imul dX10_turnsArrows_36) ?_
  refine rx_ac (rx_sd_iload dX10_turnsArrows_37) ?_
  refine rx_ac (rx_sd_iadd dX10_turnsArrows_39) ?_
  refine rx_ac (rx_sd_iald ⟨rfl, rfl, rfl⟩ dX10_turnsArrows_40) ?_
  refine rx_ac (rx_sd_istore (M := m_X10_turnsArrows Y) dX10_turnsArrows_41) ?_
  refine rx_ac (rx_sd_aload_n dX10_turnsArrows_43 rfl) ?_
  refine rx_ac (rx_sd_get (C := RX10) (T := TX10) (N := 58) in_X10 rfl (by decide) kw_473 dX10_turnsArrows_44) ?_
  refine rx_ac (rx_sd_bipush dX10_turnsArrows_47 (by decide)) ?_
  refine rx_ac (rx_sd_iload_n dX10_turnsArrows_49 rfl) ?_
  refine rx_ac (rx_sd_imul dX10_turnsArrows_50) ?_
  refine rx_ac (rx_sd_iload_n dX10_turnsArrows_51 rfl) ?_
  refine rx_ac (rx_sd_iadd dX10_turnsArrows_52) ?_
  refine rx_ac (rx_sd_iald ⟨rfl, rfl, rfl⟩ dX10_turnsArrows_53) ?_
  refine rx_ac (rx_sd_istore (M := m_X10_turnsArrows Y) dX10_turnsArrows_54) ?_
  refine rx_ac (rx_sd_aload_n dX10_turnsArrows_56 rfl) ?_
  refine rx_ac (rx_sd_get (C := RX10) (T := TX10) (N := 58) in_X10 rfl (by decide) kw_473 dX10_turnsArrows_57) ?_
  refine rx_ac (rx_sd_bipush dX10_turnsArrows_60 (by decide)) ?_
  refine rx_ac (rx_sd_iload_n dX10_turnsArrows_62 rfl) ?_
  refine rx_ac (rx_sd_imul dX10_turnsArrows_63) ?_
  refine rx_ac (rx_sd_iload dX10_turnsArrows_64) ?_
  refine rx_ac (rx_sd_iadd dX10_turnsArrows_66) ?_
  refine rx_ac (rx_sd_iald ⟨rfl, rfl, rfl⟩ dX10_turnsArrows_67) ?_
  refine rx_ac (rx_sd_istore (M := m_X10_turnsArrows Y) dX10_turnsArrows_68) ?_
  refine rx_ac (rx_sd_iload_n dX10_turnsArrows_70 rfl) ?_
  refine rx_ac (rx_sd_iload_n dX10_turnsArrows_71 rfl) ?_
  refine rx_ac (rx_sd_icmp_eq hY dX10_turnsArrows_72 (by decide)) ?_
  refine rx_ac (rx_sd_iload dX10_turnsArrows_81) ?_
  refine rx_ac (rx_sd_ineg dX10_turnsArrows_83) ?_
  refine rx_ac (rx_sd_istore (M := m_X10_turnsArrows Y) dX10_turnsArrows_84) ?_
  refine rx_ac (rx_sd_goto dX10_turnsArrows_86 (by decide)) ?_
  refine rx_ac (rx_sd_aload_n dX10_turnsArrows_122 rfl) ?_
  refine rx_ac (rx_sd_get (C := RX10) (T := TX10) (N := 58) in_X10 rfl (by decide) kw_538 dX10_turnsArrows_123) ?_
  refine rx_ac (rx_sd_bipush dX10_turnsArrows_126 (by decide)) ?_
  refine rx_ac (rx_sd_iload_n dX10_turnsArrows_128 rfl) ?_
  refine rx_ac (rx_sd_imul dX10_turnsArrows_129) ?_
  refine rx_ac (rx_sd_iload dX10_turnsArrows_130) ?_
  refine rx_ac (rx_sd_iadd dX10_turnsArrows_132) ?_
  refine rx_ac (rx_sd_iload dX10_turnsArrows_133) ?_
  refine rx_ac (rx_sd_iast hY ⟨rfl, rfl, rfl⟩ dX10_turnsArrows_135) ?_
  refine rx_ac (rx_sd_iload_n dX10_turnsArrows_136 rfl) ?_
  refine rx_ac (rx_sd_if_eq hY dX10_turnsArrows_137 (by decide)) ?_
  refine rx_ac (rx_sd_iload dX10_turnsArrows_140) ?_
  refine rx_ac (rx_sd_sipush dX10_turnsArrows_142 (by decide)) ?_
  refine rx_ac (rx_sd_icmp_lt hY dX10_turnsArrows_145 (by decide)) ?_
  refine rx_ac (rx_sd_iload dX10_turnsArrows_148) ?_
  refine rx_ac (rx_sd_sipush dX10_turnsArrows_150 (by decide)) ?_
  refine rx_ac (rx_sd_icmp_gt hY dX10_turnsArrows_153 (by decide)) ?_
  refine rx_ac (rx_sd_iconst dX10_turnsArrows_156 (by decide)) ?_
  refine rx_ac (rx_sd_goto dX10_turnsArrows_157 (by decide)) ?_
  refine rx_ac (rx_sd_istore_n (M := m_X10_turnsArrows Y) dX10_turnsArrows_161 rfl) ?_
  refine rx_ac (rx_sd_iinc (M := m_X10_turnsArrows Y) dX10_turnsArrows_162 (by decide)) ?_
  refine rx_ac (rx_sd_goto dX10_turnsArrows_165 (by decide)) ?_
  refine rx_ac (rx_sd_iinc (M := m_X10_turnsArrows Y) dX10_turnsArrows_168 (by decide)) ?_
  refine rx_ac (rx_sd_goto dX10_turnsArrows_171 (by decide)) ?_
  refine rx_ac (rx_sd_iload_n dX10_turnsArrows_174 rfl) ?_
  refine rx_ac (rx_sd_retI (M := m_X10_turnsArrows Y) rfl (Or.inr rfl) dX10_turnsArrows_175) ?_
  exact rx_an
set_option maxRecDepth 100000 in
set_option maxHeartbeats 4000000 in
theorem s_X10_way {l : Launch} {D : va_G} {cy : Nat → ClassId} {σ : Nat → Int32} {Y : rx_Y} (hY : rx_YOk Y σ) : ∀ q ∈ p_X10_way Y, rx_Sd (gG l D cy σ) (mt Y) (m_X10_way Y) q.1 q.2 := by
  unfold p_X10_way
  refine rx_ac (rx_sd_aload_n dX10_way_0 rfl) ?_
  refine rx_ac (rx_sd_iconst dX10_way_1 (by decide)) ?_
  refine rx_ac (rx_sd_cl (M := m_X10_way Y) (rx_lk_V gok (mid := 116) (ci := 10) (C := (RX10, TX10, 58)) ⟨kw_506, kw_427, hd_X10_isCutting, Nat.le_of_ble_eq_true rfl, Nat.le_of_ble_eq_true rfl⟩ rfl kw_507 kw_508 kw_509 dX10_way_2) (fun _ => ⟨_, rfl⟩) rfl rfl) ?_
  refine rx_ac (rx_sd_if_eq hY dX10_way_5 (by decide)) ?_
  refine rx_ac (rx_sd_iconst dX10_way_31 (by decide)) ?_
  refine rx_ac (rx_sd_retI (M := m_X10_way Y) rfl (Or.inl rfl) dX10_way_32) ?_
  exact rx_an
set_option maxRecDepth 100000 in
set_option maxHeartbeats 4000000 in
theorem s_X10_what {l : Launch} {D : va_G} {cy : Nat → ClassId} {σ : Nat → Int32} {Y : rx_Y} (hY : rx_YOk Y σ) : ∀ q ∈ p_X10_what Y, rx_Sd (gG l D cy σ) (mt Y) (m_X10_what Y) q.1 q.2 := by
  unfold p_X10_what
  refine rx_ac (rx_sd_aload_n dX10_what_0 rfl) ?_
  refine rx_ac (rx_sd_get (C := RX10) (T := TX10) (N := 58) in_X10 rfl (by decide) kw_455 dX10_what_1) ?_
  refine rx_ac (rx_sd_if_ne hY dX10_what_4 (by decide)) ?_
  refine rx_ac (rx_sd_ldc2 (M := m_X10_what Y) kw_620 dX10_what_7) ?_
  refine rx_ac (rx_sd_retL (M := m_X10_what Y) rfl dX10_what_10) ?_
  exact rx_an
