set_option maxRecDepth 100000 in
set_option maxHeartbeats 4000000 in
theorem s_X5_addAll {l : Launch} {D : va_G} {cy : Nat → ClassId} {σ : Nat → Int32} {Y : rx_Y} (hY : rx_YOk Y σ) : ∀ q ∈ p_X5_addAll Y, rx_Sd (gG l D cy σ) (mt Y) (m_X5_addAll Y) q.1 q.2 := by
  unfold p_X5_addAll
  refine rx_ac (rx_sd_aload_n dX5_addAll_0 rfl) ?_
  refine rx_ac (rx_sd_get (C := RX8) (T := TX8) (N := 4) in_X8 rfl (by decide) kw_175 dX5_addAll_1) ?_
  refine rx_ac (rx_sd_istore_n (M := m_X5_addAll Y) dX5_addAll_4 rfl) ?_
  refine rx_ac (rx_sd_iconst dX5_addAll_5 (by decide)) ?_
  refine rx_ac (rx_sd_istore (M := m_X5_addAll Y) dX5_addAll_6) ?_
  refine rx_ac (rx_sd_iload dX5_addAll_8) ?_
  refine rx_ac (rx_sd_aload_n dX5_addAll_10 rfl) ?_
  refine rx_ac (rx_sd_get (C := RX8) (T := TX8) (N := 4) in_X8 rfl (by decide) kw_176 dX5_addAll_11) ?_
  refine rx_ac (rx_sd_icmp_ge hY dX5_addAll_14 (by decide)) ?_
  refine rx_ac (rx_sd_aload_n dX5_addAll_17 rfl) ?_
  refine rx_ac (rx_sd_get (C := RX8) (T := TX8) (N := 4) in_X8 rfl (by decide) kw_177 dX5_addAll_18) ?_
  refine rx_ac (rx_sd_iload dX5_addAll_21) ?_
  refine rx_ac (rx_sd_iload_n dX5_addAll_23 rfl) ?_
  refine rx_ac (rx_sd_imul dX5_addAll_24) ?_
  refine rx_ac (rx_sd_aload_n dX5_addAll_25 rfl) ?_
  refine rx_ac (rx_sd_get (C := RX5) (T := TX5) (N := 7) in_X5 rfl (by decide) kw_178 dX5_addAll_26) ?_
  refine rx_ac (rx_sd_iconst dX5_addAll_29 (by decide)) ?_
  refine rx_ac (rx_sd_iload_n dX5_addAll_30 rfl) ?_
  refine rx_ac (rx_sd_cpI (M := m_X5_addAll Y) ⟨rfl, rfl, rfl⟩ kw_179 kw_26 kw_27 kw_28 (Nat.le_of_ble_eq_true rfl) dX5_addAll_31) ?_
  refine rx_ac (rx_sd_aload_n dX5_addAll_34 rfl) ?_
  refine rx_ac (rx_sd_aload_n dX5_addAll_35 rfl) ?_
  refine rx_ac (rx_sd_get (C := RX5) (T := TX5) (N := 7) in_X5 rfl (by decide) kw_178 dX5_addAll_36) ?_
  refine rx_ac (rx_sd_aload_n dX5_addAll_39 rfl) ?_
  refine rx_ac (rx_sd_get (C := RX8) (T := TX8) (N := 4) in_X8 rfl (by decide) kw_180 dX5_addAll_40) ?_
  refine rx_ac (rx_sd_iload dX5_addAll_43) ?_
  refine rx_ac (rx_sd_lald ⟨rfl, rfl, rfl⟩ dX5_addAll_45) ?_
  refine rx_ac (rx_sd_iconst dX5_addAll_46 (by decide)) ?_
  refine rx_ac (rx_sd_cl (M := m_X5_addAll Y) (rx_lk_V gok (mid := 49) (ci := 8) (C := (RX8, TX8, 4)) ⟨kw_181, kw_83, hd_X8_add, Nat.le_of_ble_eq_true rfl, Nat.le_of_ble_eq_true rfl⟩ rfl kw_182 kw_183 kw_184 dX5_addAll_47) (fun _ => ⟨_, rfl⟩) rfl rfl) ?_
  refine rx_ac (rx_sd_iconst dX5_addAll_50 (by decide)) ?_
  refine rx_ac (rx_sd_icmp_ne hY dX5_addAll_51 (by decide)) ?_
  refine rx_ac (rx_sd_iinc (M := m_X5_addAll Y) dX5_addAll_56 (by decide)) ?_
  refine rx_ac (rx_sd_goto dX5_addAll_59 (by decide)) ?_
  refine rx_ac (rx_sd_iconst dX5_addAll_62 (by decide)) ?_
  refine rx_ac (rx_sd_retI (M := m_X5_addAll Y) rfl (Or.inr rfl) dX5_addAll_63) ?_
  exact rx_an
set_option maxRecDepth 100000 in
set_option maxHeartbeats 4000000 in
theorem s_X5_beginProduct {l : Launch} {D : va_G} {cy : Nat → ClassId} {σ : Nat → Int32} {Y : rx_Y} (hY : rx_YOk Y σ) : ∀ q ∈ p_X5_beginProduct Y, rx_Sd (gG l D cy σ) (mt Y) (m_X5_beginProduct Y) q.1 q.2 := by
  unfold p_X5_beginProduct
  refine rx_ac (rx_sd_aload_n dX5_beginProduct_0 rfl) ?_
  refine rx_ac (rx_sd_get (C := RX7) (T := TX7) (N := 6) in_X7 rfl (by decide) kw_185 dX5_beginProduct_1) ?_
  refine rx_ac (rx_sd_aload_n dX5_beginProduct_4 rfl) ?_
  refine rx_ac (rx_sd_get (C := RX7) (T := TX7) (N := 6) in_X7 rfl (by decide) kw_186 dX5_beginProduct_5) ?_
  refine rx_ac (rx_sd_iadd dX5_beginProduct_8) ?_
  refine rx_ac (rx_sd_istore (M := m_X5_beginProduct Y) dX5_beginProduct_9) ?_
  refine rx_ac (rx_sd_lconst dX5_beginProduct_11 (by decide)) ?_
  refine rx_ac (rx_sd_lstore (M := m_X5_beginProduct Y) dX5_beginProduct_12) ?_
  refine rx_ac (rx_sd_aload_n dX5_beginProduct_14 rfl) ?_
  refine rx_ac (rx_sd_get (C := RX5) (T := TX5) (N := 7) in_X5 rfl (by decide) kw_178 dX5_beginProduct_15) ?_
  refine rx_ac (rx_sd_iconst dX5_beginProduct_18 (by decide)) ?_
  refine rx_ac (rx_sd_cl (M := m_X5_beginProduct Y) (rx_lk_S gok (mid := 0) ⟨kw_107, kw_108, hd_J7_fill_53178, Nat.le_of_ble_eq_true rfl, Nat.le_of_ble_eq_true rfl⟩ kw_187 kw_110 dX5_beginProduct_19) (fun h => nomatch h) rfl rfl) ?_
  refine rx_ac (rx_sd_iconst dX5_beginProduct_22 (by decide)) ?_
  refine rx_ac (rx_sd_istore (M := m_X5_beginProduct Y) dX5_beginProduct_23) ?_
  refine rx_ac (rx_sd_iload dX5_beginProduct_25) ?_
  refine rx_ac (rx_sd_iload dX5_beginProduct_27) ?_
  refine rx_ac (rx_sd_icmp_ge hY dX5_beginProduct_29 (by decide)) ?_
  refine rx_ac (rx_sd_iload_n dX5_beginProduct_32 rfl) ?_
  refine rx_ac (rx_sd_aload_n dX5_beginProduct_33 rfl) ?_
  refine rx_ac (rx_sd_get (C := RX7) (T := TX7) (N := 6) in_X7 rfl (by decide) kw_188 dX5_beginProduct_34) ?_
  refine rx_ac (rx_sd_iload dX5_beginProduct_37) ?_
  refine rx_ac (rx_sd_bipush dX5_beginProduct_39 (by decide)) ?_
  refine rx_ac (rx_sd_imul dX5_beginProduct_41) ?_
  refine rx_ac (rx_sd_iload_n dX5_beginProduct_42 rfl) ?_
  refine rx_ac (rx_sd_iadd dX5_beginProduct_43) ?_
  refine rx_ac (rx_sd_iald ⟨rfl, rfl, rfl⟩ dX5_beginProduct_44) ?_
  refine rx_ac (rx_sd_imul dX5_beginProduct_45) ?_
  refine rx_ac (rx_sd_istore (M := m_X5_beginProduct Y) dX5_beginProduct_46) ?_
  refine rx_ac (rx_sd_iload dX5_beginProduct_48) ?_
  refine rx_ac (rx_sd_if_le hY dX5_beginProduct_50 (by decide)) ?_
  refine rx_ac (rx_sd_iload dX5_beginProduct_77) ?_
  refine rx_ac (rx_sd_if_le hY dX5_beginProduct_79 (by decide)) ?_
  refine rx_ac (rx_sd_iinc (M := m_X5_beginProduct Y) dX5_beginProduct_191 (by decide)) ?_
  refine rx_ac (rx_sd_goto dX5_beginProduct_194 (by decide)) ?_
  refine rx_ac (rx_sd_aload dX5_beginProduct_197) ?_
  refine rx_ac (rx_sd_iload dX5_beginProduct_199) ?_
  refine rx_ac (rx_sd_cl (M := m_X5_beginProduct Y) (rx_lk_V gok (mid := 51) (ci := 8) (C := (RX8, TX8, 4)) ⟨kw_189, kw_83, hd_X8_clear, Nat.le_of_ble_eq_true rfl, Nat.le_of_ble_eq_true rfl⟩ rfl kw_190 kw_191 kw_192 dX5_beginProduct_201) (fun _ => ⟨_, rfl⟩) rfl rfl) ?_
  refine rx_ac (rx_sd_lload dX5_beginProduct_204) ?_
  refine rx_ac (rx_sd_lconst dX5_beginProduct_206 (by decide)) ?_
  refine rx_ac (rx_sd_lcmp dX5_beginProduct_207) ?_
  refine rx_ac (rx_sd_if_le hY dX5_beginProduct_208 (by decide)) ?_
  refine rx_ac (rx_sd_aload dX5_beginProduct_211) ?_
  refine rx_ac (rx_sd_aload_n dX5_beginProduct_213 rfl) ?_
  refine rx_ac (rx_sd_get (C := RX5) (T := TX5) (N := 7) in_X5 rfl (by decide) kw_178 dX5_beginProduct_214) ?_
  refine rx_ac (rx_sd_lload dX5_beginProduct_217) ?_
  refine rx_ac (rx_sd_iconst dX5_beginProduct_219 (by decide)) ?_
  refine rx_ac (rx_sd_cl (M := m_X5_beginProduct Y) (rx_lk_V gok (mid := 49) (ci := 8) (C := (RX8, TX8, 4)) ⟨kw_181, kw_83, hd_X8_add, Nat.le_of_ble_eq_true rfl, Nat.le_of_ble_eq_true rfl⟩ rfl kw_182 kw_183 kw_184 dX5_beginProduct_220) (fun _ => ⟨_, rfl⟩) rfl rfl) ?_
  refine rx_ac (rx_sd_iconst dX5_beginProduct_223 (by decide)) ?_
  refine rx_ac (rx_sd_icmp_eq hY dX5_beginProduct_224 (by decide)) ?_
  refine rx_ac (rx_sd_iconst dX5_beginProduct_227 (by decide)) ?_
  refine rx_ac (rx_sd_goto dX5_beginProduct_228 (by decide)) ?_
  refine rx_ac (rx_sd_retI (M := m_X5_beginProduct Y) rfl (Or.inr rfl) dX5_beginProduct_232) ?_
  exact rx_an
set_option maxRecDepth 100000 in
set_option maxHeartbeats 4000000 in
theorem s_X5_divide {l : Launch} {D : va_G} {cy : Nat → ClassId} {σ : Nat → Int32} {Y : rx_Y} (hY : rx_YOk Y σ) : ∀ q ∈ p_X5_divide Y, rx_Sd (gG l D cy σ) (mt Y) (m_X5_divide Y) q.1 q.2 := by
  unfold p_X5_divide
  refine rx_ac (rx_sd_aload_n dX5_divide_0 rfl) ?_
  refine rx_ac (rx_sd_get (C := RX8) (T := TX8) (N := 4) in_X8 rfl (by decide) kw_175 dX5_divide_1) ?_
  refine rx_ac (rx_sd_istore_n (M := m_X5_divide Y) dX5_divide_4 rfl) ?_
  refine rx_ac (rx_sd_aload_n dX5_divide_5 rfl) ?_
  refine rx_ac (rx_sd_get (C := RX5) (T := TX5) (N := 7) in_X5 rfl (by decide) kw_193 dX5_divide_6) ?_
  refine rx_ac (rx_sd_iload_n dX5_divide_9 rfl) ?_
  refine rx_ac (rx_sd_cl (M := m_X5_divide Y) (rx_lk_V gok (mid := 51) (ci := 8) (C := (RX8, TX8, 4)) ⟨kw_189, kw_83, hd_X8_clear, Nat.le_of_ble_eq_true rfl, Nat.le_of_ble_eq_true rfl⟩ rfl kw_190 kw_191 kw_192 dX5_divide_10) (fun _ => ⟨_, rfl⟩) rfl rfl) ?_
  refine rx_ac (rx_sd_aload_n dX5_divide_13 rfl) ?_
  refine rx_ac (rx_sd_get (C := RX8) (T := TX8) (N := 4) in_X8 rfl (by decide) kw_176 dX5_divide_14) ?_
  refine rx_ac (rx_sd_if_eq hY dX5_divide_17 (by decide)) ?_
  refine rx_ac (rx_sd_aload_n dX5_divide_20 rfl) ?_
  refine rx_ac (rx_sd_get (C := RX8) (T := TX8) (N := 4) in_X8 rfl (by decide) kw_180 dX5_divide_21) ?_
  refine rx_ac (rx_sd_iconst dX5_divide_24 (by decide)) ?_
  refine rx_ac (rx_sd_lald ⟨rfl, rfl, rfl⟩ dX5_divide_25) ?_
  refine rx_ac (rx_sd_lconst dX5_divide_26 (by decide)) ?_
  refine rx_ac (rx_sd_lcmp dX5_divide_27) ?_
  refine rx_ac (rx_sd_if_gt hY dX5_divide_28 (by decide)) ?_
  refine rx_ac (rx_sd_iconst dX5_divide_33 (by decide)) ?_
  refine rx_ac (rx_sd_istore (M := m_X5_divide Y) dX5_divide_34) ?_
  refine rx_ac (rx_sd_iload dX5_divide_36) ?_
  refine rx_ac (rx_sd_aload_n dX5_divide_38 rfl) ?_
  refine rx_ac (rx_sd_get (C := RX8) (T := TX8) (N := 4) in_X8 rfl (by decide) kw_176 dX5_divide_39) ?_
  refine rx_ac (rx_sd_icmp_ge hY dX5_divide_42 (by decide)) ?_
  refine rx_ac (rx_sd_aload_n dX5_divide_45 rfl) ?_
  refine rx_ac (rx_sd_get (C := RX8) (T := TX8) (N := 4) in_X8 rfl (by decide) kw_180 dX5_divide_46) ?_
  refine rx_ac (rx_sd_iload dX5_divide_49) ?_
  refine rx_ac (rx_sd_lald ⟨rfl, rfl, rfl⟩ dX5_divide_51) ?_
  refine rx_ac (rx_sd_lconst dX5_divide_52 (by decide)) ?_
  refine rx_ac (rx_sd_lcmp dX5_divide_53) ?_
  refine rx_ac (rx_sd_if_ne hY dX5_divide_54 (by decide)) ?_
  refine rx_ac (rx_sd_iconst dX5_divide_60 (by decide)) ?_
  refine rx_ac (rx_sd_istore (M := m_X5_divide Y) dX5_divide_61) ?_
  refine rx_ac (rx_sd_iload dX5_divide_63) ?_
  refine rx_ac (rx_sd_iload_n dX5_divide_65 rfl) ?_
  refine rx_ac (rx_sd_icmp_ge hY dX5_divide_66 (by decide)) ?_
  refine rx_ac (rx_sd_aload_n dX5_divide_69 rfl) ?_
  refine rx_ac (rx_sd_get (C := RX5) (T := TX5) (N := 7) in_X5 rfl (by decide) kw_194 dX5_divide_70) ?_
  refine rx_ac (rx_sd_iload dX5_divide_73) ?_
  refine rx_ac (rx_sd_aload_n dX5_divide_75 rfl) ?_
  refine rx_ac (rx_sd_get (C := RX8) (T := TX8) (N := 4) in_X8 rfl (by decide) kw_177 dX5_divide_76) ?_
  refine rx_ac (rx_sd_iload dX5_divide_79) ?_
  refine rx_ac (rx_sd_iload_n dX5_divide_81 rfl) ?_
  refine rx_ac (rx_sd_imul dX5_divide_82) ?_
  refine rx_ac (rx_sd_iload dX5_divide_83) ?_
  refine rx_ac (rx_sd_iadd dX5_divide_85) ?_
  refine rx_ac (rx_sd_iald ⟨rfl, rfl, rfl⟩ dX5_divide_86) ?_
  refine rx_ac (rx_sd_aload_n dX5_divide_87 rfl) ?_
  refine rx_ac (rx_sd_get (C := RX8) (T := TX8) (N := 4) in_X8 rfl (by decide) kw_177 dX5_divide_88) ?_
  refine rx_ac (rx_sd_iload dX5_divide_91) ?_
  refine rx_ac (rx_sd_iald ⟨rfl, rfl, rfl⟩ dX5_divide_93) ?_
  refine rx_ac (rx_sd_isub dX5_divide_94) ?_
  refine rx_ac (rx_sd_iast hY ⟨rfl, rfl, rfl⟩ dX5_divide_95) ?_
  refine rx_ac (rx_sd_iinc (M := m_X5_divide Y) dX5_divide_96 (by decide)) ?_
  refine rx_ac (rx_sd_goto dX5_divide_99 (by decide)) ?_
  refine rx_ac (rx_sd_aload_n dX5_divide_102 rfl) ?_
  refine rx_ac (rx_sd_get (C := RX8) (T := TX8) (N := 4) in_X8 rfl (by decide) kw_180 dX5_divide_103) ?_
  refine rx_ac (rx_sd_iload dX5_divide_106) ?_
  refine rx_ac (rx_sd_lald ⟨rfl, rfl, rfl⟩ dX5_divide_108) ?_
  refine rx_ac (rx_sd_aload_n dX5_divide_109 rfl) ?_
  refine rx_ac (rx_sd_get (C := RX8) (T := TX8) (N := 4) in_X8 rfl (by decide) kw_180 dX5_divide_110) ?_
  refine rx_ac (rx_sd_iconst dX5_divide_113 (by decide)) ?_
  refine rx_ac (rx_sd_lald ⟨rfl, rfl, rfl⟩ dX5_divide_114) ?_
  refine rx_ac (rx_sd_ldiv dX5_divide_115) ?_
  refine rx_ac (rx_sd_lstore (M := m_X5_divide Y) dX5_divide_116) ?_
  refine rx_ac (rx_sd_aload_n dX5_divide_118 rfl) ?_
  refine rx_ac (rx_sd_get (C := RX5) (T := TX5) (N := 7) in_X5 rfl (by decide) kw_193 dX5_divide_119) ?_
  refine rx_ac (rx_sd_aload_n dX5_divide_122 rfl) ?_
  refine rx_ac (rx_sd_get (C := RX5) (T := TX5) (N := 7) in_X5 rfl (by decide) kw_194 dX5_divide_123) ?_
  refine rx_ac (rx_sd_lload dX5_divide_126) ?_
  refine rx_ac (rx_sd_aload_n dX5_divide_128 rfl) ?_
  refine rx_ac (rx_sd_get (C := RX5) (T := TX5) (N := 7) in_X5 rfl (by decide) kw_193 dX5_divide_129) ?_
  refine rx_ac (rx_sd_get (C := RX8) (T := TX8) (N := 4) in_X8 rfl (by decide) kw_176 dX5_divide_132) ?_
  refine rx_ac (rx_sd_cl (M := m_X5_divide Y) (rx_lk_V gok (mid := 49) (ci := 8) (C := (RX8, TX8, 4)) ⟨kw_181, kw_83, hd_X8_add, Nat.le_of_ble_eq_true rfl, Nat.le_of_ble_eq_true rfl⟩ rfl kw_182 kw_183 kw_184 dX5_divide_135) (fun _ => ⟨_, rfl⟩) rfl rfl) ?_
  refine rx_ac (rx_sd_iconst dX5_divide_138 (by decide)) ?_
  refine rx_ac (rx_sd_icmp_eq hY dX5_divide_139 (by decide)) ?_
  refine rx_ac (rx_sd_aload_n dX5_divide_142 rfl) ?_
  refine rx_ac (rx_sd_aload_n dX5_divide_143 rfl) ?_
  refine rx_ac (rx_sd_iload dX5_divide_144) ?_
  refine rx_ac (rx_sd_aload_n dX5_divide_146 rfl) ?_
  refine rx_ac (rx_sd_lload dX5_divide_147) ?_
  refine rx_ac (rx_sd_cl (M := m_X5_divide Y) (rx_lk_V gok (mid := 33) (ci := 5) (C := (RX5, TX5, 7)) ⟨kw_195, kw_49, hd_X5_takeAway, Nat.le_of_ble_eq_true rfl, Nat.le_of_ble_eq_true rfl⟩ rfl kw_196 kw_197 kw_198 dX5_divide_149) (fun _ => ⟨_, rfl⟩) rfl rfl) ?_
  refine rx_ac (rx_sd_if_ne hY dX5_divide_152 (by decide)) ?_
  refine rx_ac (rx_sd_iinc (M := m_X5_divide Y) dX5_divide_157 (by decide)) ?_
  refine rx_ac (rx_sd_goto dX5_divide_160 (by decide)) ?_
  refine rx_ac (rx_sd_iconst dX5_divide_163 (by decide)) ?_
  refine rx_ac (rx_sd_retI (M := m_X5_divide Y) rfl (Or.inr rfl) dX5_divide_164) ?_
  exact rx_an
set_option maxRecDepth 100000 in
set_option maxHeartbeats 4000000 in
theorem s_X5_exchange {l : Launch} {D : va_G} {cy : Nat → ClassId} {σ : Nat → Int32} {Y : rx_Y} (hY : rx_YOk Y σ) : ∀ q ∈ p_X5_exchange Y, rx_Sd (gG l D cy σ) (mt Y) (m_X5_exchange Y) q.1 q.2 := by
  unfold p_X5_exchange
  refine rx_ac (rx_sd_aload_n dX5_exchange_0 rfl) ?_
  refine rx_ac (rx_sd_get (C := RX7) (T := TX7) (N := 6) in_X7 rfl (by decide) kw_188 dX5_exchange_1) ?_
  refine rx_ac (rx_sd_aload_n dX5_exchange_4 rfl) ?_
  refine rx_ac (rx_sd_get (C := RX7) (T := TX7) (N := 6) in_X7 rfl (by decide) kw_185 dX5_exchange_5) ?_
  refine rx_ac (rx_sd_aload_n dX5_exchange_8 rfl) ?_
  refine rx_ac (rx_sd_get (C := RX7) (T := TX7) (N := 6) in_X7 rfl (by decide) kw_186 dX5_exchange_9) ?_
  refine rx_ac (rx_sd_iadd dX5_exchange_12) ?_
  refine rx_ac (rx_sd_aload_n dX5_exchange_13 rfl) ?_
  refine rx_ac (rx_sd_get (C := RX7) (T := TX7) (N := 6) in_X7 rfl (by decide) kw_185 dX5_exchange_14) ?_
  refine rx_ac (rx_sd_iload_n dX5_exchange_17 rfl) ?_
  refine rx_ac (rx_sd_cl (M := m_X5_exchange Y) (rx_lk_SN gok (host := "SeedBench") (mid := 74) ⟨kw_199, kw_54, hd_X9_isTableTurnable, Nat.le_of_ble_eq_true rfl, Nat.le_of_ble_eq_true rfl⟩ (List.mem_of_getElem? (i := 10) rfl) kw_200 dX5_exchange_18) (fun h => nomatch h) rfl rfl) ?_
  refine rx_ac (rx_sd_if_ne hY dX5_exchange_21 (by decide)) ?_
  refine rx_ac (rx_sd_aload_n dX5_exchange_26 rfl) ?_
  refine rx_ac (rx_sd_aload_n dX5_exchange_27 rfl) ?_
  refine rx_ac (rx_sd_iload_n dX5_exchange_28 rfl) ?_
  refine rx_ac (rx_sd_iconst dX5_exchange_29 (by decide)) ?_
  refine rx_ac (rx_sd_aload_n dX5_exchange_30 rfl) ?_
  refine rx_ac (rx_sd_get (C := RX5) (T := TX5) (N := 7) in_X5 rfl (by decide) kw_201 dX5_exchange_31) ?_
  refine rx_ac (rx_sd_aload_n dX5_exchange_34 rfl) ?_
  refine rx_ac (rx_sd_get (C := RX5) (T := TX5) (N := 7) in_X5 rfl (by decide) kw_202 dX5_exchange_35) ?_
  refine rx_ac (rx_sd_cl (M := m_X5_exchange Y) (rx_lk_V gok (mid := 31) (ci := 5) (C := (RX5, TX5, 7)) ⟨kw_203, kw_49, hd_X5_product, Nat.le_of_ble_eq_true rfl, Nat.le_of_ble_eq_true rfl⟩ rfl kw_204 kw_205 kw_206 dX5_exchange_38) (fun _ => ⟨_, rfl⟩) rfl rfl) ?_
  refine rx_ac (rx_sd_astore_n (M := m_X5_exchange Y) dX5_exchange_41 rfl) ?_
  refine rx_ac (rx_sd_aload_n dX5_exchange_42 rfl) ?_
  refine rx_ac (rx_sd_aload_n dX5_exchange_43 rfl) ?_
  refine rx_ac (rx_sd_iload_n dX5_exchange_44 rfl) ?_
  refine rx_ac (rx_sd_iconst dX5_exchange_45 (by decide)) ?_
  refine rx_ac (rx_sd_aload_n dX5_exchange_46 rfl) ?_
  refine rx_ac (rx_sd_get (C := RX5) (T := TX5) (N := 7) in_X5 rfl (by decide) kw_207 dX5_exchange_47) ?_
  refine rx_ac (rx_sd_aload_n dX5_exchange_50 rfl) ?_
  refine rx_ac (rx_sd_get (C := RX5) (T := TX5) (N := 7) in_X5 rfl (by decide) kw_208 dX5_exchange_51) ?_
  refine rx_ac (rx_sd_cl (M := m_X5_exchange Y) (rx_lk_V gok (mid := 31) (ci := 5) (C := (RX5, TX5, 7)) ⟨kw_203, kw_49, hd_X5_product, Nat.le_of_ble_eq_true rfl, Nat.le_of_ble_eq_true rfl⟩ rfl kw_204 kw_205 kw_206 dX5_exchange_54) (fun _ => ⟨_, rfl⟩) rfl rfl) ?_
  refine rx_ac (rx_sd_astore (M := m_X5_exchange Y) dX5_exchange_57) ?_
  refine rx_ac (rx_sd_aload_n dX5_exchange_59 rfl) ?_
  refine rx_ac (rx_sd_ifnull dX5_exchange_60 (by decide)) ?_
  refine rx_ac (rx_sd_aload dX5_exchange_63) ?_
  refine rx_ac (rx_sd_ifnull dX5_exchange_65 (by decide)) ?_
  refine rx_ac (rx_sd_aload_n dX5_exchange_68 rfl) ?_
  refine rx_ac (rx_sd_aload_n dX5_exchange_69 rfl) ?_
  refine rx_ac (rx_sd_aload dX5_exchange_70) ?_
  refine rx_ac (rx_sd_cl (M := m_X5_exchange Y) (rx_lk_V gok (mid := 26) (ci := 5) (C := (RX5, TX5, 7)) ⟨kw_209, kw_49, hd_X5_addAll, Nat.le_of_ble_eq_true rfl, Nat.le_of_ble_eq_true rfl⟩ rfl kw_210 kw_211 kw_212 dX5_exchange_72) (fun _ => ⟨_, rfl⟩) rfl rfl) ?_
  refine rx_ac (rx_sd_if_ne hY dX5_exchange_75 (by decide)) ?_
  refine rx_ac (rx_sd_aload_n dX5_exchange_80 rfl) ?_
  refine rx_ac (rx_sd_aload_n dX5_exchange_81 rfl) ?_
  refine rx_ac (rx_sd_aload_n dX5_exchange_82 rfl) ?_
  refine rx_ac (rx_sd_get (C := RX7) (T := TX7) (N := 6) in_X7 rfl (by decide) kw_213 dX5_exchange_83) ?_
  refine rx_ac (rx_sd_iload_n dX5_exchange_86 rfl) ?_
  refine rx_ac (rx_sd_aald (t := 2) rfl dX5_exchange_87) ?_
  refine rx_ac (rx_sd_cl (M := m_X5_exchange Y) (rx_lk_V gok (mid := 28) (ci := 5) (C := (RX5, TX5, 7)) ⟨kw_214, kw_49, hd_X5_divide, Nat.le_of_ble_eq_true rfl, Nat.le_of_ble_eq_true rfl⟩ rfl kw_215 kw_216 kw_217 dX5_exchange_88) (fun _ => ⟨_, rfl⟩) rfl rfl) ?_
  refine rx_ac (rx_sd_retI (M := m_X5_exchange Y) rfl (Or.inr rfl) dX5_exchange_91) ?_
  exact rx_an
set_option maxRecDepth 100000 in
set_option maxHeartbeats 4000000 in
theorem s_X5_init {l : Launch} {D : va_G} {cy : Nat → ClassId} {σ : Nat → Int32} {Y : rx_Y} (hY : rx_YOk Y σ) : ∀ q ∈ p_X5_init Y, rx_Sd (gG l D cy σ) (mt Y) (m_X5_init Y) q.1 q.2 := by
  unfold p_X5_init
  refine rx_ac (rx_sd_aload_n dX5_init_0 rfl) ?_
  refine rx_ac (rx_sd_obj (M := m_X5_init Y) kw_218 kw_66 kw_objcode (Nat.le_of_ble_eq_true rfl) dX5_init_1) ?_
  refine rx_ac (rx_sd_aload_n dX5_init_4 rfl) ?_
  refine rx_ac (rx_sd_new (M := m_X5_init Y) (C := RX8) (T := TX8) (N := 4) (ty := tyX8) in_X8 tyX8_ok rfl kw_219 kw_82 kw_83 df_X8 rfl (cs_X8 σ) dX5_init_5) ?_
  refine rx_ac (rx_sd_dup dX5_init_8) ?_
  refine rx_ac (rx_sd_cl (M := m_X5_init Y) (rx_lk_IN gok (host := "SeedBench") (mid := 55) (ci := 8) (C := (RX8, TX8, 4)) ⟨kw_84, kw_83, hd_X8_init, Nat.le_of_ble_eq_true rfl, Nat.le_of_ble_eq_true rfl⟩ rfl rfl (List.mem_of_getElem? (i := 3) rfl) kw_85 rfl dX5_init_9) (fun _ => ⟨_, rfl⟩) rfl rfl) ?_
  refine rx_ac (rx_sd_putf (C := RX5) (T := TX5) (N := 7) (ty0 := tyX5) in_X5 tyX5_ok nmX5 rfl (by decide) kw_193 (Or.inl rfl) rfl dX5_init_12) ?_
  refine rx_ac (rx_sd_aload_n dX5_init_15 rfl) ?_
  refine rx_ac (rx_sd_new (M := m_X5_init Y) (C := RX8) (T := TX8) (N := 4) (ty := tyX8) in_X8 tyX8_ok rfl kw_219 kw_82 kw_83 df_X8 rfl (cs_X8 σ) dX5_init_16) ?_
  refine rx_ac (rx_sd_dup dX5_init_19) ?_
  refine rx_ac (rx_sd_cl (M := m_X5_init Y) (rx_lk_IN gok (host := "SeedBench") (mid := 55) (ci := 8) (C := (RX8, TX8, 4)) ⟨kw_84, kw_83, hd_X8_init, Nat.le_of_ble_eq_true rfl, Nat.le_of_ble_eq_true rfl⟩ rfl rfl (List.mem_of_getElem? (i := 3) rfl) kw_85 rfl dX5_init_20) (fun _ => ⟨_, rfl⟩) rfl rfl) ?_
  refine rx_ac (rx_sd_putf (C := RX5) (T := TX5) (N := 7) (ty0 := tyX5) in_X5 tyX5_ok nmX5 rfl (by decide) kw_201 (Or.inr ⟨rfl, rfl, rfl⟩) rfl dX5_init_23) ?_
  refine rx_ac (rx_sd_aload_n dX5_init_26 rfl) ?_
  refine rx_ac (rx_sd_new (M := m_X5_init Y) (C := RX8) (T := TX8) (N := 4) (ty := tyX8) in_X8 tyX8_ok rfl kw_219 kw_82 kw_83 df_X8 rfl (cs_X8 σ) dX5_init_27) ?_
  refine rx_ac (rx_sd_dup dX5_init_30) ?_
  refine rx_ac (rx_sd_cl (M := m_X5_init Y) (rx_lk_IN gok (host := "SeedBench") (mid := 55) (ci := 8) (C := (RX8, TX8, 4)) ⟨kw_84, kw_83, hd_X8_init, Nat.le_of_ble_eq_true rfl, Nat.le_of_ble_eq_true rfl⟩ rfl rfl (List.mem_of_getElem? (i := 3) rfl) kw_85 rfl dX5_init_31) (fun _ => ⟨_, rfl⟩) rfl rfl) ?_
  refine rx_ac (rx_sd_putf (C := RX5) (T := TX5) (N := 7) (ty0 := tyX5) in_X5 tyX5_ok nmX5 rfl (by decide) kw_202 (Or.inr ⟨rfl, rfl, rfl⟩) rfl dX5_init_34) ?_
  refine rx_ac (rx_sd_aload_n dX5_init_37 rfl) ?_
  refine rx_ac (rx_sd_new (M := m_X5_init Y) (C := RX8) (T := TX8) (N := 4) (ty := tyX8) in_X8 tyX8_ok rfl kw_219 kw_82 kw_83 df_X8 rfl (cs_X8 σ) dX5_init_38) ?_
  refine rx_ac (rx_sd_dup dX5_init_41) ?_
  refine rx_ac (rx_sd_cl (M := m_X5_init Y) (rx_lk_IN gok (host := "SeedBench") (mid := 55) (ci := 8) (C := (RX8, TX8, 4)) ⟨kw_84, kw_83, hd_X8_init, Nat.le_of_ble_eq_true rfl, Nat.le_of_ble_eq_true rfl⟩ rfl rfl (List.mem_of_getElem? (i := 3) rfl) kw_85 rfl dX5_init_42) (fun _ => ⟨_, rfl⟩) rfl rfl) ?_
  refine rx_ac (rx_sd_putf (C := RX5) (T := TX5) (N := 7) (ty0 := tyX5) in_X5 tyX5_ok nmX5 rfl (by decide) kw_207 (Or.inr ⟨rfl, rfl, rfl⟩) rfl dX5_init_45) ?_
  refine rx_ac (rx_sd_aload_n dX5_init_48 rfl) ?_
  refine rx_ac (rx_sd_new (M := m_X5_init Y) (C := RX8) (T := TX8) (N := 4) (ty := tyX8) in_X8 tyX8_ok rfl kw_219 kw_82 kw_83 df_X8 rfl (cs_X8 σ) dX5_init_49) ?_
  refine rx_ac (rx_sd_dup dX5_init_52) ?_
  refine rx_ac (rx_sd_cl (M := m_X5_init Y) (rx_lk_IN gok (host := "SeedBench") (mid := 55) (ci := 8) (C := (RX8, TX8, 4)) ⟨kw_84, kw_83, hd_X8_init, Nat.le_of_ble_eq_true rfl, Nat.le_of_ble_eq_true rfl⟩ rfl rfl (List.mem_of_getElem? (i := 3) rfl) kw_85 rfl dX5_init_53) (fun _ => ⟨_, rfl⟩) rfl rfl) ?_
  refine rx_ac (rx_sd_putf (C := RX5) (T := TX5) (N := 7) (ty0 := tyX5) in_X5 tyX5_ok nmX5 rfl (by decide) kw_208 (Or.inr ⟨rfl, rfl, rfl⟩) rfl dX5_init_56) ?_
  refine rx_ac (rx_sd_aload_n dX5_init_59 rfl) ?_
  refine rx_ac (rx_sd_bipush dX5_init_60 (by decide)) ?_
  refine rx_ac (rx_sd_newI (M := m_X5_init Y) ⟨rfl, rfl, rfl⟩ kw_69 rfl dX5_init_62) ?_
  refine rx_ac (rx_sd_putf (C := RX5) (T := TX5) (N := 7) (ty0 := tyX5) in_X5 tyX5_ok nmX5 rfl (by decide) kw_178 (Or.inr ⟨rfl, rfl, rfl⟩) rfl dX5_init_64) ?_
  refine rx_ac (rx_sd_aload_n dX5_init_67 rfl) ?_
  refine rx_ac (rx_sd_bipush dX5_init_68 (by decide)) ?_
  refine rx_ac (rx_sd_newI (M := m_X5_init Y) ⟨rfl, rfl, rfl⟩ kw_69 rfl dX5_init_70) ?_
  refine rx_ac (rx_sd_putf (C := RX5) (T := TX5) (N := 7) (ty0 := tyX5) in_X5 tyX5_ok nmX5 rfl (by decide) kw_194 (Or.inr ⟨rfl, rfl, rfl⟩) rfl dX5_init_72) ?_
  refine rx_ac (rx_sd_ret0 (M := m_X5_init Y) rfl dX5_init_75) ?_
  exact rx_an
set_option maxRecDepth 100000 in
set_option maxHeartbeats 4000000 in
theorem s_X5_product {l : Launch} {D : va_G} {cy : Nat → ClassId} {σ : Nat → Int32} {Y : rx_Y} (hY : rx_YOk Y σ) : ∀ q ∈ p_X5_product Y, rx_Sd (gG l D cy σ) (mt Y) (m_X5_product Y) q.1 q.2 := by
  unfold p_X5_product
  refine rx_ac (rx_sd_aload dX5_product_0) ?_
  refine rx_ac (rx_sd_astore (M := m_X5_product Y) dX5_product_2) ?_
  refine rx_ac (rx_sd_aload dX5_product_4) ?_
  refine rx_ac (rx_sd_astore (M := m_X5_product Y) dX5_product_6) ?_
  refine rx_ac (rx_sd_aload_n dX5_product_8 rfl) ?_
  refine rx_ac (rx_sd_aload_n dX5_product_9 rfl) ?_
  refine rx_ac (rx_sd_iload_n dX5_product_10 rfl) ?_
  refine rx_ac (rx_sd_iload_n dX5_product_11 rfl) ?_
  refine rx_ac (rx_sd_aload dX5_product_12) ?_
  refine rx_ac (rx_sd_cl (M := m_X5_product Y) (rx_lk_V gok (mid := 27) (ci := 5) (C := (RX5, TX5, 7)) ⟨kw_220, kw_49, hd_X5_beginProduct, Nat.le_of_ble_eq_true rfl, Nat.le_of_ble_eq_true rfl⟩ rfl kw_221 kw_222 kw_223 dX5_product_14) (fun _ => ⟨_, rfl⟩) rfl rfl) ?_
  refine rx_ac (rx_sd_if_ne hY dX5_product_17 (by decide)) ?_
  refine rx_ac (rx_sd_iconst dX5_product_22 (by decide)) ?_
  refine rx_ac (rx_sd_istore (M := m_X5_product Y) dX5_product_23) ?_
  refine rx_ac (rx_sd_iload dX5_product_25) ?_
  refine rx_ac (rx_sd_aload_n dX5_product_27 rfl) ?_
  refine rx_ac (rx_sd_get (C := RX7) (T := TX7) (N := 6) in_X7 rfl (by decide) kw_185 dX5_product_28) ?_
  refine rx_ac (rx_sd_icmp_ge hY dX5_product_31 (by decide)) ?_
  refine rx_ac (rx_sd_aload_n dX5_product_34 rfl) ?_
  refine rx_ac (rx_sd_get (C := RX7) (T := TX7) (N := 6) in_X7 rfl (by decide) kw_213 dX5_product_35) ?_
  refine rx_ac (rx_sd_iload dX5_product_38) ?_
  refine rx_ac (rx_sd_aald (t := 2) rfl dX5_product_40) ?_
  refine rx_ac (rx_sd_get (C := RX8) (T := TX8) (N := 4) in_X8 rfl (by decide) kw_176 dX5_product_41) ?_
  refine rx_ac (rx_sd_iconst dX5_product_44 (by decide)) ?_
  refine rx_ac (rx_sd_icmp_le hY dX5_product_45 (by decide)) ?_
  refine rx_ac (rx_sd_iconst dX5_product_65 (by decide)) ?_
  refine rx_ac (rx_sd_istore (M := m_X5_product Y) dX5_product_66) ?_
  refine rx_ac (rx_sd_iconst dX5_product_68 (by decide)) ?_
  refine rx_ac (rx_sd_istore (M := m_X5_product Y) dX5_product_69) ?_
  refine rx_ac (rx_sd_iload dX5_product_71) ?_
  refine rx_ac (rx_sd_iload dX5_product_73) ?_
  refine rx_ac (rx_sd_icmp_ge hY dX5_product_75 (by decide)) ?_
  refine rx_ac (rx_sd_iinc (M := m_X5_product Y) dX5_product_116 (by decide)) ?_
  refine rx_ac (rx_sd_goto dX5_product_119 (by decide)) ?_
  refine rx_ac (rx_sd_aload dX5_product_122) ?_
  refine rx_ac (rx_sd_retA (M := m_X5_product Y) rfl dX5_product_124) ?_
  exact rx_an
set_option maxRecDepth 100000 in
set_option maxHeartbeats 4000000 in
theorem s_X5_settle {l : Launch} {D : va_G} {cy : Nat → ClassId} {σ : Nat → Int32} {Y : rx_Y} (hY : rx_YOk Y σ) : ∀ q ∈ p_X5_settle Y, rx_Sd (gG l D cy σ) (mt Y) (m_X5_settle Y) q.1 q.2 := by
  unfold p_X5_settle
  refine rx_ac (rx_sd_aload_n dX5_settle_0 rfl) ?_
  refine rx_ac (rx_sd_get (C := RX7) (T := TX7) (N := 6) in_X7 rfl (by decide) kw_213 dX5_settle_1) ?_
  refine rx_ac (rx_sd_iload_n dX5_settle_4 rfl) ?_
  refine rx_ac (rx_sd_aald (t := 2) rfl dX5_settle_5) ?_
  refine rx_ac (rx_sd_astore_n (M := m_X5_settle Y) dX5_settle_6 rfl) ?_
  refine rx_ac (rx_sd_aload_n dX5_settle_7 rfl) ?_
  refine rx_ac (rx_sd_get (C := RX7) (T := TX7) (N := 6) in_X7 rfl (by decide) kw_213 dX5_settle_8) ?_
  refine rx_ac (rx_sd_iload_n dX5_settle_11 rfl) ?_
  refine rx_ac (rx_sd_aload_n dX5_settle_12 rfl) ?_
  refine rx_ac (rx_sd_get (C := RX5) (T := TX5) (N := 7) in_X5 rfl (by decide) kw_193 dX5_settle_13) ?_
  refine rx_ac (rx_sd_aast (t := 2) (ci := 8) (C := (RX8, TX8, 4)) rfl rfl dX5_settle_16) ?_
  refine rx_ac (rx_sd_aload_n dX5_settle_17 rfl) ?_
  refine rx_ac (rx_sd_aload_n dX5_settle_18 rfl) ?_
  refine rx_ac (rx_sd_putf (C := RX5) (T := TX5) (N := 7) (ty0 := tyX5) in_X5 tyX5_ok nmX5 rfl (by decide) kw_193 (Or.inl rfl) rfl dX5_settle_19) ?_
  refine rx_ac (rx_sd_aload_n dX5_settle_22 rfl) ?_
  refine rx_ac (rx_sd_get (C := RX7) (T := TX7) (N := 6) in_X7 rfl (by decide) kw_188 dX5_settle_23) ?_
  refine rx_ac (rx_sd_aload_n dX5_settle_26 rfl) ?_
  refine rx_ac (rx_sd_get (C := RX7) (T := TX7) (N := 6) in_X7 rfl (by decide) kw_185 dX5_settle_27) ?_
  refine rx_ac (rx_sd_aload_n dX5_settle_30 rfl) ?_
  refine rx_ac (rx_sd_get (C := RX7) (T := TX7) (N := 6) in_X7 rfl (by decide) kw_186 dX5_settle_31) ?_
  refine rx_ac (rx_sd_iadd dX5_settle_34) ?_
  refine rx_ac (rx_sd_aload_n dX5_settle_35 rfl) ?_
  refine rx_ac (rx_sd_get (C := RX7) (T := TX7) (N := 6) in_X7 rfl (by decide) kw_185 dX5_settle_36) ?_
  refine rx_ac (rx_sd_iload_n dX5_settle_39 rfl) ?_
  refine rx_ac (rx_sd_cl (M := m_X5_settle Y) (rx_lk_SN gok (host := "SeedBench") (mid := 91) ⟨kw_53, kw_54, hd_X9_turnTable, Nat.le_of_ble_eq_true rfl, Nat.le_of_ble_eq_true rfl⟩ (List.mem_of_getElem? (i := 11) rfl) kw_55 dX5_settle_40) (fun h => nomatch h) rfl rfl) ?_
  refine rx_ac (rx_sd_ret0 (M := m_X5_settle Y) rfl dX5_settle_43) ?_
  exact rx_an
set_option maxRecDepth 100000 in
set_option maxHeartbeats 4000000 in
theorem s_X5_takeAway {l : Launch} {D : va_G} {cy : Nat → ClassId} {σ : Nat → Int32} {Y : rx_Y} (hY : rx_YOk Y σ) : ∀ q ∈ p_X5_takeAway Y, rx_Sd (gG l D cy σ) (mt Y) (m_X5_takeAway Y) q.1 q.2 := by
  unfold p_X5_takeAway
  refine rx_ac (rx_sd_aload_n dX5_takeAway_0 rfl) ?_
  refine rx_ac (rx_sd_get (C := RX8) (T := TX8) (N := 4) in_X8 rfl (by decide) kw_175 dX5_takeAway_1) ?_
  refine rx_ac (rx_sd_istore (M := m_X5_takeAway Y) dX5_takeAway_4) ?_
  refine rx_ac (rx_sd_iload_n dX5_takeAway_6 rfl) ?_
  refine rx_ac (rx_sd_istore (M := m_X5_takeAway Y) dX5_takeAway_7) ?_
  refine rx_ac (rx_sd_iconst dX5_takeAway_9 (by decide)) ?_
  refine rx_ac (rx_sd_istore (M := m_X5_takeAway Y) dX5_takeAway_10) ?_
  refine rx_ac (rx_sd_iload dX5_takeAway_12) ?_
  refine rx_ac (rx_sd_aload_n dX5_takeAway_14 rfl) ?_
  refine rx_ac (rx_sd_get (C := RX8) (T := TX8) (N := 4) in_X8 rfl (by decide) kw_176 dX5_takeAway_15) ?_
  refine rx_ac (rx_sd_icmp_ge hY dX5_takeAway_18 (by decide)) ?_
  refine rx_ac (rx_sd_iconst dX5_takeAway_21 (by decide)) ?_
  refine rx_ac (rx_sd_istore (M := m_X5_takeAway Y) dX5_takeAway_22) ?_
  refine rx_ac (rx_sd_iload dX5_takeAway_24) ?_
  refine rx_ac (rx_sd_iload dX5_takeAway_26) ?_
  refine rx_ac (rx_sd_icmp_ge hY dX5_takeAway_28 (by decide)) ?_
  refine rx_ac (rx_sd_aload_n dX5_takeAway_31 rfl) ?_
  refine rx_ac (rx_sd_get (C := RX5) (T := TX5) (N := 7) in_X5 rfl (by decide) kw_178 dX5_takeAway_32) ?_
  refine rx_ac (rx_sd_iload dX5_takeAway_35) ?_
  refine rx_ac (rx_sd_aload_n dX5_takeAway_37 rfl) ?_
  refine rx_ac (rx_sd_get (C := RX5) (T := TX5) (N := 7) in_X5 rfl (by decide) kw_194 dX5_takeAway_38) ?_
  refine rx_ac (rx_sd_iload dX5_takeAway_41) ?_
  refine rx_ac (rx_sd_iald ⟨rfl, rfl, rfl⟩ dX5_takeAway_43) ?_
  refine rx_ac (rx_sd_aload_n dX5_takeAway_44 rfl) ?_
  refine rx_ac (rx_sd_get (C := RX8) (T := TX8) (N := 4) in_X8 rfl (by decide) kw_177 dX5_takeAway_45) ?_
  refine rx_ac (rx_sd_iload dX5_takeAway_48) ?_
  refine rx_ac (rx_sd_iload dX5_takeAway_50) ?_
  refine rx_ac (rx_sd_imul dX5_takeAway_52) ?_
  refine rx_ac (rx_sd_iload dX5_takeAway_53) ?_
  refine rx_ac (rx_sd_iadd dX5_takeAway_55) ?_
  refine rx_ac (rx_sd_iald ⟨rfl, rfl, rfl⟩ dX5_takeAway_56) ?_
  refine rx_ac (rx_sd_iadd dX5_takeAway_57) ?_
  refine rx_ac (rx_sd_iast hY ⟨rfl, rfl, rfl⟩ dX5_takeAway_58) ?_
  refine rx_ac (rx_sd_iinc (M := m_X5_takeAway Y) dX5_takeAway_59 (by decide)) ?_
  refine rx_ac (rx_sd_goto dX5_takeAway_62 (by decide)) ?_
  refine rx_ac (rx_sd_aload_n dX5_takeAway_65 rfl) ?_
  refine rx_ac (rx_sd_aload_n dX5_takeAway_66 rfl) ?_
  refine rx_ac (rx_sd_get (C := RX5) (T := TX5) (N := 7) in_X5 rfl (by decide) kw_178 dX5_takeAway_67) ?_
  refine rx_ac (rx_sd_iload dX5_takeAway_70) ?_
  refine rx_ac (rx_sd_cl (M := m_X5_takeAway Y) (rx_lk_V gok (mid := 53) (ci := 8) (C := (RX8, TX8, 4)) ⟨kw_224, kw_83, hd_X8_find, Nat.le_of_ble_eq_true rfl, Nat.le_of_ble_eq_true rfl⟩ rfl kw_225 kw_226 kw_227 dX5_takeAway_72) (fun _ => ⟨_, rfl⟩) rfl rfl) ?_
  refine rx_ac (rx_sd_istore (M := m_X5_takeAway Y) dX5_takeAway_75) ?_
  refine rx_ac (rx_sd_iload dX5_takeAway_77) ?_
  refine rx_ac (rx_sd_if_ge hY dX5_takeAway_79 (by decide)) ?_
  refine rx_ac (rx_sd_aload_n dX5_takeAway_84 rfl) ?_
  refine rx_ac (rx_sd_get (C := RX8) (T := TX8) (N := 4) in_X8 rfl (by decide) kw_180 dX5_takeAway_85) ?_
  refine rx_ac (rx_sd_iload dX5_takeAway_88) ?_
  refine rx_ac (rx_sd_dup2 dX5_takeAway_90) ?_
  refine rx_ac (rx_sd_lald ⟨rfl, rfl, rfl⟩ dX5_takeAway_91) ?_
  refine rx_ac (rx_sd_lload dX5_takeAway_92) ?_
  refine rx_ac (rx_sd_aload_n dX5_takeAway_94 rfl) ?_
  refine rx_ac (rx_sd_get (C := RX8) (T := TX8) (N := 4) in_X8 rfl (by decide) kw_180 dX5_takeAway_95) ?_
  refine rx_ac (rx_sd_iload dX5_takeAway_98) ?_
  refine rx_ac (rx_sd_lald ⟨rfl, rfl, rfl⟩ dX5_takeAway_100) ?_
  refine rx_ac (rx_sd_lmul dX5_takeAway_101) ?_
  refine rx_ac (rx_sd_lsub dX5_takeAway_102) ?_
  refine rx_ac (rx_sd_last ⟨rfl, rfl, rfl⟩ dX5_takeAway_103) ?_
  refine rx_ac (rx_sd_iload dX5_takeAway_104) ?_
  refine rx_ac (rx_sd_iconst dX5_takeAway_106 (by decide)) ?_
  refine rx_ac (rx_sd_iadd dX5_takeAway_107) ?_
  refine rx_ac (rx_sd_istore (M := m_X5_takeAway Y) dX5_takeAway_108) ?_
  refine rx_ac (rx_sd_iinc (M := m_X5_takeAway Y) dX5_takeAway_110 (by decide)) ?_
  refine rx_ac (rx_sd_goto dX5_takeAway_113 (by decide)) ?_
  refine rx_ac (rx_sd_aload_n dX5_takeAway_116 rfl) ?_
  refine rx_ac (rx_sd_get (C := RX8) (T := TX8) (N := 4) in_X8 rfl (by decide) kw_180 dX5_takeAway_117) ?_
  refine rx_ac (rx_sd_iload_n dX5_takeAway_120 rfl) ?_
  refine rx_ac (rx_sd_lald ⟨rfl, rfl, rfl⟩ dX5_takeAway_121) ?_
  refine rx_ac (rx_sd_lconst dX5_takeAway_122 (by decide)) ?_
  refine rx_ac (rx_sd_lcmp dX5_takeAway_123) ?_
  refine rx_ac (rx_sd_if_ne hY dX5_takeAway_124 (by decide)) ?_
  refine rx_ac (rx_sd_iconst dX5_takeAway_127 (by decide)) ?_
  refine rx_ac (rx_sd_goto dX5_takeAway_128 (by decide)) ?_
  refine rx_ac (rx_sd_retI (M := m_X5_takeAway Y) rfl (Or.inr rfl) dX5_takeAway_132) ?_
  exact rx_an
set_option maxRecDepth 100000 in
set_option maxHeartbeats 4000000 in
theorem s_X6_areNeighbours {l : Launch} {D : va_G} {cy : Nat → ClassId} {σ : Nat → Int32} {Y : rx_Y} (hY : rx_YOk Y σ) : ∀ q ∈ p_X6_areNeighbours Y, rx_Sd (gG l D cy σ) (mt Y) (m_X6_areNeighbours Y) q.1 q.2 := by
  unfold p_X6_areNeighbours
  refine rx_ac (rx_sd_iload_n dX6_areNeighbours_0 rfl) ?_
  refine rx_ac (rx_sd_iload_n dX6_areNeighbours_1 rfl) ?_
  refine rx_ac (rx_sd_isub dX6_areNeighbours_2) ?_
  refine rx_ac (rx_sd_mabs (M := m_X6_areNeighbours Y) kw_228 kw_229 kw_230 kw_231 (Nat.le_of_ble_eq_true rfl) dX6_areNeighbours_3) ?_
  refine rx_ac (rx_sd_istore_n (M := m_X6_areNeighbours Y) dX6_areNeighbours_6 rfl) ?_
  refine rx_ac (rx_sd_iload_n dX6_areNeighbours_7 rfl) ?_
  refine rx_ac (rx_sd_iconst dX6_areNeighbours_8 (by decide)) ?_
  refine rx_ac (rx_sd_icmp_eq hY dX6_areNeighbours_9 (by decide)) ?_
  refine rx_ac (rx_sd_iload_n dX6_areNeighbours_12 rfl) ?_
  refine rx_ac (rx_sd_aload_n dX6_areNeighbours_13 rfl) ?_
  refine rx_ac (rx_sd_get (C := RX6) (T := TX6) (N := 2) in_X6 rfl (by decide) kw_232 dX6_areNeighbours_14) ?_
  refine rx_ac (rx_sd_iconst dX6_areNeighbours_17 (by decide)) ?_
  refine rx_ac (rx_sd_isub dX6_areNeighbours_18) ?_
  refine rx_ac (rx_sd_icmp_ne hY dX6_areNeighbours_19 (by decide)) ?_
  refine rx_ac (rx_sd_iconst dX6_areNeighbours_22 (by decide)) ?_
  refine rx_ac (rx_sd_goto dX6_areNeighbours_23 (by decide)) ?_
  refine rx_ac (rx_sd_iconst dX6_areNeighbours_26 (by decide)) ?_
  refine rx_ac (rx_sd_retI (M := m_X6_areNeighbours Y) rfl (Or.inr rfl) dX6_areNeighbours_27) ?_
  exact rx_an
set_option maxRecDepth 100000 in
set_option maxHeartbeats 4000000 in
theorem s_X6_bit {l : Launch} {D : va_G} {cy : Nat → ClassId} {σ : Nat → Int32} {Y : rx_Y} (hY : rx_YOk Y σ) : ∀ q ∈ p_X6_bit Y, rx_Sd (gG l D cy σ) (mt Y) (m_X6_bit Y) q.1 q.2 := by
  unfold p_X6_bit
  refine rx_ac (rx_sd_iload_n dX6_bit_0 rfl) ?_
  refine rx_ac (rx_sd_iload_n dX6_bit_1 rfl) ?_
  refine rx_ac (rx_sd_icmp_ge hY dX6_bit_2 (by decide)) ?_
  refine rx_ac (rx_sd_iload_n dX6_bit_5 rfl) ?_
  refine rx_ac (rx_sd_goto dX6_bit_6 (by decide)) ?_
  refine rx_ac (rx_sd_iload_n dX6_bit_9 rfl) ?_
  refine rx_ac (rx_sd_istore_n (M := m_X6_bit Y) dX6_bit_10 rfl) ?_
  refine rx_ac (rx_sd_iload_n dX6_bit_11 rfl) ?_
  refine rx_ac (rx_sd_iload_n dX6_bit_12 rfl) ?_
  refine rx_ac (rx_sd_icmp_ge hY dX6_bit_13 (by decide)) ?_
  refine rx_ac (rx_sd_iload_n dX6_bit_16 rfl) ?_
  refine rx_ac (rx_sd_goto dX6_bit_17 (by decide)) ?_
  refine rx_ac (rx_sd_iload_n dX6_bit_20 rfl) ?_
  refine rx_ac (rx_sd_istore_n (M := m_X6_bit Y) dX6_bit_21 rfl) ?_
  refine rx_ac (rx_sd_lconst dX6_bit_22 (by decide)) ?_
  refine rx_ac (rx_sd_iload_n dX6_bit_23 rfl) ?_
  refine rx_ac (rx_sd_bipush dX6_bit_24 (by decide)) ?_
  refine rx_ac (rx_sd_iload_n dX6_bit_26 rfl) ?_
  refine rx_ac (rx_sd_isub dX6_bit_27) ?_
  refine rx_ac (rx_sd_imul dX6_bit_28) ?_
  refine rx_ac (rx_sd_iconst dX6_bit_29 (by decide)) ?_
  refine rx_ac (rx_sd_idiv dX6_bit_30) ?_
  refine rx_ac (rx_sd_iload_n dX6_bit_31 rfl) ?_
  refine rx_ac (rx_sd_iadd dX6_bit_32) ?_
  refine rx_ac (rx_sd_iload_n dX6_bit_33 rfl) ?_
  refine rx_ac (rx_sd_isub dX6_bit_34) ?_
  refine rx_ac (rx_sd_iconst dX6_bit_35 (by decide)) ?_
  refine rx_ac (rx_sd_isub dX6_bit_36) ?_
  refine rx_ac (rx_sd_lshl dX6_bit_37) ?_
  refine rx_ac (rx_sd_retL (M := m_X6_bit Y) rfl dX6_bit_38) ?_
  exact rx_an
set_option maxRecDepth 100000 in
set_option maxHeartbeats 4000000 in
theorem s_X6_fenceAt {l : Launch} {D : va_G} {cy : Nat → ClassId} {σ : Nat → Int32} {Y : rx_Y} (hY : rx_YOk Y σ) : ∀ q ∈ p_X6_fenceAt Y, rx_Sd (gG l D cy σ) (mt Y) (m_X6_fenceAt Y) q.1 q.2 := by
  unfold p_X6_fenceAt
  refine rx_ac (rx_sd_iconst dX6_fenceAt_0 (by decide)) ?_
  refine rx_ac (rx_sd_istore_n (M := m_X6_fenceAt Y) dX6_fenceAt_1 rfl) ?_
  refine rx_ac (rx_sd_iconst dX6_fenceAt_2 (by decide)) ?_
  refine rx_ac (rx_sd_istore_n (M := m_X6_fenceAt Y) dX6_fenceAt_3 rfl) ?_
  refine rx_ac (rx_sd_iload_n dX6_fenceAt_4 rfl) ?_
  refine rx_ac (rx_sd_aload_n dX6_fenceAt_5 rfl) ?_
  refine rx_ac (rx_sd_get (C := RX6) (T := TX6) (N := 2) in_X6 rfl (by decide) kw_232 dX6_fenceAt_6) ?_
  refine rx_ac (rx_sd_icmp_ge hY dX6_fenceAt_9 (by decide)) ?_
  refine rx_ac (rx_sd_iload_n dX6_fenceAt_12 rfl) ?_
  refine rx_ac (rx_sd_iconst dX6_fenceAt_13 (by decide)) ?_
  refine rx_ac (rx_sd_iadd dX6_fenceAt_14) ?_
  refine rx_ac (rx_sd_istore (M := m_X6_fenceAt Y) dX6_fenceAt_15) ?_
  refine rx_ac (rx_sd_iload dX6_fenceAt_17) ?_
  refine rx_ac (rx_sd_aload_n dX6_fenceAt_19 rfl) ?_
  refine rx_ac (rx_sd_get (C := RX6) (T := TX6) (N := 2) in_X6 rfl (by decide) kw_232 dX6_fenceAt_20) ?_
  refine rx_ac (rx_sd_icmp_ge hY dX6_fenceAt_23 (by decide)) ?_
  refine rx_ac (rx_sd_aload_n dX6_fenceAt_26 rfl) ?_
  refine rx_ac (rx_sd_iload_n dX6_fenceAt_27 rfl) ?_
  refine rx_ac (rx_sd_iload dX6_fenceAt_28) ?_
  refine rx_ac (rx_sd_cl (M := m_X6_fenceAt Y) (rx_lk_V gok (mid := 38) (ci := 6) (C := (RX6, TX6, 2)) ⟨kw_233, kw_134, hd_X6_has, Nat.le_of_ble_eq_true rfl, Nat.le_of_ble_eq_true rfl⟩ rfl kw_234 kw_235 kw_236 dX6_fenceAt_30) (fun _ => ⟨_, rfl⟩) rfl rfl) ?_
  refine rx_ac (rx_sd_if_eq hY dX6_fenceAt_33 (by decide)) ?_
  refine rx_ac (rx_sd_iinc (M := m_X6_fenceAt Y) dX6_fenceAt_52 (by decide)) ?_
  refine rx_ac (rx_sd_goto dX6_fenceAt_55 (by decide)) ?_
  refine rx_ac (rx_sd_iinc (M := m_X6_fenceAt Y) dX6_fenceAt_58 (by decide)) ?_
  refine rx_ac (rx_sd_goto dX6_fenceAt_61 (by decide)) ?_
  refine rx_ac (rx_sd_iconst dX6_fenceAt_64 (by decide)) ?_
  refine rx_ac (rx_sd_retI (M := m_X6_fenceAt Y) rfl (Or.inl rfl) dX6_fenceAt_65) ?_
  exact rx_an
set_option maxRecDepth 100000 in
set_option maxHeartbeats 4000000 in
theorem s_X6_fenceCount {l : Launch} {D : va_G} {cy : Nat → ClassId} {σ : Nat → Int32} {Y : rx_Y} (hY : rx_YOk Y σ) : ∀ q ∈ p_X6_fenceCount Y, rx_Sd (gG l D cy σ) (mt Y) (m_X6_fenceCount Y) q.1 q.2 := by
  unfold p_X6_fenceCount
  refine rx_ac (rx_sd_aload_n dX6_fenceCount_0 rfl) ?_
  refine rx_ac (rx_sd_get (C := RX6) (T := TX6) (N := 2) in_X6 rfl (by decide) kw_237 dX6_fenceCount_1) ?_
  refine rx_ac (rx_sd_cl (M := m_X6_fenceCount Y) (rx_lk_S gok (mid := 1) ⟨kw_238, kw_239, hd_J13_bitCount_95d88, Nat.le_of_ble_eq_true rfl, Nat.le_of_ble_eq_true rfl⟩ kw_240 kw_241 dX6_fenceCount_4) (fun h => nomatch h) rfl rfl) ?_
  refine rx_ac (rx_sd_retI (M := m_X6_fenceCount Y) rfl (Or.inl rfl) dX6_fenceCount_7) ?_
  exact rx_an
set_option maxRecDepth 100000 in
set_option maxHeartbeats 4000000 in
theorem s_X6_has {l : Launch} {D : va_G} {cy : Nat → ClassId} {σ : Nat → Int32} {Y : rx_Y} (hY : rx_YOk Y σ) : ∀ q ∈ p_X6_has Y, rx_Sd (gG l D cy σ) (mt Y) (m_X6_has Y) q.1 q.2 := by
  unfold p_X6_has
  refine rx_ac (rx_sd_iload_n dX6_has_0 rfl) ?_
  refine rx_ac (rx_sd_iload_n dX6_has_1 rfl) ?_
  refine rx_ac (rx_sd_icmp_eq hY dX6_has_2 (by decide)) ?_
  refine rx_ac (rx_sd_aload_n dX6_has_5 rfl) ?_
  refine rx_ac (rx_sd_get (C := RX6) (T := TX6) (N := 2) in_X6 rfl (by decide) kw_237 dX6_has_6) ?_
  refine rx_ac (rx_sd_iload_n dX6_has_9 rfl) ?_
  refine rx_ac (rx_sd_iload_n dX6_has_10 rfl) ?_
  refine rx_ac (rx_sd_cl (M := m_X6_has Y) (rx_lk_S gok (mid := 35) ⟨kw_242, kw_134, hd_X6_bit, Nat.le_of_ble_eq_true rfl, Nat.le_of_ble_eq_true rfl⟩ kw_243 kw_244 dX6_has_11) (fun h => nomatch h) rfl rfl) ?_
  refine rx_ac (rx_sd_land dX6_has_14) ?_
  refine rx_ac (rx_sd_lconst dX6_has_15 (by decide)) ?_
  refine rx_ac (rx_sd_lcmp dX6_has_16) ?_
  refine rx_ac (rx_sd_if_eq hY dX6_has_17 (by decide)) ?_
  refine rx_ac (rx_sd_iconst dX6_has_24 (by decide)) ?_
  refine rx_ac (rx_sd_retI (M := m_X6_has Y) rfl (Or.inr rfl) dX6_has_25) ?_
  exact rx_an
set_option maxRecDepth 100000 in
set_option maxHeartbeats 4000000 in
theorem s_X6_init {l : Launch} {D : va_G} {cy : Nat → ClassId} {σ : Nat → Int32} {Y : rx_Y} (hY : rx_YOk Y σ) : ∀ q ∈ p_X6_init Y, rx_Sd (gG l D cy σ) (mt Y) (m_X6_init Y) q.1 q.2 := by
  unfold p_X6_init
  refine rx_ac (rx_sd_aload_n dX6_init_0 rfl) ?_
  refine rx_ac (rx_sd_obj (M := m_X6_init Y) kw_245 kw_66 kw_objcode (Nat.le_of_ble_eq_true rfl) dX6_init_1) ?_
  refine rx_ac (rx_sd_aload_n dX6_init_4 rfl) ?_
  refine rx_ac (rx_sd_iconst dX6_init_5 (by decide)) ?_
  refine rx_ac (rx_sd_putf (C := RX6) (T := TX6) (N := 2) (ty0 := tyX6) in_X6 tyX6_ok nmX6 rfl (by decide) kw_232 (Or.inl rfl) rfl dX6_init_6) ?_
  refine rx_ac (rx_sd_ret0 (M := m_X6_init Y) rfl dX6_init_9) ?_
  exact rx_an
set_option maxRecDepth 100000 in
set_option maxHeartbeats 4000000 in
theorem s_X6_isCorner {l : Launch} {D : va_G} {cy : Nat → ClassId} {σ : Nat → Int32} {Y : rx_Y} (hY : rx_YOk Y σ) : ∀ q ∈ p_X6_isCorner Y, rx_Sd (gG l D cy σ) (mt Y) (m_X6_isCorner Y) q.1 q.2 := by
  unfold p_X6_isCorner
  refine rx_ac (rx_sd_iload_n dX6_isCorner_0 rfl) ?_
  refine rx_ac (rx_sd_if_lt hY dX6_isCorner_1 (by decide)) ?_
  refine rx_ac (rx_sd_iload_n dX6_isCorner_4 rfl) ?_
  refine rx_ac (rx_sd_aload_n dX6_isCorner_5 rfl) ?_
  refine rx_ac (rx_sd_get (C := RX6) (T := TX6) (N := 2) in_X6 rfl (by decide) kw_232 dX6_isCorner_6) ?_
  refine rx_ac (rx_sd_icmp_ge hY dX6_isCorner_9 (by decide)) ?_
  refine rx_ac (rx_sd_iconst dX6_isCorner_12 (by decide)) ?_
  refine rx_ac (rx_sd_goto dX6_isCorner_13 (by decide)) ?_
  refine rx_ac (rx_sd_iconst dX6_isCorner_16 (by decide)) ?_
  refine rx_ac (rx_sd_retI (M := m_X6_isCorner Y) rfl (Or.inr rfl) dX6_isCorner_17) ?_
  exact rx_an
set_option maxRecDepth 100000 in
set_option maxHeartbeats 4000000 in
theorem s_X6_isCrossed {l : Launch} {D : va_G} {cy : Nat → ClassId} {σ : Nat → Int32} {Y : rx_Y} (hY : rx_YOk Y σ) : ∀ q ∈ p_X6_isCrossed Y, rx_Sd (gG l D cy σ) (mt Y) (m_X6_isCrossed Y) q.1 q.2 := by
  unfold p_X6_isCrossed
  refine rx_ac (rx_sd_iload_n dX6_isCrossed_0 rfl) ?_
  refine rx_ac (rx_sd_iconst dX6_isCrossed_1 (by decide)) ?_
  refine rx_ac (rx_sd_iadd dX6_isCrossed_2) ?_
  refine rx_ac (rx_sd_istore_n (M := m_X6_isCrossed Y) dX6_isCrossed_3 rfl) ?_
  refine rx_ac (rx_sd_iload_n dX6_isCrossed_4 rfl) ?_
  refine rx_ac (rx_sd_iload_n dX6_isCrossed_5 rfl) ?_
  refine rx_ac (rx_sd_icmp_ge hY dX6_isCrossed_6 (by decide)) ?_
  refine rx_ac (rx_sd_iconst dX6_isCrossed_9 (by decide)) ?_
  refine rx_ac (rx_sd_istore (M := m_X6_isCrossed Y) dX6_isCrossed_10) ?_
  refine rx_ac (rx_sd_iload dX6_isCrossed_12) ?_
  refine rx_ac (rx_sd_aload_n dX6_isCrossed_14 rfl) ?_
  refine rx_ac (rx_sd_get (C := RX6) (T := TX6) (N := 2) in_X6 rfl (by decide) kw_232 dX6_isCrossed_15) ?_
  refine rx_ac (rx_sd_icmp_ge hY dX6_isCrossed_18 (by decide)) ?_
  refine rx_ac (rx_sd_iload dX6_isCrossed_21) ?_
  refine rx_ac (rx_sd_iload_n dX6_isCrossed_23 rfl) ?_
  refine rx_ac (rx_sd_icmp_lt hY dX6_isCrossed_24 (by decide)) ?_
  refine rx_ac (rx_sd_iload dX6_isCrossed_27) ?_
  refine rx_ac (rx_sd_iload_n dX6_isCrossed_29 rfl) ?_
  refine rx_ac (rx_sd_icmp_le hY dX6_isCrossed_30 (by decide)) ?_
  refine rx_ac (rx_sd_aload_n dX6_isCrossed_33 rfl) ?_
  refine rx_ac (rx_sd_iload_n dX6_isCrossed_34 rfl) ?_
  refine rx_ac (rx_sd_iload dX6_isCrossed_35) ?_
  refine rx_ac (rx_sd_cl (M := m_X6_isCrossed Y) (rx_lk_V gok (mid := 38) (ci := 6) (C := (RX6, TX6, 2)) ⟨kw_233, kw_134, hd_X6_has, Nat.le_of_ble_eq_true rfl, Nat.le_of_ble_eq_true rfl⟩ rfl kw_234 kw_235 kw_236 dX6_isCrossed_37) (fun _ => ⟨_, rfl⟩) rfl rfl) ?_
  refine rx_ac (rx_sd_if_eq hY dX6_isCrossed_40 (by decide)) ?_
  refine rx_ac (rx_sd_iinc (M := m_X6_isCrossed Y) dX6_isCrossed_45 (by decide)) ?_
  refine rx_ac (rx_sd_goto dX6_isCrossed_48 (by decide)) ?_
  refine rx_ac (rx_sd_iinc (M := m_X6_isCrossed Y) dX6_isCrossed_51 (by decide)) ?_
  refine rx_ac (rx_sd_goto dX6_isCrossed_54 (by decide)) ?_
  refine rx_ac (rx_sd_iconst dX6_isCrossed_57 (by decide)) ?_
  refine rx_ac (rx_sd_retI (M := m_X6_isCrossed Y) rfl (Or.inr rfl) dX6_isCrossed_58) ?_
  exact rx_an
set_option maxRecDepth 100000 in
set_option maxHeartbeats 4000000 in
theorem s_X6_isCut {l : Launch} {D : va_G} {cy : Nat → ClassId} {σ : Nat → Int32} {Y : rx_Y} (hY : rx_YOk Y σ) : ∀ q ∈ p_X6_isCut Y, rx_Sd (gG l D cy σ) (mt Y) (m_X6_isCut Y) q.1 q.2 := by
  unfold p_X6_isCut
  refine rx_ac (rx_sd_aload_n dX6_isCut_0 rfl) ?_
  refine rx_ac (rx_sd_cl (M := m_X6_isCut Y) (rx_lk_V gok (mid := 37) (ci := 6) (C := (RX6, TX6, 2)) ⟨kw_246, kw_134, hd_X6_fenceCount, Nat.le_of_ble_eq_true rfl, Nat.le_of_ble_eq_true rfl⟩ rfl kw_247 kw_248 kw_249 dX6_isCut_1) (fun _ => ⟨_, rfl⟩) rfl rfl) ?_
  refine rx_ac (rx_sd_aload_n dX6_isCut_4 rfl) ?_
  refine rx_ac (rx_sd_get (C := RX6) (T := TX6) (N := 2) in_X6 rfl (by decide) kw_232 dX6_isCut_5) ?_
  refine rx_ac (rx_sd_iconst dX6_isCut_8 (by decide)) ?_
  refine rx_ac (rx_sd_isub dX6_isCut_9) ?_
  refine rx_ac (rx_sd_icmp_ne hY dX6_isCut_10 (by decide)) ?_
  refine rx_ac (rx_sd_iconst dX6_isCut_17 (by decide)) ?_
  refine rx_ac (rx_sd_retI (M := m_X6_isCut Y) rfl (Or.inr rfl) dX6_isCut_18) ?_
  exact rx_an
set_option maxRecDepth 100000 in
set_option maxHeartbeats 4000000 in
theorem s_X6_tell {l : Launch} {D : va_G} {cy : Nat → ClassId} {σ : Nat → Int32} {Y : rx_Y} (hY : rx_YOk Y σ) : ∀ q ∈ p_X6_tell Y, rx_Sd (gG l D cy σ) (mt Y) (m_X6_tell Y) q.1 q.2 := by
  unfold p_X6_tell
  refine rx_ac (rx_sd_iload_n dX6_tell_0 rfl) ?_
  refine rx_ac (rx_sd_if_ne hY dX6_tell_1 (by decide)) ?_
  refine rx_ac (rx_sd_aload_n dX6_tell_4 rfl) ?_
  refine rx_ac (rx_sd_get (C := RX6) (T := TX6) (N := 2) in_X6 rfl (by decide) kw_232 dX6_tell_5) ?_
  refine rx_ac (rx_sd_retI (M := m_X6_tell Y) rfl (Or.inl rfl) dX6_tell_8) ?_
  refine rx_ac (rx_sd_iload_n dX6_tell_9 rfl) ?_
  refine rx_ac (rx_sd_iconst dX6_tell_10 (by decide)) ?_
  refine rx_ac (rx_sd_icmp_ne hY dX6_tell_11 (by decide)) ?_
  refine rx_ac (rx_sd_aload_n dX6_tell_14 rfl) ?_
  refine rx_ac (rx_sd_cl (M := m_X6_tell Y) (rx_lk_V gok (mid := 37) (ci := 6) (C := (RX6, TX6, 2)) ⟨kw_246, kw_134, hd_X6_fenceCount, Nat.le_of_ble_eq_true rfl, Nat.le_of_ble_eq_true rfl⟩ rfl kw_247 kw_248 kw_249 dX6_tell_15) (fun _ => ⟨_, rfl⟩) rfl rfl) ?_
  refine rx_ac (rx_sd_retI (M := m_X6_tell Y) rfl (Or.inl rfl) dX6_tell_18) ?_
  refine rx_ac (rx_sd_iload_n dX6_tell_19 rfl) ?_
  refine rx_ac (rx_sd_iconst dX6_tell_20 (by decide)) ?_
  refine rx_ac (rx_sd_icmp_ne hY dX6_tell_21 (by decide)) ?_
  refine rx_ac (rx_sd_aload_n dX6_tell_24 rfl) ?_
  refine rx_ac (rx_sd_cl (M := m_X6_tell Y) (rx_lk_V gok (mid := 42) (ci := 6) (C := (RX6, TX6, 2)) ⟨kw_250, kw_134, hd_X6_isCut, Nat.le_of_ble_eq_true rfl, Nat.le_of_ble_eq_true rfl⟩ rfl kw_251 kw_252 kw_253 dX6_tell_25) (fun _ => ⟨_, rfl⟩) rfl rfl) ?_
  refine rx_ac (rx_sd_if_eq hY dX6_tell_28 (by decide)) ?_
  refine rx_ac (rx_sd_iconst dX6_tell_35 (by decide)) ?_
  refine rx_ac (rx_sd_retI (M := m_X6_tell Y) rfl (Or.inl rfl) dX6_tell_36) ?_
  refine rx_ac (rx_sd_iload_n dX6_tell_37 rfl) ?_
  refine rx_ac (rx_sd_bipush dX6_tell_38 (by decide)) ?_
  refine rx_ac (rx_sd_icmp_lt hY dX6_tell_40 (by decide)) ?_
  refine rx_ac (rx_sd_iload_n dX6_tell_43 rfl) ?_
  refine rx_ac (rx_sd_bipush dX6_tell_44 (by decide)) ?_
  refine rx_ac (rx_sd_aload_n dX6_tell_46 rfl) ?_
  refine rx_ac (rx_sd_get (C := RX6) (T := TX6) (N := 2) in_X6 rfl (by decide) kw_232 dX6_tell_47) ?_
  refine rx_ac (rx_sd_iadd dX6_tell_50) ?_
  refine rx_ac (rx_sd_icmp_ge hY dX6_tell_51 (by decide)) ?_
  refine rx_ac (rx_sd_aload_n dX6_tell_54 rfl) ?_
  refine rx_ac (rx_sd_iload_n dX6_tell_55 rfl) ?_
  refine rx_ac (rx_sd_bipush dX6_tell_56 (by decide)) ?_
  refine rx_ac (rx_sd_isub dX6_tell_58) ?_
  refine rx_ac (rx_sd_cl (M := m_X6_tell Y) (rx_lk_V gok (mid := 44) (ci := 6) (C := (RX6, TX6, 2)) ⟨kw_254, kw_134, hd_X6_thirds, Nat.le_of_ble_eq_true rfl, Nat.le_of_ble_eq_true rfl⟩ rfl kw_255 kw_256 kw_257 dX6_tell_59) (fun _ => ⟨_, rfl⟩) rfl rfl) ?_
  refine rx_ac (rx_sd_retI (M := m_X6_tell Y) rfl (Or.inl rfl) dX6_tell_62) ?_
  refine rx_ac (rx_sd_iload_n dX6_tell_63 rfl) ?_
  refine rx_ac (rx_sd_bipush dX6_tell_64 (by decide)) ?_
  refine rx_ac (rx_sd_icmp_lt hY dX6_tell_66 (by decide)) ?_
  refine rx_ac (rx_sd_iload_n dX6_tell_69 rfl) ?_
  refine rx_ac (rx_sd_bipush dX6_tell_70 (by decide)) ?_
  refine rx_ac (rx_sd_aload_n dX6_tell_72 rfl) ?_
  refine rx_ac (rx_sd_get (C := RX6) (T := TX6) (N := 2) in_X6 rfl (by decide) kw_232 dX6_tell_73) ?_
  refine rx_ac (rx_sd_iadd dX6_tell_76) ?_
  refine rx_ac (rx_sd_icmp_ge hY dX6_tell_77 (by decide)) ?_
  refine rx_ac (rx_sd_aload_n dX6_tell_80 rfl) ?_
  refine rx_ac (rx_sd_iload_n dX6_tell_81 rfl) ?_
  refine rx_ac (rx_sd_bipush dX6_tell_82 (by decide)) ?_
  refine rx_ac (rx_sd_isub dX6_tell_84) ?_
  refine rx_ac (rx_sd_cl (M := m_X6_tell Y) (rx_lk_V gok (mid := 36) (ci := 6) (C := (RX6, TX6, 2)) ⟨kw_258, kw_134, hd_X6_fenceAt, Nat.le_of_ble_eq_true rfl, Nat.le_of_ble_eq_true rfl⟩ rfl kw_259 kw_260 kw_261 dX6_tell_85) (fun _ => ⟨_, rfl⟩) rfl rfl) ?_
  refine rx_ac (rx_sd_goto dX6_tell_88 (by decide)) ?_
  refine rx_ac (rx_sd_iconst dX6_tell_91 (by decide)) ?_
  refine rx_ac (rx_sd_retI (M := m_X6_tell Y) rfl (Or.inl rfl) dX6_tell_92) ?_
  exact rx_an
set_option maxRecDepth 100000 in
set_option maxHeartbeats 4000000 in
theorem s_X6_thirds {l : Launch} {D : va_G} {cy : Nat → ClassId} {σ : Nat → Int32} {Y : rx_Y} (hY : rx_YOk Y σ) : ∀ q ∈ p_X6_thirds Y, rx_Sd (gG l D cy σ) (mt Y) (m_X6_thirds Y) q.1 q.2 := by
  unfold p_X6_thirds
  refine rx_ac (rx_sd_iconst dX6_thirds_0 (by decide)) ?_
  refine rx_ac (rx_sd_istore_n (M := m_X6_thirds Y) dX6_thirds_1 rfl) ?_
  refine rx_ac (rx_sd_iconst dX6_thirds_2 (by decide)) ?_
  refine rx_ac (rx_sd_istore_n (M := m_X6_thirds Y) dX6_thirds_3 rfl) ?_
  refine rx_ac (rx_sd_iload_n dX6_thirds_4 rfl) ?_
  refine rx_ac (rx_sd_aload_n dX6_thirds_5 rfl) ?_
  refine rx_ac (rx_sd_get (C := RX6) (T := TX6) (N := 2) in_X6 rfl (by decide) kw_232 dX6_thirds_6) ?_
  refine rx_ac (rx_sd_icmp_ge hY dX6_thirds_9 (by decide)) ?_
  refine rx_ac (rx_sd_aload_n dX6_thirds_12 rfl) ?_
  refine rx_ac (rx_sd_iload_n dX6_thirds_13 rfl) ?_
  refine rx_ac (rx_sd_iload_n dX6_thirds_14 rfl) ?_
  refine rx_ac (rx_sd_cl (M := m_X6_thirds Y) (rx_lk_V gok (mid := 38) (ci := 6) (C := (RX6, TX6, 2)) ⟨kw_233, kw_134, hd_X6_has, Nat.le_of_ble_eq_true rfl, Nat.le_of_ble_eq_true rfl⟩ rfl kw_234 kw_235 kw_236 dX6_thirds_15) (fun _ => ⟨_, rfl⟩) rfl rfl) ?_
  refine rx_ac (rx_sd_if_eq hY dX6_thirds_18 (by decide)) ?_
  refine rx_ac (rx_sd_iinc (M := m_X6_thirds Y) dX6_thirds_24 (by decide)) ?_
  refine rx_ac (rx_sd_goto dX6_thirds_27 (by decide)) ?_
  refine rx_ac (rx_sd_iload_n dX6_thirds_30 rfl) ?_
  refine rx_ac (rx_sd_retI (M := m_X6_thirds Y) rfl (Or.inl rfl) dX6_thirds_31) ?_
  exact rx_an
set_option maxRecDepth 100000 in
set_option maxHeartbeats 4000000 in
theorem s_X7_allTerms {l : Launch} {D : va_G} {cy : Nat → ClassId} {σ : Nat → Int32} {Y : rx_Y} (hY : rx_YOk Y σ) : ∀ q ∈ p_X7_allTerms Y, rx_Sd (gG l D cy σ) (mt Y) (m_X7_allTerms Y) q.1 q.2 := by
  unfold p_X7_allTerms
  refine rx_ac (rx_sd_iconst dX7_allTerms_0 (by decide)) ?_
  refine rx_ac (rx_sd_istore_n (M := m_X7_allTerms Y) dX7_allTerms_1 rfl) ?_
  refine rx_ac (rx_sd_iconst dX7_allTerms_2 (by decide)) ?_
  refine rx_ac (rx_sd_istore_n (M := m_X7_allTerms Y) dX7_allTerms_3 rfl) ?_
  refine rx_ac (rx_sd_iload_n dX7_allTerms_4 rfl) ?_
  refine rx_ac (rx_sd_aload_n dX7_allTerms_5 rfl) ?_
  refine rx_ac (rx_sd_get (C := RX7) (T := TX7) (N := 6) in_X7 rfl (by decide) kw_262 dX7_allTerms_6) ?_
  refine rx_ac (rx_sd_icmp_ge hY dX7_allTerms_9 (by decide)) ?_
  refine rx_ac (rx_sd_iload_n dX7_allTerms_12 rfl) ?_
  refine rx_ac (rx_sd_aload_n dX7_allTerms_13 rfl) ?_
  refine rx_ac (rx_sd_get (C := RX7) (T := TX7) (N := 6) in_X7 rfl (by decide) kw_263 dX7_allTerms_14) ?_
  refine rx_ac (rx_sd_iload_n dX7_allTerms_17 rfl) ?_
  refine rx_ac (rx_sd_aald (t := 2) rfl dX7_allTerms_18) ?_
  refine rx_ac (rx_sd_get (C := RX8) (T := TX8) (N := 4) in_X8 rfl (by decide) kw_264 dX7_allTerms_19) ?_
  refine rx_ac (rx_sd_iadd dX7_allTerms_22) ?_
  refine rx_ac (rx_sd_istore_n (M := m_X7_allTerms Y) dX7_allTerms_23 rfl) ?_
  refine rx_ac (rx_sd_iinc (M := m_X7_allTerms Y) dX7_allTerms_24 (by decide)) ?_
  refine rx_ac (rx_sd_goto dX7_allTerms_27 (by decide)) ?_
  refine rx_ac (rx_sd_iload_n dX7_allTerms_30 rfl) ?_
  refine rx_ac (rx_sd_retI (M := m_X7_allTerms Y) rfl (Or.inl rfl) dX7_allTerms_31) ?_
  exact rx_an
set_option maxRecDepth 100000 in
set_option maxHeartbeats 4000000 in
theorem s_X7_copyFrom {l : Launch} {D : va_G} {cy : Nat → ClassId} {σ : Nat → Int32} {Y : rx_Y} (hY : rx_YOk Y σ) : ∀ q ∈ p_X7_copyFrom Y, rx_Sd (gG l D cy σ) (mt Y) (m_X7_copyFrom Y) q.1 q.2 := by
  unfold p_X7_copyFrom
  refine rx_ac (rx_sd_aload_n dX7_copyFrom_0 rfl) ?_
  refine rx_ac (rx_sd_aload_n dX7_copyFrom_1 rfl) ?_
  refine rx_ac (rx_sd_get (C := RX7) (T := TX7) (N := 6) in_X7 rfl (by decide) kw_262 dX7_copyFrom_2) ?_
  refine rx_ac (rx_sd_putf (C := RX7) (T := TX7) (N := 6) (ty0 := tyX7) in_X7 tyX7_ok nmX7 rfl (by decide) kw_262 (Or.inl rfl) rfl dX7_copyFrom_5) ?_
  refine rx_ac (rx_sd_aload_n dX7_copyFrom_8 rfl) ?_
  refine rx_ac (rx_sd_aload_n dX7_copyFrom_9 rfl) ?_
  refine rx_ac (rx_sd_get (C := RX7) (T := TX7) (N := 6) in_X7 rfl (by decide) kw_265 dX7_copyFrom_10) ?_
  refine rx_ac (rx_sd_putf (C := RX7) (T := TX7) (N := 6) (ty0 := tyX7) in_X7 tyX7_ok nmX7 rfl (by decide) kw_265 (Or.inl rfl) rfl dX7_copyFrom_13) ?_
  refine rx_ac (rx_sd_aload_n dX7_copyFrom_16 rfl) ?_
  refine rx_ac (rx_sd_get (C := RX7) (T := TX7) (N := 6) in_X7 rfl (by decide) kw_266 dX7_copyFrom_17) ?_
  refine rx_ac (rx_sd_iconst dX7_copyFrom_20 (by decide)) ?_
  refine rx_ac (rx_sd_aload_n dX7_copyFrom_21 rfl) ?_
  refine rx_ac (rx_sd_get (C := RX7) (T := TX7) (N := 6) in_X7 rfl (by decide) kw_266 dX7_copyFrom_22) ?_
  refine rx_ac (rx_sd_iconst dX7_copyFrom_25 (by decide)) ?_
  refine rx_ac (rx_sd_bipush dX7_copyFrom_26 (by decide)) ?_
  refine rx_ac (rx_sd_cpI (M := m_X7_copyFrom Y) ⟨rfl, rfl, rfl⟩ kw_267 kw_26 kw_27 kw_28 (Nat.le_of_ble_eq_true rfl) dX7_copyFrom_28) ?_
  refine rx_ac (rx_sd_aload_n dX7_copyFrom_31 rfl) ?_
  refine rx_ac (rx_sd_get (C := RX7) (T := TX7) (N := 6) in_X7 rfl (by decide) kw_268 dX7_copyFrom_32) ?_
  refine rx_ac (rx_sd_iconst dX7_copyFrom_35 (by decide)) ?_
  refine rx_ac (rx_sd_aload_n dX7_copyFrom_36 rfl) ?_
  refine rx_ac (rx_sd_get (C := RX7) (T := TX7) (N := 6) in_X7 rfl (by decide) kw_268 dX7_copyFrom_37) ?_
  refine rx_ac (rx_sd_iconst dX7_copyFrom_40 (by decide)) ?_
  refine rx_ac (rx_sd_bipush dX7_copyFrom_41 (by decide)) ?_
  refine rx_ac (rx_sd_cpL (M := m_X7_copyFrom Y) ⟨rfl, rfl, rfl⟩ kw_267 kw_26 kw_27 kw_28 (Nat.le_of_ble_eq_true rfl) dX7_copyFrom_43) ?_
  refine rx_ac (rx_sd_iconst dX7_copyFrom_46 (by decide)) ?_
  refine rx_ac (rx_sd_istore_n (M := m_X7_copyFrom Y) dX7_copyFrom_47 rfl) ?_
  refine rx_ac (rx_sd_iload_n dX7_copyFrom_48 rfl) ?_
  refine rx_ac (rx_sd_aload_n dX7_copyFrom_49 rfl) ?_
  refine rx_ac (rx_sd_get (C := RX7) (T := TX7) (N := 6) in_X7 rfl (by decide) kw_262 dX7_copyFrom_50) ?_
  refine rx_ac (rx_sd_icmp_ge hY dX7_copyFrom_53 (by decide)) ?_
  refine rx_ac (rx_sd_aload_n dX7_copyFrom_56 rfl) ?_
  refine rx_ac (rx_sd_get (C := RX7) (T := TX7) (N := 6) in_X7 rfl (by decide) kw_263 dX7_copyFrom_57) ?_
  refine rx_ac (rx_sd_iload_n dX7_copyFrom_60 rfl) ?_
  refine rx_ac (rx_sd_aald (t := 2) rfl dX7_copyFrom_61) ?_
  refine rx_ac (rx_sd_aload_n dX7_copyFrom_62 rfl) ?_
  refine rx_ac (rx_sd_get (C := RX7) (T := TX7) (N := 6) in_X7 rfl (by decide) kw_263 dX7_copyFrom_63) ?_
  refine rx_ac (rx_sd_iload_n dX7_copyFrom_66 rfl) ?_
  refine rx_ac (rx_sd_aald (t := 2) rfl dX7_copyFrom_67) ?_
  refine rx_ac (rx_sd_cl (M := m_X7_copyFrom Y) (rx_lk_V gok (mid := 52) (ci := 8) (C := (RX8, TX8, 4)) ⟨kw_90, kw_83, hd_X8_copyFrom, Nat.le_of_ble_eq_true rfl, Nat.le_of_ble_eq_true rfl⟩ rfl kw_269 kw_92 kw_93 dX7_copyFrom_68) (fun _ => ⟨_, rfl⟩) rfl rfl) ?_
  refine rx_ac (rx_sd_iinc (M := m_X7_copyFrom Y) dX7_copyFrom_71 (by decide)) ?_
  refine rx_ac (rx_sd_goto dX7_copyFrom_74 (by decide)) ?_
  refine rx_ac (rx_sd_ret0 (M := m_X7_copyFrom Y) rfl dX7_copyFrom_77) ?_
  exact rx_an
set_option maxRecDepth 100000 in
set_option maxHeartbeats 4000000 in
theorem s_X7_init {l : Launch} {D : va_G} {cy : Nat → ClassId} {σ : Nat → Int32} {Y : rx_Y} (hY : rx_YOk Y σ) : ∀ q ∈ p_X7_init Y, rx_Sd (gG l D cy σ) (mt Y) (m_X7_init Y) q.1 q.2 := by
  unfold p_X7_init
  refine rx_ac (rx_sd_aload_n dX7_init_0 rfl) ?_
  refine rx_ac (rx_sd_obj (M := m_X7_init Y) kw_270 kw_66 kw_objcode (Nat.le_of_ble_eq_true rfl) dX7_init_1) ?_
  refine rx_ac (rx_sd_aload_n dX7_init_4 rfl) ?_
  refine rx_ac (rx_sd_bipush dX7_init_5 (by decide)) ?_
  refine rx_ac (rx_sd_newI (M := m_X7_init Y) ⟨rfl, rfl, rfl⟩ kw_69 rfl dX7_init_7) ?_
  refine rx_ac (rx_sd_putf (C := RX7) (T := TX7) (N := 6) (ty0 := tyX7) in_X7 tyX7_ok nmX7 rfl (by decide) kw_266 (Or.inr ⟨rfl, rfl, rfl⟩) rfl dX7_init_9) ?_
  refine rx_ac (rx_sd_aload_n dX7_init_12 rfl) ?_
  refine rx_ac (rx_sd_bipush dX7_init_13 (by decide)) ?_
  refine rx_ac (rx_sd_newL (M := m_X7_init Y) ⟨rfl, rfl, rfl⟩ kw_71 rfl dX7_init_15) ?_
  refine rx_ac (rx_sd_putf (C := RX7) (T := TX7) (N := 6) (ty0 := tyX7) in_X7 tyX7_ok nmX7 rfl (by decide) kw_268 (Or.inr ⟨rfl, rfl, rfl⟩) rfl dX7_init_17) ?_
  refine rx_ac (rx_sd_aload_n dX7_init_20 rfl) ?_
  refine rx_ac (rx_sd_bipush dX7_init_21 (by decide)) ?_
  refine rx_ac (rx_sd_newq (M := m_X7_init Y) (t := 2) (C := "SeedBench$Share") rfl (List.mem_of_getElem? (i := 2) rfl) kw_271 dX7_init_23) ?_
  refine rx_ac (rx_sd_putf (C := RX7) (T := TX7) (N := 6) (ty0 := tyX7) in_X7 tyX7_ok nmX7 rfl (by decide) kw_263 (Or.inr ⟨rfl, rfl, rfl⟩) rfl dX7_init_26) ?_
  refine rx_ac (rx_sd_aload_n dX7_init_29 rfl) ?_
  refine rx_ac (rx_sd_bipush dX7_init_30 (by decide)) ?_
  refine rx_ac (rx_sd_newI (M := m_X7_init Y) ⟨rfl, rfl, rfl⟩ kw_69 rfl dX7_init_32) ?_
  refine rx_ac (rx_sd_putf (C := RX7) (T := TX7) (N := 6) (ty0 := tyX7) in_X7 tyX7_ok nmX7 rfl (by decide) kw_272 (Or.inr ⟨rfl, rfl, rfl⟩) rfl dX7_init_34) ?_
  refine rx_ac (rx_sd_iconst dX7_init_37 (by decide)) ?_
  refine rx_ac (rx_sd_istore_n (M := m_X7_init Y) dX7_init_38 rfl) ?_
  refine rx_ac (rx_sd_iload_n dX7_init_39 rfl) ?_
  refine rx_ac (rx_sd_bipush dX7_init_40 (by decide)) ?_
  refine rx_ac (rx_sd_icmp_ge hY dX7_init_42 (by decide)) ?_
  refine rx_ac (rx_sd_aload_n dX7_init_45 rfl) ?_
  refine rx_ac (rx_sd_get (C := RX7) (T := TX7) (N := 6) in_X7 rfl (by decide) kw_263 dX7_init_46) ?_
  refine rx_ac (rx_sd_iload_n dX7_init_49 rfl) ?_
  refine rx_ac (rx_sd_new (M := m_X7_init Y) (C := RX8) (T := TX8) (N := 4) (ty := tyX8) in_X8 tyX8_ok rfl kw_271 kw_82 kw_83 df_X8 rfl (cs_X8 σ) dX7_init_50) ?_
  refine rx_ac (rx_sd_dup dX7_init_53) ?_
  refine rx_ac (rx_sd_cl (M := m_X7_init Y) (rx_lk_IN gok (host := "SeedBench") (mid := 55) (ci := 8) (C := (RX8, TX8, 4)) ⟨kw_84, kw_83, hd_X8_init, Nat.le_of_ble_eq_true rfl, Nat.le_of_ble_eq_true rfl⟩ rfl rfl (List.mem_of_getElem? (i := 0) rfl) kw_85 rfl dX7_init_54) (fun _ => ⟨_, rfl⟩) rfl rfl) ?_
  refine rx_ac (rx_sd_aast (t := 2) (ci := 8) (C := (RX8, TX8, 4)) rfl rfl dX7_init_57) ?_
  refine rx_ac (rx_sd_iinc (M := m_X7_init Y) dX7_init_58 (by decide)) ?_
  refine rx_ac (rx_sd_goto dX7_init_61 (by decide)) ?_
  refine rx_ac (rx_sd_ret0 (M := m_X7_init Y) rfl dX7_init_64) ?_
  exact rx_an
set_option maxRecDepth 100000 in
set_option maxHeartbeats 4000000 in
theorem s_X7_start {l : Launch} {D : va_G} {cy : Nat → ClassId} {σ : Nat → Int32} {Y : rx_Y} (hY : rx_YOk Y σ) : ∀ q ∈ p_X7_start Y, rx_Sd (gG l D cy σ) (mt Y) (m_X7_start Y) q.1 q.2 := by
  unfold p_X7_start
  refine rx_ac (rx_sd_aload_n dX7_start_0 rfl) ?_
  refine rx_ac (rx_sd_iload_n dX7_start_1 rfl) ?_
  refine rx_ac (rx_sd_putf (C := RX7) (T := TX7) (N := 6) (ty0 := tyX7) in_X7 tyX7_ok nmX7 rfl (by decide) kw_262 (Or.inl rfl) rfl dX7_start_2) ?_
  refine rx_ac (rx_sd_aload_n dX7_start_5 rfl) ?_
  refine rx_ac (rx_sd_iload_n dX7_start_6 rfl) ?_
  refine rx_ac (rx_sd_putf (C := RX7) (T := TX7) (N := 6) (ty0 := tyX7) in_X7 tyX7_ok nmX7 rfl (by decide) kw_265 (Or.inl rfl) rfl dX7_start_7) ?_
  refine rx_ac (rx_sd_aload_n dX7_start_10 rfl) ?_
  refine rx_ac (rx_sd_iconst dX7_start_11 (by decide)) ?_
  refine rx_ac (rx_sd_aload_n dX7_start_12 rfl) ?_
  refine rx_ac (rx_sd_get (C := RX7) (T := TX7) (N := 6) in_X7 rfl (by decide) kw_266 dX7_start_13) ?_
  refine rx_ac (rx_sd_iconst dX7_start_16 (by decide)) ?_
  refine rx_ac (rx_sd_bipush dX7_start_17 (by decide)) ?_
  refine rx_ac (rx_sd_cpI (M := m_X7_start Y) ⟨rfl, rfl, rfl⟩ kw_267 kw_26 kw_27 kw_28 (Nat.le_of_ble_eq_true rfl) dX7_start_19) ?_
  refine rx_ac (rx_sd_aload dX7_start_22) ?_
  refine rx_ac (rx_sd_iconst dX7_start_24 (by decide)) ?_
  refine rx_ac (rx_sd_aload_n dX7_start_25 rfl) ?_
  refine rx_ac (rx_sd_get (C := RX7) (T := TX7) (N := 6) in_X7 rfl (by decide) kw_268 dX7_start_26) ?_
  refine rx_ac (rx_sd_iconst dX7_start_29 (by decide)) ?_
  refine rx_ac (rx_sd_bipush dX7_start_30 (by decide)) ?_
  refine rx_ac (rx_sd_cpL (M := m_X7_start Y) ⟨rfl, rfl, rfl⟩ kw_267 kw_26 kw_27 kw_28 (Nat.le_of_ble_eq_true rfl) dX7_start_32) ?_
  refine rx_ac (rx_sd_iconst dX7_start_35 (by decide)) ?_
  refine rx_ac (rx_sd_istore (M := m_X7_start Y) dX7_start_36) ?_
  refine rx_ac (rx_sd_iload dX7_start_38) ?_
  refine rx_ac (rx_sd_iload_n dX7_start_40 rfl) ?_
  refine rx_ac (rx_sd_icmp_ge hY dX7_start_41 (by decide)) ?_
  refine rx_ac (rx_sd_aload_n dX7_start_44 rfl) ?_
  refine rx_ac (rx_sd_get (C := RX7) (T := TX7) (N := 6) in_X7 rfl (by decide) kw_263 dX7_start_45) ?_
  refine rx_ac (rx_sd_iload dX7_start_48) ?_
  refine rx_ac (rx_sd_aald (t := 2) rfl dX7_start_50) ?_
  refine rx_ac (rx_sd_iload dX7_start_51) ?_
  refine rx_ac (rx_sd_iload_n dX7_start_53 rfl) ?_
  refine rx_ac (rx_sd_iload_n dX7_start_54 rfl) ?_
  refine rx_ac (rx_sd_iadd dX7_start_55) ?_
  refine rx_ac (rx_sd_cl (M := m_X7_start Y) (rx_lk_V gok (mid := 50) (ci := 8) (C := (RX8, TX8, 4)) ⟨kw_273, kw_83, hd_X8_becomeVariable, Nat.le_of_ble_eq_true rfl, Nat.le_of_ble_eq_true rfl⟩ rfl kw_274 kw_275 kw_276 dX7_start_56) (fun _ => ⟨_, rfl⟩) rfl rfl) ?_
  refine rx_ac (rx_sd_iinc (M := m_X7_start Y) dX7_start_59 (by decide)) ?_
  refine rx_ac (rx_sd_goto dX7_start_62 (by decide)) ?_
  refine rx_ac (rx_sd_ret0 (M := m_X7_start Y) rfl dX7_start_65) ?_
  exact rx_an
set_option maxRecDepth 100000 in
set_option maxHeartbeats 4000000 in
theorem s_X8_add {l : Launch} {D : va_G} {cy : Nat → ClassId} {σ : Nat → Int32} {Y : rx_Y} (hY : rx_YOk Y σ) : ∀ q ∈ p_X8_add Y, rx_Sd (gG l D cy σ) (mt Y) (m_X8_add Y) q.1 q.2 := by
  unfold p_X8_add
  refine rx_ac (rx_sd_aload_n dX8_add_0 rfl) ?_
  refine rx_ac (rx_sd_aload_n dX8_add_1 rfl) ?_
  refine rx_ac (rx_sd_iload dX8_add_2) ?_
  refine rx_ac (rx_sd_cl (M := m_X8_add Y) (rx_lk_V gok (mid := 53) (ci := 8) (C := (RX8, TX8, 4)) ⟨kw_224, kw_83, hd_X8_find, Nat.le_of_ble_eq_true rfl, Nat.le_of_ble_eq_true rfl⟩ rfl kw_277 kw_226 kw_227 dX8_add_4) (fun _ => ⟨_, rfl⟩) rfl rfl) ?_
  refine rx_ac (rx_sd_istore (M := m_X8_add Y) dX8_add_7) ?_
  refine rx_ac (rx_sd_iload dX8_add_9) ?_
  refine rx_ac (rx_sd_if_lt hY dX8_add_11 (by decide)) ?_
  refine rx_ac (rx_sd_aload_n dX8_add_14 rfl) ?_
  refine rx_ac (rx_sd_get (C := RX8) (T := TX8) (N := 4) in_X8 rfl (by decide) kw_278 dX8_add_15) ?_
  refine rx_ac (rx_sd_iload dX8_add_18) ?_
  refine rx_ac (rx_sd_dup2 dX8_add_20) ?_
  refine rx_ac (rx_sd_lald ⟨rfl, rfl, rfl⟩ dX8_add_21) ?_
  refine rx_ac (rx_sd_lload_n dX8_add_22 rfl) ?_
  refine rx_ac (rx_sd_ladd dX8_add_23) ?_
  refine rx_ac (rx_sd_last ⟨rfl, rfl, rfl⟩ dX8_add_24) ?_
  refine rx_ac (rx_sd_aload_n dX8_add_25 rfl) ?_
  refine rx_ac (rx_sd_get (C := RX8) (T := TX8) (N := 4) in_X8 rfl (by decide) kw_278 dX8_add_26) ?_
  refine rx_ac (rx_sd_iload dX8_add_29) ?_
  refine rx_ac (rx_sd_lald ⟨rfl, rfl, rfl⟩ dX8_add_31) ?_
  refine rx_ac (rx_sd_ldc2 (M := m_X8_add Y) kw_279 dX8_add_32) ?_
  refine rx_ac (rx_sd_lcmp dX8_add_35) ?_
  refine rx_ac (rx_sd_if_le hY dX8_add_36 (by decide)) ?_
  refine rx_ac (rx_sd_iload dX8_add_43) ?_
  refine rx_ac (rx_sd_retI (M := m_X8_add Y) rfl (Or.inl rfl) dX8_add_45) ?_
  refine rx_ac (rx_sd_aload_n dX8_add_46 rfl) ?_
  refine rx_ac (rx_sd_get (C := RX8) (T := TX8) (N := 4) in_X8 rfl (by decide) kw_280 dX8_add_47) ?_
  refine rx_ac (rx_sd_sipush dX8_add_50 (by decide)) ?_
  refine rx_ac (rx_sd_icmp_ge hY dX8_add_53 (by decide)) ?_
  refine rx_ac (rx_sd_lload_n dX8_add_56 rfl) ?_
  refine rx_ac (rx_sd_ldc2 (M := m_X8_add Y) kw_279 dX8_add_57) ?_
  refine rx_ac (rx_sd_lcmp dX8_add_60) ?_
  refine rx_ac (rx_sd_if_le hY dX8_add_61 (by decide)) ?_
  refine rx_ac (rx_sd_iconst dX8_add_66 (by decide)) ?_
  refine rx_ac (rx_sd_iload dX8_add_67) ?_
  refine rx_ac (rx_sd_isub dX8_add_69) ?_
  refine rx_ac (rx_sd_istore (M := m_X8_add Y) dX8_add_70) ?_
  refine rx_ac (rx_sd_aload_n dX8_add_72 rfl) ?_
  refine rx_ac (rx_sd_get (C := RX8) (T := TX8) (N := 4) in_X8 rfl (by decide) kw_278 dX8_add_73) ?_
  refine rx_ac (rx_sd_iload dX8_add_76) ?_
  refine rx_ac (rx_sd_aload_n dX8_add_78 rfl) ?_
  refine rx_ac (rx_sd_get (C := RX8) (T := TX8) (N := 4) in_X8 rfl (by decide) kw_278 dX8_add_79) ?_
  refine rx_ac (rx_sd_iload dX8_add_82) ?_
  refine rx_ac (rx_sd_iconst dX8_add_84 (by decide)) ?_
  refine rx_ac (rx_sd_iadd dX8_add_85) ?_
  refine rx_ac (rx_sd_aload_n dX8_add_86 rfl) ?_
  refine rx_ac (rx_sd_get (C := RX8) (T := TX8) (N := 4) in_X8 rfl (by decide) kw_280 dX8_add_87) ?_
  refine rx_ac (rx_sd_iload dX8_add_90) ?_
  refine rx_ac (rx_sd_isub dX8_add_92) ?_
  refine rx_ac (rx_sd_cpL (M := m_X8_add Y) ⟨rfl, rfl, rfl⟩ kw_281 kw_26 kw_27 kw_28 (Nat.le_of_ble_eq_true rfl) dX8_add_93) ?_
  refine rx_ac (rx_sd_aload_n dX8_add_96 rfl) ?_
  refine rx_ac (rx_sd_get (C := RX8) (T := TX8) (N := 4) in_X8 rfl (by decide) kw_282 dX8_add_97) ?_
  refine rx_ac (rx_sd_iload dX8_add_100) ?_
  refine rx_ac (rx_sd_aload_n dX8_add_102 rfl) ?_
  refine rx_ac (rx_sd_get (C := RX8) (T := TX8) (N := 4) in_X8 rfl (by decide) kw_283 dX8_add_103) ?_
  refine rx_ac (rx_sd_imul dX8_add_106) ?_
  refine rx_ac (rx_sd_aload_n dX8_add_107 rfl) ?_
  refine rx_ac (rx_sd_get (C := RX8) (T := TX8) (N := 4) in_X8 rfl (by decide) kw_282 dX8_add_108) ?_
  refine rx_ac (rx_sd_iload dX8_add_111) ?_
  refine rx_ac (rx_sd_iconst dX8_add_113 (by decide)) ?_
  refine rx_ac (rx_sd_iadd dX8_add_114) ?_
  refine rx_ac (rx_sd_aload_n dX8_add_115 rfl) ?_
  refine rx_ac (rx_sd_get (C := RX8) (T := TX8) (N := 4) in_X8 rfl (by decide) kw_283 dX8_add_116) ?_
  refine rx_ac (rx_sd_imul dX8_add_119) ?_
  refine rx_ac (rx_sd_aload_n dX8_add_120 rfl) ?_
  refine rx_ac (rx_sd_get (C := RX8) (T := TX8) (N := 4) in_X8 rfl (by decide) kw_280 dX8_add_121) ?_
  refine rx_ac (rx_sd_iload dX8_add_124) ?_
  refine rx_ac (rx_sd_isub dX8_add_126) ?_
  refine rx_ac (rx_sd_aload_n dX8_add_127 rfl) ?_
  refine rx_ac (rx_sd_get (C := RX8) (T := TX8) (N := 4) in_X8 rfl (by decide) kw_283 dX8_add_128) ?_
  refine rx_ac (rx_sd_imul dX8_add_131) ?_
  refine rx_ac (rx_sd_cpI (M := m_X8_add Y) ⟨rfl, rfl, rfl⟩ kw_281 kw_26 kw_27 kw_28 (Nat.le_of_ble_eq_true rfl) dX8_add_132) ?_
  refine rx_ac (rx_sd_aload_n dX8_add_135 rfl) ?_
  refine rx_ac (rx_sd_get (C := RX8) (T := TX8) (N := 4) in_X8 rfl (by decide) kw_278 dX8_add_136) ?_
  refine rx_ac (rx_sd_iload dX8_add_139) ?_
  refine rx_ac (rx_sd_lload_n dX8_add_141 rfl) ?_
  refine rx_ac (rx_sd_last ⟨rfl, rfl, rfl⟩ dX8_add_142) ?_
  refine rx_ac (rx_sd_aload_n dX8_add_143 rfl) ?_
  refine rx_ac (rx_sd_iconst dX8_add_144 (by decide)) ?_
  refine rx_ac (rx_sd_aload_n dX8_add_145 rfl) ?_
  refine rx_ac (rx_sd_get (C := RX8) (T := TX8) (N := 4) in_X8 rfl (by decide) kw_282 dX8_add_146) ?_
  refine rx_ac (rx_sd_iload dX8_add_149) ?_
  refine rx_ac (rx_sd_aload_n dX8_add_151 rfl) ?_
  refine rx_ac (rx_sd_get (C := RX8) (T := TX8) (N := 4) in_X8 rfl (by decide) kw_283 dX8_add_152) ?_
  refine rx_ac (rx_sd_imul dX8_add_155) ?_
  refine rx_ac (rx_sd_aload_n dX8_add_156 rfl) ?_
  refine rx_ac (rx_sd_get (C := RX8) (T := TX8) (N := 4) in_X8 rfl (by decide) kw_283 dX8_add_157) ?_
  refine rx_ac (rx_sd_cpI (M := m_X8_add Y) ⟨rfl, rfl, rfl⟩ kw_281 kw_26 kw_27 kw_28 (Nat.le_of_ble_eq_true rfl) dX8_add_160) ?_
  refine rx_ac (rx_sd_aload_n dX8_add_163 rfl) ?_
  refine rx_ac (rx_sd_dup dX8_add_164) ?_
  refine rx_ac (rx_sd_get (C := RX8) (T := TX8) (N := 4) in_X8 rfl (by decide) kw_280 dX8_add_165) ?_
  refine rx_ac (rx_sd_iconst dX8_add_168 (by decide)) ?_
  refine rx_ac (rx_sd_iadd dX8_add_169) ?_
  refine rx_ac (rx_sd_putf (C := RX8) (T := TX8) (N := 4) (ty0 := tyX8) in_X8 tyX8_ok nmX8 rfl (by decide) kw_280 (Or.inl rfl) rfl dX8_add_170) ?_
  refine rx_ac (rx_sd_iload dX8_add_173) ?_
  refine rx_ac (rx_sd_retI (M := m_X8_add Y) rfl (Or.inl rfl) dX8_add_175) ?_
  exact rx_an
set_option maxRecDepth 100000 in
set_option maxHeartbeats 4000000 in
theorem s_X8_becomeVariable {l : Launch} {D : va_G} {cy : Nat → ClassId} {σ : Nat → Int32} {Y : rx_Y} (hY : rx_YOk Y σ) : ∀ q ∈ p_X8_becomeVariable Y, rx_Sd (gG l D cy σ) (mt Y) (m_X8_becomeVariable Y) q.1 q.2 := by
  unfold p_X8_becomeVariable
  refine rx_ac (rx_sd_aload_n dX8_becomeVariable_0 rfl) ?_
  refine rx_ac (rx_sd_iload_n dX8_becomeVariable_1 rfl) ?_
  refine rx_ac (rx_sd_cl (M := m_X8_becomeVariable Y) (rx_lk_V gok (mid := 51) (ci := 8) (C := (RX8, TX8, 4)) ⟨kw_189, kw_83, hd_X8_clear, Nat.le_of_ble_eq_true rfl, Nat.le_of_ble_eq_true rfl⟩ rfl kw_284 kw_191 kw_192 dX8_becomeVariable_2) (fun _ => ⟨_, rfl⟩) rfl rfl) ?_
  refine rx_ac (rx_sd_aload_n dX8_becomeVariable_5 rfl) ?_
  refine rx_ac (rx_sd_iconst dX8_becomeVariable_6 (by decide)) ?_
  refine rx_ac (rx_sd_putf (C := RX8) (T := TX8) (N := 4) (ty0 := tyX8) in_X8 tyX8_ok nmX8 rfl (by decide) kw_280 (Or.inl rfl) rfl dX8_becomeVariable_7) ?_
  refine rx_ac (rx_sd_aload_n dX8_becomeVariable_10 rfl) ?_
  refine rx_ac (rx_sd_get (C := RX8) (T := TX8) (N := 4) in_X8 rfl (by decide) kw_278 dX8_becomeVariable_11) ?_
  refine rx_ac (rx_sd_iconst dX8_becomeVariable_14 (by decide)) ?_
  refine rx_ac (rx_sd_lconst dX8_becomeVariable_15 (by decide)) ?_
  refine rx_ac (rx_sd_last ⟨rfl, rfl, rfl⟩ dX8_becomeVariable_16) ?_
  refine rx_ac (rx_sd_iconst dX8_becomeVariable_17 (by decide)) ?_
  refine rx_ac (rx_sd_istore_n (M := m_X8_becomeVariable Y) dX8_becomeVariable_18 rfl) ?_
  refine rx_ac (rx_sd_iload_n dX8_becomeVariable_19 rfl) ?_
  refine rx_ac (rx_sd_iload_n dX8_becomeVariable_20 rfl) ?_
  refine rx_ac (rx_sd_icmp_ge hY dX8_becomeVariable_21 (by decide)) ?_
  refine rx_ac (rx_sd_aload_n dX8_becomeVariable_24 rfl) ?_
  refine rx_ac (rx_sd_get (C := RX8) (T := TX8) (N := 4) in_X8 rfl (by decide) kw_282 dX8_becomeVariable_25) ?_
  refine rx_ac (rx_sd_iload_n dX8_becomeVariable_28 rfl) ?_
  refine rx_ac (rx_sd_iload_n dX8_becomeVariable_29 rfl) ?_
  refine rx_ac (rx_sd_iload_n dX8_becomeVariable_30 rfl) ?_
  refine rx_ac (rx_sd_icmp_ne hY dX8_becomeVariable_31 (by decide)) ?_
  refine rx_ac (rx_sd_iconst dX8_becomeVariable_34 (by decide)) ?_
  refine rx_ac (rx_sd_goto dX8_becomeVariable_35 (by decide)) ?_
  refine rx_ac (rx_sd_iast hY ⟨rfl, rfl, rfl⟩ dX8_becomeVariable_39) ?_
  refine rx_ac (rx_sd_iinc (M := m_X8_becomeVariable Y) dX8_becomeVariable_40 (by decide)) ?_
  refine rx_ac (rx_sd_goto dX8_becomeVariable_43 (by decide)) ?_
  refine rx_ac (rx_sd_ret0 (M := m_X8_becomeVariable Y) rfl dX8_becomeVariable_46) ?_
  exact rx_an
set_option maxRecDepth 100000 in
set_option maxHeartbeats 4000000 in
theorem s_X8_clear {l : Launch} {D : va_G} {cy : Nat → ClassId} {σ : Nat → Int32} {Y : rx_Y} (hY : rx_YOk Y σ) : ∀ q ∈ p_X8_clear Y, rx_Sd (gG l D cy σ) (mt Y) (m_X8_clear Y) q.1 q.2 := by
  unfold p_X8_clear
  refine rx_ac (rx_sd_aload_n dX8_clear_0 rfl) ?_
  refine rx_ac (rx_sd_iload_n dX8_clear_1 rfl) ?_
  refine rx_ac (rx_sd_putf (C := RX8) (T := TX8) (N := 4) (ty0 := tyX8) in_X8 tyX8_ok nmX8 rfl (by decide) kw_283 (Or.inl rfl) rfl dX8_clear_2) ?_
  refine rx_ac (rx_sd_aload_n dX8_clear_5 rfl) ?_
  refine rx_ac (rx_sd_iconst dX8_clear_6 (by decide)) ?_
  refine rx_ac (rx_sd_putf (C := RX8) (T := TX8) (N := 4) (ty0 := tyX8) in_X8 tyX8_ok nmX8 rfl (by decide) kw_280 (Or.inl rfl) rfl dX8_clear_7) ?_
  refine rx_ac (rx_sd_ret0 (M := m_X8_clear Y) rfl dX8_clear_10) ?_
  exact rx_an
set_option maxRecDepth 100000 in
set_option maxHeartbeats 4000000 in
theorem s_X8_copyFrom {l : Launch} {D : va_G} {cy : Nat → ClassId} {σ : Nat → Int32} {Y : rx_Y} (hY : rx_YOk Y σ) : ∀ q ∈ p_X8_copyFrom Y, rx_Sd (gG l D cy σ) (mt Y) (m_X8_copyFrom Y) q.1 q.2 := by
  unfold p_X8_copyFrom
  refine rx_ac (rx_sd_aload_n dX8_copyFrom_0 rfl) ?_
  refine rx_ac (rx_sd_aload_n dX8_copyFrom_1 rfl) ?_
  refine rx_ac (rx_sd_get (C := RX8) (T := TX8) (N := 4) in_X8 rfl (by decide) kw_283 dX8_copyFrom_2) ?_
  refine rx_ac (rx_sd_cl (M := m_X8_copyFrom Y) (rx_lk_V gok (mid := 51) (ci := 8) (C := (RX8, TX8, 4)) ⟨kw_189, kw_83, hd_X8_clear, Nat.le_of_ble_eq_true rfl, Nat.le_of_ble_eq_true rfl⟩ rfl kw_284 kw_191 kw_192 dX8_copyFrom_5) (fun _ => ⟨_, rfl⟩) rfl rfl) ?_
  refine rx_ac (rx_sd_aload_n dX8_copyFrom_8 rfl) ?_
  refine rx_ac (rx_sd_aload_n dX8_copyFrom_9 rfl) ?_
  refine rx_ac (rx_sd_get (C := RX8) (T := TX8) (N := 4) in_X8 rfl (by decide) kw_280 dX8_copyFrom_10) ?_
  refine rx_ac (rx_sd_putf (C := RX8) (T := TX8) (N := 4) (ty0 := tyX8) in_X8 tyX8_ok nmX8 rfl (by decide) kw_280 (Or.inl rfl) rfl dX8_copyFrom_13) ?_
  refine rx_ac (rx_sd_aload_n dX8_copyFrom_16 rfl) ?_
  refine rx_ac (rx_sd_get (C := RX8) (T := TX8) (N := 4) in_X8 rfl (by decide) kw_278 dX8_copyFrom_17) ?_
  refine rx_ac (rx_sd_iconst dX8_copyFrom_20 (by decide)) ?_
  refine rx_ac (rx_sd_aload_n dX8_copyFrom_21 rfl) ?_
  refine rx_ac (rx_sd_get (C := RX8) (T := TX8) (N := 4) in_X8 rfl (by decide) kw_278 dX8_copyFrom_22) ?_
  refine rx_ac (rx_sd_iconst dX8_copyFrom_25 (by decide)) ?_
  refine rx_ac (rx_sd_aload_n dX8_copyFrom_26 rfl) ?_
  refine rx_ac (rx_sd_get (C := RX8) (T := TX8) (N := 4) in_X8 rfl (by decide) kw_280 dX8_copyFrom_27) ?_
  refine rx_ac (rx_sd_cpL (M := m_X8_copyFrom Y) ⟨rfl, rfl, rfl⟩ kw_281 kw_26 kw_27 kw_28 (Nat.le_of_ble_eq_true rfl) dX8_copyFrom_30) ?_
  refine rx_ac (rx_sd_aload_n dX8_copyFrom_33 rfl) ?_
  refine rx_ac (rx_sd_get (C := RX8) (T := TX8) (N := 4) in_X8 rfl (by decide) kw_282 dX8_copyFrom_34) ?_
  refine rx_ac (rx_sd_iconst dX8_copyFrom_37 (by decide)) ?_
  refine rx_ac (rx_sd_aload_n dX8_copyFrom_38 rfl) ?_
  refine rx_ac (rx_sd_get (C := RX8) (T := TX8) (N := 4) in_X8 rfl (by decide) kw_282 dX8_copyFrom_39) ?_
  refine rx_ac (rx_sd_iconst dX8_copyFrom_42 (by decide)) ?_
  refine rx_ac (rx_sd_aload_n dX8_copyFrom_43 rfl) ?_
  refine rx_ac (rx_sd_get (C := RX8) (T := TX8) (N := 4) in_X8 rfl (by decide) kw_280 dX8_copyFrom_44) ?_
  refine rx_ac (rx_sd_aload_n dX8_copyFrom_47 rfl) ?_
  refine rx_ac (rx_sd_get (C := RX8) (T := TX8) (N := 4) in_X8 rfl (by decide) kw_283 dX8_copyFrom_48) ?_
  refine rx_ac (rx_sd_imul dX8_copyFrom_51) ?_
  refine rx_ac (rx_sd_cpI (M := m_X8_copyFrom Y) ⟨rfl, rfl, rfl⟩ kw_281 kw_26 kw_27 kw_28 (Nat.le_of_ble_eq_true rfl) dX8_copyFrom_52) ?_
  refine rx_ac (rx_sd_ret0 (M := m_X8_copyFrom Y) rfl dX8_copyFrom_55) ?_
  exact rx_an
set_option maxRecDepth 100000 in
set_option maxHeartbeats 4000000 in
theorem s_X8_find {l : Launch} {D : va_G} {cy : Nat → ClassId} {σ : Nat → Int32} {Y : rx_Y} (hY : rx_YOk Y σ) : ∀ q ∈ p_X8_find Y, rx_Sd (gG l D cy σ) (mt Y) (m_X8_find Y) q.1 q.2 := by
  unfold p_X8_find
  refine rx_ac (rx_sd_iload_n dX8_find_0 rfl) ?_
  refine rx_ac (rx_sd_istore_n (M := m_X8_find Y) dX8_find_1 rfl) ?_
  refine rx_ac (rx_sd_aload_n dX8_find_2 rfl) ?_
  refine rx_ac (rx_sd_get (C := RX8) (T := TX8) (N := 4) in_X8 rfl (by decide) kw_280 dX8_find_3) ?_
  refine rx_ac (rx_sd_iconst dX8_find_6 (by decide)) ?_
  refine rx_ac (rx_sd_isub dX8_find_7) ?_
  refine rx_ac (rx_sd_istore (M := m_X8_find Y) dX8_find_8) ?_
  refine rx_ac (rx_sd_iconst dX8_find_10 (by decide)) ?_
  refine rx_ac (rx_sd_istore (M := m_X8_find Y) dX8_find_11) ?_
  refine rx_ac (rx_sd_iload dX8_find_13) ?_
  refine rx_ac (rx_sd_sipush dX8_find_15 (by decide)) ?_
  refine rx_ac (rx_sd_icmp_ge hY dX8_find_18 (by decide)) ?_
  refine rx_ac (rx_sd_iload_n dX8_find_21 rfl) ?_
  refine rx_ac (rx_sd_iload dX8_find_22) ?_
  refine rx_ac (rx_sd_icmp_gt hY dX8_find_24 (by decide)) ?_
  refine rx_ac (rx_sd_iload_n dX8_find_27 rfl) ?_
  refine rx_ac (rx_sd_iload dX8_find_28) ?_
  refine rx_ac (rx_sd_iadd dX8_find_30) ?_
  refine rx_ac (rx_sd_iconst dX8_find_31 (by decide)) ?_
  refine rx_ac (rx_sd_iushr dX8_find_32) ?_
  refine rx_ac (rx_sd_istore (M := m_X8_find Y) dX8_find_33) ?_
  refine rx_ac (rx_sd_iload dX8_find_35) ?_
  refine rx_ac (rx_sd_aload_n dX8_find_37 rfl) ?_
  refine rx_ac (rx_sd_get (C := RX8) (T := TX8) (N := 4) in_X8 rfl (by decide) kw_283 dX8_find_38) ?_
  refine rx_ac (rx_sd_imul dX8_find_41) ?_
  refine rx_ac (rx_sd_istore (M := m_X8_find Y) dX8_find_42) ?_
  refine rx_ac (rx_sd_iconst dX8_find_44 (by decide)) ?_
  refine rx_ac (rx_sd_istore (M := m_X8_find Y) dX8_find_45) ?_
  refine rx_ac (rx_sd_iload dX8_find_47) ?_
  refine rx_ac (rx_sd_aload_n dX8_find_49 rfl) ?_
  refine rx_ac (rx_sd_get (C := RX8) (T := TX8) (N := 4) in_X8 rfl (by decide) kw_283 dX8_find_50) ?_
  refine rx_ac (rx_sd_icmp_ge hY dX8_find_53 (by decide)) ?_
  refine rx_ac (rx_sd_aload_n dX8_find_56 rfl) ?_
  refine rx_ac (rx_sd_get (C := RX8) (T := TX8) (N := 4) in_X8 rfl (by decide) kw_282 dX8_find_57) ?_
  refine rx_ac (rx_sd_iload dX8_find_60) ?_
  refine rx_ac (rx_sd_iload dX8_find_62) ?_
  refine rx_ac (rx_sd_iadd dX8_find_64) ?_
  refine rx_ac (rx_sd_iald ⟨rfl, rfl, rfl⟩ dX8_find_65) ?_
  refine rx_ac (rx_sd_aload_n dX8_find_66 rfl) ?_
  refine rx_ac (rx_sd_iload dX8_find_67) ?_
  refine rx_ac (rx_sd_iald ⟨rfl, rfl, rfl⟩ dX8_find_69) ?_
  refine rx_ac (rx_sd_icmp_ne hY dX8_find_70 (by decide)) ?_
  refine rx_ac (rx_sd_iinc (M := m_X8_find Y) dX8_find_73 (by decide)) ?_
  refine rx_ac (rx_sd_goto dX8_find_76 (by decide)) ?_
  refine rx_ac (rx_sd_iload dX8_find_79) ?_
  refine rx_ac (rx_sd_aload_n dX8_find_81 rfl) ?_
  refine rx_ac (rx_sd_get (C := RX8) (T := TX8) (N := 4) in_X8 rfl (by decide) kw_283 dX8_find_82) ?_
  refine rx_ac (rx_sd_icmp_ne hY dX8_find_85 (by decide)) ?_
  refine rx_ac (rx_sd_iload dX8_find_88) ?_
  refine rx_ac (rx_sd_retI (M := m_X8_find Y) rfl (Or.inl rfl) dX8_find_90) ?_
  refine rx_ac (rx_sd_iconst dX8_find_128 (by decide)) ?_
  refine rx_ac (rx_sd_iload_n dX8_find_129 rfl) ?_
  refine rx_ac (rx_sd_isub dX8_find_130) ?_
  refine rx_ac (rx_sd_retI (M := m_X8_find Y) rfl (Or.inl rfl) dX8_find_131) ?_
  exact rx_an
