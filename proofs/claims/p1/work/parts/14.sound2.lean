set_option maxRecDepth 100000 in
set_option maxHeartbeats 4000000 in
theorem s_X8_hasVariable {l : Launch} {D : va_G} {cy : Nat → ClassId} {σ : Nat → Int32} {Y : rx_Y} (hY : rx_YOk Y σ) : ∀ q ∈ p_X8_hasVariable Y, rx_Sd (gG l D cy σ) (mt Y) (m_X8_hasVariable Y) q.1 q.2 := by
  unfold p_X8_hasVariable
  refine rx_ac (rx_sd_iload_n dX8_hasVariable_0 rfl) ?_
  refine rx_ac (rx_sd_if_lt hY dX8_hasVariable_1 (by decide)) ?_
  refine rx_ac (rx_sd_iload_n dX8_hasVariable_4 rfl) ?_
  refine rx_ac (rx_sd_aload_n dX8_hasVariable_5 rfl) ?_
  refine rx_ac (rx_sd_get (C := RX8) (T := TX8) (N := 4) in_X8 rfl (by decide) kw_283 dX8_hasVariable_6) ?_
  refine rx_ac (rx_sd_icmp_ge hY dX8_hasVariable_9 (by decide)) ?_
  refine rx_ac (rx_sd_iconst dX8_hasVariable_12 (by decide)) ?_
  refine rx_ac (rx_sd_goto dX8_hasVariable_13 (by decide)) ?_
  refine rx_ac (rx_sd_iconst dX8_hasVariable_16 (by decide)) ?_
  refine rx_ac (rx_sd_retI (M := m_X8_hasVariable Y) rfl (Or.inr rfl) dX8_hasVariable_17) ?_
  exact rx_an
set_option maxRecDepth 100000 in
set_option maxHeartbeats 4000000 in
theorem s_X8_init {l : Launch} {D : va_G} {cy : Nat → ClassId} {σ : Nat → Int32} {Y : rx_Y} (hY : rx_YOk Y σ) : ∀ q ∈ p_X8_init Y, rx_Sd (gG l D cy σ) (mt Y) (m_X8_init Y) q.1 q.2 := by
  unfold p_X8_init
  refine rx_ac (rx_sd_aload_n dX8_init_0 rfl) ?_
  refine rx_ac (rx_sd_obj (M := m_X8_init Y) kw_285 kw_66 kw_objcode (Nat.le_of_ble_eq_true rfl) dX8_init_1) ?_
  refine rx_ac (rx_sd_aload_n dX8_init_4 rfl) ?_
  refine rx_ac (rx_sd_sipush dX8_init_5 (by decide)) ?_
  refine rx_ac (rx_sd_newL (M := m_X8_init Y) ⟨rfl, rfl, rfl⟩ kw_71 rfl dX8_init_8) ?_
  refine rx_ac (rx_sd_putf (C := RX8) (T := TX8) (N := 4) (ty0 := tyX8) in_X8 tyX8_ok nmX8 rfl (by decide) kw_278 (Or.inr ⟨rfl, rfl, rfl⟩) rfl dX8_init_10) ?_
  refine rx_ac (rx_sd_aload_n dX8_init_13 rfl) ?_
  refine rx_ac (rx_sd_sipush dX8_init_14 (by decide)) ?_
  refine rx_ac (rx_sd_newI (M := m_X8_init Y) ⟨rfl, rfl, rfl⟩ kw_69 rfl dX8_init_17) ?_
  refine rx_ac (rx_sd_putf (C := RX8) (T := TX8) (N := 4) (ty0 := tyX8) in_X8 tyX8_ok nmX8 rfl (by decide) kw_282 (Or.inr ⟨rfl, rfl, rfl⟩) rfl dX8_init_19) ?_
  refine rx_ac (rx_sd_ret0 (M := m_X8_init Y) rfl dX8_init_22) ?_
  exact rx_an
set_option maxRecDepth 100000 in
set_option maxHeartbeats 4000000 in
theorem s_X8_isLike {l : Launch} {D : va_G} {cy : Nat → ClassId} {σ : Nat → Int32} {Y : rx_Y} (hY : rx_YOk Y σ) : ∀ q ∈ p_X8_isLike Y, rx_Sd (gG l D cy σ) (mt Y) (m_X8_isLike Y) q.1 q.2 := by
  unfold p_X8_isLike
  refine rx_ac (rx_sd_aload_n dX8_isLike_0 rfl) ?_
  refine rx_ac (rx_sd_get (C := RX8) (T := TX8) (N := 4) in_X8 rfl (by decide) kw_280 dX8_isLike_1) ?_
  refine rx_ac (rx_sd_aload_n dX8_isLike_4 rfl) ?_
  refine rx_ac (rx_sd_get (C := RX8) (T := TX8) (N := 4) in_X8 rfl (by decide) kw_280 dX8_isLike_5) ?_
  refine rx_ac (rx_sd_icmp_ne hY dX8_isLike_8 (by decide)) ?_
  refine rx_ac (rx_sd_aload_n dX8_isLike_11 rfl) ?_
  refine rx_ac (rx_sd_get (C := RX8) (T := TX8) (N := 4) in_X8 rfl (by decide) kw_283 dX8_isLike_12) ?_
  refine rx_ac (rx_sd_aload_n dX8_isLike_15 rfl) ?_
  refine rx_ac (rx_sd_get (C := RX8) (T := TX8) (N := 4) in_X8 rfl (by decide) kw_283 dX8_isLike_16) ?_
  refine rx_ac (rx_sd_icmp_eq hY dX8_isLike_19 (by decide)) ?_
  refine rx_ac (rx_sd_iconst dX8_isLike_24 (by decide)) ?_
  refine rx_ac (rx_sd_istore_n (M := m_X8_isLike Y) dX8_isLike_25 rfl) ?_
  refine rx_ac (rx_sd_iload_n dX8_isLike_26 rfl) ?_
  refine rx_ac (rx_sd_aload_n dX8_isLike_27 rfl) ?_
  refine rx_ac (rx_sd_get (C := RX8) (T := TX8) (N := 4) in_X8 rfl (by decide) kw_280 dX8_isLike_28) ?_
  refine rx_ac (rx_sd_icmp_ge hY dX8_isLike_31 (by decide)) ?_
  refine rx_ac (rx_sd_aload_n dX8_isLike_34 rfl) ?_
  refine rx_ac (rx_sd_get (C := RX8) (T := TX8) (N := 4) in_X8 rfl (by decide) kw_278 dX8_isLike_35) ?_
  refine rx_ac (rx_sd_iload_n dX8_isLike_38 rfl) ?_
  refine rx_ac (rx_sd_lald ⟨rfl, rfl, rfl⟩ dX8_isLike_39) ?_
  refine rx_ac (rx_sd_aload_n dX8_isLike_40 rfl) ?_
  refine rx_ac (rx_sd_get (C := RX8) (T := TX8) (N := 4) in_X8 rfl (by decide) kw_278 dX8_isLike_41) ?_
  refine rx_ac (rx_sd_iload_n dX8_isLike_44 rfl) ?_
  refine rx_ac (rx_sd_lald ⟨rfl, rfl, rfl⟩ dX8_isLike_45) ?_
  refine rx_ac (rx_sd_lcmp dX8_isLike_46) ?_
  refine rx_ac (rx_sd_if_eq hY dX8_isLike_47 (by decide)) ?_
  refine rx_ac (rx_sd_iconst dX8_isLike_50 (by decide)) ?_
  refine rx_ac (rx_sd_retI (M := m_X8_isLike Y) rfl (Or.inr rfl) dX8_isLike_51) ?_
  exact rx_an
set_option maxRecDepth 100000 in
set_option maxHeartbeats 4000000 in
theorem s_X8_leastPower {l : Launch} {D : va_G} {cy : Nat → ClassId} {σ : Nat → Int32} {Y : rx_Y} (hY : rx_YOk Y σ) : ∀ q ∈ p_X8_leastPower Y, rx_Sd (gG l D cy σ) (mt Y) (m_X8_leastPower Y) q.1 q.2 := by
  unfold p_X8_leastPower
  refine rx_ac (rx_sd_aload_n dX8_leastPower_0 rfl) ?_
  refine rx_ac (rx_sd_get (C := RX8) (T := TX8) (N := 4) in_X8 rfl (by decide) kw_280 dX8_leastPower_1) ?_
  refine rx_ac (rx_sd_if_le hY dX8_leastPower_4 (by decide)) ?_
  refine rx_ac (rx_sd_aload_n dX8_leastPower_7 rfl) ?_
  refine rx_ac (rx_sd_get (C := RX8) (T := TX8) (N := 4) in_X8 rfl (by decide) kw_282 dX8_leastPower_8) ?_
  refine rx_ac (rx_sd_iload_n dX8_leastPower_11 rfl) ?_
  refine rx_ac (rx_sd_iald ⟨rfl, rfl, rfl⟩ dX8_leastPower_12) ?_
  refine rx_ac (rx_sd_goto dX8_leastPower_13 (by decide)) ?_
  refine rx_ac (rx_sd_istore_n (M := m_X8_leastPower Y) dX8_leastPower_17 rfl) ?_
  refine rx_ac (rx_sd_iconst dX8_leastPower_18 (by decide)) ?_
  refine rx_ac (rx_sd_istore_n (M := m_X8_leastPower Y) dX8_leastPower_19 rfl) ?_
  refine rx_ac (rx_sd_iload_n dX8_leastPower_20 rfl) ?_
  refine rx_ac (rx_sd_aload_n dX8_leastPower_21 rfl) ?_
  refine rx_ac (rx_sd_get (C := RX8) (T := TX8) (N := 4) in_X8 rfl (by decide) kw_280 dX8_leastPower_22) ?_
  refine rx_ac (rx_sd_icmp_ge hY dX8_leastPower_25 (by decide)) ?_
  refine rx_ac (rx_sd_iload_n dX8_leastPower_52 rfl) ?_
  refine rx_ac (rx_sd_retI (M := m_X8_leastPower Y) rfl (Or.inl rfl) dX8_leastPower_53) ?_
  exact rx_an
set_option maxRecDepth 100000 in
set_option maxHeartbeats 4000000 in
theorem s_X8_sum {l : Launch} {D : va_G} {cy : Nat → ClassId} {σ : Nat → Int32} {Y : rx_Y} (hY : rx_YOk Y σ) : ∀ q ∈ p_X8_sum Y, rx_Sd (gG l D cy σ) (mt Y) (m_X8_sum Y) q.1 q.2 := by
  unfold p_X8_sum
  refine rx_ac (rx_sd_lconst dX8_sum_0 (by decide)) ?_
  refine rx_ac (rx_sd_lstore_n (M := m_X8_sum Y) dX8_sum_1 rfl) ?_
  refine rx_ac (rx_sd_iconst dX8_sum_2 (by decide)) ?_
  refine rx_ac (rx_sd_istore_n (M := m_X8_sum Y) dX8_sum_3 rfl) ?_
  refine rx_ac (rx_sd_iload_n dX8_sum_4 rfl) ?_
  refine rx_ac (rx_sd_aload_n dX8_sum_5 rfl) ?_
  refine rx_ac (rx_sd_get (C := RX8) (T := TX8) (N := 4) in_X8 rfl (by decide) kw_280 dX8_sum_6) ?_
  refine rx_ac (rx_sd_icmp_ge hY dX8_sum_9 (by decide)) ?_
  refine rx_ac (rx_sd_lload_n dX8_sum_12 rfl) ?_
  refine rx_ac (rx_sd_aload_n dX8_sum_13 rfl) ?_
  refine rx_ac (rx_sd_get (C := RX8) (T := TX8) (N := 4) in_X8 rfl (by decide) kw_278 dX8_sum_14) ?_
  refine rx_ac (rx_sd_iload_n dX8_sum_17 rfl) ?_
  refine rx_ac (rx_sd_lald ⟨rfl, rfl, rfl⟩ dX8_sum_18) ?_
  refine rx_ac (rx_sd_ladd dX8_sum_19) ?_
  refine rx_ac (rx_sd_lstore_n (M := m_X8_sum Y) dX8_sum_20 rfl) ?_
  refine rx_ac (rx_sd_iinc (M := m_X8_sum Y) dX8_sum_21 (by decide)) ?_
  refine rx_ac (rx_sd_goto dX8_sum_24 (by decide)) ?_
  refine rx_ac (rx_sd_lload_n dX8_sum_27 rfl) ?_
  refine rx_ac (rx_sd_retL (M := m_X8_sum Y) rfl dX8_sum_28) ?_
  exact rx_an
set_option maxRecDepth 100000 in
set_option maxHeartbeats 4000000 in
theorem s_X9_all {l : Launch} {D : va_G} {cy : Nat → ClassId} {σ : Nat → Int32} {Y : rx_Y} (hY : rx_YOk Y σ) : ∀ q ∈ p_X9_all Y, rx_Sd (gG l D cy σ) (mt Y) (m_X9_all Y) q.1 q.2 := by
  unfold p_X9_all
  refine rx_ac (rx_sd_aload_n dX9_all_0 rfl) ?_
  refine rx_ac (rx_sd_get (C := RX9) (T := TX9) (N := 15) in_X9 rfl (by decide) kw_286 dX9_all_1) ?_
  refine rx_ac (rx_sd_aload_n dX9_all_4 rfl) ?_
  refine rx_ac (rx_sd_get (C := RX9) (T := TX9) (N := 15) in_X9 rfl (by decide) kw_287 dX9_all_5) ?_
  refine rx_ac (rx_sd_aload_n dX9_all_8 rfl) ?_
  refine rx_ac (rx_sd_get (C := RX9) (T := TX9) (N := 15) in_X9 rfl (by decide) kw_288 dX9_all_9) ?_
  refine rx_ac (rx_sd_cl (M := m_X9_all Y) (rx_lk_V gok (mid := 5) (ci := 0) (C := (RX0, TX0, 18)) ⟨kw_289, kw_4, hd_X0_explore, Nat.le_of_ble_eq_true rfl, Nat.le_of_ble_eq_true rfl⟩ rfl kw_290 kw_291 kw_292 dX9_all_12) (fun _ => ⟨_, rfl⟩) rfl rfl) ?_
  refine rx_ac (rx_sd_istore_n (M := m_X9_all Y) dX9_all_15 rfl) ?_
  refine rx_ac (rx_sd_aload_n dX9_all_16 rfl) ?_
  refine rx_ac (rx_sd_iload_n dX9_all_17 rfl) ?_
  refine rx_ac (rx_sd_iconst dX9_all_18 (by decide)) ?_
  refine rx_ac (rx_sd_mmax (M := m_X9_all Y) kw_293 kw_294 kw_230 kw_295 (Nat.le_of_ble_eq_true rfl) dX9_all_19) ?_
  refine rx_ac (rx_sd_putf (C := RX9) (T := TX9) (N := 15) (ty0 := tyX9) in_X9 tyX9_ok nmX9 rfl (by decide) kw_296 (Or.inl rfl) rfl dX9_all_22) ?_
  refine rx_ac (rx_sd_iload_n dX9_all_25 rfl) ?_
  refine rx_ac (rx_sd_retI (M := m_X9_all Y) rfl (Or.inl rfl) dX9_all_26) ?_
  exact rx_an
set_option maxRecDepth 100000 in
set_option maxHeartbeats 4000000 in
theorem s_X9_arrows {l : Launch} {D : va_G} {cy : Nat → ClassId} {σ : Nat → Int32} {Y : rx_Y} (hY : rx_YOk Y σ) : ∀ q ∈ p_X9_arrows Y, rx_Sd (gG l D cy σ) (mt Y) (m_X9_arrows Y) q.1 q.2 := by
  unfold p_X9_arrows
  refine rx_ac (rx_sd_aload_n dX9_arrows_0 rfl) ?_
  refine rx_ac (rx_sd_get (C := RX9) (T := TX9) (N := 15) in_X9 rfl (by decide) kw_297 dX9_arrows_1) ?_
  refine rx_ac (rx_sd_get (C := RX2) (T := TX2) (N := 5) in_X2 rfl (by decide) kw_298 dX9_arrows_4) ?_
  refine rx_ac (rx_sd_aload_n dX9_arrows_7 rfl) ?_
  refine rx_ac (rx_sd_get (C := RX9) (T := TX9) (N := 15) in_X9 rfl (by decide) kw_297 dX9_arrows_8) ?_
  refine rx_ac (rx_sd_get (C := RX2) (T := TX2) (N := 5) in_X2 rfl (by decide) kw_299 dX9_arrows_11) ?_
  refine rx_ac (rx_sd_iload_n dX9_arrows_14 rfl) ?_
  refine rx_ac (rx_sd_iload_n dX9_arrows_15 rfl) ?_
  refine rx_ac (rx_sd_cl (M := m_X9_arrows Y) (rx_lk_S gok (mid := 71) ⟨kw_300, kw_54, hd_X9_isCell, Nat.le_of_ble_eq_true rfl, Nat.le_of_ble_eq_true rfl⟩ kw_301 kw_302 dX9_arrows_16) (fun h => nomatch h) rfl rfl) ?_
  refine rx_ac (rx_sd_if_eq hY dX9_arrows_19 (by decide)) ?_
  refine rx_ac (rx_sd_iconst dX9_arrows_34 (by decide)) ?_
  refine rx_ac (rx_sd_retI (M := m_X9_arrows Y) rfl (Or.inr rfl) dX9_arrows_35) ?_
  exact rx_an
set_option maxRecDepth 100000 in
set_option maxHeartbeats 4000000 in
theorem s_X9_b {l : Launch} {D : va_G} {cy : Nat → ClassId} {σ : Nat → Int32} {Y : rx_Y} (hY : rx_YOk Y σ) : ∀ q ∈ p_X9_b Y, rx_Sd (gG l D cy σ) (mt Y) (m_X9_b Y) q.1 q.2 := by
  unfold p_X9_b
  refine rx_ac (rx_sd_aload_n dX9_b_0 rfl) ?_
  refine rx_ac (rx_sd_get (C := RX9) (T := TX9) (N := 15) in_X9 rfl (by decide) kw_287 dX9_b_1) ?_
  refine rx_ac (rx_sd_get (C := RX7) (T := TX7) (N := 6) in_X7 rfl (by decide) kw_303 dX9_b_4) ?_
  refine rx_ac (rx_sd_aload_n dX9_b_7 rfl) ?_
  refine rx_ac (rx_sd_get (C := RX9) (T := TX9) (N := 15) in_X9 rfl (by decide) kw_287 dX9_b_8) ?_
  refine rx_ac (rx_sd_get (C := RX7) (T := TX7) (N := 6) in_X7 rfl (by decide) kw_304 dX9_b_11) ?_
  refine rx_ac (rx_sd_iload_n dX9_b_14 rfl) ?_
  refine rx_ac (rx_sd_iload_n dX9_b_15 rfl) ?_
  refine rx_ac (rx_sd_cl (M := m_X9_b Y) (rx_lk_S gok (mid := 71) ⟨kw_300, kw_54, hd_X9_isCell, Nat.le_of_ble_eq_true rfl, Nat.le_of_ble_eq_true rfl⟩ kw_301 kw_302 dX9_b_16) (fun h => nomatch h) rfl rfl) ?_
  refine rx_ac (rx_sd_if_eq hY dX9_b_19 (by decide)) ?_
  refine rx_ac (rx_sd_aload_n dX9_b_22 rfl) ?_
  refine rx_ac (rx_sd_get (C := RX9) (T := TX9) (N := 15) in_X9 rfl (by decide) kw_287 dX9_b_23) ?_
  refine rx_ac (rx_sd_get (C := RX7) (T := TX7) (N := 6) in_X7 rfl (by decide) kw_305 dX9_b_26) ?_
  refine rx_ac (rx_sd_iload_n dX9_b_29 rfl) ?_
  refine rx_ac (rx_sd_bipush dX9_b_30 (by decide)) ?_
  refine rx_ac (rx_sd_imul dX9_b_32) ?_
  refine rx_ac (rx_sd_iload_n dX9_b_33 rfl) ?_
  refine rx_ac (rx_sd_iadd dX9_b_34) ?_
  refine rx_ac (rx_sd_iald ⟨rfl, rfl, rfl⟩ dX9_b_35) ?_
  refine rx_ac (rx_sd_goto dX9_b_36 (by decide)) ?_
  refine rx_ac (rx_sd_iconst dX9_b_39 (by decide)) ?_
  refine rx_ac (rx_sd_retI (M := m_X9_b Y) rfl (Or.inl rfl) dX9_b_40) ?_
  exact rx_an
set_option maxRecDepth 100000 in
set_option maxHeartbeats 4000000 in
theorem s_X9_back {l : Launch} {D : va_G} {cy : Nat → ClassId} {σ : Nat → Int32} {Y : rx_Y} (hY : rx_YOk Y σ) : ∀ q ∈ p_X9_back Y, rx_Sd (gG l D cy σ) (mt Y) (m_X9_back Y) q.1 q.2 := by
  unfold p_X9_back
  refine rx_ac (rx_sd_aload_n dX9_back_0 rfl) ?_
  refine rx_ac (rx_sd_get (C := RX9) (T := TX9) (N := 15) in_X9 rfl (by decide) kw_306 dX9_back_1) ?_
  refine rx_ac (rx_sd_iconst dX9_back_4 (by decide)) ?_
  refine rx_ac (rx_sd_icmp_lt hY dX9_back_5 (by decide)) ?_
  refine rx_ac (rx_sd_iconst dX9_back_17 (by decide)) ?_
  refine rx_ac (rx_sd_retI (M := m_X9_back Y) rfl (Or.inr rfl) dX9_back_18) ?_
  exact rx_an
set_option maxRecDepth 100000 in
set_option maxHeartbeats 4000000 in
theorem s_X9_begin {l : Launch} {D : va_G} {cy : Nat → ClassId} {σ : Nat → Int32} {Y : rx_Y} (hY : rx_YOk Y σ) : ∀ q ∈ p_X9_begin Y, rx_Sd (gG l D cy σ) (mt Y) (m_X9_begin Y) q.1 q.2 := by
  unfold p_X9_begin
  refine rx_ac (rx_sd_aload_n dX9_begin_0 rfl) ?_
  refine rx_ac (rx_sd_get (C := RX9) (T := TX9) (N := 15) in_X9 rfl (by decide) kw_297 dX9_begin_1) ?_
  refine rx_ac (rx_sd_get (C := RX2) (T := TX2) (N := 5) in_X2 rfl (by decide) kw_298 dX9_begin_4) ?_
  refine rx_ac (rx_sd_if_ne hY dX9_begin_7 (by decide)) ?_
  refine rx_ac (rx_sd_iconst dX9_begin_10 (by decide)) ?_
  refine rx_ac (rx_sd_retI (M := m_X9_begin Y) rfl (Or.inl rfl) dX9_begin_11) ?_
  exact rx_an
set_option maxRecDepth 100000 in
set_option maxHeartbeats 4000000 in
theorem s_X9_count {l : Launch} {D : va_G} {cy : Nat → ClassId} {σ : Nat → Int32} {Y : rx_Y} (hY : rx_YOk Y σ) : ∀ q ∈ p_X9_count Y, rx_Sd (gG l D cy σ) (mt Y) (m_X9_count Y) q.1 q.2 := by
  unfold p_X9_count
  refine rx_ac (rx_sd_iload_n dX9_count_0 rfl) ?_
  refine rx_ac (rx_sd_sw hY dX9_count_1 (by decide) (by decide)) ?_
  refine rx_ac (rx_sd_aload_n dX9_count_36 rfl) ?_
  refine rx_ac (rx_sd_get (C := RX9) (T := TX9) (N := 15) in_X9 rfl (by decide) kw_287 dX9_count_37) ?_
  refine rx_ac (rx_sd_get (C := RX7) (T := TX7) (N := 6) in_X7 rfl (by decide) kw_303 dX9_count_40) ?_
  refine rx_ac (rx_sd_retI (M := m_X9_count Y) rfl (Or.inl rfl) dX9_count_43) ?_
  refine rx_ac (rx_sd_aload_n dX9_count_44 rfl) ?_
  refine rx_ac (rx_sd_get (C := RX9) (T := TX9) (N := 15) in_X9 rfl (by decide) kw_287 dX9_count_45) ?_
  refine rx_ac (rx_sd_get (C := RX7) (T := TX7) (N := 6) in_X7 rfl (by decide) kw_304 dX9_count_48) ?_
  refine rx_ac (rx_sd_retI (M := m_X9_count Y) rfl (Or.inl rfl) dX9_count_51) ?_
  refine rx_ac (rx_sd_aload_n dX9_count_52 rfl) ?_
  refine rx_ac (rx_sd_get (C := RX9) (T := TX9) (N := 15) in_X9 rfl (by decide) kw_306 dX9_count_53) ?_
  refine rx_ac (rx_sd_retI (M := m_X9_count Y) rfl (Or.inl rfl) dX9_count_56) ?_
  refine rx_ac (rx_sd_aload_n dX9_count_57 rfl) ?_
  refine rx_ac (rx_sd_get (C := RX9) (T := TX9) (N := 15) in_X9 rfl (by decide) kw_287 dX9_count_58) ?_
  refine rx_ac (rx_sd_cl (M := m_X9_count Y) (rx_lk_V gok (mid := 45) (ci := 7) (C := (RX7, TX7, 6)) ⟨kw_307, kw_74, hd_X7_allTerms, Nat.le_of_ble_eq_true rfl, Nat.le_of_ble_eq_true rfl⟩ rfl kw_308 kw_309 kw_310 dX9_count_61) (fun _ => ⟨_, rfl⟩) rfl rfl) ?_
  refine rx_ac (rx_sd_retI (M := m_X9_count Y) rfl (Or.inl rfl) dX9_count_64) ?_
  refine rx_ac (rx_sd_aload_n dX9_count_65 rfl) ?_
  refine rx_ac (rx_sd_get (C := RX9) (T := TX9) (N := 15) in_X9 rfl (by decide) kw_296 dX9_count_66) ?_
  refine rx_ac (rx_sd_retI (M := m_X9_count Y) rfl (Or.inl rfl) dX9_count_69) ?_
  refine rx_ac (rx_sd_iconst dX9_count_70 (by decide)) ?_
  refine rx_ac (rx_sd_retI (M := m_X9_count Y) rfl (Or.inl rfl) dX9_count_71) ?_
  exact rx_an
set_option maxRecDepth 100000 in
set_option maxHeartbeats 4000000 in
theorem s_X9_fence {l : Launch} {D : va_G} {cy : Nat → ClassId} {σ : Nat → Int32} {Y : rx_Y} (hY : rx_YOk Y σ) : ∀ q ∈ p_X9_fence Y, rx_Sd (gG l D cy σ) (mt Y) (m_X9_fence Y) q.1 q.2 := by
  unfold p_X9_fence
  refine rx_ac (rx_sd_iload_n dX9_fence_0 rfl) ?_
  refine rx_ac (rx_sd_cl (M := m_X9_fence Y) (rx_lk_S gok (mid := 73) ⟨kw_311, kw_54, hd_X9_isSlot, Nat.le_of_ble_eq_true rfl, Nat.le_of_ble_eq_true rfl⟩ kw_312 kw_313 dX9_fence_1) (fun h => nomatch h) rfl rfl) ?_
  refine rx_ac (rx_sd_if_ne hY dX9_fence_4 (by decide)) ?_
  refine rx_ac (rx_sd_iconst dX9_fence_7 (by decide)) ?_
  refine rx_ac (rx_sd_retI (M := m_X9_fence Y) rfl (Or.inl rfl) dX9_fence_8) ?_
  refine rx_ac (rx_sd_aload_n dX9_fence_9 rfl) ?_
  refine rx_ac (rx_sd_get (C := RX9) (T := TX9) (N := 15) in_X9 rfl (by decide) kw_314 dX9_fence_10) ?_
  refine rx_ac (rx_sd_iload_n dX9_fence_13 rfl) ?_
  refine rx_ac (rx_sd_aald (t := 0) rfl dX9_fence_14) ?_
  refine rx_ac (rx_sd_astore (M := m_X9_fence Y) dX9_fence_15) ?_
  refine rx_ac (rx_sd_aload dX9_fence_17) ?_
  refine rx_ac (rx_sd_iload_n dX9_fence_19 rfl) ?_
  refine rx_ac (rx_sd_cl (M := m_X9_fence Y) (rx_lk_V gok (mid := 40) (ci := 6) (C := (RX6, TX6, 2)) ⟨kw_315, kw_134, hd_X6_isCorner, Nat.le_of_ble_eq_true rfl, Nat.le_of_ble_eq_true rfl⟩ rfl kw_316 kw_317 kw_318 dX9_fence_20) (fun _ => ⟨_, rfl⟩) rfl rfl) ?_
  refine rx_ac (rx_sd_if_eq hY dX9_fence_23 (by decide)) ?_
  refine rx_ac (rx_sd_aload dX9_fence_26) ?_
  refine rx_ac (rx_sd_iload_n dX9_fence_28 rfl) ?_
  refine rx_ac (rx_sd_cl (M := m_X9_fence Y) (rx_lk_V gok (mid := 40) (ci := 6) (C := (RX6, TX6, 2)) ⟨kw_315, kw_134, hd_X6_isCorner, Nat.le_of_ble_eq_true rfl, Nat.le_of_ble_eq_true rfl⟩ rfl kw_316 kw_317 kw_318 dX9_fence_29) (fun _ => ⟨_, rfl⟩) rfl rfl) ?_
  refine rx_ac (rx_sd_if_eq hY dX9_fence_32 (by decide)) ?_
  refine rx_ac (rx_sd_iload_n dX9_fence_35 rfl) ?_
  refine rx_ac (rx_sd_iload_n dX9_fence_36 rfl) ?_
  refine rx_ac (rx_sd_icmp_eq hY dX9_fence_37 (by decide)) ?_
  refine rx_ac (rx_sd_aload dX9_fence_40) ?_
  refine rx_ac (rx_sd_iload_n dX9_fence_42 rfl) ?_
  refine rx_ac (rx_sd_iload_n dX9_fence_43 rfl) ?_
  refine rx_ac (rx_sd_cl (M := m_X9_fence Y) (rx_lk_V gok (mid := 34) (ci := 6) (C := (RX6, TX6, 2)) ⟨kw_319, kw_134, hd_X6_areNeighbours, Nat.le_of_ble_eq_true rfl, Nat.le_of_ble_eq_true rfl⟩ rfl kw_320 kw_321 kw_322 dX9_fence_44) (fun _ => ⟨_, rfl⟩) rfl rfl) ?_
  refine rx_ac (rx_sd_if_eq hY dX9_fence_47 (by decide)) ?_
  refine rx_ac (rx_sd_iconst dX9_fence_50 (by decide)) ?_
  refine rx_ac (rx_sd_retI (M := m_X9_fence Y) rfl (Or.inl rfl) dX9_fence_51) ?_
  refine rx_ac (rx_sd_aload dX9_fence_52) ?_
  refine rx_ac (rx_sd_iload_n dX9_fence_54 rfl) ?_
  refine rx_ac (rx_sd_iload_n dX9_fence_55 rfl) ?_
  refine rx_ac (rx_sd_cl (M := m_X9_fence Y) (rx_lk_V gok (mid := 38) (ci := 6) (C := (RX6, TX6, 2)) ⟨kw_233, kw_134, hd_X6_has, Nat.le_of_ble_eq_true rfl, Nat.le_of_ble_eq_true rfl⟩ rfl kw_323 kw_235 kw_236 dX9_fence_56) (fun _ => ⟨_, rfl⟩) rfl rfl) ?_
  refine rx_ac (rx_sd_if_ne hY dX9_fence_59 (by decide)) ?_
  refine rx_ac (rx_sd_aload dX9_fence_62) ?_
  refine rx_ac (rx_sd_iload_n dX9_fence_64 rfl) ?_
  refine rx_ac (rx_sd_iload_n dX9_fence_65 rfl) ?_
  refine rx_ac (rx_sd_mmin (M := m_X9_fence Y) kw_324 kw_325 kw_230 kw_326 (Nat.le_of_ble_eq_true rfl) dX9_fence_66) ?_
  refine rx_ac (rx_sd_iload_n dX9_fence_69 rfl) ?_
  refine rx_ac (rx_sd_iload_n dX9_fence_70 rfl) ?_
  refine rx_ac (rx_sd_mmax (M := m_X9_fence Y) kw_293 kw_294 kw_230 kw_295 (Nat.le_of_ble_eq_true rfl) dX9_fence_71) ?_
  refine rx_ac (rx_sd_cl (M := m_X9_fence Y) (rx_lk_V gok (mid := 41) (ci := 6) (C := (RX6, TX6, 2)) ⟨kw_327, kw_134, hd_X6_isCrossed, Nat.le_of_ble_eq_true rfl, Nat.le_of_ble_eq_true rfl⟩ rfl kw_328 kw_329 kw_330 dX9_fence_74) (fun _ => ⟨_, rfl⟩) rfl rfl) ?_
  refine rx_ac (rx_sd_if_eq hY dX9_fence_77 (by decide)) ?_
  refine rx_ac (rx_sd_aload dX9_fence_82) ?_
  refine rx_ac (rx_sd_dup dX9_fence_84) ?_
  refine rx_ac (rx_sd_get (C := RX6) (T := TX6) (N := 2) in_X6 rfl (by decide) kw_331 dX9_fence_85) ?_
  refine rx_ac (rx_sd_iload_n dX9_fence_88 rfl) ?_
  refine rx_ac (rx_sd_iload_n dX9_fence_89 rfl) ?_
  refine rx_ac (rx_sd_cl (M := m_X9_fence Y) (rx_lk_S gok (mid := 35) ⟨kw_242, kw_134, hd_X6_bit, Nat.le_of_ble_eq_true rfl, Nat.le_of_ble_eq_true rfl⟩ kw_332 kw_244 dX9_fence_90) (fun h => nomatch h) rfl rfl) ?_
  refine rx_ac (rx_sd_lor dX9_fence_93) ?_
  refine rx_ac (rx_sd_putf (C := RX6) (T := TX6) (N := 2) (ty0 := tyX6) in_X6 tyX6_ok nmX6 rfl (by decide) kw_331 (Or.inl rfl) rfl dX9_fence_94) ?_
  refine rx_ac (rx_sd_aload dX9_fence_97) ?_
  refine rx_ac (rx_sd_cl (M := m_X9_fence Y) (rx_lk_V gok (mid := 37) (ci := 6) (C := (RX6, TX6, 2)) ⟨kw_246, kw_134, hd_X6_fenceCount, Nat.le_of_ble_eq_true rfl, Nat.le_of_ble_eq_true rfl⟩ rfl kw_333 kw_248 kw_249 dX9_fence_99) (fun _ => ⟨_, rfl⟩) rfl rfl) ?_
  refine rx_ac (rx_sd_retI (M := m_X9_fence Y) rfl (Or.inl rfl) dX9_fence_102) ?_
  exact rx_an
set_option maxRecDepth 100000 in
set_option maxHeartbeats 4000000 in
theorem s_X9_finite {l : Launch} {D : va_G} {cy : Nat → ClassId} {σ : Nat → Int32} {Y : rx_Y} (hY : rx_YOk Y σ) : ∀ q ∈ p_X9_finite Y, rx_Sd (gG l D cy σ) (mt Y) (m_X9_finite Y) q.1 q.2 := by
  unfold p_X9_finite
  refine rx_ac (rx_sd_aload_n dX9_finite_0 rfl) ?_
  refine rx_ac (rx_sd_get (C := RX9) (T := TX9) (N := 15) in_X9 rfl (by decide) kw_334 dX9_finite_1) ?_
  refine rx_ac (rx_sd_aload_n dX9_finite_4 rfl) ?_
  refine rx_ac (rx_sd_get (C := RX9) (T := TX9) (N := 15) in_X9 rfl (by decide) kw_287 dX9_finite_5) ?_
  refine rx_ac (rx_sd_get (C := RX7) (T := TX7) (N := 6) in_X7 rfl (by decide) kw_305 dX9_finite_8) ?_
  refine rx_ac (rx_sd_aload_n dX9_finite_11 rfl) ?_
  refine rx_ac (rx_sd_get (C := RX9) (T := TX9) (N := 15) in_X9 rfl (by decide) kw_287 dX9_finite_12) ?_
  refine rx_ac (rx_sd_get (C := RX7) (T := TX7) (N := 6) in_X7 rfl (by decide) kw_303 dX9_finite_15) ?_
  refine rx_ac (rx_sd_aload_n dX9_finite_18 rfl) ?_
  refine rx_ac (rx_sd_get (C := RX9) (T := TX9) (N := 15) in_X9 rfl (by decide) kw_335 dX9_finite_19) ?_
  refine rx_ac (rx_sd_cl (M := m_X9_finite Y) (rx_lk_V gok (mid := 23) (ci := 4) (C := (RX4, TX4, 6)) ⟨kw_336, kw_145, hd_X4_judge, Nat.le_of_ble_eq_true rfl, Nat.le_of_ble_eq_true rfl⟩ rfl kw_337 kw_338 kw_339 dX9_finite_22) (fun _ => ⟨_, rfl⟩) rfl rfl) ?_
  refine rx_ac (rx_sd_retI (M := m_X9_finite Y) rfl (Or.inl rfl) dX9_finite_25) ?_
  exact rx_an
set_option maxRecDepth 100000 in
set_option maxHeartbeats 4000000 in
theorem s_X9_flip {l : Launch} {D : va_G} {cy : Nat → ClassId} {σ : Nat → Int32} {Y : rx_Y} (hY : rx_YOk Y σ) : ∀ q ∈ p_X9_flip Y, rx_Sd (gG l D cy σ) (mt Y) (m_X9_flip Y) q.1 q.2 := by
  unfold p_X9_flip
  refine rx_ac (rx_sd_iload_n dX9_flip_0 rfl) ?_
  refine rx_ac (rx_sd_cl (M := m_X9_flip Y) (rx_lk_S gok (mid := 73) ⟨kw_311, kw_54, hd_X9_isSlot, Nat.le_of_ble_eq_true rfl, Nat.le_of_ble_eq_true rfl⟩ kw_312 kw_313 dX9_flip_1) (fun h => nomatch h) rfl rfl) ?_
  refine rx_ac (rx_sd_if_eq hY dX9_flip_4 (by decide)) ?_
  refine rx_ac (rx_sd_aload_n dX9_flip_7 rfl) ?_
  refine rx_ac (rx_sd_get (C := RX9) (T := TX9) (N := 15) in_X9 rfl (by decide) kw_314 dX9_flip_8) ?_
  refine rx_ac (rx_sd_iload_n dX9_flip_11 rfl) ?_
  refine rx_ac (rx_sd_aald (t := 0) rfl dX9_flip_12) ?_
  refine rx_ac (rx_sd_cl (M := m_X9_flip Y) (rx_lk_V gok (mid := 42) (ci := 6) (C := (RX6, TX6, 2)) ⟨kw_250, kw_134, hd_X6_isCut, Nat.le_of_ble_eq_true rfl, Nat.le_of_ble_eq_true rfl⟩ rfl kw_340 kw_252 kw_253 dX9_flip_13) (fun _ => ⟨_, rfl⟩) rfl rfl) ?_
  refine rx_ac (rx_sd_if_ne hY dX9_flip_16 (by decide)) ?_
  refine rx_ac (rx_sd_iconst dX9_flip_19 (by decide)) ?_
  refine rx_ac (rx_sd_retI (M := m_X9_flip Y) rfl (Or.inl rfl) dX9_flip_20) ?_
  exact rx_an
set_option maxRecDepth 100000 in
set_option maxHeartbeats 4000000 in
theorem s_X9_frieze {l : Launch} {D : va_G} {cy : Nat → ClassId} {σ : Nat → Int32} {Y : rx_Y} (hY : rx_YOk Y σ) : ∀ q ∈ p_X9_frieze Y, rx_Sd (gG l D cy σ) (mt Y) (m_X9_frieze Y) q.1 q.2 := by
  unfold p_X9_frieze
  refine rx_ac (rx_sd_iload_n dX9_frieze_0 rfl) ?_
  refine rx_ac (rx_sd_cl (M := m_X9_frieze Y) (rx_lk_S gok (mid := 73) ⟨kw_311, kw_54, hd_X9_isSlot, Nat.le_of_ble_eq_true rfl, Nat.le_of_ble_eq_true rfl⟩ kw_312 kw_313 dX9_frieze_1) (fun h => nomatch h) rfl rfl) ?_
  refine rx_ac (rx_sd_if_eq hY dX9_frieze_4 (by decide)) ?_
  refine rx_ac (rx_sd_aload_n dX9_frieze_7 rfl) ?_
  refine rx_ac (rx_sd_get (C := RX9) (T := TX9) (N := 15) in_X9 rfl (by decide) kw_314 dX9_frieze_8) ?_
  refine rx_ac (rx_sd_iload_n dX9_frieze_11 rfl) ?_
  refine rx_ac (rx_sd_aald (t := 0) rfl dX9_frieze_12) ?_
  refine rx_ac (rx_sd_cl (M := m_X9_frieze Y) (rx_lk_V gok (mid := 42) (ci := 6) (C := (RX6, TX6, 2)) ⟨kw_250, kw_134, hd_X6_isCut, Nat.le_of_ble_eq_true rfl, Nat.le_of_ble_eq_true rfl⟩ rfl kw_340 kw_252 kw_253 dX9_frieze_13) (fun _ => ⟨_, rfl⟩) rfl rfl) ?_
  refine rx_ac (rx_sd_if_eq hY dX9_frieze_16 (by decide)) ?_
  refine rx_ac (rx_sd_lconst dX9_frieze_32 (by decide)) ?_
  refine rx_ac (rx_sd_retL (M := m_X9_frieze Y) rfl dX9_frieze_33) ?_
  exact rx_an
set_option maxRecDepth 100000 in
set_option maxHeartbeats 4000000 in
theorem s_X9_goes {l : Launch} {D : va_G} {cy : Nat → ClassId} {σ : Nat → Int32} {Y : rx_Y} (hY : rx_YOk Y σ) : ∀ q ∈ p_X9_goes Y, rx_Sd (gG l D cy σ) (mt Y) (m_X9_goes Y) q.1 q.2 := by
  unfold p_X9_goes
  refine rx_ac (rx_sd_iload_n dX9_goes_0 rfl) ?_
  refine rx_ac (rx_sd_if_lt hY dX9_goes_1 (by decide)) ?_
  refine rx_ac (rx_sd_iload_n dX9_goes_4 rfl) ?_
  refine rx_ac (rx_sd_aload_n dX9_goes_5 rfl) ?_
  refine rx_ac (rx_sd_get (C := RX9) (T := TX9) (N := 15) in_X9 rfl (by decide) kw_341 dX9_goes_6) ?_
  refine rx_ac (rx_sd_get (C := RX3) (T := TX3) (N := 3) in_X3 rfl (by decide) kw_342 dX9_goes_9) ?_
  refine rx_ac (rx_sd_icmp_lt hY dX9_goes_12 (by decide)) ?_
  refine rx_ac (rx_sd_iconst dX9_goes_15 (by decide)) ?_
  refine rx_ac (rx_sd_goto dX9_goes_16 (by decide)) ?_
  refine rx_ac (rx_sd_retI (M := m_X9_goes Y) rfl (Or.inl rfl) dX9_goes_28) ?_
  exact rx_an
set_option maxRecDepth 100000 in
set_option maxHeartbeats 4000000 in
theorem s_X9_init {l : Launch} {D : va_G} {cy : Nat → ClassId} {σ : Nat → Int32} {Y : rx_Y} (hY : rx_YOk Y σ) : ∀ q ∈ p_X9_init Y, rx_Sd (gG l D cy σ) (mt Y) (m_X9_init Y) q.1 q.2 := by
  unfold p_X9_init
  refine rx_ac (rx_sd_aload_n dX9_init_0 rfl) ?_
  refine rx_ac (rx_sd_obj (M := m_X9_init Y) kw_343 kw_66 kw_objcode (Nat.le_of_ble_eq_true rfl) dX9_init_1) ?_
  refine rx_ac (rx_sd_aload_n dX9_init_4 rfl) ?_
  refine rx_ac (rx_sd_new (M := m_X9_init Y) (C := RX7) (T := TX7) (N := 6) (ty := tyX7) in_X7 tyX7_ok rfl kw_344 kw_73 kw_74 df_X7 rfl (cs_X7 σ) dX9_init_5) ?_
  refine rx_ac (rx_sd_dup dX9_init_8) ?_
  refine rx_ac (rx_sd_cl (M := m_X9_init Y) (rx_lk_I gok (mid := 47) (ci := 7) (C := (RX7, TX7, 6)) ⟨kw_75, kw_74, hd_X7_init, Nat.le_of_ble_eq_true rfl, Nat.le_of_ble_eq_true rfl⟩ rfl rfl kw_345 kw_77 rfl dX9_init_9) (fun _ => ⟨_, rfl⟩) rfl rfl) ?_
  refine rx_ac (rx_sd_putf (C := RX9) (T := TX9) (N := 15) (ty0 := tyX9) in_X9 tyX9_ok nmX9 rfl (by decide) kw_287 (Or.inr ⟨rfl, rfl, rfl⟩) rfl dX9_init_12) ?_
  refine rx_ac (rx_sd_aload_n dX9_init_15 rfl) ?_
  refine rx_ac (rx_sd_new (M := m_X9_init Y) (C := RX2) (T := TX2) (N := 5) (ty := tyX2) in_X2 tyX2_ok rfl kw_346 kw_347 kw_348 df_X2 rfl (cs_X2 σ) dX9_init_16) ?_
  refine rx_ac (rx_sd_dup dX9_init_19) ?_
  refine rx_ac (rx_sd_cl (M := m_X9_init Y) (rx_lk_IN gok (host := "SeedBench") (mid := 18) (ci := 2) (C := (RX2, TX2, 5)) ⟨kw_349, kw_348, hd_X2_init, Nat.le_of_ble_eq_true rfl, Nat.le_of_ble_eq_true rfl⟩ rfl rfl (List.mem_of_getElem? (i := 1) rfl) kw_350 rfl dX9_init_20) (fun _ => ⟨_, rfl⟩) rfl rfl) ?_
  refine rx_ac (rx_sd_putf (C := RX9) (T := TX9) (N := 15) (ty0 := tyX9) in_X9 tyX9_ok nmX9 rfl (by decide) kw_297 (Or.inr ⟨rfl, rfl, rfl⟩) rfl dX9_init_23) ?_
  refine rx_ac (rx_sd_aload_n dX9_init_26 rfl) ?_
  refine rx_ac (rx_sd_new (M := m_X9_init Y) (C := RX5) (T := TX5) (N := 7) (ty := tyX5) in_X5 tyX5_ok rfl kw_351 kw_352 kw_49 df_X5 rfl (cs_X5 σ) dX9_init_27) ?_
  refine rx_ac (rx_sd_dup dX9_init_30) ?_
  refine rx_ac (rx_sd_cl (M := m_X9_init Y) (rx_lk_IN gok (host := "SeedBench") (mid := 30) (ci := 5) (C := (RX5, TX5, 7)) ⟨kw_353, kw_49, hd_X5_init, Nat.le_of_ble_eq_true rfl, Nat.le_of_ble_eq_true rfl⟩ rfl rfl (List.mem_of_getElem? (i := 2) rfl) kw_354 rfl dX9_init_31) (fun _ => ⟨_, rfl⟩) rfl rfl) ?_
  refine rx_ac (rx_sd_putf (C := RX9) (T := TX9) (N := 15) (ty0 := tyX9) in_X9 tyX9_ok nmX9 rfl (by decide) kw_288 (Or.inr ⟨rfl, rfl, rfl⟩) rfl dX9_init_34) ?_
  refine rx_ac (rx_sd_aload_n dX9_init_37 rfl) ?_
  refine rx_ac (rx_sd_bipush dX9_init_38 (by decide)) ?_
  refine rx_ac (rx_sd_newI (M := m_X9_init Y) ⟨rfl, rfl, rfl⟩ kw_69 rfl dX9_init_40) ?_
  refine rx_ac (rx_sd_putf (C := RX9) (T := TX9) (N := 15) (ty0 := tyX9) in_X9 tyX9_ok nmX9 rfl (by decide) kw_355 (Or.inr ⟨rfl, rfl, rfl⟩) rfl dX9_init_42) ?_
  refine rx_ac (rx_sd_aload_n dX9_init_45 rfl) ?_
  refine rx_ac (rx_sd_iconst dX9_init_46 (by decide)) ?_
  refine rx_ac (rx_sd_newq (M := m_X9_init Y) (t := 1) (C := "SeedBench$Seed") rfl (List.mem_of_getElem? (i := 1) rfl) kw_344 dX9_init_47) ?_
  refine rx_ac (rx_sd_putf (C := RX9) (T := TX9) (N := 15) (ty0 := tyX9) in_X9 tyX9_ok nmX9 rfl (by decide) kw_356 (Or.inr ⟨rfl, rfl, rfl⟩) rfl dX9_init_50) ?_
  refine rx_ac (rx_sd_aload_n dX9_init_53 rfl) ?_
  refine rx_ac (rx_sd_bipush dX9_init_54 (by decide)) ?_
  refine rx_ac (rx_sd_newI (M := m_X9_init Y) ⟨rfl, rfl, rfl⟩ kw_69 rfl dX9_init_56) ?_
  refine rx_ac (rx_sd_putf (C := RX9) (T := TX9) (N := 15) (ty0 := tyX9) in_X9 tyX9_ok nmX9 rfl (by decide) kw_357 (Or.inr ⟨rfl, rfl, rfl⟩) rfl dX9_init_58) ?_
  refine rx_ac (rx_sd_aload_n dX9_init_61 rfl) ?_
  refine rx_ac (rx_sd_new (M := m_X9_init Y) (C := RX7) (T := TX7) (N := 6) (ty := tyX7) in_X7 tyX7_ok rfl kw_344 kw_73 kw_74 df_X7 rfl (cs_X7 σ) dX9_init_62) ?_
  refine rx_ac (rx_sd_dup dX9_init_65) ?_
  refine rx_ac (rx_sd_cl (M := m_X9_init Y) (rx_lk_I gok (mid := 47) (ci := 7) (C := (RX7, TX7, 6)) ⟨kw_75, kw_74, hd_X7_init, Nat.le_of_ble_eq_true rfl, Nat.le_of_ble_eq_true rfl⟩ rfl rfl kw_345 kw_77 rfl dX9_init_66) (fun _ => ⟨_, rfl⟩) rfl rfl) ?_
  refine rx_ac (rx_sd_putf (C := RX9) (T := TX9) (N := 15) (ty0 := tyX9) in_X9 tyX9_ok nmX9 rfl (by decide) kw_358 (Or.inr ⟨rfl, rfl, rfl⟩) rfl dX9_init_69) ?_
  refine rx_ac (rx_sd_aload_n dX9_init_72 rfl) ?_
  refine rx_ac (rx_sd_new (M := m_X9_init Y) (C := RX0) (T := TX0) (N := 18) (ty := tyX0) in_X0 tyX0_ok rfl kw_359 kw_360 kw_4 df_X0 rfl (cs_X0 σ) dX9_init_73) ?_
  refine rx_ac (rx_sd_dup dX9_init_76) ?_
  refine rx_ac (rx_sd_cl (M := m_X9_init Y) (rx_lk_I gok (mid := 7) (ci := 0) (C := (RX0, TX0, 18)) ⟨kw_361, kw_4, hd_X0_init, Nat.le_of_ble_eq_true rfl, Nat.le_of_ble_eq_true rfl⟩ rfl rfl kw_362 kw_363 rfl dX9_init_77) (fun _ => ⟨_, rfl⟩) rfl rfl) ?_
  refine rx_ac (rx_sd_putf (C := RX9) (T := TX9) (N := 15) (ty0 := tyX9) in_X9 tyX9_ok nmX9 rfl (by decide) kw_286 (Or.inr ⟨rfl, rfl, rfl⟩) rfl dX9_init_80) ?_
  refine rx_ac (rx_sd_aload_n dX9_init_83 rfl) ?_
  refine rx_ac (rx_sd_new (M := m_X9_init Y) (C := RX1) (T := TX1) (N := 6) (ty := tyX1) in_X1 tyX1_ok rfl kw_364 kw_365 kw_116 df_X1 rfl (cs_X1 σ) dX9_init_84) ?_
  refine rx_ac (rx_sd_dup dX9_init_87) ?_
  refine rx_ac (rx_sd_cl (M := m_X9_init Y) (rx_lk_IN gok (host := "SeedBench") (mid := 16) (ci := 1) (C := (RX1, TX1, 6)) ⟨kw_366, kw_116, hd_X1_init, Nat.le_of_ble_eq_true rfl, Nat.le_of_ble_eq_true rfl⟩ rfl rfl (List.mem_of_getElem? (i := 5) rfl) kw_367 rfl dX9_init_88) (fun _ => ⟨_, rfl⟩) rfl rfl) ?_
  refine rx_ac (rx_sd_putf (C := RX9) (T := TX9) (N := 15) (ty0 := tyX9) in_X9 tyX9_ok nmX9 rfl (by decide) kw_335 (Or.inr ⟨rfl, rfl, rfl⟩) rfl dX9_init_91) ?_
  refine rx_ac (rx_sd_aload_n dX9_init_94 rfl) ?_
  refine rx_ac (rx_sd_new (M := m_X9_init Y) (C := RX4) (T := TX4) (N := 6) (ty := tyX4) in_X4 tyX4_ok rfl kw_368 kw_369 kw_145 df_X4 rfl (cs_X4 σ) dX9_init_95) ?_
  refine rx_ac (rx_sd_dup dX9_init_98) ?_
  refine rx_ac (rx_sd_cl (M := m_X9_init Y) (rx_lk_IN gok (host := "SeedBench") (mid := 21) (ci := 4) (C := (RX4, TX4, 6)) ⟨kw_370, kw_145, hd_X4_init, Nat.le_of_ble_eq_true rfl, Nat.le_of_ble_eq_true rfl⟩ rfl rfl (List.mem_of_getElem? (i := 6) rfl) kw_371 rfl dX9_init_99) (fun _ => ⟨_, rfl⟩) rfl rfl) ?_
  refine rx_ac (rx_sd_putf (C := RX9) (T := TX9) (N := 15) (ty0 := tyX9) in_X9 tyX9_ok nmX9 rfl (by decide) kw_334 (Or.inr ⟨rfl, rfl, rfl⟩) rfl dX9_init_102) ?_
  refine rx_ac (rx_sd_aload_n dX9_init_105 rfl) ?_
  refine rx_ac (rx_sd_iconst dX9_init_106 (by decide)) ?_
  refine rx_ac (rx_sd_newq (M := m_X9_init Y) (t := 0) (C := "SeedBench$Ring") rfl (List.mem_of_getElem? (i := 0) rfl) kw_372 dX9_init_107) ?_
  refine rx_ac (rx_sd_putf (C := RX9) (T := TX9) (N := 15) (ty0 := tyX9) in_X9 tyX9_ok nmX9 rfl (by decide) kw_314 (Or.inr ⟨rfl, rfl, rfl⟩) rfl dX9_init_110) ?_
  refine rx_ac (rx_sd_aload_n dX9_init_113 rfl) ?_
  refine rx_ac (rx_sd_new (M := m_X9_init Y) (C := RX3) (T := TX3) (N := 3) (ty := tyX3) in_X3 tyX3_ok rfl kw_373 kw_374 kw_375 df_X3 rfl (cs_X3 σ) dX9_init_114) ?_
  refine rx_ac (rx_sd_dup dX9_init_117) ?_
  refine rx_ac (rx_sd_cl (M := m_X9_init Y) (rx_lk_IN gok (host := "SeedBench") (mid := 20) (ci := 3) (C := (RX3, TX3, 3)) ⟨kw_376, kw_375, hd_X3_init, Nat.le_of_ble_eq_true rfl, Nat.le_of_ble_eq_true rfl⟩ rfl rfl (List.mem_of_getElem? (i := 7) rfl) kw_377 rfl dX9_init_118) (fun _ => ⟨_, rfl⟩) rfl rfl) ?_
  refine rx_ac (rx_sd_putf (C := RX9) (T := TX9) (N := 15) (ty0 := tyX9) in_X9 tyX9_ok nmX9 rfl (by decide) kw_341 (Or.inr ⟨rfl, rfl, rfl⟩) rfl dX9_init_121) ?_
  refine rx_ac (rx_sd_aload_n dX9_init_124 rfl) ?_
  refine rx_ac (rx_sd_get (C := RX9) (T := TX9) (N := 15) in_X9 rfl (by decide) kw_287 dX9_init_125) ?_
  refine rx_ac (rx_sd_iconst dX9_init_128 (by decide)) ?_
  refine rx_ac (rx_sd_iconst dX9_init_129 (by decide)) ?_
  refine rx_ac (rx_sd_aload_n dX9_init_130 rfl) ?_
  refine rx_ac (rx_sd_get (C := RX9) (T := TX9) (N := 15) in_X9 rfl (by decide) kw_297 dX9_init_131) ?_
  refine rx_ac (rx_sd_get (C := RX2) (T := TX2) (N := 5) in_X2 rfl (by decide) kw_378 dX9_init_134) ?_
  refine rx_ac (rx_sd_aload_n dX9_init_137 rfl) ?_
  refine rx_ac (rx_sd_get (C := RX9) (T := TX9) (N := 15) in_X9 rfl (by decide) kw_297 dX9_init_138) ?_
  refine rx_ac (rx_sd_get (C := RX2) (T := TX2) (N := 5) in_X2 rfl (by decide) kw_379 dX9_init_141) ?_
  refine rx_ac (rx_sd_cl (M := m_X9_init Y) (rx_lk_V gok (mid := 48) (ci := 7) (C := (RX7, TX7, 6)) ⟨kw_380, kw_74, hd_X7_start, Nat.le_of_ble_eq_true rfl, Nat.le_of_ble_eq_true rfl⟩ rfl kw_381 kw_382 kw_383 dX9_init_144) (fun _ => ⟨_, rfl⟩) rfl rfl) ?_
  refine rx_ac (rx_sd_aload_n dX9_init_147 rfl) ?_
  refine rx_ac (rx_sd_get (C := RX9) (T := TX9) (N := 15) in_X9 rfl (by decide) kw_287 dX9_init_148) ?_
  refine rx_ac (rx_sd_get (C := RX7) (T := TX7) (N := 6) in_X7 rfl (by decide) kw_384 dX9_init_151) ?_
  refine rx_ac (rx_sd_iconst dX9_init_154 (by decide)) ?_
  refine rx_ac (rx_sd_lconst dX9_init_155 (by decide)) ?_
  refine rx_ac (rx_sd_last ⟨rfl, rfl, rfl⟩ dX9_init_156) ?_
  refine rx_ac (rx_sd_iconst dX9_init_157 (by decide)) ?_
  refine rx_ac (rx_sd_istore_n (M := m_X9_init Y) dX9_init_158 rfl) ?_
  refine rx_ac (rx_sd_iload_n dX9_init_159 rfl) ?_
  refine rx_ac (rx_sd_iconst dX9_init_160 (by decide)) ?_
  refine rx_ac (rx_sd_icmp_ge hY dX9_init_161 (by decide)) ?_
  refine rx_ac (rx_sd_aload_n dX9_init_164 rfl) ?_
  refine rx_ac (rx_sd_get (C := RX9) (T := TX9) (N := 15) in_X9 rfl (by decide) kw_356 dX9_init_165) ?_
  refine rx_ac (rx_sd_iload_n dX9_init_168 rfl) ?_
  refine rx_ac (rx_sd_new (M := m_X9_init Y) (C := RX7) (T := TX7) (N := 6) (ty := tyX7) in_X7 tyX7_ok rfl kw_344 kw_73 kw_74 df_X7 rfl (cs_X7 σ) dX9_init_169) ?_
  refine rx_ac (rx_sd_dup dX9_init_172) ?_
  refine rx_ac (rx_sd_cl (M := m_X9_init Y) (rx_lk_I gok (mid := 47) (ci := 7) (C := (RX7, TX7, 6)) ⟨kw_75, kw_74, hd_X7_init, Nat.le_of_ble_eq_true rfl, Nat.le_of_ble_eq_true rfl⟩ rfl rfl kw_345 kw_77 rfl dX9_init_173) (fun _ => ⟨_, rfl⟩) rfl rfl) ?_
  refine rx_ac (rx_sd_aast (t := 1) (ci := 7) (C := (RX7, TX7, 6)) rfl rfl dX9_init_176) ?_
  refine rx_ac (rx_sd_iinc (M := m_X9_init Y) dX9_init_177 (by decide)) ?_
  refine rx_ac (rx_sd_goto dX9_init_180 (by decide)) ?_
  refine rx_ac (rx_sd_iconst dX9_init_183 (by decide)) ?_
  refine rx_ac (rx_sd_istore_n (M := m_X9_init Y) dX9_init_184 rfl) ?_
  refine rx_ac (rx_sd_iload_n dX9_init_185 rfl) ?_
  refine rx_ac (rx_sd_iconst dX9_init_186 (by decide)) ?_
  refine rx_ac (rx_sd_icmp_ge hY dX9_init_187 (by decide)) ?_
  refine rx_ac (rx_sd_aload_n dX9_init_190 rfl) ?_
  refine rx_ac (rx_sd_get (C := RX9) (T := TX9) (N := 15) in_X9 rfl (by decide) kw_314 dX9_init_191) ?_
  refine rx_ac (rx_sd_iload_n dX9_init_194 rfl) ?_
  refine rx_ac (rx_sd_new (M := m_X9_init Y) (C := RX6) (T := TX6) (N := 2) (ty := tyX6) in_X6 tyX6_ok rfl kw_372 kw_133 kw_134 df_X6 rfl (cs_X6 σ) dX9_init_195) ?_
  refine rx_ac (rx_sd_dup dX9_init_198) ?_
  refine rx_ac (rx_sd_cl (M := m_X9_init Y) (rx_lk_IN gok (host := "SeedBench") (mid := 39) (ci := 6) (C := (RX6, TX6, 2)) ⟨kw_135, kw_134, hd_X6_init, Nat.le_of_ble_eq_true rfl, Nat.le_of_ble_eq_true rfl⟩ rfl rfl (List.mem_of_getElem? (i := 9) rfl) kw_136 rfl dX9_init_199) (fun _ => ⟨_, rfl⟩) rfl rfl) ?_
  refine rx_ac (rx_sd_aast (t := 0) (ci := 6) (C := (RX6, TX6, 2)) rfl rfl dX9_init_202) ?_
  refine rx_ac (rx_sd_iinc (M := m_X9_init Y) dX9_init_203 (by decide)) ?_
  refine rx_ac (rx_sd_goto dX9_init_206 (by decide)) ?_
  refine rx_ac (rx_sd_ret0 (M := m_X9_init Y) rfl dX9_init_209) ?_
  exact rx_an
set_option maxRecDepth 100000 in
set_option maxHeartbeats 4000000 in
theorem s_X9_isCell {l : Launch} {D : va_G} {cy : Nat → ClassId} {σ : Nat → Int32} {Y : rx_Y} (hY : rx_YOk Y σ) : ∀ q ∈ p_X9_isCell Y, rx_Sd (gG l D cy σ) (mt Y) (m_X9_isCell Y) q.1 q.2 := by
  unfold p_X9_isCell
  refine rx_ac (rx_sd_iload_n dX9_isCell_0 rfl) ?_
  refine rx_ac (rx_sd_if_lt hY dX9_isCell_1 (by decide)) ?_
  refine rx_ac (rx_sd_iload_n dX9_isCell_4 rfl) ?_
  refine rx_ac (rx_sd_iload_n dX9_isCell_5 rfl) ?_
  refine rx_ac (rx_sd_iload_n dX9_isCell_6 rfl) ?_
  refine rx_ac (rx_sd_iadd dX9_isCell_7) ?_
  refine rx_ac (rx_sd_icmp_ge hY dX9_isCell_8 (by decide)) ?_
  refine rx_ac (rx_sd_iload_n dX9_isCell_11 rfl) ?_
  refine rx_ac (rx_sd_if_lt hY dX9_isCell_12 (by decide)) ?_
  refine rx_ac (rx_sd_iload_n dX9_isCell_15 rfl) ?_
  refine rx_ac (rx_sd_iload_n dX9_isCell_16 rfl) ?_
  refine rx_ac (rx_sd_icmp_ge hY dX9_isCell_17 (by decide)) ?_
  refine rx_ac (rx_sd_iconst dX9_isCell_20 (by decide)) ?_
  refine rx_ac (rx_sd_goto dX9_isCell_21 (by decide)) ?_
  refine rx_ac (rx_sd_iconst dX9_isCell_24 (by decide)) ?_
  refine rx_ac (rx_sd_retI (M := m_X9_isCell Y) rfl (Or.inr rfl) dX9_isCell_25) ?_
  exact rx_an
set_option maxRecDepth 100000 in
set_option maxHeartbeats 4000000 in
theorem s_X9_isPlace {l : Launch} {D : va_G} {cy : Nat → ClassId} {σ : Nat → Int32} {Y : rx_Y} (hY : rx_YOk Y σ) : ∀ q ∈ p_X9_isPlace Y, rx_Sd (gG l D cy σ) (mt Y) (m_X9_isPlace Y) q.1 q.2 := by
  unfold p_X9_isPlace
  refine rx_ac (rx_sd_iload_n dX9_isPlace_0 rfl) ?_
  refine rx_ac (rx_sd_if_lt hY dX9_isPlace_1 (by decide)) ?_
  refine rx_ac (rx_sd_iload_n dX9_isPlace_4 rfl) ?_
  refine rx_ac (rx_sd_aload_n dX9_isPlace_5 rfl) ?_
  refine rx_ac (rx_sd_get (C := RX9) (T := TX9) (N := 15) in_X9 rfl (by decide) kw_287 dX9_isPlace_6) ?_
  refine rx_ac (rx_sd_get (C := RX7) (T := TX7) (N := 6) in_X7 rfl (by decide) kw_303 dX9_isPlace_9) ?_
  refine rx_ac (rx_sd_icmp_ge hY dX9_isPlace_12 (by decide)) ?_
  refine rx_ac (rx_sd_iconst dX9_isPlace_15 (by decide)) ?_
  refine rx_ac (rx_sd_goto dX9_isPlace_16 (by decide)) ?_
  refine rx_ac (rx_sd_iconst dX9_isPlace_19 (by decide)) ?_
  refine rx_ac (rx_sd_retI (M := m_X9_isPlace Y) rfl (Or.inr rfl) dX9_isPlace_20) ?_
  exact rx_an
set_option maxRecDepth 100000 in
set_option maxHeartbeats 4000000 in
theorem s_X9_isSlot {l : Launch} {D : va_G} {cy : Nat → ClassId} {σ : Nat → Int32} {Y : rx_Y} (hY : rx_YOk Y σ) : ∀ q ∈ p_X9_isSlot Y, rx_Sd (gG l D cy σ) (mt Y) (m_X9_isSlot Y) q.1 q.2 := by
  unfold p_X9_isSlot
  refine rx_ac (rx_sd_iload_n dX9_isSlot_0 rfl) ?_
  refine rx_ac (rx_sd_if_lt hY dX9_isSlot_1 (by decide)) ?_
  refine rx_ac (rx_sd_iload_n dX9_isSlot_4 rfl) ?_
  refine rx_ac (rx_sd_iconst dX9_isSlot_5 (by decide)) ?_
  refine rx_ac (rx_sd_icmp_ge hY dX9_isSlot_6 (by decide)) ?_
  refine rx_ac (rx_sd_iconst dX9_isSlot_9 (by decide)) ?_
  refine rx_ac (rx_sd_goto dX9_isSlot_10 (by decide)) ?_
  refine rx_ac (rx_sd_iconst dX9_isSlot_13 (by decide)) ?_
  refine rx_ac (rx_sd_retI (M := m_X9_isSlot Y) rfl (Or.inr rfl) dX9_isSlot_14) ?_
  exact rx_an
set_option maxRecDepth 100000 in
set_option maxHeartbeats 4000000 in
theorem s_X9_isTableTurnable {l : Launch} {D : va_G} {cy : Nat → ClassId} {σ : Nat → Int32} {Y : rx_Y} (hY : rx_YOk Y σ) : ∀ q ∈ p_X9_isTableTurnable Y, rx_Sd (gG l D cy σ) (mt Y) (m_X9_isTableTurnable Y) q.1 q.2 := by
  unfold p_X9_isTableTurnable
  refine rx_ac (rx_sd_iconst dX9_isTableTurnable_0 (by decide)) ?_
  refine rx_ac (rx_sd_istore (M := m_X9_isTableTurnable Y) dX9_isTableTurnable_1) ?_
  refine rx_ac (rx_sd_iload dX9_isTableTurnable_3) ?_
  refine rx_ac (rx_sd_iload_n dX9_isTableTurnable_5 rfl) ?_
  refine rx_ac (rx_sd_icmp_ge hY dX9_isTableTurnable_6 (by decide)) ?_
  refine rx_ac (rx_sd_iconst dX9_isTableTurnable_9 (by decide)) ?_
  refine rx_ac (rx_sd_istore (M := m_X9_isTableTurnable Y) dX9_isTableTurnable_10) ?_
  refine rx_ac (rx_sd_iload dX9_isTableTurnable_12) ?_
  refine rx_ac (rx_sd_iload_n dX9_isTableTurnable_14 rfl) ?_
  refine rx_ac (rx_sd_icmp_ge hY dX9_isTableTurnable_15 (by decide)) ?_
  refine rx_ac (rx_sd_iload dX9_isTableTurnable_18) ?_
  refine rx_ac (rx_sd_iload_n dX9_isTableTurnable_20 rfl) ?_
  refine rx_ac (rx_sd_icmp_eq hY dX9_isTableTurnable_21 (by decide)) ?_
  refine rx_ac (rx_sd_iinc (M := m_X9_isTableTurnable Y) dX9_isTableTurnable_50 (by decide)) ?_
  refine rx_ac (rx_sd_goto dX9_isTableTurnable_53 (by decide)) ?_
  refine rx_ac (rx_sd_iinc (M := m_X9_isTableTurnable Y) dX9_isTableTurnable_56 (by decide)) ?_
  refine rx_ac (rx_sd_goto dX9_isTableTurnable_59 (by decide)) ?_
  refine rx_ac (rx_sd_iconst dX9_isTableTurnable_62 (by decide)) ?_
  refine rx_ac (rx_sd_retI (M := m_X9_isTableTurnable Y) rfl (Or.inr rfl) dX9_isTableTurnable_63) ?_
  exact rx_an
set_option maxRecDepth 100000 in
set_option maxHeartbeats 4000000 in
theorem s_X9_keep {l : Launch} {D : va_G} {cy : Nat → ClassId} {σ : Nat → Int32} {Y : rx_Y} (hY : rx_YOk Y σ) : ∀ q ∈ p_X9_keep Y, rx_Sd (gG l D cy σ) (mt Y) (m_X9_keep Y) q.1 q.2 := by
  unfold p_X9_keep
  refine rx_ac (rx_sd_iload_n dX9_keep_0 rfl) ?_
  refine rx_ac (rx_sd_if_lt hY dX9_keep_1 (by decide)) ?_
  refine rx_ac (rx_sd_iload_n dX9_keep_4 rfl) ?_
  refine rx_ac (rx_sd_iconst dX9_keep_5 (by decide)) ?_
  refine rx_ac (rx_sd_icmp_lt hY dX9_keep_6 (by decide)) ?_
  refine rx_ac (rx_sd_iconst dX9_keep_9 (by decide)) ?_
  refine rx_ac (rx_sd_retI (M := m_X9_keep Y) rfl (Or.inr rfl) dX9_keep_10) ?_
  refine rx_ac (rx_sd_aload_n dX9_keep_11 rfl) ?_
  refine rx_ac (rx_sd_get (C := RX9) (T := TX9) (N := 15) in_X9 rfl (by decide) kw_356 dX9_keep_12) ?_
  refine rx_ac (rx_sd_iload_n dX9_keep_15 rfl) ?_
  refine rx_ac (rx_sd_aald (t := 1) rfl dX9_keep_16) ?_
  refine rx_ac (rx_sd_aload_n dX9_keep_17 rfl) ?_
  refine rx_ac (rx_sd_get (C := RX9) (T := TX9) (N := 15) in_X9 rfl (by decide) kw_287 dX9_keep_18) ?_
  refine rx_ac (rx_sd_cl (M := m_X9_keep Y) (rx_lk_V gok (mid := 46) (ci := 7) (C := (RX7, TX7, 6)) ⟨kw_385, kw_74, hd_X7_copyFrom, Nat.le_of_ble_eq_true rfl, Nat.le_of_ble_eq_true rfl⟩ rfl kw_386 kw_387 kw_388 dX9_keep_21) (fun _ => ⟨_, rfl⟩) rfl rfl) ?_
  refine rx_ac (rx_sd_iconst dX9_keep_24 (by decide)) ?_
  refine rx_ac (rx_sd_retI (M := m_X9_keep Y) rfl (Or.inr rfl) dX9_keep_25) ?_
  exact rx_an
set_option maxRecDepth 100000 in
set_option maxHeartbeats 4000000 in
theorem s_X9_least {l : Launch} {D : va_G} {cy : Nat → ClassId} {σ : Nat → Int32} {Y : rx_Y} (hY : rx_YOk Y σ) : ∀ q ∈ p_X9_least Y, rx_Sd (gG l D cy σ) (mt Y) (m_X9_least Y) q.1 q.2 := by
  unfold p_X9_least
  refine rx_ac (rx_sd_aload_n dX9_least_0 rfl) ?_
  refine rx_ac (rx_sd_iload_n dX9_least_1 rfl) ?_
  refine rx_ac (rx_sd_cl (M := m_X9_least Y) (rx_lk_V gok (mid := 72) (ci := 9) (C := (RX9, TX9, 15)) ⟨kw_389, kw_54, hd_X9_isPlace, Nat.le_of_ble_eq_true rfl, Nat.le_of_ble_eq_true rfl⟩ rfl kw_390 kw_391 kw_392 dX9_least_2) (fun _ => ⟨_, rfl⟩) rfl rfl) ?_
  refine rx_ac (rx_sd_if_eq hY dX9_least_5 (by decide)) ?_
  refine rx_ac (rx_sd_aload_n dX9_least_8 rfl) ?_
  refine rx_ac (rx_sd_get (C := RX9) (T := TX9) (N := 15) in_X9 rfl (by decide) kw_287 dX9_least_9) ?_
  refine rx_ac (rx_sd_get (C := RX7) (T := TX7) (N := 6) in_X7 rfl (by decide) kw_393 dX9_least_12) ?_
  refine rx_ac (rx_sd_iload_n dX9_least_15 rfl) ?_
  refine rx_ac (rx_sd_aald (t := 2) rfl dX9_least_16) ?_
  refine rx_ac (rx_sd_iload_n dX9_least_17 rfl) ?_
  refine rx_ac (rx_sd_cl (M := m_X9_least Y) (rx_lk_V gok (mid := 54) (ci := 8) (C := (RX8, TX8, 4)) ⟨kw_394, kw_83, hd_X8_hasVariable, Nat.le_of_ble_eq_true rfl, Nat.le_of_ble_eq_true rfl⟩ rfl kw_395 kw_396 kw_397 dX9_least_18) (fun _ => ⟨_, rfl⟩) rfl rfl) ?_
  refine rx_ac (rx_sd_if_eq hY dX9_least_21 (by decide)) ?_
  refine rx_ac (rx_sd_aload_n dX9_least_24 rfl) ?_
  refine rx_ac (rx_sd_get (C := RX9) (T := TX9) (N := 15) in_X9 rfl (by decide) kw_287 dX9_least_25) ?_
  refine rx_ac (rx_sd_get (C := RX7) (T := TX7) (N := 6) in_X7 rfl (by decide) kw_393 dX9_least_28) ?_
  refine rx_ac (rx_sd_iload_n dX9_least_31 rfl) ?_
  refine rx_ac (rx_sd_aald (t := 2) rfl dX9_least_32) ?_
  refine rx_ac (rx_sd_iload_n dX9_least_33 rfl) ?_
  refine rx_ac (rx_sd_cl (M := m_X9_least Y) (rx_lk_V gok (mid := 57) (ci := 8) (C := (RX8, TX8, 4)) ⟨kw_100, kw_83, hd_X8_leastPower, Nat.le_of_ble_eq_true rfl, Nat.le_of_ble_eq_true rfl⟩ rfl kw_398 kw_102 kw_103 dX9_least_34) (fun _ => ⟨_, rfl⟩) rfl rfl) ?_
  refine rx_ac (rx_sd_goto dX9_least_37 (by decide)) ?_
  refine rx_ac (rx_sd_iconst dX9_least_40 (by decide)) ?_
  refine rx_ac (rx_sd_retI (M := m_X9_least Y) rfl (Or.inl rfl) dX9_least_41) ?_
  exact rx_an
set_option maxRecDepth 100000 in
set_option maxHeartbeats 4000000 in
theorem s_X9_ones {l : Launch} {D : va_G} {cy : Nat → ClassId} {σ : Nat → Int32} {Y : rx_Y} (hY : rx_YOk Y σ) : ∀ q ∈ p_X9_ones Y, rx_Sd (gG l D cy σ) (mt Y) (m_X9_ones Y) q.1 q.2 := by
  unfold p_X9_ones
  refine rx_ac (rx_sd_aload_n dX9_ones_0 rfl) ?_
  refine rx_ac (rx_sd_iload_n dX9_ones_1 rfl) ?_
  refine rx_ac (rx_sd_cl (M := m_X9_ones Y) (rx_lk_V gok (mid := 72) (ci := 9) (C := (RX9, TX9, 15)) ⟨kw_389, kw_54, hd_X9_isPlace, Nat.le_of_ble_eq_true rfl, Nat.le_of_ble_eq_true rfl⟩ rfl kw_390 kw_391 kw_392 dX9_ones_2) (fun _ => ⟨_, rfl⟩) rfl rfl) ?_
  refine rx_ac (rx_sd_if_eq hY dX9_ones_5 (by decide)) ?_
  refine rx_ac (rx_sd_aload_n dX9_ones_8 rfl) ?_
  refine rx_ac (rx_sd_get (C := RX9) (T := TX9) (N := 15) in_X9 rfl (by decide) kw_287 dX9_ones_9) ?_
  refine rx_ac (rx_sd_get (C := RX7) (T := TX7) (N := 6) in_X7 rfl (by decide) kw_393 dX9_ones_12) ?_
  refine rx_ac (rx_sd_iload_n dX9_ones_15 rfl) ?_
  refine rx_ac (rx_sd_aald (t := 2) rfl dX9_ones_16) ?_
  refine rx_ac (rx_sd_cl (M := m_X9_ones Y) (rx_lk_V gok (mid := 58) (ci := 8) (C := (RX8, TX8, 4)) ⟨kw_96, kw_83, hd_X8_sum, Nat.le_of_ble_eq_true rfl, Nat.le_of_ble_eq_true rfl⟩ rfl kw_399 kw_98 kw_99 dX9_ones_17) (fun _ => ⟨_, rfl⟩) rfl rfl) ?_
  refine rx_ac (rx_sd_goto dX9_ones_20 (by decide)) ?_
  refine rx_ac (rx_sd_lconst dX9_ones_23 (by decide)) ?_
  refine rx_ac (rx_sd_retL (M := m_X9_ones Y) rfl dX9_ones_24) ?_
  exact rx_an
set_option maxRecDepth 100000 in
set_option maxHeartbeats 4000000 in
theorem s_X9_order {l : Launch} {D : va_G} {cy : Nat → ClassId} {σ : Nat → Int32} {Y : rx_Y} (hY : rx_YOk Y σ) : ∀ q ∈ p_X9_order Y, rx_Sd (gG l D cy σ) (mt Y) (m_X9_order Y) q.1 q.2 := by
  unfold p_X9_order
  refine rx_ac (rx_sd_aload_n dX9_order_0 rfl) ?_
  refine rx_ac (rx_sd_get (C := RX9) (T := TX9) (N := 15) in_X9 rfl (by decide) kw_400 dX9_order_1) ?_
  refine rx_ac (rx_sd_if_ne hY dX9_order_4 (by decide)) ?_
  refine rx_ac (rx_sd_iconst dX9_order_7 (by decide)) ?_
  refine rx_ac (rx_sd_retI (M := m_X9_order Y) rfl (Or.inl rfl) dX9_order_8) ?_
  exact rx_an
set_option maxRecDepth 100000 in
set_option maxHeartbeats 4000000 in
theorem s_X9_ring {l : Launch} {D : va_G} {cy : Nat → ClassId} {σ : Nat → Int32} {Y : rx_Y} (hY : rx_YOk Y σ) : ∀ q ∈ p_X9_ring Y, rx_Sd (gG l D cy σ) (mt Y) (m_X9_ring Y) q.1 q.2 := by
  unfold p_X9_ring
  refine rx_ac (rx_sd_iload_n dX9_ring_0 rfl) ?_
  refine rx_ac (rx_sd_cl (M := m_X9_ring Y) (rx_lk_S gok (mid := 73) ⟨kw_311, kw_54, hd_X9_isSlot, Nat.le_of_ble_eq_true rfl, Nat.le_of_ble_eq_true rfl⟩ kw_312 kw_313 dX9_ring_1) (fun h => nomatch h) rfl rfl) ?_
  refine rx_ac (rx_sd_if_eq hY dX9_ring_4 (by decide)) ?_
  refine rx_ac (rx_sd_iload_n dX9_ring_7 rfl) ?_
  refine rx_ac (rx_sd_iconst dX9_ring_8 (by decide)) ?_
  refine rx_ac (rx_sd_icmp_lt hY dX9_ring_9 (by decide)) ?_
  refine rx_ac (rx_sd_iload_n dX9_ring_12 rfl) ?_
  refine rx_ac (rx_sd_bipush dX9_ring_13 (by decide)) ?_
  refine rx_ac (rx_sd_icmp_le hY dX9_ring_15 (by decide)) ?_
  refine rx_ac (rx_sd_iconst dX9_ring_18 (by decide)) ?_
  refine rx_ac (rx_sd_retI (M := m_X9_ring Y) rfl (Or.inr rfl) dX9_ring_19) ?_
  refine rx_ac (rx_sd_aload_n dX9_ring_20 rfl) ?_
  refine rx_ac (rx_sd_get (C := RX9) (T := TX9) (N := 15) in_X9 rfl (by decide) kw_314 dX9_ring_21) ?_
  refine rx_ac (rx_sd_iload_n dX9_ring_24 rfl) ?_
  refine rx_ac (rx_sd_aald (t := 0) rfl dX9_ring_25) ?_
  refine rx_ac (rx_sd_iload_n dX9_ring_26 rfl) ?_
  refine rx_ac (rx_sd_putf (C := RX6) (T := TX6) (N := 2) (ty0 := tyX6) in_X6 tyX6_ok nmX6 rfl (by decide) kw_401 (Or.inl rfl) rfl dX9_ring_27) ?_
  refine rx_ac (rx_sd_aload_n dX9_ring_30 rfl) ?_
  refine rx_ac (rx_sd_get (C := RX9) (T := TX9) (N := 15) in_X9 rfl (by decide) kw_314 dX9_ring_31) ?_
  refine rx_ac (rx_sd_iload_n dX9_ring_34 rfl) ?_
  refine rx_ac (rx_sd_aald (t := 0) rfl dX9_ring_35) ?_
  refine rx_ac (rx_sd_lconst dX9_ring_36 (by decide)) ?_
  refine rx_ac (rx_sd_putf (C := RX6) (T := TX6) (N := 2) (ty0 := tyX6) in_X6 tyX6_ok nmX6 rfl (by decide) kw_331 (Or.inl rfl) rfl dX9_ring_37) ?_
  refine rx_ac (rx_sd_iconst dX9_ring_40 (by decide)) ?_
  refine rx_ac (rx_sd_retI (M := m_X9_ring Y) rfl (Or.inr rfl) dX9_ring_41) ?_
  exact rx_an
set_option maxRecDepth 100000 in
set_option maxHeartbeats 4000000 in
theorem s_X9_ringOf {l : Launch} {D : va_G} {cy : Nat → ClassId} {σ : Nat → Int32} {Y : rx_Y} (hY : rx_YOk Y σ) : ∀ q ∈ p_X9_ringOf Y, rx_Sd (gG l D cy σ) (mt Y) (m_X9_ringOf Y) q.1 q.2 := by
  unfold p_X9_ringOf
  refine rx_ac (rx_sd_iload_n dX9_ringOf_0 rfl) ?_
  refine rx_ac (rx_sd_cl (M := m_X9_ringOf Y) (rx_lk_S gok (mid := 73) ⟨kw_311, kw_54, hd_X9_isSlot, Nat.le_of_ble_eq_true rfl, Nat.le_of_ble_eq_true rfl⟩ kw_312 kw_313 dX9_ringOf_1) (fun h => nomatch h) rfl rfl) ?_
  refine rx_ac (rx_sd_if_eq hY dX9_ringOf_4 (by decide)) ?_
  refine rx_ac (rx_sd_aload_n dX9_ringOf_7 rfl) ?_
  refine rx_ac (rx_sd_get (C := RX9) (T := TX9) (N := 15) in_X9 rfl (by decide) kw_314 dX9_ringOf_8) ?_
  refine rx_ac (rx_sd_iload_n dX9_ringOf_11 rfl) ?_
  refine rx_ac (rx_sd_aald (t := 0) rfl dX9_ringOf_12) ?_
  refine rx_ac (rx_sd_iload_n dX9_ringOf_13 rfl) ?_
  refine rx_ac (rx_sd_cl (M := m_X9_ringOf Y) (rx_lk_V gok (mid := 43) (ci := 6) (C := (RX6, TX6, 2)) ⟨kw_402, kw_134, hd_X6_tell, Nat.le_of_ble_eq_true rfl, Nat.le_of_ble_eq_true rfl⟩ rfl kw_403 kw_404 kw_405 dX9_ringOf_14) (fun _ => ⟨_, rfl⟩) rfl rfl) ?_
  refine rx_ac (rx_sd_goto dX9_ringOf_17 (by decide)) ?_
  refine rx_ac (rx_sd_iconst dX9_ringOf_20 (by decide)) ?_
  refine rx_ac (rx_sd_retI (M := m_X9_ringOf Y) rfl (Or.inl rfl) dX9_ringOf_21) ?_
  exact rx_an
set_option maxRecDepth 100000 in
set_option maxHeartbeats 4000000 in
theorem s_X9_row {l : Launch} {D : va_G} {cy : Nat → ClassId} {σ : Nat → Int32} {Y : rx_Y} (hY : rx_YOk Y σ) : ∀ q ∈ p_X9_row Y, rx_Sd (gG l D cy σ) (mt Y) (m_X9_row Y) q.1 q.2 := by
  unfold p_X9_row
  refine rx_ac (rx_sd_iload_n dX9_row_0 rfl) ?_
  refine rx_ac (rx_sd_iconst dX9_row_1 (by decide)) ?_
  refine rx_ac (rx_sd_icmp_lt hY dX9_row_2 (by decide)) ?_
  refine rx_ac (rx_sd_iload_n dX9_row_5 rfl) ?_
  refine rx_ac (rx_sd_bipush dX9_row_6 (by decide)) ?_
  refine rx_ac (rx_sd_icmp_gt hY dX9_row_8 (by decide)) ?_
  refine rx_ac (rx_sd_iload_n dX9_row_11 rfl) ?_
  refine rx_ac (rx_sd_if_lt hY dX9_row_12 (by decide)) ?_
  refine rx_ac (rx_sd_iload_n dX9_row_15 rfl) ?_
  refine rx_ac (rx_sd_iload_n dX9_row_16 rfl) ?_
  refine rx_ac (rx_sd_icmp_ge hY dX9_row_17 (by decide)) ?_
  refine rx_ac (rx_sd_iload_n dX9_row_20 rfl) ?_
  refine rx_ac (rx_sd_if_lt hY dX9_row_21 (by decide)) ?_
  refine rx_ac (rx_sd_iload_n dX9_row_24 rfl) ?_
  refine rx_ac (rx_sd_bipush dX9_row_25 (by decide)) ?_
  refine rx_ac (rx_sd_icmp_lt hY dX9_row_27 (by decide)) ?_
  refine rx_ac (rx_sd_iconst dX9_row_30 (by decide)) ?_
  refine rx_ac (rx_sd_retI (M := m_X9_row Y) rfl (Or.inr rfl) dX9_row_31) ?_
  refine rx_ac (rx_sd_iload_n dX9_row_32 rfl) ?_
  refine rx_ac (rx_sd_aload_n dX9_row_33 rfl) ?_
  refine rx_ac (rx_sd_get (C := RX9) (T := TX9) (N := 15) in_X9 rfl (by decide) kw_400 dX9_row_34) ?_
  refine rx_ac (rx_sd_icmp_eq hY dX9_row_37 (by decide)) ?_
  refine rx_ac (rx_sd_aload_n dX9_row_40 rfl) ?_
  refine rx_ac (rx_sd_iload_n dX9_row_41 rfl) ?_
  refine rx_ac (rx_sd_putf (C := RX9) (T := TX9) (N := 15) (ty0 := tyX9) in_X9 tyX9_ok nmX9 rfl (by decide) kw_400 (Or.inl rfl) rfl dX9_row_42) ?_
  refine rx_ac (rx_sd_aload_n dX9_row_45 rfl) ?_
  refine rx_ac (rx_sd_get (C := RX9) (T := TX9) (N := 15) in_X9 rfl (by decide) kw_357 dX9_row_46) ?_
  refine rx_ac (rx_sd_iconst dX9_row_49 (by decide)) ?_
  refine rx_ac (rx_sd_cl (M := m_X9_row Y) (rx_lk_S gok (mid := 0) ⟨kw_107, kw_108, hd_J7_fill_53178, Nat.le_of_ble_eq_true rfl, Nat.le_of_ble_eq_true rfl⟩ kw_406 kw_110 dX9_row_50) (fun h => nomatch h) rfl rfl) ?_
  refine rx_ac (rx_sd_aload_n dX9_row_53 rfl) ?_
  refine rx_ac (rx_sd_get (C := RX9) (T := TX9) (N := 15) in_X9 rfl (by decide) kw_357 dX9_row_54) ?_
  refine rx_ac (rx_sd_iload_n dX9_row_57 rfl) ?_
  refine rx_ac (rx_sd_iload_n dX9_row_58 rfl) ?_
  refine rx_ac (rx_sd_iast hY ⟨rfl, rfl, rfl⟩ dX9_row_59) ?_
  refine rx_ac (rx_sd_iconst dX9_row_60 (by decide)) ?_
  refine rx_ac (rx_sd_retI (M := m_X9_row Y) rfl (Or.inr rfl) dX9_row_61) ?_
  exact rx_an
set_option maxRecDepth 100000 in
set_option maxHeartbeats 4000000 in
theorem s_X9_same {l : Launch} {D : va_G} {cy : Nat → ClassId} {σ : Nat → Int32} {Y : rx_Y} (hY : rx_YOk Y σ) : ∀ q ∈ p_X9_same Y, rx_Sd (gG l D cy σ) (mt Y) (m_X9_same Y) q.1 q.2 := by
  unfold p_X9_same
  refine rx_ac (rx_sd_iload_n dX9_same_0 rfl) ?_
  refine rx_ac (rx_sd_if_lt hY dX9_same_1 (by decide)) ?_
  refine rx_ac (rx_sd_iload_n dX9_same_4 rfl) ?_
  refine rx_ac (rx_sd_iconst dX9_same_5 (by decide)) ?_
  refine rx_ac (rx_sd_icmp_ge hY dX9_same_6 (by decide)) ?_
  refine rx_ac (rx_sd_aload_n dX9_same_9 rfl) ?_
  refine rx_ac (rx_sd_get (C := RX9) (T := TX9) (N := 15) in_X9 rfl (by decide) kw_356 dX9_same_10) ?_
  refine rx_ac (rx_sd_iload_n dX9_same_13 rfl) ?_
  refine rx_ac (rx_sd_aald (t := 1) rfl dX9_same_14) ?_
  refine rx_ac (rx_sd_get (C := RX7) (T := TX7) (N := 6) in_X7 rfl (by decide) kw_303 dX9_same_15) ?_
  refine rx_ac (rx_sd_if_ne hY dX9_same_18 (by decide)) ?_
  refine rx_ac (rx_sd_iconst dX9_same_21 (by decide)) ?_
  refine rx_ac (rx_sd_retI (M := m_X9_same Y) rfl (Or.inl rfl) dX9_same_22) ?_
  exact rx_an
set_option maxRecDepth 100000 in
set_option maxHeartbeats 4000000 in
theorem s_X9_seed {l : Launch} {D : va_G} {cy : Nat → ClassId} {σ : Nat → Int32} {Y : rx_Y} (hY : rx_YOk Y σ) : ∀ q ∈ p_X9_seed Y, rx_Sd (gG l D cy σ) (mt Y) (m_X9_seed Y) q.1 q.2 := by
  unfold p_X9_seed
  refine rx_ac (rx_sd_iload_n dX9_seed_0 rfl) ?_
  refine rx_ac (rx_sd_cl (M := m_X9_seed Y) (rx_lk_S gok (mid := 73) ⟨kw_311, kw_54, hd_X9_isSlot, Nat.le_of_ble_eq_true rfl, Nat.le_of_ble_eq_true rfl⟩ kw_312 kw_313 dX9_seed_1) (fun h => nomatch h) rfl rfl) ?_
  refine rx_ac (rx_sd_if_eq hY dX9_seed_4 (by decide)) ?_
  refine rx_ac (rx_sd_aload_n dX9_seed_7 rfl) ?_
  refine rx_ac (rx_sd_get (C := RX9) (T := TX9) (N := 15) in_X9 rfl (by decide) kw_314 dX9_seed_8) ?_
  refine rx_ac (rx_sd_iload_n dX9_seed_11 rfl) ?_
  refine rx_ac (rx_sd_aald (t := 0) rfl dX9_seed_12) ?_
  refine rx_ac (rx_sd_cl (M := m_X9_seed Y) (rx_lk_V gok (mid := 42) (ci := 6) (C := (RX6, TX6, 2)) ⟨kw_250, kw_134, hd_X6_isCut, Nat.le_of_ble_eq_true rfl, Nat.le_of_ble_eq_true rfl⟩ rfl kw_340 kw_252 kw_253 dX9_seed_13) (fun _ => ⟨_, rfl⟩) rfl rfl) ?_
  refine rx_ac (rx_sd_if_eq hY dX9_seed_16 (by decide)) ?_
  refine rx_ac (rx_sd_iconst dX9_seed_35 (by decide)) ?_
  refine rx_ac (rx_sd_retI (M := m_X9_seed Y) rfl (Or.inr rfl) dX9_seed_36) ?_
  exact rx_an
set_option maxRecDepth 100000 in
set_option maxHeartbeats 4000000 in
theorem s_X9_size {l : Launch} {D : va_G} {cy : Nat → ClassId} {σ : Nat → Int32} {Y : rx_Y} (hY : rx_YOk Y σ) : ∀ q ∈ p_X9_size Y, rx_Sd (gG l D cy σ) (mt Y) (m_X9_size Y) q.1 q.2 := by
  unfold p_X9_size
  refine rx_ac (rx_sd_aload_n dX9_size_0 rfl) ?_
  refine rx_ac (rx_sd_iload_n dX9_size_1 rfl) ?_
  refine rx_ac (rx_sd_cl (M := m_X9_size Y) (rx_lk_V gok (mid := 72) (ci := 9) (C := (RX9, TX9, 15)) ⟨kw_389, kw_54, hd_X9_isPlace, Nat.le_of_ble_eq_true rfl, Nat.le_of_ble_eq_true rfl⟩ rfl kw_390 kw_391 kw_392 dX9_size_2) (fun _ => ⟨_, rfl⟩) rfl rfl) ?_
  refine rx_ac (rx_sd_if_eq hY dX9_size_5 (by decide)) ?_
  refine rx_ac (rx_sd_aload_n dX9_size_8 rfl) ?_
  refine rx_ac (rx_sd_get (C := RX9) (T := TX9) (N := 15) in_X9 rfl (by decide) kw_287 dX9_size_9) ?_
  refine rx_ac (rx_sd_get (C := RX7) (T := TX7) (N := 6) in_X7 rfl (by decide) kw_384 dX9_size_12) ?_
  refine rx_ac (rx_sd_iload_n dX9_size_15 rfl) ?_
  refine rx_ac (rx_sd_lald ⟨rfl, rfl, rfl⟩ dX9_size_16) ?_
  refine rx_ac (rx_sd_l2i dX9_size_17) ?_
  refine rx_ac (rx_sd_goto dX9_size_18 (by decide)) ?_
  refine rx_ac (rx_sd_iconst dX9_size_21 (by decide)) ?_
  refine rx_ac (rx_sd_retI (M := m_X9_size Y) rfl (Or.inl rfl) dX9_size_22) ?_
  exact rx_an
set_option maxRecDepth 100000 in
set_option maxHeartbeats 4000000 in
theorem s_X9_step {l : Launch} {D : va_G} {cy : Nat → ClassId} {σ : Nat → Int32} {Y : rx_Y} (hY : rx_YOk Y σ) : ∀ q ∈ p_X9_step Y, rx_Sd (gG l D cy σ) (mt Y) (m_X9_step Y) q.1 q.2 := by
  unfold p_X9_step
  refine rx_ac (rx_sd_iload_n dX9_step_0 rfl) ?_
  refine rx_ac (rx_sd_if_lt hY dX9_step_1 (by decide)) ?_
  refine rx_ac (rx_sd_iload_n dX9_step_4 rfl) ?_
  refine rx_ac (rx_sd_aload_n dX9_step_5 rfl) ?_
  refine rx_ac (rx_sd_get (C := RX9) (T := TX9) (N := 15) in_X9 rfl (by decide) kw_334 dX9_step_6) ?_
  refine rx_ac (rx_sd_get (C := RX4) (T := TX4) (N := 6) in_X4 rfl (by decide) kw_407 dX9_step_9) ?_
  refine rx_ac (rx_sd_icmp_lt hY dX9_step_12 (by decide)) ?_
  refine rx_ac (rx_sd_iconst dX9_step_15 (by decide)) ?_
  refine rx_ac (rx_sd_goto dX9_step_16 (by decide)) ?_
  refine rx_ac (rx_sd_retI (M := m_X9_step Y) rfl (Or.inl rfl) dX9_step_28) ?_
  exact rx_an
set_option maxRecDepth 100000 in
set_option maxHeartbeats 4000000 in
theorem s_X9_table {l : Launch} {D : va_G} {cy : Nat → ClassId} {σ : Nat → Int32} {Y : rx_Y} (hY : rx_YOk Y σ) : ∀ q ∈ p_X9_table Y, rx_Sd (gG l D cy σ) (mt Y) (m_X9_table Y) q.1 q.2 := by
  unfold p_X9_table
  refine rx_ac (rx_sd_iload_n dX9_table_0 rfl) ?_
  refine rx_ac (rx_sd_iconst dX9_table_1 (by decide)) ?_
  refine rx_ac (rx_sd_icmp_lt hY dX9_table_2 (by decide)) ?_
  refine rx_ac (rx_sd_iload_n dX9_table_5 rfl) ?_
  refine rx_ac (rx_sd_bipush dX9_table_6 (by decide)) ?_
  refine rx_ac (rx_sd_icmp_gt hY dX9_table_8 (by decide)) ?_
  refine rx_ac (rx_sd_iload_n dX9_table_11 rfl) ?_
  refine rx_ac (rx_sd_if_lt hY dX9_table_12 (by decide)) ?_
  refine rx_ac (rx_sd_iload_n dX9_table_15 rfl) ?_
  refine rx_ac (rx_sd_bipush dX9_table_16 (by decide)) ?_
  refine rx_ac (rx_sd_icmp_le hY dX9_table_18 (by decide)) ?_
  refine rx_ac (rx_sd_iconst dX9_table_21 (by decide)) ?_
  refine rx_ac (rx_sd_retI (M := m_X9_table Y) rfl (Or.inr rfl) dX9_table_22) ?_
  refine rx_ac (rx_sd_aload_n dX9_table_23 rfl) ?_
  refine rx_ac (rx_sd_get (C := RX9) (T := TX9) (N := 15) in_X9 rfl (by decide) kw_297 dX9_table_24) ?_
  refine rx_ac (rx_sd_iload_n dX9_table_27 rfl) ?_
  refine rx_ac (rx_sd_iload_n dX9_table_28 rfl) ?_
  refine rx_ac (rx_sd_cl (M := m_X9_table Y) (rx_lk_V gok (mid := 19) (ci := 2) (C := (RX2, TX2, 5)) ⟨kw_408, kw_348, hd_X2_restart, Nat.le_of_ble_eq_true rfl, Nat.le_of_ble_eq_true rfl⟩ rfl kw_409 kw_410 kw_411 dX9_table_29) (fun _ => ⟨_, rfl⟩) rfl rfl) ?_
  refine rx_ac (rx_sd_iconst dX9_table_32 (by decide)) ?_
  refine rx_ac (rx_sd_retI (M := m_X9_table Y) rfl (Or.inr rfl) dX9_table_33) ?_
  exact rx_an
set_option maxRecDepth 100000 in
set_option maxHeartbeats 4000000 in
theorem s_X9_tables {l : Launch} {D : va_G} {cy : Nat → ClassId} {σ : Nat → Int32} {Y : rx_Y} (hY : rx_YOk Y σ) : ∀ q ∈ p_X9_tables Y, rx_Sd (gG l D cy σ) (mt Y) (m_X9_tables Y) q.1 q.2 := by
  unfold p_X9_tables
  refine rx_ac (rx_sd_aload_n dX9_tables_0 rfl) ?_
  refine rx_ac (rx_sd_get (C := RX9) (T := TX9) (N := 15) in_X9 rfl (by decide) kw_334 dX9_tables_1) ?_
  refine rx_ac (rx_sd_get (C := RX4) (T := TX4) (N := 6) in_X4 rfl (by decide) kw_412 dX9_tables_4) ?_
  refine rx_ac (rx_sd_retI (M := m_X9_tables Y) rfl (Or.inl rfl) dX9_tables_7) ?_
  exact rx_an
set_option maxRecDepth 100000 in
set_option maxHeartbeats 4000000 in
theorem s_X9_term {l : Launch} {D : va_G} {cy : Nat → ClassId} {σ : Nat → Int32} {Y : rx_Y} (hY : rx_YOk Y σ) : ∀ q ∈ p_X9_term Y, rx_Sd (gG l D cy σ) (mt Y) (m_X9_term Y) q.1 q.2 := by
  unfold p_X9_term
  refine rx_ac (rx_sd_aload_n dX9_term_0 rfl) ?_
  refine rx_ac (rx_sd_iload_n dX9_term_1 rfl) ?_
  refine rx_ac (rx_sd_cl (M := m_X9_term Y) (rx_lk_V gok (mid := 72) (ci := 9) (C := (RX9, TX9, 15)) ⟨kw_389, kw_54, hd_X9_isPlace, Nat.le_of_ble_eq_true rfl, Nat.le_of_ble_eq_true rfl⟩ rfl kw_390 kw_391 kw_392 dX9_term_2) (fun _ => ⟨_, rfl⟩) rfl rfl) ?_
  refine rx_ac (rx_sd_if_ne hY dX9_term_5 (by decide)) ?_
  refine rx_ac (rx_sd_lconst dX9_term_8 (by decide)) ?_
  refine rx_ac (rx_sd_retL (M := m_X9_term Y) rfl dX9_term_9) ?_
  refine rx_ac (rx_sd_aload_n dX9_term_10 rfl) ?_
  refine rx_ac (rx_sd_get (C := RX9) (T := TX9) (N := 15) in_X9 rfl (by decide) kw_287 dX9_term_11) ?_
  refine rx_ac (rx_sd_get (C := RX7) (T := TX7) (N := 6) in_X7 rfl (by decide) kw_393 dX9_term_14) ?_
  refine rx_ac (rx_sd_iload_n dX9_term_17 rfl) ?_
  refine rx_ac (rx_sd_aald (t := 2) rfl dX9_term_18) ?_
  refine rx_ac (rx_sd_astore (M := m_X9_term Y) dX9_term_19) ?_
  refine rx_ac (rx_sd_iload_n dX9_term_21 rfl) ?_
  refine rx_ac (rx_sd_if_lt hY dX9_term_22 (by decide)) ?_
  refine rx_ac (rx_sd_iload_n dX9_term_25 rfl) ?_
  refine rx_ac (rx_sd_aload dX9_term_26) ?_
  refine rx_ac (rx_sd_get (C := RX8) (T := TX8) (N := 4) in_X8 rfl (by decide) kw_413 dX9_term_28) ?_
  refine rx_ac (rx_sd_icmp_lt hY dX9_term_31 (by decide)) ?_
  refine rx_ac (rx_sd_lconst dX9_term_34 (by decide)) ?_
  refine rx_ac (rx_sd_retL (M := m_X9_term Y) rfl dX9_term_35) ?_
  refine rx_ac (rx_sd_iload_n dX9_term_36 rfl) ?_
  refine rx_ac (rx_sd_iconst dX9_term_37 (by decide)) ?_
  refine rx_ac (rx_sd_icmp_ne hY dX9_term_38 (by decide)) ?_
  refine rx_ac (rx_sd_aload dX9_term_41) ?_
  refine rx_ac (rx_sd_get (C := RX8) (T := TX8) (N := 4) in_X8 rfl (by decide) kw_414 dX9_term_43) ?_
  refine rx_ac (rx_sd_iload_n dX9_term_46 rfl) ?_
  refine rx_ac (rx_sd_lald ⟨rfl, rfl, rfl⟩ dX9_term_47) ?_
  refine rx_ac (rx_sd_retL (M := m_X9_term Y) rfl dX9_term_48) ?_
  refine rx_ac (rx_sd_aload dX9_term_49) ?_
  refine rx_ac (rx_sd_iload_n dX9_term_51 rfl) ?_
  refine rx_ac (rx_sd_cl (M := m_X9_term Y) (rx_lk_V gok (mid := 54) (ci := 8) (C := (RX8, TX8, 4)) ⟨kw_394, kw_83, hd_X8_hasVariable, Nat.le_of_ble_eq_true rfl, Nat.le_of_ble_eq_true rfl⟩ rfl kw_395 kw_396 kw_397 dX9_term_52) (fun _ => ⟨_, rfl⟩) rfl rfl) ?_
  refine rx_ac (rx_sd_if_eq hY dX9_term_55 (by decide)) ?_
  refine rx_ac (rx_sd_aload dX9_term_58) ?_
  refine rx_ac (rx_sd_get (C := RX8) (T := TX8) (N := 4) in_X8 rfl (by decide) kw_415 dX9_term_60) ?_
  refine rx_ac (rx_sd_iload_n dX9_term_63 rfl) ?_
  refine rx_ac (rx_sd_aload dX9_term_64) ?_
  refine rx_ac (rx_sd_get (C := RX8) (T := TX8) (N := 4) in_X8 rfl (by decide) kw_416 dX9_term_66) ?_
  refine rx_ac (rx_sd_imul dX9_term_69) ?_
  refine rx_ac (rx_sd_iload_n dX9_term_70 rfl) ?_
  refine rx_ac (rx_sd_iadd dX9_term_71) ?_
  refine rx_ac (rx_sd_iald ⟨rfl, rfl, rfl⟩ dX9_term_72) ?_
  refine rx_ac (rx_sd_i2l dX9_term_73) ?_
  refine rx_ac (rx_sd_goto dX9_term_74 (by decide)) ?_
  refine rx_ac (rx_sd_lconst dX9_term_77 (by decide)) ?_
  refine rx_ac (rx_sd_retL (M := m_X9_term Y) rfl dX9_term_78) ?_
  exact rx_an
set_option maxRecDepth 100000 in
set_option maxHeartbeats 4000000 in
theorem s_X9_terms {l : Launch} {D : va_G} {cy : Nat → ClassId} {σ : Nat → Int32} {Y : rx_Y} (hY : rx_YOk Y σ) : ∀ q ∈ p_X9_terms Y, rx_Sd (gG l D cy σ) (mt Y) (m_X9_terms Y) q.1 q.2 := by
  unfold p_X9_terms
  refine rx_ac (rx_sd_aload_n dX9_terms_0 rfl) ?_
  refine rx_ac (rx_sd_iload_n dX9_terms_1 rfl) ?_
  refine rx_ac (rx_sd_cl (M := m_X9_terms Y) (rx_lk_V gok (mid := 72) (ci := 9) (C := (RX9, TX9, 15)) ⟨kw_389, kw_54, hd_X9_isPlace, Nat.le_of_ble_eq_true rfl, Nat.le_of_ble_eq_true rfl⟩ rfl kw_390 kw_391 kw_392 dX9_terms_2) (fun _ => ⟨_, rfl⟩) rfl rfl) ?_
  refine rx_ac (rx_sd_if_eq hY dX9_terms_5 (by decide)) ?_
  refine rx_ac (rx_sd_aload_n dX9_terms_8 rfl) ?_
  refine rx_ac (rx_sd_get (C := RX9) (T := TX9) (N := 15) in_X9 rfl (by decide) kw_287 dX9_terms_9) ?_
  refine rx_ac (rx_sd_get (C := RX7) (T := TX7) (N := 6) in_X7 rfl (by decide) kw_393 dX9_terms_12) ?_
  refine rx_ac (rx_sd_iload_n dX9_terms_15 rfl) ?_
  refine rx_ac (rx_sd_aald (t := 2) rfl dX9_terms_16) ?_
  refine rx_ac (rx_sd_get (C := RX8) (T := TX8) (N := 4) in_X8 rfl (by decide) kw_413 dX9_terms_17) ?_
  refine rx_ac (rx_sd_goto dX9_terms_20 (by decide)) ?_
  refine rx_ac (rx_sd_iconst dX9_terms_23 (by decide)) ?_
  refine rx_ac (rx_sd_retI (M := m_X9_terms Y) rfl (Or.inl rfl) dX9_terms_24) ?_
  exact rx_an
set_option maxRecDepth 100000 in
set_option maxHeartbeats 4000000 in
theorem s_X9_turn {l : Launch} {D : va_G} {cy : Nat → ClassId} {σ : Nat → Int32} {Y : rx_Y} (hY : rx_YOk Y σ) : ∀ q ∈ p_X9_turn Y, rx_Sd (gG l D cy σ) (mt Y) (m_X9_turn Y) q.1 q.2 := by
  unfold p_X9_turn
  refine rx_ac (rx_sd_aload_n dX9_turn_0 rfl) ?_
  refine rx_ac (rx_sd_iload_n dX9_turn_1 rfl) ?_
  refine rx_ac (rx_sd_cl (M := m_X9_turn Y) (rx_lk_V gok (mid := 72) (ci := 9) (C := (RX9, TX9, 15)) ⟨kw_389, kw_54, hd_X9_isPlace, Nat.le_of_ble_eq_true rfl, Nat.le_of_ble_eq_true rfl⟩ rfl kw_390 kw_391 kw_392 dX9_turn_2) (fun _ => ⟨_, rfl⟩) rfl rfl) ?_
  refine rx_ac (rx_sd_if_ne hY dX9_turn_5 (by decide)) ?_
  refine rx_ac (rx_sd_iconst dX9_turn_8 (by decide)) ?_
  refine rx_ac (rx_sd_retI (M := m_X9_turn Y) rfl (Or.inl rfl) dX9_turn_9) ?_
  refine rx_ac (rx_sd_aload_n dX9_turn_10 rfl) ?_
  refine rx_ac (rx_sd_get (C := RX9) (T := TX9) (N := 15) in_X9 rfl (by decide) kw_288 dX9_turn_11) ?_
  refine rx_ac (rx_sd_aload_n dX9_turn_14 rfl) ?_
  refine rx_ac (rx_sd_get (C := RX9) (T := TX9) (N := 15) in_X9 rfl (by decide) kw_287 dX9_turn_15) ?_
  refine rx_ac (rx_sd_iload_n dX9_turn_18 rfl) ?_
  refine rx_ac (rx_sd_cl (M := m_X9_turn Y) (rx_lk_V gok (mid := 29) (ci := 5) (C := (RX5, TX5, 7)) ⟨kw_48, kw_49, hd_X5_exchange, Nat.le_of_ble_eq_true rfl, Nat.le_of_ble_eq_true rfl⟩ rfl kw_417 kw_51 kw_52 dX9_turn_19) (fun _ => ⟨_, rfl⟩) rfl rfl) ?_
  refine rx_ac (rx_sd_if_ne hY dX9_turn_22 (by decide)) ?_
  refine rx_ac (rx_sd_aload_n dX9_turn_28 rfl) ?_
  refine rx_ac (rx_sd_get (C := RX9) (T := TX9) (N := 15) in_X9 rfl (by decide) kw_306 dX9_turn_29) ?_
  refine rx_ac (rx_sd_bipush dX9_turn_32 (by decide)) ?_
  refine rx_ac (rx_sd_icmp_lt hY dX9_turn_34 (by decide)) ?_
  refine rx_ac (rx_sd_aload_n dX9_turn_40 rfl) ?_
  refine rx_ac (rx_sd_get (C := RX9) (T := TX9) (N := 15) in_X9 rfl (by decide) kw_288 dX9_turn_41) ?_
  refine rx_ac (rx_sd_aload_n dX9_turn_44 rfl) ?_
  refine rx_ac (rx_sd_get (C := RX9) (T := TX9) (N := 15) in_X9 rfl (by decide) kw_287 dX9_turn_45) ?_
  refine rx_ac (rx_sd_iload_n dX9_turn_48 rfl) ?_
  refine rx_ac (rx_sd_cl (M := m_X9_turn Y) (rx_lk_V gok (mid := 32) (ci := 5) (C := (RX5, TX5, 7)) ⟨kw_418, kw_49, hd_X5_settle, Nat.le_of_ble_eq_true rfl, Nat.le_of_ble_eq_true rfl⟩ rfl kw_419 kw_420 kw_421 dX9_turn_49) (fun _ => ⟨_, rfl⟩) rfl rfl) ?_
  refine rx_ac (rx_sd_aload_n dX9_turn_52 rfl) ?_
  refine rx_ac (rx_sd_get (C := RX9) (T := TX9) (N := 15) in_X9 rfl (by decide) kw_355 dX9_turn_53) ?_
  refine rx_ac (rx_sd_aload_n dX9_turn_56 rfl) ?_
  refine rx_ac (rx_sd_get (C := RX9) (T := TX9) (N := 15) in_X9 rfl (by decide) kw_306 dX9_turn_57) ?_
  refine rx_ac (rx_sd_iload_n dX9_turn_60 rfl) ?_
  refine rx_ac (rx_sd_iast hY ⟨rfl, rfl, rfl⟩ dX9_turn_61) ?_
  refine rx_ac (rx_sd_aload_n dX9_turn_62 rfl) ?_
  refine rx_ac (rx_sd_dup dX9_turn_63) ?_
  refine rx_ac (rx_sd_get (C := RX9) (T := TX9) (N := 15) in_X9 rfl (by decide) kw_306 dX9_turn_64) ?_
  refine rx_ac (rx_sd_iconst dX9_turn_67 (by decide)) ?_
  refine rx_ac (rx_sd_iadd dX9_turn_68) ?_
  refine rx_ac (rx_sd_putf (C := RX9) (T := TX9) (N := 15) (ty0 := tyX9) in_X9 tyX9_ok nmX9 rfl (by decide) kw_306 (Or.inl rfl) rfl dX9_turn_69) ?_
  refine rx_ac (rx_sd_aload_n dX9_turn_72 rfl) ?_
  refine rx_ac (rx_sd_get (C := RX9) (T := TX9) (N := 15) in_X9 rfl (by decide) kw_287 dX9_turn_73) ?_
  refine rx_ac (rx_sd_get (C := RX7) (T := TX7) (N := 6) in_X7 rfl (by decide) kw_393 dX9_turn_76) ?_
  refine rx_ac (rx_sd_iload_n dX9_turn_79 rfl) ?_
  refine rx_ac (rx_sd_aald (t := 2) rfl dX9_turn_80) ?_
  refine rx_ac (rx_sd_get (C := RX8) (T := TX8) (N := 4) in_X8 rfl (by decide) kw_413 dX9_turn_81) ?_
  refine rx_ac (rx_sd_retI (M := m_X9_turn Y) rfl (Or.inl rfl) dX9_turn_84) ?_
  exact rx_an
set_option maxRecDepth 100000 in
set_option maxHeartbeats 4000000 in
theorem s_X9_turnTable {l : Launch} {D : va_G} {cy : Nat → ClassId} {σ : Nat → Int32} {Y : rx_Y} (hY : rx_YOk Y σ) : ∀ q ∈ p_X9_turnTable Y, rx_Sd (gG l D cy σ) (mt Y) (m_X9_turnTable Y) q.1 q.2 := by
  unfold p_X9_turnTable
  refine rx_ac (rx_sd_iconst dX9_turnTable_0 (by decide)) ?_
  refine rx_ac (rx_sd_istore (M := m_X9_turnTable Y) dX9_turnTable_1) ?_
  refine rx_ac (rx_sd_iload dX9_turnTable_3) ?_
  refine rx_ac (rx_sd_iload_n dX9_turnTable_5 rfl) ?_
  refine rx_ac (rx_sd_icmp_ge hY dX9_turnTable_6 (by decide)) ?_
  refine rx_ac (rx_sd_iconst dX9_turnTable_9 (by decide)) ?_
  refine rx_ac (rx_sd_istore (M := m_X9_turnTable Y) dX9_turnTable_10) ?_
  refine rx_ac (rx_sd_iload dX9_turnTable_12) ?_
  refine rx_ac (rx_sd_iload_n dX9_turnTable_14 rfl) ?_
  refine rx_ac (rx_sd_icmp_ge hY dX9_turnTable_15 (by decide)) ?_
  refine rx_ac (rx_sd_iload dX9_turnTable_18) ?_
  refine rx_ac (rx_sd_iload_n dX9_turnTable_20 rfl) ?_
  refine rx_ac (rx_sd_icmp_eq hY dX9_turnTable_21 (by decide)) ?_
  refine rx_ac (rx_sd_iinc (M := m_X9_turnTable Y) dX9_turnTable_49 (by decide)) ?_
  refine rx_ac (rx_sd_goto dX9_turnTable_52 (by decide)) ?_
  refine rx_ac (rx_sd_iinc (M := m_X9_turnTable Y) dX9_turnTable_55 (by decide)) ?_
  refine rx_ac (rx_sd_goto dX9_turnTable_58 (by decide)) ?_
  refine rx_ac (rx_sd_iconst dX9_turnTable_61 (by decide)) ?_
  refine rx_ac (rx_sd_istore (M := m_X9_turnTable Y) dX9_turnTable_62) ?_
  refine rx_ac (rx_sd_iload dX9_turnTable_64) ?_
  refine rx_ac (rx_sd_iload_n dX9_turnTable_66 rfl) ?_
  refine rx_ac (rx_sd_icmp_ge hY dX9_turnTable_67 (by decide)) ?_
  refine rx_ac (rx_sd_aload_n dX9_turnTable_70 rfl) ?_
  refine rx_ac (rx_sd_iload dX9_turnTable_71) ?_
  refine rx_ac (rx_sd_bipush dX9_turnTable_73 (by decide)) ?_
  refine rx_ac (rx_sd_imul dX9_turnTable_75) ?_
  refine rx_ac (rx_sd_iload_n dX9_turnTable_76 rfl) ?_
  refine rx_ac (rx_sd_iadd dX9_turnTable_77) ?_
  refine rx_ac (rx_sd_aload_n dX9_turnTable_78 rfl) ?_
  refine rx_ac (rx_sd_iload dX9_turnTable_79) ?_
  refine rx_ac (rx_sd_bipush dX9_turnTable_81 (by decide)) ?_
  refine rx_ac (rx_sd_imul dX9_turnTable_83) ?_
  refine rx_ac (rx_sd_iload_n dX9_turnTable_84 rfl) ?_
  refine rx_ac (rx_sd_iadd dX9_turnTable_85) ?_
  refine rx_ac (rx_sd_iald ⟨rfl, rfl, rfl⟩ dX9_turnTable_86) ?_
  refine rx_ac (rx_sd_ineg dX9_turnTable_87) ?_
  refine rx_ac (rx_sd_iast hY ⟨rfl, rfl, rfl⟩ dX9_turnTable_88) ?_
  refine rx_ac (rx_sd_iinc (M := m_X9_turnTable Y) dX9_turnTable_89 (by decide)) ?_
  refine rx_ac (rx_sd_goto dX9_turnTable_92 (by decide)) ?_
  refine rx_ac (rx_sd_iconst dX9_turnTable_95 (by decide)) ?_
  refine rx_ac (rx_sd_istore (M := m_X9_turnTable Y) dX9_turnTable_96) ?_
  refine rx_ac (rx_sd_iload dX9_turnTable_98) ?_
  refine rx_ac (rx_sd_iload_n dX9_turnTable_100 rfl) ?_
  refine rx_ac (rx_sd_icmp_ge hY dX9_turnTable_101 (by decide)) ?_
  refine rx_ac (rx_sd_iload dX9_turnTable_104) ?_
  refine rx_ac (rx_sd_iload_n dX9_turnTable_106 rfl) ?_
  refine rx_ac (rx_sd_icmp_eq hY dX9_turnTable_107 (by decide)) ?_
  refine rx_ac (rx_sd_iinc (M := m_X9_turnTable Y) dX9_turnTable_129 (by decide)) ?_
  refine rx_ac (rx_sd_goto dX9_turnTable_132 (by decide)) ?_
  refine rx_ac (rx_sd_ret0 (M := m_X9_turnTable Y) rfl dX9_turnTable_135) ?_
  exact rx_an
set_option maxRecDepth 100000 in
set_option maxHeartbeats 4000000 in
theorem s_X9_way {l : Launch} {D : va_G} {cy : Nat → ClassId} {σ : Nat → Int32} {Y : rx_Y} (hY : rx_YOk Y σ) : ∀ q ∈ p_X9_way Y, rx_Sd (gG l D cy σ) (mt Y) (m_X9_way Y) q.1 q.2 := by
  unfold p_X9_way
  refine rx_ac (rx_sd_aload_n dX9_way_0 rfl) ?_
  refine rx_ac (rx_sd_get (C := RX9) (T := TX9) (N := 15) in_X9 rfl (by decide) kw_314 dX9_way_1) ?_
  refine rx_ac (rx_sd_iconst dX9_way_4 (by decide)) ?_
  refine rx_ac (rx_sd_aald (t := 0) rfl dX9_way_5) ?_
  refine rx_ac (rx_sd_cl (M := m_X9_way Y) (rx_lk_V gok (mid := 42) (ci := 6) (C := (RX6, TX6, 2)) ⟨kw_250, kw_134, hd_X6_isCut, Nat.le_of_ble_eq_true rfl, Nat.le_of_ble_eq_true rfl⟩ rfl kw_340 kw_252 kw_253 dX9_way_6) (fun _ => ⟨_, rfl⟩) rfl rfl) ?_
  refine rx_ac (rx_sd_if_eq hY dX9_way_9 (by decide)) ?_
  refine rx_ac (rx_sd_iconst dX9_way_45 (by decide)) ?_
  refine rx_ac (rx_sd_retI (M := m_X9_way Y) rfl (Or.inl rfl) dX9_way_46) ?_
  exact rx_an
set_option maxRecDepth 100000 in
set_option maxHeartbeats 4000000 in
theorem s_X9_what {l : Launch} {D : va_G} {cy : Nat → ClassId} {σ : Nat → Int32} {Y : rx_Y} (hY : rx_YOk Y σ) : ∀ q ∈ p_X9_what Y, rx_Sd (gG l D cy σ) (mt Y) (m_X9_what Y) q.1 q.2 := by
  unfold p_X9_what
  refine rx_ac (rx_sd_aload_n dX9_what_0 rfl) ?_
  refine rx_ac (rx_sd_get (C := RX9) (T := TX9) (N := 15) in_X9 rfl (by decide) kw_286 dX9_what_1) ?_
  refine rx_ac (rx_sd_iload_n dX9_what_4 rfl) ?_
  refine rx_ac (rx_sd_iload_n dX9_what_5 rfl) ?_
  refine rx_ac (rx_sd_cl (M := m_X9_what Y) (rx_lk_V gok (mid := 12) (ci := 0) (C := (RX0, TX0, 18)) ⟨kw_422, kw_4, hd_X0_tell, Nat.le_of_ble_eq_true rfl, Nat.le_of_ble_eq_true rfl⟩ rfl kw_423 kw_424 kw_425 dX9_what_6) (fun _ => ⟨_, rfl⟩) rfl rfl) ?_
  refine rx_ac (rx_sd_retL (M := m_X9_what Y) rfl dX9_what_9) ?_
  exact rx_an
set_option maxRecDepth 100000 in
set_option maxHeartbeats 4000000 in
theorem s_X10_add {l : Launch} {D : va_G} {cy : Nat → ClassId} {σ : Nat → Int32} {Y : rx_Y} (hY : rx_YOk Y σ) : ∀ q ∈ p_X10_add Y, rx_Sd (gG l D cy σ) (mt Y) (m_X10_add Y) q.1 q.2 := by
  unfold p_X10_add
  refine rx_ac (rx_sd_aload_n dX10_add_0 rfl) ?_
  refine rx_ac (rx_sd_iload_n dX10_add_1 rfl) ?_
  refine rx_ac (rx_sd_cl (M := m_X10_add Y) (rx_lk_V gok (mid := 131) (ci := 10) (C := (RX10, TX10, 58)) ⟨kw_426, kw_427, hd_X10_placeIn, Nat.le_of_ble_eq_true rfl, Nat.le_of_ble_eq_true rfl⟩ rfl kw_428 kw_429 kw_430 dX10_add_2) (fun _ => ⟨_, rfl⟩) rfl rfl) ?_
  refine rx_ac (rx_sd_istore_n (M := m_X10_add Y) dX10_add_5 rfl) ?_
  refine rx_ac (rx_sd_iload_n dX10_add_6 rfl) ?_
  refine rx_ac (rx_sd_aload_n dX10_add_7 rfl) ?_
  refine rx_ac (rx_sd_get (C := RX10) (T := TX10) (N := 58) in_X10 rfl (by decide) kw_431 dX10_add_8) ?_
  refine rx_ac (rx_sd_iload_n dX10_add_11 rfl) ?_
  refine rx_ac (rx_sd_iald ⟨rfl, rfl, rfl⟩ dX10_add_12) ?_
  refine rx_ac (rx_sd_icmp_ge hY dX10_add_13 (by decide)) ?_
  refine rx_ac (rx_sd_aload_n dX10_add_16 rfl) ?_
  refine rx_ac (rx_sd_iload_n dX10_add_17 rfl) ?_
  refine rx_ac (rx_sd_iload_n dX10_add_18 rfl) ?_
  refine rx_ac (rx_sd_cl (M := m_X10_add Y) (rx_lk_V gok (mid := 95) (ci := 10) (C := (RX10, TX10, 58)) ⟨kw_432, kw_427, hd_X10_against, Nat.le_of_ble_eq_true rfl, Nat.le_of_ble_eq_true rfl⟩ rfl kw_433 kw_434 kw_435 dX10_add_19) (fun _ => ⟨_, rfl⟩) rfl rfl) ?_
  refine rx_ac (rx_sd_if_ne hY dX10_add_22 (by decide)) ?_
  refine rx_ac (rx_sd_aload_n dX10_add_25 rfl) ?_
  refine rx_ac (rx_sd_get (C := RX10) (T := TX10) (N := 58) in_X10 rfl (by decide) kw_436 dX10_add_26) ?_
  refine rx_ac (rx_sd_sipush dX10_add_29 (by decide)) ?_
  refine rx_ac (rx_sd_iload_n dX10_add_32 rfl) ?_
  refine rx_ac (rx_sd_imul dX10_add_33) ?_
  refine rx_ac (rx_sd_iload_n dX10_add_34 rfl) ?_
  refine rx_ac (rx_sd_iadd dX10_add_35) ?_
  refine rx_ac (rx_sd_dup2 dX10_add_36) ?_
  refine rx_ac (rx_sd_lald ⟨rfl, rfl, rfl⟩ dX10_add_37) ?_
  refine rx_ac (rx_sd_aload_n dX10_add_38 rfl) ?_
  refine rx_ac (rx_sd_get (C := RX10) (T := TX10) (N := 58) in_X10 rfl (by decide) kw_437 dX10_add_39) ?_
  refine rx_ac (rx_sd_ladd dX10_add_42) ?_
  refine rx_ac (rx_sd_last ⟨rfl, rfl, rfl⟩ dX10_add_43) ?_
  refine rx_ac (rx_sd_goto dX10_add_44 (by decide)) ?_
  refine rx_ac (rx_sd_aload_n dX10_add_226 rfl) ?_
  refine rx_ac (rx_sd_get (C := RX10) (T := TX10) (N := 58) in_X10 rfl (by decide) kw_436 dX10_add_227) ?_
  refine rx_ac (rx_sd_sipush dX10_add_230 (by decide)) ?_
  refine rx_ac (rx_sd_iload_n dX10_add_233 rfl) ?_
  refine rx_ac (rx_sd_imul dX10_add_234) ?_
  refine rx_ac (rx_sd_iload_n dX10_add_235 rfl) ?_
  refine rx_ac (rx_sd_iadd dX10_add_236) ?_
  refine rx_ac (rx_sd_lald ⟨rfl, rfl, rfl⟩ dX10_add_237) ?_
  refine rx_ac (rx_sd_ldc2 (M := m_X10_add Y) kw_438 dX10_add_238) ?_
  refine rx_ac (rx_sd_lcmp dX10_add_241) ?_
  refine rx_ac (rx_sd_if_le hY dX10_add_242 (by decide)) ?_
  refine rx_ac (rx_sd_ret0 (M := m_X10_add Y) rfl dX10_add_250) ?_
  exact rx_an
set_option maxRecDepth 100000 in
set_option maxHeartbeats 4000000 in
theorem s_X10_against {l : Launch} {D : va_G} {cy : Nat → ClassId} {σ : Nat → Int32} {Y : rx_Y} (hY : rx_YOk Y σ) : ∀ q ∈ p_X10_against Y, rx_Sd (gG l D cy σ) (mt Y) (m_X10_against Y) q.1 q.2 := by
  unfold p_X10_against
  refine rx_ac (rx_sd_iconst dX10_against_0 (by decide)) ?_
  refine rx_ac (rx_sd_istore_n (M := m_X10_against Y) dX10_against_1 rfl) ?_
  refine rx_ac (rx_sd_iload_n dX10_against_2 rfl) ?_
  refine rx_ac (rx_sd_bipush dX10_against_3 (by decide)) ?_
  refine rx_ac (rx_sd_icmp_ge hY dX10_against_5 (by decide)) ?_
  refine rx_ac (rx_sd_aload_n dX10_against_8 rfl) ?_
  refine rx_ac (rx_sd_get (C := RX10) (T := TX10) (N := 58) in_X10 rfl (by decide) kw_439 dX10_against_9) ?_
  refine rx_ac (rx_sd_bipush dX10_against_12 (by decide)) ?_
  refine rx_ac (rx_sd_sipush dX10_against_14 (by decide)) ?_
  refine rx_ac (rx_sd_iload_n dX10_against_17 rfl) ?_
  refine rx_ac (rx_sd_imul dX10_against_18) ?_
  refine rx_ac (rx_sd_iload_n dX10_against_19 rfl) ?_
  refine rx_ac (rx_sd_iadd dX10_against_20) ?_
  refine rx_ac (rx_sd_imul dX10_against_21) ?_
  refine rx_ac (rx_sd_iload_n dX10_against_22 rfl) ?_
  refine rx_ac (rx_sd_iadd dX10_against_23) ?_
  refine rx_ac (rx_sd_iald ⟨rfl, rfl, rfl⟩ dX10_against_24) ?_
  refine rx_ac (rx_sd_istore (M := m_X10_against Y) dX10_against_25) ?_
  refine rx_ac (rx_sd_iload dX10_against_27) ?_
  refine rx_ac (rx_sd_aload_n dX10_against_29 rfl) ?_
  refine rx_ac (rx_sd_get (C := RX10) (T := TX10) (N := 58) in_X10 rfl (by decide) kw_440 dX10_against_30) ?_
  refine rx_ac (rx_sd_iload_n dX10_against_33 rfl) ?_
  refine rx_ac (rx_sd_iald ⟨rfl, rfl, rfl⟩ dX10_against_34) ?_
  refine rx_ac (rx_sd_icmp_eq hY dX10_against_35 (by decide)) ?_
  refine rx_ac (rx_sd_iinc (M := m_X10_against Y) dX10_against_55 (by decide)) ?_
  refine rx_ac (rx_sd_goto dX10_against_58 (by decide)) ?_
  refine rx_ac (rx_sd_iconst dX10_against_61 (by decide)) ?_
  refine rx_ac (rx_sd_retI (M := m_X10_against Y) rfl (Or.inl rfl) dX10_against_62) ?_
  exact rx_an
set_option maxRecDepth 100000 in
set_option maxHeartbeats 4000000 in
theorem s_X10_all {l : Launch} {D : va_G} {cy : Nat → ClassId} {σ : Nat → Int32} {Y : rx_Y} (hY : rx_YOk Y σ) : ∀ q ∈ p_X10_all Y, rx_Sd (gG l D cy σ) (mt Y) (m_X10_all Y) q.1 q.2 := by
  unfold p_X10_all
  refine rx_ac (rx_sd_aload_n dX10_all_0 rfl) ?_
  refine rx_ac (rx_sd_bipush dX10_all_1 (by decide)) ?_
  refine rx_ac (rx_sd_cl (M := m_X10_all Y) (rx_lk_V gok (mid := 138) (ci := 10) (C := (RX10, TX10, 58)) ⟨kw_441, kw_427, hd_X10_saves, Nat.le_of_ble_eq_true rfl, Nat.le_of_ble_eq_true rfl⟩ rfl kw_442 kw_443 kw_444 dX10_all_3) (fun _ => ⟨_, rfl⟩) rfl rfl) ?_
  refine rx_ac (rx_sd_aload_n dX10_all_6 rfl) ?_
  refine rx_ac (rx_sd_cl (M := m_X10_all Y) (rx_lk_V gok (mid := 113) (ci := 10) (C := (RX10, TX10, 58)) ⟨kw_445, kw_427, hd_X10_goesThrough, Nat.le_of_ble_eq_true rfl, Nat.le_of_ble_eq_true rfl⟩ rfl kw_446 kw_447 kw_448 dX10_all_7) (fun _ => ⟨_, rfl⟩) rfl rfl) ?_
  refine rx_ac (rx_sd_istore_n (M := m_X10_all Y) dX10_all_10 rfl) ?_
  refine rx_ac (rx_sd_aload_n dX10_all_11 rfl) ?_
  refine rx_ac (rx_sd_bipush dX10_all_12 (by decide)) ?_
  refine rx_ac (rx_sd_cl (M := m_X10_all Y) (rx_lk_V gok (mid := 133) (ci := 10) (C := (RX10, TX10, 58)) ⟨kw_449, kw_427, hd_X10_restores, Nat.le_of_ble_eq_true rfl, Nat.le_of_ble_eq_true rfl⟩ rfl kw_450 kw_451 kw_452 dX10_all_14) (fun _ => ⟨_, rfl⟩) rfl rfl) ?_
  refine rx_ac (rx_sd_aload_n dX10_all_17 rfl) ?_
  refine rx_ac (rx_sd_iload_n dX10_all_18 rfl) ?_
  refine rx_ac (rx_sd_if_eq hY dX10_all_19 (by decide)) ?_
  refine rx_ac (rx_sd_aload_n dX10_all_22 rfl) ?_
  refine rx_ac (rx_sd_get (C := RX10) (T := TX10) (N := 58) in_X10 rfl (by decide) kw_453 dX10_all_23) ?_
  refine rx_ac (rx_sd_goto dX10_all_26 (by decide)) ?_
  refine rx_ac (rx_sd_putf (C := RX10) (T := TX10) (N := 58) (ty0 := tyX10) in_X10 tyX10_ok nmX10 rfl (by decide) kw_454 (Or.inl rfl) rfl dX10_all_30) ?_
  refine rx_ac (rx_sd_iload_n dX10_all_33 rfl) ?_
  refine rx_ac (rx_sd_if_ne hY dX10_all_34 (by decide)) ?_
  refine rx_ac (rx_sd_aload_n dX10_all_40 rfl) ?_
  refine rx_ac (rx_sd_iconst dX10_all_41 (by decide)) ?_
  refine rx_ac (rx_sd_putf (C := RX10) (T := TX10) (N := 58) (ty0 := tyX10) in_X10 tyX10_ok nmX10 rfl (by decide) kw_455 (Or.inl rfl) rfl dX10_all_42) ?_
  refine rx_ac (rx_sd_aload_n dX10_all_45 rfl) ?_
  refine rx_ac (rx_sd_aload_n dX10_all_46 rfl) ?_
  refine rx_ac (rx_sd_get (C := RX10) (T := TX10) (N := 58) in_X10 rfl (by decide) kw_456 dX10_all_47) ?_
  refine rx_ac (rx_sd_putf (C := RX10) (T := TX10) (N := 58) (ty0 := tyX10) in_X10 tyX10_ok nmX10 rfl (by decide) kw_457 (Or.inl rfl) rfl dX10_all_50) ?_
  refine rx_ac (rx_sd_iconst dX10_all_53 (by decide)) ?_
  refine rx_ac (rx_sd_istore_n (M := m_X10_all Y) dX10_all_54 rfl) ?_
  refine rx_ac (rx_sd_iload_n dX10_all_55 rfl) ?_
  refine rx_ac (rx_sd_aload_n dX10_all_56 rfl) ?_
  refine rx_ac (rx_sd_get (C := RX10) (T := TX10) (N := 58) in_X10 rfl (by decide) kw_456 dX10_all_57) ?_
  refine rx_ac (rx_sd_icmp_ge hY dX10_all_60 (by decide)) ?_
  refine rx_ac (rx_sd_aload_n dX10_all_63 rfl) ?_
  refine rx_ac (rx_sd_get (C := RX10) (T := TX10) (N := 58) in_X10 rfl (by decide) kw_458 dX10_all_64) ?_
  refine rx_ac (rx_sd_iload_n dX10_all_67 rfl) ?_
  refine rx_ac (rx_sd_aload_n dX10_all_68 rfl) ?_
  refine rx_ac (rx_sd_get (C := RX10) (T := TX10) (N := 58) in_X10 rfl (by decide) kw_431 dX10_all_69) ?_
  refine rx_ac (rx_sd_bipush dX10_all_72 (by decide)) ?_
  refine rx_ac (rx_sd_iload_n dX10_all_74 rfl) ?_
  refine rx_ac (rx_sd_iadd dX10_all_75) ?_
  refine rx_ac (rx_sd_iald ⟨rfl, rfl, rfl⟩ dX10_all_76) ?_
  refine rx_ac (rx_sd_iast hY ⟨rfl, rfl, rfl⟩ dX10_all_77) ?_
  refine rx_ac (rx_sd_aload_n dX10_all_78 rfl) ?_
  refine rx_ac (rx_sd_get (C := RX10) (T := TX10) (N := 58) in_X10 rfl (by decide) kw_459 dX10_all_79) ?_
  refine rx_ac (rx_sd_iload_n dX10_all_82 rfl) ?_
  refine rx_ac (rx_sd_aload_n dX10_all_83 rfl) ?_
  refine rx_ac (rx_sd_bipush dX10_all_84 (by decide)) ?_
  refine rx_ac (rx_sd_iload_n dX10_all_86 rfl) ?_
  refine rx_ac (rx_sd_iadd dX10_all_87) ?_
  refine rx_ac (rx_sd_cl (M := m_X10_all Y) (rx_lk_V gok (mid := 143) (ci := 10) (C := (RX10, TX10, 58)) ⟨kw_460, kw_427, hd_X10_sumOf, Nat.le_of_ble_eq_true rfl, Nat.le_of_ble_eq_true rfl⟩ rfl kw_461 kw_462 kw_463 dX10_all_88) (fun _ => ⟨_, rfl⟩) rfl rfl) ?_
  refine rx_ac (rx_sd_last ⟨rfl, rfl, rfl⟩ dX10_all_91) ?_
  refine rx_ac (rx_sd_iconst dX10_all_92 (by decide)) ?_
  refine rx_ac (rx_sd_istore_n (M := m_X10_all Y) dX10_all_93 rfl) ?_
  refine rx_ac (rx_sd_iload_n dX10_all_94 rfl) ?_
  refine rx_ac (rx_sd_bipush dX10_all_95 (by decide)) ?_
  refine rx_ac (rx_sd_icmp_ge hY dX10_all_97 (by decide)) ?_
  refine rx_ac (rx_sd_aload_n dX10_all_100 rfl) ?_
  refine rx_ac (rx_sd_get (C := RX10) (T := TX10) (N := 58) in_X10 rfl (by decide) kw_464 dX10_all_101) ?_
  refine rx_ac (rx_sd_bipush dX10_all_104 (by decide)) ?_
  refine rx_ac (rx_sd_iload_n dX10_all_106 rfl) ?_
  refine rx_ac (rx_sd_imul dX10_all_107) ?_
  refine rx_ac (rx_sd_iload_n dX10_all_108 rfl) ?_
  refine rx_ac (rx_sd_iadd dX10_all_109) ?_
  refine rx_ac (rx_sd_aload_n dX10_all_110 rfl) ?_
  refine rx_ac (rx_sd_bipush dX10_all_111 (by decide)) ?_
  refine rx_ac (rx_sd_iload_n dX10_all_113 rfl) ?_
  refine rx_ac (rx_sd_iadd dX10_all_114) ?_
  refine rx_ac (rx_sd_iload_n dX10_all_115 rfl) ?_
  refine rx_ac (rx_sd_cl (M := m_X10_all Y) (rx_lk_V gok (mid := 123) (ci := 10) (C := (RX10, TX10, 58)) ⟨kw_465, kw_427, hd_X10_leastOf, Nat.le_of_ble_eq_true rfl, Nat.le_of_ble_eq_true rfl⟩ rfl kw_466 kw_467 kw_468 dX10_all_116) (fun _ => ⟨_, rfl⟩) rfl rfl) ?_
  refine rx_ac (rx_sd_iast hY ⟨rfl, rfl, rfl⟩ dX10_all_119) ?_
  refine rx_ac (rx_sd_iinc (M := m_X10_all Y) dX10_all_120 (by decide)) ?_
  refine rx_ac (rx_sd_goto dX10_all_123 (by decide)) ?_
  refine rx_ac (rx_sd_iinc (M := m_X10_all Y) dX10_all_126 (by decide)) ?_
  refine rx_ac (rx_sd_goto dX10_all_129 (by decide)) ?_
  refine rx_ac (rx_sd_aload_n dX10_all_132 rfl) ?_
  refine rx_ac (rx_sd_aload_n dX10_all_133 rfl) ?_
  refine rx_ac (rx_sd_get (C := RX10) (T := TX10) (N := 58) in_X10 rfl (by decide) kw_469 dX10_all_134) ?_
  refine rx_ac (rx_sd_aload_n dX10_all_137 rfl) ?_
  refine rx_ac (rx_sd_get (C := RX10) (T := TX10) (N := 58) in_X10 rfl (by decide) kw_470 dX10_all_138) ?_
  refine rx_ac (rx_sd_iadd dX10_all_141) ?_
  refine rx_ac (rx_sd_putf (C := RX10) (T := TX10) (N := 58) (ty0 := tyX10) in_X10 tyX10_ok nmX10 rfl (by decide) kw_471 (Or.inl rfl) rfl dX10_all_142) ?_
  refine rx_ac (rx_sd_aload_n dX10_all_145 rfl) ?_
  refine rx_ac (rx_sd_get (C := RX10) (T := TX10) (N := 58) in_X10 rfl (by decide) kw_453 dX10_all_146) ?_
  refine rx_ac (rx_sd_retI (M := m_X10_all Y) rfl (Or.inl rfl) dX10_all_149) ?_
  exact rx_an
