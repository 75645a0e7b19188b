set_option maxRecDepth 100000 in
set_option maxHeartbeats 4000000 in
theorem s_X10_isWild {l : Launch} {D : va_G} {cy : Nat → ClassId} {σ : Nat → Int32} {Y : rx_Y} (hY : rx_YOk Y σ) : ∀ q ∈ p_X10_isWild Y, rx_Sd (gG l D cy σ) (mt Y) (m_X10_isWild Y) q.1 q.2 := by
  unfold p_X10_isWild
  refine rx_ac (rx_sd_iconst dX10_isWild_0 (by decide)) ?_
  refine rx_ac (rx_sd_istore_n (M := m_X10_isWild Y) dX10_isWild_1 rfl) ?_
  refine rx_ac (rx_sd_iload_n dX10_isWild_2 rfl) ?_
  refine rx_ac (rx_sd_aload_n dX10_isWild_3 rfl) ?_
  refine rx_ac (rx_sd_get (C := RX10) (T := TX10) (N := 58) in_X10 rfl (by decide) kw_469 dX10_isWild_4) ?_
  refine rx_ac (rx_sd_icmp_ge hY dX10_isWild_7 (by decide)) ?_
  refine rx_ac (rx_sd_iconst dX10_isWild_10 (by decide)) ?_
  refine rx_ac (rx_sd_istore_n (M := m_X10_isWild Y) dX10_isWild_11 rfl) ?_
  refine rx_ac (rx_sd_iload_n dX10_isWild_12 rfl) ?_
  refine rx_ac (rx_sd_aload_n dX10_isWild_13 rfl) ?_
  refine rx_ac (rx_sd_get (C := RX10) (T := TX10) (N := 58) in_X10 rfl (by decide) kw_469 dX10_isWild_14) ?_
  refine rx_ac (rx_sd_icmp_ge hY dX10_isWild_17 (by decide)) ?_
  refine rx_ac (rx_sd_aload_n dX10_isWild_20 rfl) ?_
  refine rx_ac (rx_sd_get (C := RX10) (T := TX10) (N := 58) in_X10 rfl (by decide) kw_473 dX10_isWild_21) ?_
  refine rx_ac (rx_sd_bipush dX10_isWild_24 (by decide)) ?_
  refine rx_ac (rx_sd_iload_n dX10_isWild_26 rfl) ?_
  refine rx_ac (rx_sd_imul dX10_isWild_27) ?_
  refine rx_ac (rx_sd_iload_n dX10_isWild_28 rfl) ?_
  refine rx_ac (rx_sd_iadd dX10_isWild_29) ?_
  refine rx_ac (rx_sd_iald ⟨rfl, rfl, rfl⟩ dX10_isWild_30) ?_
  refine rx_ac (rx_sd_aload_n dX10_isWild_31 rfl) ?_
  refine rx_ac (rx_sd_get (C := RX10) (T := TX10) (N := 58) in_X10 rfl (by decide) kw_473 dX10_isWild_32) ?_
  refine rx_ac (rx_sd_bipush dX10_isWild_35 (by decide)) ?_
  refine rx_ac (rx_sd_iload_n dX10_isWild_37 rfl) ?_
  refine rx_ac (rx_sd_imul dX10_isWild_38) ?_
  refine rx_ac (rx_sd_iload_n dX10_isWild_39 rfl) ?_
  refine rx_ac (rx_sd_iadd dX10_isWild_40) ?_
  refine rx_ac (rx_sd_iald ⟨rfl, rfl, rfl⟩ dX10_isWild_41) ?_
  refine rx_ac (rx_sd_imul dX10_isWild_42) ?_
  refine rx_ac (rx_sd_bipush dX10_isWild_43 (by decide)) ?_
  refine rx_ac (rx_sd_icmp_ge hY dX10_isWild_45 (by decide)) ?_
  refine rx_ac (rx_sd_iinc (M := m_X10_isWild Y) dX10_isWild_50 (by decide)) ?_
  refine rx_ac (rx_sd_goto dX10_isWild_53 (by decide)) ?_
  refine rx_ac (rx_sd_iinc (M := m_X10_isWild Y) dX10_isWild_56 (by decide)) ?_
  refine rx_ac (rx_sd_goto dX10_isWild_59 (by decide)) ?_
  refine rx_ac (rx_sd_iconst dX10_isWild_62 (by decide)) ?_
  refine rx_ac (rx_sd_retI (M := m_X10_isWild Y) rfl (Or.inr rfl) dX10_isWild_63) ?_
  exact rx_an
set_option maxRecDepth 100000 in
set_option maxHeartbeats 4000000 in
theorem s_X10_keep {l : Launch} {D : va_G} {cy : Nat → ClassId} {σ : Nat → Int32} {Y : rx_Y} (hY : rx_YOk Y σ) : ∀ q ∈ p_X10_keep Y, rx_Sd (gG l D cy σ) (mt Y) (m_X10_keep Y) q.1 q.2 := by
  unfold p_X10_keep
  refine rx_ac (rx_sd_iload_n dX10_keep_0 rfl) ?_
  refine rx_ac (rx_sd_if_lt hY dX10_keep_1 (by decide)) ?_
  refine rx_ac (rx_sd_iload_n dX10_keep_4 rfl) ?_
  refine rx_ac (rx_sd_iconst dX10_keep_5 (by decide)) ?_
  refine rx_ac (rx_sd_icmp_le hY dX10_keep_6 (by decide)) ?_
  refine rx_ac (rx_sd_iconst dX10_keep_9 (by decide)) ?_
  refine rx_ac (rx_sd_retI (M := m_X10_keep Y) rfl (Or.inr rfl) dX10_keep_10) ?_
  refine rx_ac (rx_sd_aload_n dX10_keep_11 rfl) ?_
  refine rx_ac (rx_sd_get (C := RX10) (T := TX10) (N := 58) in_X10 rfl (by decide) kw_539 dX10_keep_12) ?_
  refine rx_ac (rx_sd_iload_n dX10_keep_15 rfl) ?_
  refine rx_ac (rx_sd_aload_n dX10_keep_16 rfl) ?_
  refine rx_ac (rx_sd_get (C := RX10) (T := TX10) (N := 58) in_X10 rfl (by decide) kw_469 dX10_keep_17) ?_
  refine rx_ac (rx_sd_iast hY ⟨rfl, rfl, rfl⟩ dX10_keep_20) ?_
  refine rx_ac (rx_sd_aload_n dX10_keep_21 rfl) ?_
  refine rx_ac (rx_sd_get (C := RX10) (T := TX10) (N := 58) in_X10 rfl (by decide) kw_540 dX10_keep_22) ?_
  refine rx_ac (rx_sd_iload_n dX10_keep_25 rfl) ?_
  refine rx_ac (rx_sd_aload_n dX10_keep_26 rfl) ?_
  refine rx_ac (rx_sd_get (C := RX10) (T := TX10) (N := 58) in_X10 rfl (by decide) kw_470 dX10_keep_27) ?_
  refine rx_ac (rx_sd_iast hY ⟨rfl, rfl, rfl⟩ dX10_keep_30) ?_
  refine rx_ac (rx_sd_iconst dX10_keep_31 (by decide)) ?_
  refine rx_ac (rx_sd_istore_n (M := m_X10_keep Y) dX10_keep_32 rfl) ?_
  refine rx_ac (rx_sd_iload_n dX10_keep_33 rfl) ?_
  refine rx_ac (rx_sd_bipush dX10_keep_34 (by decide)) ?_
  refine rx_ac (rx_sd_icmp_ge hY dX10_keep_36 (by decide)) ?_
  refine rx_ac (rx_sd_aload_n dX10_keep_39 rfl) ?_
  refine rx_ac (rx_sd_get (C := RX10) (T := TX10) (N := 58) in_X10 rfl (by decide) kw_541 dX10_keep_40) ?_
  refine rx_ac (rx_sd_bipush dX10_keep_43 (by decide)) ?_
  refine rx_ac (rx_sd_iload_n dX10_keep_45 rfl) ?_
  refine rx_ac (rx_sd_imul dX10_keep_46) ?_
  refine rx_ac (rx_sd_iload_n dX10_keep_47 rfl) ?_
  refine rx_ac (rx_sd_iadd dX10_keep_48) ?_
  refine rx_ac (rx_sd_aload_n dX10_keep_49 rfl) ?_
  refine rx_ac (rx_sd_get (C := RX10) (T := TX10) (N := 58) in_X10 rfl (by decide) kw_473 dX10_keep_50) ?_
  refine rx_ac (rx_sd_iload_n dX10_keep_53 rfl) ?_
  refine rx_ac (rx_sd_iald ⟨rfl, rfl, rfl⟩ dX10_keep_54) ?_
  refine rx_ac (rx_sd_iast hY ⟨rfl, rfl, rfl⟩ dX10_keep_55) ?_
  refine rx_ac (rx_sd_iinc (M := m_X10_keep Y) dX10_keep_56 (by decide)) ?_
  refine rx_ac (rx_sd_goto dX10_keep_59 (by decide)) ?_
  refine rx_ac (rx_sd_iconst dX10_keep_62 (by decide)) ?_
  refine rx_ac (rx_sd_istore_n (M := m_X10_keep Y) dX10_keep_63 rfl) ?_
  refine rx_ac (rx_sd_iload_n dX10_keep_64 rfl) ?_
  refine rx_ac (rx_sd_aload_n dX10_keep_65 rfl) ?_
  refine rx_ac (rx_sd_get (C := RX10) (T := TX10) (N := 58) in_X10 rfl (by decide) kw_469 dX10_keep_66) ?_
  refine rx_ac (rx_sd_icmp_ge hY dX10_keep_69 (by decide)) ?_
  refine rx_ac (rx_sd_aload_n dX10_keep_72 rfl) ?_
  refine rx_ac (rx_sd_bipush dX10_keep_73 (by decide)) ?_
  refine rx_ac (rx_sd_bipush dX10_keep_75 (by decide)) ?_
  refine rx_ac (rx_sd_iload_n dX10_keep_77 rfl) ?_
  refine rx_ac (rx_sd_imul dX10_keep_78) ?_
  refine rx_ac (rx_sd_iadd dX10_keep_79) ?_
  refine rx_ac (rx_sd_iload_n dX10_keep_80 rfl) ?_
  refine rx_ac (rx_sd_iadd dX10_keep_81) ?_
  refine rx_ac (rx_sd_iload_n dX10_keep_82 rfl) ?_
  refine rx_ac (rx_sd_cl (M := m_X10_keep Y) (rx_lk_V gok (mid := 104) (ci := 10) (C := (RX10, TX10, 58)) ⟨kw_562, kw_427, hd_X10_copy, Nat.le_of_ble_eq_true rfl, Nat.le_of_ble_eq_true rfl⟩ rfl kw_563 kw_564 kw_565 dX10_keep_83) (fun _ => ⟨_, rfl⟩) rfl rfl) ?_
  refine rx_ac (rx_sd_iinc (M := m_X10_keep Y) dX10_keep_86 (by decide)) ?_
  refine rx_ac (rx_sd_goto dX10_keep_89 (by decide)) ?_
  refine rx_ac (rx_sd_iconst dX10_keep_92 (by decide)) ?_
  refine rx_ac (rx_sd_retI (M := m_X10_keep Y) rfl (Or.inr rfl) dX10_keep_93) ?_
  exact rx_an
set_option maxRecDepth 100000 in
set_option maxHeartbeats 4000000 in
theorem s_X10_least {l : Launch} {D : va_G} {cy : Nat → ClassId} {σ : Nat → Int32} {Y : rx_Y} (hY : rx_YOk Y σ) : ∀ q ∈ p_X10_least Y, rx_Sd (gG l D cy σ) (mt Y) (m_X10_least Y) q.1 q.2 := by
  unfold p_X10_least
  refine rx_ac (rx_sd_iload_n dX10_least_0 rfl) ?_
  refine rx_ac (rx_sd_if_lt hY dX10_least_1 (by decide)) ?_
  refine rx_ac (rx_sd_iload_n dX10_least_4 rfl) ?_
  refine rx_ac (rx_sd_aload_n dX10_least_5 rfl) ?_
  refine rx_ac (rx_sd_get (C := RX10) (T := TX10) (N := 58) in_X10 rfl (by decide) kw_469 dX10_least_6) ?_
  refine rx_ac (rx_sd_icmp_ge hY dX10_least_9 (by decide)) ?_
  refine rx_ac (rx_sd_iload_n dX10_least_12 rfl) ?_
  refine rx_ac (rx_sd_if_lt hY dX10_least_13 (by decide)) ?_
  refine rx_ac (rx_sd_iload_n dX10_least_16 rfl) ?_
  refine rx_ac (rx_sd_aload_n dX10_least_17 rfl) ?_
  refine rx_ac (rx_sd_get (C := RX10) (T := TX10) (N := 58) in_X10 rfl (by decide) kw_469 dX10_least_18) ?_
  refine rx_ac (rx_sd_aload_n dX10_least_21 rfl) ?_
  refine rx_ac (rx_sd_get (C := RX10) (T := TX10) (N := 58) in_X10 rfl (by decide) kw_470 dX10_least_22) ?_
  refine rx_ac (rx_sd_iadd dX10_least_25) ?_
  refine rx_ac (rx_sd_icmp_lt hY dX10_least_26 (by decide)) ?_
  refine rx_ac (rx_sd_iconst dX10_least_29 (by decide)) ?_
  refine rx_ac (rx_sd_goto dX10_least_30 (by decide)) ?_
  refine rx_ac (rx_sd_aload_n dX10_least_33 rfl) ?_
  refine rx_ac (rx_sd_iload_n dX10_least_34 rfl) ?_
  refine rx_ac (rx_sd_iload_n dX10_least_35 rfl) ?_
  refine rx_ac (rx_sd_cl (M := m_X10_least Y) (rx_lk_V gok (mid := 123) (ci := 10) (C := (RX10, TX10, 58)) ⟨kw_465, kw_427, hd_X10_leastOf, Nat.le_of_ble_eq_true rfl, Nat.le_of_ble_eq_true rfl⟩ rfl kw_466 kw_467 kw_468 dX10_least_36) (fun _ => ⟨_, rfl⟩) rfl rfl) ?_
  refine rx_ac (rx_sd_retI (M := m_X10_least Y) rfl (Or.inl rfl) dX10_least_39) ?_
  exact rx_an
set_option maxRecDepth 100000 in
set_option maxHeartbeats 4000000 in
theorem s_X10_leastOf {l : Launch} {D : va_G} {cy : Nat → ClassId} {σ : Nat → Int32} {Y : rx_Y} (hY : rx_YOk Y σ) : ∀ q ∈ p_X10_leastOf Y, rx_Sd (gG l D cy σ) (mt Y) (m_X10_leastOf Y) q.1 q.2 := by
  unfold p_X10_leastOf
  refine rx_ac (rx_sd_aload_n dX10_leastOf_0 rfl) ?_
  refine rx_ac (rx_sd_get (C := RX10) (T := TX10) (N := 58) in_X10 rfl (by decide) kw_439 dX10_leastOf_1) ?_
  refine rx_ac (rx_sd_sipush dX10_leastOf_4 (by decide)) ?_
  refine rx_ac (rx_sd_iload_n dX10_leastOf_7 rfl) ?_
  refine rx_ac (rx_sd_imul dX10_leastOf_8) ?_
  refine rx_ac (rx_sd_iload_n dX10_leastOf_9 rfl) ?_
  refine rx_ac (rx_sd_iadd dX10_leastOf_10) ?_
  refine rx_ac (rx_sd_iald ⟨rfl, rfl, rfl⟩ dX10_leastOf_11) ?_
  refine rx_ac (rx_sd_istore_n (M := m_X10_leastOf Y) dX10_leastOf_12 rfl) ?_
  refine rx_ac (rx_sd_iconst dX10_leastOf_13 (by decide)) ?_
  refine rx_ac (rx_sd_istore (M := m_X10_leastOf Y) dX10_leastOf_14) ?_
  refine rx_ac (rx_sd_iload dX10_leastOf_16) ?_
  refine rx_ac (rx_sd_aload_n dX10_leastOf_18 rfl) ?_
  refine rx_ac (rx_sd_get (C := RX10) (T := TX10) (N := 58) in_X10 rfl (by decide) kw_431 dX10_leastOf_19) ?_
  refine rx_ac (rx_sd_iload_n dX10_leastOf_22 rfl) ?_
  refine rx_ac (rx_sd_iald ⟨rfl, rfl, rfl⟩ dX10_leastOf_23) ?_
  refine rx_ac (rx_sd_icmp_ge hY dX10_leastOf_24 (by decide)) ?_
  refine rx_ac (rx_sd_iload_n dX10_leastOf_56 rfl) ?_
  refine rx_ac (rx_sd_retI (M := m_X10_leastOf Y) rfl (Or.inl rfl) dX10_leastOf_57) ?_
  exact rx_an
set_option maxRecDepth 100000 in
set_option maxHeartbeats 4000000 in
theorem s_X10_less {l : Launch} {D : va_G} {cy : Nat → ClassId} {σ : Nat → Int32} {Y : rx_Y} (hY : rx_YOk Y σ) : ∀ q ∈ p_X10_less Y, rx_Sd (gG l D cy σ) (mt Y) (m_X10_less Y) q.1 q.2 := by
  unfold p_X10_less
  refine rx_ac (rx_sd_aload_n dX10_less_0 rfl) ?_
  refine rx_ac (rx_sd_get (C := RX10) (T := TX10) (N := 58) in_X10 rfl (by decide) kw_436 dX10_less_1) ?_
  refine rx_ac (rx_sd_sipush dX10_less_4 (by decide)) ?_
  refine rx_ac (rx_sd_iload_n dX10_less_7 rfl) ?_
  refine rx_ac (rx_sd_imul dX10_less_8) ?_
  refine rx_ac (rx_sd_iload_n dX10_less_9 rfl) ?_
  refine rx_ac (rx_sd_iadd dX10_less_10) ?_
  refine rx_ac (rx_sd_dup2 dX10_less_11) ?_
  refine rx_ac (rx_sd_lald ⟨rfl, rfl, rfl⟩ dX10_less_12) ?_
  refine rx_ac (rx_sd_lload_n dX10_less_13 rfl) ?_
  refine rx_ac (rx_sd_lsub dX10_less_14) ?_
  refine rx_ac (rx_sd_last ⟨rfl, rfl, rfl⟩ dX10_less_15) ?_
  refine rx_ac (rx_sd_aload_n dX10_less_16 rfl) ?_
  refine rx_ac (rx_sd_get (C := RX10) (T := TX10) (N := 58) in_X10 rfl (by decide) kw_436 dX10_less_17) ?_
  refine rx_ac (rx_sd_sipush dX10_less_20 (by decide)) ?_
  refine rx_ac (rx_sd_iload_n dX10_less_23 rfl) ?_
  refine rx_ac (rx_sd_imul dX10_less_24) ?_
  refine rx_ac (rx_sd_iload_n dX10_less_25 rfl) ?_
  refine rx_ac (rx_sd_iadd dX10_less_26) ?_
  refine rx_ac (rx_sd_lald ⟨rfl, rfl, rfl⟩ dX10_less_27) ?_
  refine rx_ac (rx_sd_lconst dX10_less_28 (by decide)) ?_
  refine rx_ac (rx_sd_lcmp dX10_less_29) ?_
  refine rx_ac (rx_sd_if_eq hY dX10_less_30 (by decide)) ?_
  refine rx_ac (rx_sd_aload_n dX10_less_34 rfl) ?_
  refine rx_ac (rx_sd_get (C := RX10) (T := TX10) (N := 58) in_X10 rfl (by decide) kw_431 dX10_less_35) ?_
  refine rx_ac (rx_sd_iload_n dX10_less_38 rfl) ?_
  refine rx_ac (rx_sd_dup2 dX10_less_39) ?_
  refine rx_ac (rx_sd_iald ⟨rfl, rfl, rfl⟩ dX10_less_40) ?_
  refine rx_ac (rx_sd_iconst dX10_less_41 (by decide)) ?_
  refine rx_ac (rx_sd_isub dX10_less_42) ?_
  refine rx_ac (rx_sd_iast hY ⟨rfl, rfl, rfl⟩ dX10_less_43) ?_
  refine rx_ac (rx_sd_iload_n dX10_less_44 rfl) ?_
  refine rx_ac (rx_sd_istore (M := m_X10_less Y) dX10_less_45) ?_
  refine rx_ac (rx_sd_iload dX10_less_47) ?_
  refine rx_ac (rx_sd_aload_n dX10_less_49 rfl) ?_
  refine rx_ac (rx_sd_get (C := RX10) (T := TX10) (N := 58) in_X10 rfl (by decide) kw_431 dX10_less_50) ?_
  refine rx_ac (rx_sd_iload_n dX10_less_53 rfl) ?_
  refine rx_ac (rx_sd_iald ⟨rfl, rfl, rfl⟩ dX10_less_54) ?_
  refine rx_ac (rx_sd_icmp_ge hY dX10_less_55 (by decide)) ?_
  refine rx_ac (rx_sd_ret0 (M := m_X10_less Y) rfl dX10_less_148) ?_
  exact rx_an
set_option maxRecDepth 100000 in
set_option maxHeartbeats 4000000 in
theorem s_X10_lesser {l : Launch} {D : va_G} {cy : Nat → ClassId} {σ : Nat → Int32} {Y : rx_Y} (hY : rx_YOk Y σ) : ∀ q ∈ p_X10_lesser Y, rx_Sd (gG l D cy σ) (mt Y) (m_X10_lesser Y) q.1 q.2 := by
  unfold p_X10_lesser
  refine rx_ac (rx_sd_iload_n dX10_lesser_0 rfl) ?_
  refine rx_ac (rx_sd_iload_n dX10_lesser_1 rfl) ?_
  refine rx_ac (rx_sd_icmp_ge hY dX10_lesser_2 (by decide)) ?_
  refine rx_ac (rx_sd_iload_n dX10_lesser_5 rfl) ?_
  refine rx_ac (rx_sd_goto dX10_lesser_6 (by decide)) ?_
  refine rx_ac (rx_sd_iload_n dX10_lesser_9 rfl) ?_
  refine rx_ac (rx_sd_retI (M := m_X10_lesser Y) rfl (Or.inl rfl) dX10_lesser_10) ?_
  exact rx_an
set_option maxRecDepth 100000 in
set_option maxHeartbeats 4000000 in
theorem s_X10_letterOf {l : Launch} {D : va_G} {cy : Nat → ClassId} {σ : Nat → Int32} {Y : rx_Y} (hY : rx_YOk Y σ) : ∀ q ∈ p_X10_letterOf Y, rx_Sd (gG l D cy σ) (mt Y) (m_X10_letterOf Y) q.1 q.2 := by
  unfold p_X10_letterOf
  refine rx_ac (rx_sd_iconst dX10_letterOf_0 (by decide)) ?_
  refine rx_ac (rx_sd_istore_n (M := m_X10_letterOf Y) dX10_letterOf_1 rfl) ?_
  refine rx_ac (rx_sd_iload_n dX10_letterOf_2 rfl) ?_
  refine rx_ac (rx_sd_aload_n dX10_letterOf_3 rfl) ?_
  refine rx_ac (rx_sd_get (C := RX10) (T := TX10) (N := 58) in_X10 rfl (by decide) kw_456 dX10_letterOf_4) ?_
  refine rx_ac (rx_sd_icmp_ge hY dX10_letterOf_7 (by decide)) ?_
  refine rx_ac (rx_sd_aload_n dX10_letterOf_10 rfl) ?_
  refine rx_ac (rx_sd_bipush dX10_letterOf_11 (by decide)) ?_
  refine rx_ac (rx_sd_iload_n dX10_letterOf_13 rfl) ?_
  refine rx_ac (rx_sd_iadd dX10_letterOf_14) ?_
  refine rx_ac (rx_sd_iload_n dX10_letterOf_15 rfl) ?_
  refine rx_ac (rx_sd_cl (M := m_X10_letterOf Y) (rx_lk_V gok (mid := 97) (ci := 10) (C := (RX10, TX10, 58)) ⟨kw_566, kw_427, hd_X10_areAlike, Nat.le_of_ble_eq_true rfl, Nat.le_of_ble_eq_true rfl⟩ rfl kw_567 kw_568 kw_569 dX10_letterOf_16) (fun _ => ⟨_, rfl⟩) rfl rfl) ?_
  refine rx_ac (rx_sd_if_eq hY dX10_letterOf_19 (by decide)) ?_
  refine rx_ac (rx_sd_iload_n dX10_letterOf_22 rfl) ?_
  refine rx_ac (rx_sd_retI (M := m_X10_letterOf Y) rfl (Or.inl rfl) dX10_letterOf_23) ?_
  refine rx_ac (rx_sd_iinc (M := m_X10_letterOf Y) dX10_letterOf_24 (by decide)) ?_
  refine rx_ac (rx_sd_goto dX10_letterOf_27 (by decide)) ?_
  refine rx_ac (rx_sd_aload_n dX10_letterOf_30 rfl) ?_
  refine rx_ac (rx_sd_bipush dX10_letterOf_31 (by decide)) ?_
  refine rx_ac (rx_sd_aload_n dX10_letterOf_33 rfl) ?_
  refine rx_ac (rx_sd_get (C := RX10) (T := TX10) (N := 58) in_X10 rfl (by decide) kw_456 dX10_letterOf_34) ?_
  refine rx_ac (rx_sd_iadd dX10_letterOf_37) ?_
  refine rx_ac (rx_sd_iload_n dX10_letterOf_38 rfl) ?_
  refine rx_ac (rx_sd_cl (M := m_X10_letterOf Y) (rx_lk_V gok (mid := 104) (ci := 10) (C := (RX10, TX10, 58)) ⟨kw_562, kw_427, hd_X10_copy, Nat.le_of_ble_eq_true rfl, Nat.le_of_ble_eq_true rfl⟩ rfl kw_563 kw_564 kw_565 dX10_letterOf_39) (fun _ => ⟨_, rfl⟩) rfl rfl) ?_
  refine rx_ac (rx_sd_aload_n dX10_letterOf_42 rfl) ?_
  refine rx_ac (rx_sd_dup dX10_letterOf_43) ?_
  refine rx_ac (rx_sd_get (C := RX10) (T := TX10) (N := 58) in_X10 rfl (by decide) kw_456 dX10_letterOf_44) ?_
  refine rx_ac (rx_sd_iconst dX10_letterOf_47 (by decide)) ?_
  refine rx_ac (rx_sd_iadd dX10_letterOf_48) ?_
  refine rx_ac (rx_sd_putf (C := RX10) (T := TX10) (N := 58) (ty0 := tyX10) in_X10 tyX10_ok nmX10 rfl (by decide) kw_456 (Or.inl rfl) rfl dX10_letterOf_49) ?_
  refine rx_ac (rx_sd_aload_n dX10_letterOf_52 rfl) ?_
  refine rx_ac (rx_sd_get (C := RX10) (T := TX10) (N := 58) in_X10 rfl (by decide) kw_456 dX10_letterOf_53) ?_
  refine rx_ac (rx_sd_iconst dX10_letterOf_56 (by decide)) ?_
  refine rx_ac (rx_sd_isub dX10_letterOf_57) ?_
  refine rx_ac (rx_sd_retI (M := m_X10_letterOf Y) rfl (Or.inl rfl) dX10_letterOf_58) ?_
  exact rx_an
set_option maxRecDepth 100000 in
set_option maxHeartbeats 4000000 in
theorem s_X10_one {l : Launch} {D : va_G} {cy : Nat → ClassId} {σ : Nat → Int32} {Y : rx_Y} (hY : rx_YOk Y σ) : ∀ q ∈ p_X10_one Y, rx_Sd (gG l D cy σ) (mt Y) (m_X10_one Y) q.1 q.2 := by
  unfold p_X10_one
  refine rx_ac (rx_sd_aload_n dX10_one_0 rfl) ?_
  refine rx_ac (rx_sd_get (C := RX10) (T := TX10) (N := 58) in_X10 rfl (by decide) kw_431 dX10_one_1) ?_
  refine rx_ac (rx_sd_iload_n dX10_one_4 rfl) ?_
  refine rx_ac (rx_sd_iconst dX10_one_5 (by decide)) ?_
  refine rx_ac (rx_sd_iast hY ⟨rfl, rfl, rfl⟩ dX10_one_6) ?_
  refine rx_ac (rx_sd_aload_n dX10_one_7 rfl) ?_
  refine rx_ac (rx_sd_get (C := RX10) (T := TX10) (N := 58) in_X10 rfl (by decide) kw_436 dX10_one_8) ?_
  refine rx_ac (rx_sd_sipush dX10_one_11 (by decide)) ?_
  refine rx_ac (rx_sd_iload_n dX10_one_14 rfl) ?_
  refine rx_ac (rx_sd_imul dX10_one_15) ?_
  refine rx_ac (rx_sd_lconst dX10_one_16 (by decide)) ?_
  refine rx_ac (rx_sd_last ⟨rfl, rfl, rfl⟩ dX10_one_17) ?_
  refine rx_ac (rx_sd_iconst dX10_one_18 (by decide)) ?_
  refine rx_ac (rx_sd_istore_n (M := m_X10_one Y) dX10_one_19 rfl) ?_
  refine rx_ac (rx_sd_iload_n dX10_one_20 rfl) ?_
  refine rx_ac (rx_sd_bipush dX10_one_21 (by decide)) ?_
  refine rx_ac (rx_sd_icmp_ge hY dX10_one_23 (by decide)) ?_
  refine rx_ac (rx_sd_aload_n dX10_one_26 rfl) ?_
  refine rx_ac (rx_sd_get (C := RX10) (T := TX10) (N := 58) in_X10 rfl (by decide) kw_439 dX10_one_27) ?_
  refine rx_ac (rx_sd_sipush dX10_one_30 (by decide)) ?_
  refine rx_ac (rx_sd_iload_n dX10_one_33 rfl) ?_
  refine rx_ac (rx_sd_imul dX10_one_34) ?_
  refine rx_ac (rx_sd_iload_n dX10_one_35 rfl) ?_
  refine rx_ac (rx_sd_iadd dX10_one_36) ?_
  refine rx_ac (rx_sd_iconst dX10_one_37 (by decide)) ?_
  refine rx_ac (rx_sd_iast hY ⟨rfl, rfl, rfl⟩ dX10_one_38) ?_
  refine rx_ac (rx_sd_iinc (M := m_X10_one Y) dX10_one_39 (by decide)) ?_
  refine rx_ac (rx_sd_goto dX10_one_42 (by decide)) ?_
  refine rx_ac (rx_sd_ret0 (M := m_X10_one Y) rfl dX10_one_45) ?_
  exact rx_an
set_option maxRecDepth 100000 in
set_option maxHeartbeats 4000000 in
theorem s_X10_ones {l : Launch} {D : va_G} {cy : Nat → ClassId} {σ : Nat → Int32} {Y : rx_Y} (hY : rx_YOk Y σ) : ∀ q ∈ p_X10_ones Y, rx_Sd (gG l D cy σ) (mt Y) (m_X10_ones Y) q.1 q.2 := by
  unfold p_X10_ones
  refine rx_ac (rx_sd_iload_n dX10_ones_0 rfl) ?_
  refine rx_ac (rx_sd_if_lt hY dX10_ones_1 (by decide)) ?_
  refine rx_ac (rx_sd_iload_n dX10_ones_4 rfl) ?_
  refine rx_ac (rx_sd_aload_n dX10_ones_5 rfl) ?_
  refine rx_ac (rx_sd_get (C := RX10) (T := TX10) (N := 58) in_X10 rfl (by decide) kw_469 dX10_ones_6) ?_
  refine rx_ac (rx_sd_icmp_lt hY dX10_ones_9 (by decide)) ?_
  refine rx_ac (rx_sd_lconst dX10_ones_12 (by decide)) ?_
  refine rx_ac (rx_sd_goto dX10_ones_13 (by decide)) ?_
  refine rx_ac (rx_sd_aload_n dX10_ones_16 rfl) ?_
  refine rx_ac (rx_sd_iload_n dX10_ones_17 rfl) ?_
  refine rx_ac (rx_sd_cl (M := m_X10_ones Y) (rx_lk_V gok (mid := 143) (ci := 10) (C := (RX10, TX10, 58)) ⟨kw_460, kw_427, hd_X10_sumOf, Nat.le_of_ble_eq_true rfl, Nat.le_of_ble_eq_true rfl⟩ rfl kw_461 kw_462 kw_463 dX10_ones_18) (fun _ => ⟨_, rfl⟩) rfl rfl) ?_
  refine rx_ac (rx_sd_retL (M := m_X10_ones Y) rfl dX10_ones_21) ?_
  exact rx_an
set_option maxRecDepth 100000 in
set_option maxHeartbeats 4000000 in
theorem s_X10_order {l : Launch} {D : va_G} {cy : Nat → ClassId} {σ : Nat → Int32} {Y : rx_Y} (hY : rx_YOk Y σ) : ∀ q ∈ p_X10_order Y, rx_Sd (gG l D cy σ) (mt Y) (m_X10_order Y) q.1 q.2 := by
  unfold p_X10_order
  refine rx_ac (rx_sd_aload_n dX10_order_0 rfl) ?_
  refine rx_ac (rx_sd_get (C := RX10) (T := TX10) (N := 58) in_X10 rfl (by decide) kw_570 dX10_order_1) ?_
  refine rx_ac (rx_sd_if_ne hY dX10_order_4 (by decide)) ?_
  refine rx_ac (rx_sd_iconst dX10_order_7 (by decide)) ?_
  refine rx_ac (rx_sd_retI (M := m_X10_order Y) rfl (Or.inl rfl) dX10_order_8) ?_
  exact rx_an
set_option maxRecDepth 100000 in
set_option maxHeartbeats 4000000 in
theorem s_X10_parts {l : Launch} {D : va_G} {cy : Nat → ClassId} {σ : Nat → Int32} {Y : rx_Y} (hY : rx_YOk Y σ) : ∀ q ∈ p_X10_parts Y, rx_Sd (gG l D cy σ) (mt Y) (m_X10_parts Y) q.1 q.2 := by
  unfold p_X10_parts
  refine rx_ac (rx_sd_aload_n dX10_parts_0 rfl) ?_
  refine rx_ac (rx_sd_get (C := RX10) (T := TX10) (N := 58) in_X10 rfl (by decide) kw_431 dX10_parts_1) ?_
  refine rx_ac (rx_sd_iload_n dX10_parts_4 rfl) ?_
  refine rx_ac (rx_sd_iconst dX10_parts_5 (by decide)) ?_
  refine rx_ac (rx_sd_iast hY ⟨rfl, rfl, rfl⟩ dX10_parts_6) ?_
  refine rx_ac (rx_sd_aload_n dX10_parts_7 rfl) ?_
  refine rx_ac (rx_sd_get (C := RX10) (T := TX10) (N := 58) in_X10 rfl (by decide) kw_431 dX10_parts_8) ?_
  refine rx_ac (rx_sd_iload_n dX10_parts_11 rfl) ?_
  refine rx_ac (rx_sd_iald ⟨rfl, rfl, rfl⟩ dX10_parts_12) ?_
  refine rx_ac (rx_sd_iconst dX10_parts_13 (by decide)) ?_
  refine rx_ac (rx_sd_isub dX10_parts_14) ?_
  refine rx_ac (rx_sd_istore (M := m_X10_parts Y) dX10_parts_15) ?_
  refine rx_ac (rx_sd_aload_n dX10_parts_17 rfl) ?_
  refine rx_ac (rx_sd_get (C := RX10) (T := TX10) (N := 58) in_X10 rfl (by decide) kw_431 dX10_parts_18) ?_
  refine rx_ac (rx_sd_iload_n dX10_parts_21 rfl) ?_
  refine rx_ac (rx_sd_iald ⟨rfl, rfl, rfl⟩ dX10_parts_22) ?_
  refine rx_ac (rx_sd_if_le hY dX10_parts_23 (by decide)) ?_
  refine rx_ac (rx_sd_aload_n dX10_parts_26 rfl) ?_
  refine rx_ac (rx_sd_get (C := RX10) (T := TX10) (N := 58) in_X10 rfl (by decide) kw_431 dX10_parts_27) ?_
  refine rx_ac (rx_sd_iload_n dX10_parts_30 rfl) ?_
  refine rx_ac (rx_sd_iald ⟨rfl, rfl, rfl⟩ dX10_parts_31) ?_
  refine rx_ac (rx_sd_iconst dX10_parts_32 (by decide)) ?_
  refine rx_ac (rx_sd_isub dX10_parts_33) ?_
  refine rx_ac (rx_sd_istore (M := m_X10_parts Y) dX10_parts_34) ?_
  refine rx_ac (rx_sd_aload_n dX10_parts_36 rfl) ?_
  refine rx_ac (rx_sd_get (C := RX10) (T := TX10) (N := 58) in_X10 rfl (by decide) kw_436 dX10_parts_37) ?_
  refine rx_ac (rx_sd_sipush dX10_parts_40 (by decide)) ?_
  refine rx_ac (rx_sd_iload_n dX10_parts_43 rfl) ?_
  refine rx_ac (rx_sd_imul dX10_parts_44) ?_
  refine rx_ac (rx_sd_iload dX10_parts_45) ?_
  refine rx_ac (rx_sd_iadd dX10_parts_47) ?_
  refine rx_ac (rx_sd_lald ⟨rfl, rfl, rfl⟩ dX10_parts_48) ?_
  refine rx_ac (rx_sd_aload_n dX10_parts_49 rfl) ?_
  refine rx_ac (rx_sd_get (C := RX10) (T := TX10) (N := 58) in_X10 rfl (by decide) kw_436 dX10_parts_50) ?_
  refine rx_ac (rx_sd_sipush dX10_parts_53 (by decide)) ?_
  refine rx_ac (rx_sd_iload_n dX10_parts_56 rfl) ?_
  refine rx_ac (rx_sd_imul dX10_parts_57) ?_
  refine rx_ac (rx_sd_iload dX10_parts_58) ?_
  refine rx_ac (rx_sd_iadd dX10_parts_60) ?_
  refine rx_ac (rx_sd_lald ⟨rfl, rfl, rfl⟩ dX10_parts_61) ?_
  refine rx_ac (rx_sd_ldiv dX10_parts_62) ?_
  refine rx_ac (rx_sd_lstore (M := m_X10_parts Y) dX10_parts_63) ?_
  refine rx_ac (rx_sd_aload_n dX10_parts_65 rfl) ?_
  refine rx_ac (rx_sd_get (C := RX10) (T := TX10) (N := 58) in_X10 rfl (by decide) kw_431 dX10_parts_66) ?_
  refine rx_ac (rx_sd_iload_n dX10_parts_69 rfl) ?_
  refine rx_ac (rx_sd_iald ⟨rfl, rfl, rfl⟩ dX10_parts_70) ?_
  refine rx_ac (rx_sd_istore (M := m_X10_parts Y) dX10_parts_71) ?_
  refine rx_ac (rx_sd_aload_n dX10_parts_73 rfl) ?_
  refine rx_ac (rx_sd_get (C := RX10) (T := TX10) (N := 58) in_X10 rfl (by decide) kw_431 dX10_parts_74) ?_
  refine rx_ac (rx_sd_iload_n dX10_parts_77 rfl) ?_
  refine rx_ac (rx_sd_dup2 dX10_parts_78) ?_
  refine rx_ac (rx_sd_iald ⟨rfl, rfl, rfl⟩ dX10_parts_79) ?_
  refine rx_ac (rx_sd_iconst dX10_parts_80 (by decide)) ?_
  refine rx_ac (rx_sd_iadd dX10_parts_81) ?_
  refine rx_ac (rx_sd_iast hY ⟨rfl, rfl, rfl⟩ dX10_parts_82) ?_
  refine rx_ac (rx_sd_aload_n dX10_parts_83 rfl) ?_
  refine rx_ac (rx_sd_get (C := RX10) (T := TX10) (N := 58) in_X10 rfl (by decide) kw_436 dX10_parts_84) ?_
  refine rx_ac (rx_sd_sipush dX10_parts_87 (by decide)) ?_
  refine rx_ac (rx_sd_iload_n dX10_parts_90 rfl) ?_
  refine rx_ac (rx_sd_imul dX10_parts_91) ?_
  refine rx_ac (rx_sd_iload dX10_parts_92) ?_
  refine rx_ac (rx_sd_iadd dX10_parts_94) ?_
  refine rx_ac (rx_sd_lload dX10_parts_95) ?_
  refine rx_ac (rx_sd_last ⟨rfl, rfl, rfl⟩ dX10_parts_97) ?_
  refine rx_ac (rx_sd_iconst dX10_parts_98 (by decide)) ?_
  refine rx_ac (rx_sd_istore (M := m_X10_parts Y) dX10_parts_99) ?_
  refine rx_ac (rx_sd_iload dX10_parts_101) ?_
  refine rx_ac (rx_sd_bipush dX10_parts_103 (by decide)) ?_
  refine rx_ac (rx_sd_icmp_ge hY dX10_parts_105 (by decide)) ?_
  refine rx_ac (rx_sd_aload_n dX10_parts_108 rfl) ?_
  refine rx_ac (rx_sd_get (C := RX10) (T := TX10) (N := 58) in_X10 rfl (by decide) kw_439 dX10_parts_109) ?_
  refine rx_ac (rx_sd_bipush dX10_parts_112 (by decide)) ?_
  refine rx_ac (rx_sd_sipush dX10_parts_114 (by decide)) ?_
  refine rx_ac (rx_sd_iload_n dX10_parts_117 rfl) ?_
  refine rx_ac (rx_sd_imul dX10_parts_118) ?_
  refine rx_ac (rx_sd_iload dX10_parts_119) ?_
  refine rx_ac (rx_sd_iadd dX10_parts_121) ?_
  refine rx_ac (rx_sd_imul dX10_parts_122) ?_
  refine rx_ac (rx_sd_iload dX10_parts_123) ?_
  refine rx_ac (rx_sd_iadd dX10_parts_125) ?_
  refine rx_ac (rx_sd_aload_n dX10_parts_126 rfl) ?_
  refine rx_ac (rx_sd_get (C := RX10) (T := TX10) (N := 58) in_X10 rfl (by decide) kw_439 dX10_parts_127) ?_
  refine rx_ac (rx_sd_bipush dX10_parts_130 (by decide)) ?_
  refine rx_ac (rx_sd_sipush dX10_parts_132 (by decide)) ?_
  refine rx_ac (rx_sd_iload_n dX10_parts_135 rfl) ?_
  refine rx_ac (rx_sd_imul dX10_parts_136) ?_
  refine rx_ac (rx_sd_iload dX10_parts_137) ?_
  refine rx_ac (rx_sd_iadd dX10_parts_139) ?_
  refine rx_ac (rx_sd_imul dX10_parts_140) ?_
  refine rx_ac (rx_sd_iload dX10_parts_141) ?_
  refine rx_ac (rx_sd_iadd dX10_parts_143) ?_
  refine rx_ac (rx_sd_iald ⟨rfl, rfl, rfl⟩ dX10_parts_144) ?_
  refine rx_ac (rx_sd_aload_n dX10_parts_145 rfl) ?_
  refine rx_ac (rx_sd_get (C := RX10) (T := TX10) (N := 58) in_X10 rfl (by decide) kw_439 dX10_parts_146) ?_
  refine rx_ac (rx_sd_bipush dX10_parts_149 (by decide)) ?_
  refine rx_ac (rx_sd_sipush dX10_parts_151 (by decide)) ?_
  refine rx_ac (rx_sd_iload_n dX10_parts_154 rfl) ?_
  refine rx_ac (rx_sd_imul dX10_parts_155) ?_
  refine rx_ac (rx_sd_iload dX10_parts_156) ?_
  refine rx_ac (rx_sd_iadd dX10_parts_158) ?_
  refine rx_ac (rx_sd_imul dX10_parts_159) ?_
  refine rx_ac (rx_sd_iload dX10_parts_160) ?_
  refine rx_ac (rx_sd_iadd dX10_parts_162) ?_
  refine rx_ac (rx_sd_iald ⟨rfl, rfl, rfl⟩ dX10_parts_163) ?_
  refine rx_ac (rx_sd_isub dX10_parts_164) ?_
  refine rx_ac (rx_sd_iast hY ⟨rfl, rfl, rfl⟩ dX10_parts_165) ?_
  refine rx_ac (rx_sd_iinc (M := m_X10_parts Y) dX10_parts_166 (by decide)) ?_
  refine rx_ac (rx_sd_goto dX10_parts_169 (by decide)) ?_
  refine rx_ac (rx_sd_iconst dX10_parts_172 (by decide)) ?_
  refine rx_ac (rx_sd_istore (M := m_X10_parts Y) dX10_parts_173) ?_
  refine rx_ac (rx_sd_iload dX10_parts_175) ?_
  refine rx_ac (rx_sd_aload_n dX10_parts_177 rfl) ?_
  refine rx_ac (rx_sd_get (C := RX10) (T := TX10) (N := 58) in_X10 rfl (by decide) kw_431 dX10_parts_178) ?_
  refine rx_ac (rx_sd_iload_n dX10_parts_181 rfl) ?_
  refine rx_ac (rx_sd_iald ⟨rfl, rfl, rfl⟩ dX10_parts_182) ?_
  refine rx_ac (rx_sd_icmp_ge hY dX10_parts_183 (by decide)) ?_
  refine rx_ac (rx_sd_iconst dX10_parts_186 (by decide)) ?_
  refine rx_ac (rx_sd_istore (M := m_X10_parts Y) dX10_parts_187) ?_
  refine rx_ac (rx_sd_iload dX10_parts_189) ?_
  refine rx_ac (rx_sd_bipush dX10_parts_191 (by decide)) ?_
  refine rx_ac (rx_sd_icmp_ge hY dX10_parts_193 (by decide)) ?_
  refine rx_ac (rx_sd_aload_n dX10_parts_196 rfl) ?_
  refine rx_ac (rx_sd_get (C := RX10) (T := TX10) (N := 58) in_X10 rfl (by decide) kw_440 dX10_parts_197) ?_
  refine rx_ac (rx_sd_iload dX10_parts_200) ?_
  refine rx_ac (rx_sd_aload_n dX10_parts_202 rfl) ?_
  refine rx_ac (rx_sd_get (C := RX10) (T := TX10) (N := 58) in_X10 rfl (by decide) kw_439 dX10_parts_203) ?_
  refine rx_ac (rx_sd_bipush dX10_parts_206 (by decide)) ?_
  refine rx_ac (rx_sd_sipush dX10_parts_208 (by decide)) ?_
  refine rx_ac (rx_sd_iload_n dX10_parts_211 rfl) ?_
  refine rx_ac (rx_sd_imul dX10_parts_212) ?_
  refine rx_ac (rx_sd_iload dX10_parts_213) ?_
  refine rx_ac (rx_sd_iadd dX10_parts_215) ?_
  refine rx_ac (rx_sd_imul dX10_parts_216) ?_
  refine rx_ac (rx_sd_iload dX10_parts_217) ?_
  refine rx_ac (rx_sd_iadd dX10_parts_219) ?_
  refine rx_ac (rx_sd_iald ⟨rfl, rfl, rfl⟩ dX10_parts_220) ?_
  refine rx_ac (rx_sd_aload_n dX10_parts_221 rfl) ?_
  refine rx_ac (rx_sd_get (C := RX10) (T := TX10) (N := 58) in_X10 rfl (by decide) kw_439 dX10_parts_222) ?_
  refine rx_ac (rx_sd_bipush dX10_parts_225 (by decide)) ?_
  refine rx_ac (rx_sd_sipush dX10_parts_227 (by decide)) ?_
  refine rx_ac (rx_sd_iload_n dX10_parts_230 rfl) ?_
  refine rx_ac (rx_sd_imul dX10_parts_231) ?_
  refine rx_ac (rx_sd_iload dX10_parts_232) ?_
  refine rx_ac (rx_sd_iadd dX10_parts_234) ?_
  refine rx_ac (rx_sd_imul dX10_parts_235) ?_
  refine rx_ac (rx_sd_iload dX10_parts_236) ?_
  refine rx_ac (rx_sd_iadd dX10_parts_238) ?_
  refine rx_ac (rx_sd_iald ⟨rfl, rfl, rfl⟩ dX10_parts_239) ?_
  refine rx_ac (rx_sd_iadd dX10_parts_240) ?_
  refine rx_ac (rx_sd_iast hY ⟨rfl, rfl, rfl⟩ dX10_parts_241) ?_
  refine rx_ac (rx_sd_iinc (M := m_X10_parts Y) dX10_parts_242 (by decide)) ?_
  refine rx_ac (rx_sd_goto dX10_parts_245 (by decide)) ?_
  refine rx_ac (rx_sd_aload_n dX10_parts_248 rfl) ?_
  refine rx_ac (rx_sd_iload_n dX10_parts_249 rfl) ?_
  refine rx_ac (rx_sd_aload_n dX10_parts_250 rfl) ?_
  refine rx_ac (rx_sd_iload_n dX10_parts_251 rfl) ?_
  refine rx_ac (rx_sd_cl (M := m_X10_parts Y) (rx_lk_V gok (mid := 131) (ci := 10) (C := (RX10, TX10, 58)) ⟨kw_426, kw_427, hd_X10_placeIn, Nat.le_of_ble_eq_true rfl, Nat.le_of_ble_eq_true rfl⟩ rfl kw_428 kw_429 kw_430 dX10_parts_252) (fun _ => ⟨_, rfl⟩) rfl rfl) ?_
  refine rx_ac (rx_sd_lload dX10_parts_255) ?_
  refine rx_ac (rx_sd_aload_n dX10_parts_257 rfl) ?_
  refine rx_ac (rx_sd_get (C := RX10) (T := TX10) (N := 58) in_X10 rfl (by decide) kw_436 dX10_parts_258) ?_
  refine rx_ac (rx_sd_sipush dX10_parts_261 (by decide)) ?_
  refine rx_ac (rx_sd_iload_n dX10_parts_264 rfl) ?_
  refine rx_ac (rx_sd_imul dX10_parts_265) ?_
  refine rx_ac (rx_sd_iload dX10_parts_266) ?_
  refine rx_ac (rx_sd_iadd dX10_parts_268) ?_
  refine rx_ac (rx_sd_lald ⟨rfl, rfl, rfl⟩ dX10_parts_269) ?_
  refine rx_ac (rx_sd_lmul dX10_parts_270) ?_
  refine rx_ac (rx_sd_cl (M := m_X10_parts Y) (rx_lk_V gok (mid := 124) (ci := 10) (C := (RX10, TX10, 58)) ⟨kw_571, kw_427, hd_X10_less, Nat.le_of_ble_eq_true rfl, Nat.le_of_ble_eq_true rfl⟩ rfl kw_572 kw_573 kw_574 dX10_parts_271) (fun _ => ⟨_, rfl⟩) rfl rfl) ?_
  refine rx_ac (rx_sd_iinc (M := m_X10_parts Y) dX10_parts_274 (by decide)) ?_
  refine rx_ac (rx_sd_goto dX10_parts_277 (by decide)) ?_
  refine rx_ac (rx_sd_goto dX10_parts_280 (by decide)) ?_
  refine rx_ac (rx_sd_aload_n dX10_parts_283 rfl) ?_
  refine rx_ac (rx_sd_iload_n dX10_parts_284 rfl) ?_
  refine rx_ac (rx_sd_cl (M := m_X10_parts Y) (rx_lk_V gok (mid := 153) (ci := 10) (C := (RX10, TX10, 58)) ⟨kw_575, kw_427, hd_X10_turnRound, Nat.le_of_ble_eq_true rfl, Nat.le_of_ble_eq_true rfl⟩ rfl kw_576 kw_577 kw_578 dX10_parts_285) (fun _ => ⟨_, rfl⟩) rfl rfl) ?_
  refine rx_ac (rx_sd_ret0 (M := m_X10_parts Y) rfl dX10_parts_288) ?_
  exact rx_an
set_option maxRecDepth 100000 in
set_option maxHeartbeats 4000000 in
theorem s_X10_placeIn {l : Launch} {D : va_G} {cy : Nat → ClassId} {σ : Nat → Int32} {Y : rx_Y} (hY : rx_YOk Y σ) : ∀ q ∈ p_X10_placeIn Y, rx_Sd (gG l D cy σ) (mt Y) (m_X10_placeIn Y) q.1 q.2 := by
  unfold p_X10_placeIn
  refine rx_ac (rx_sd_iconst dX10_placeIn_0 (by decide)) ?_
  refine rx_ac (rx_sd_istore_n (M := m_X10_placeIn Y) dX10_placeIn_1 rfl) ?_
  refine rx_ac (rx_sd_aload_n dX10_placeIn_2 rfl) ?_
  refine rx_ac (rx_sd_get (C := RX10) (T := TX10) (N := 58) in_X10 rfl (by decide) kw_431 dX10_placeIn_3) ?_
  refine rx_ac (rx_sd_iload_n dX10_placeIn_6 rfl) ?_
  refine rx_ac (rx_sd_iald ⟨rfl, rfl, rfl⟩ dX10_placeIn_7) ?_
  refine rx_ac (rx_sd_istore_n (M := m_X10_placeIn Y) dX10_placeIn_8 rfl) ?_
  refine rx_ac (rx_sd_iload_n dX10_placeIn_9 rfl) ?_
  refine rx_ac (rx_sd_iload_n dX10_placeIn_10 rfl) ?_
  refine rx_ac (rx_sd_icmp_ge hY dX10_placeIn_11 (by decide)) ?_
  refine rx_ac (rx_sd_iload_n dX10_placeIn_14 rfl) ?_
  refine rx_ac (rx_sd_iload_n dX10_placeIn_15 rfl) ?_
  refine rx_ac (rx_sd_iadd dX10_placeIn_16) ?_
  refine rx_ac (rx_sd_iconst dX10_placeIn_17 (by decide)) ?_
  refine rx_ac (rx_sd_idiv dX10_placeIn_18) ?_
  refine rx_ac (rx_sd_istore (M := m_X10_placeIn Y) dX10_placeIn_19) ?_
  refine rx_ac (rx_sd_aload_n dX10_placeIn_21 rfl) ?_
  refine rx_ac (rx_sd_iload_n dX10_placeIn_22 rfl) ?_
  refine rx_ac (rx_sd_iload dX10_placeIn_23) ?_
  refine rx_ac (rx_sd_cl (M := m_X10_placeIn Y) (rx_lk_V gok (mid := 95) (ci := 10) (C := (RX10, TX10, 58)) ⟨kw_432, kw_427, hd_X10_against, Nat.le_of_ble_eq_true rfl, Nat.le_of_ble_eq_true rfl⟩ rfl kw_433 kw_434 kw_435 dX10_placeIn_25) (fun _ => ⟨_, rfl⟩) rfl rfl) ?_
  refine rx_ac (rx_sd_if_le hY dX10_placeIn_28 (by decide)) ?_
  refine rx_ac (rx_sd_iload dX10_placeIn_39) ?_
  refine rx_ac (rx_sd_istore_n (M := m_X10_placeIn Y) dX10_placeIn_41 rfl) ?_
  refine rx_ac (rx_sd_goto dX10_placeIn_42 (by decide)) ?_
  refine rx_ac (rx_sd_iload_n dX10_placeIn_45 rfl) ?_
  refine rx_ac (rx_sd_retI (M := m_X10_placeIn Y) rfl (Or.inl rfl) dX10_placeIn_46) ?_
  exact rx_an
set_option maxRecDepth 100000 in
set_option maxHeartbeats 4000000 in
theorem s_X10_product {l : Launch} {D : va_G} {cy : Nat → ClassId} {σ : Nat → Int32} {Y : rx_Y} (hY : rx_YOk Y σ) : ∀ q ∈ p_X10_product Y, rx_Sd (gG l D cy σ) (mt Y) (m_X10_product Y) q.1 q.2 := by
  unfold p_X10_product
  refine rx_ac (rx_sd_aload_n dX10_product_0 rfl) ?_
  refine rx_ac (rx_sd_iload_n dX10_product_1 rfl) ?_
  refine rx_ac (rx_sd_cl (M := m_X10_product Y) (rx_lk_V gok (mid := 127) (ci := 10) (C := (RX10, TX10, 58)) ⟨kw_501, kw_427, hd_X10_one, Nat.le_of_ble_eq_true rfl, Nat.le_of_ble_eq_true rfl⟩ rfl kw_502 kw_503 kw_504 dX10_product_2) (fun _ => ⟨_, rfl⟩) rfl rfl) ?_
  refine rx_ac (rx_sd_iconst dX10_product_5 (by decide)) ?_
  refine rx_ac (rx_sd_istore (M := m_X10_product Y) dX10_product_6) ?_
  refine rx_ac (rx_sd_iload dX10_product_8) ?_
  refine rx_ac (rx_sd_aload_n dX10_product_10 rfl) ?_
  refine rx_ac (rx_sd_get (C := RX10) (T := TX10) (N := 58) in_X10 rfl (by decide) kw_469 dX10_product_11) ?_
  refine rx_ac (rx_sd_aload_n dX10_product_14 rfl) ?_
  refine rx_ac (rx_sd_get (C := RX10) (T := TX10) (N := 58) in_X10 rfl (by decide) kw_470 dX10_product_15) ?_
  refine rx_ac (rx_sd_iadd dX10_product_18) ?_
  refine rx_ac (rx_sd_icmp_ge hY dX10_product_19 (by decide)) ?_
  refine rx_ac (rx_sd_aload_n dX10_product_22 rfl) ?_
  refine rx_ac (rx_sd_get (C := RX10) (T := TX10) (N := 58) in_X10 rfl (by decide) kw_579 dX10_product_23) ?_
  refine rx_ac (rx_sd_if_ne hY dX10_product_26 (by decide)) ?_
  refine rx_ac (rx_sd_iload_n dX10_product_29 rfl) ?_
  refine rx_ac (rx_sd_aload_n dX10_product_30 rfl) ?_
  refine rx_ac (rx_sd_get (C := RX10) (T := TX10) (N := 58) in_X10 rfl (by decide) kw_473 dX10_product_31) ?_
  refine rx_ac (rx_sd_bipush dX10_product_34 (by decide)) ?_
  refine rx_ac (rx_sd_iload dX10_product_36) ?_
  refine rx_ac (rx_sd_imul dX10_product_38) ?_
  refine rx_ac (rx_sd_iload_n dX10_product_39 rfl) ?_
  refine rx_ac (rx_sd_iadd dX10_product_40) ?_
  refine rx_ac (rx_sd_iald ⟨rfl, rfl, rfl⟩ dX10_product_41) ?_
  refine rx_ac (rx_sd_imul dX10_product_42) ?_
  refine rx_ac (rx_sd_istore (M := m_X10_product Y) dX10_product_43) ?_
  refine rx_ac (rx_sd_iload dX10_product_45) ?_
  refine rx_ac (rx_sd_if_le hY dX10_product_47 (by decide)) ?_
  refine rx_ac (rx_sd_iinc (M := m_X10_product Y) dX10_product_79 (by decide)) ?_
  refine rx_ac (rx_sd_goto dX10_product_82 (by decide)) ?_
  refine rx_ac (rx_sd_ret0 (M := m_X10_product Y) rfl dX10_product_85) ?_
  exact rx_an
set_option maxRecDepth 100000 in
set_option maxHeartbeats 4000000 in
theorem s_X10_restores {l : Launch} {D : va_G} {cy : Nat → ClassId} {σ : Nat → Int32} {Y : rx_Y} (hY : rx_YOk Y σ) : ∀ q ∈ p_X10_restores Y, rx_Sd (gG l D cy σ) (mt Y) (m_X10_restores Y) q.1 q.2 := by
  unfold p_X10_restores
  refine rx_ac (rx_sd_iconst dX10_restores_0 (by decide)) ?_
  refine rx_ac (rx_sd_istore_n (M := m_X10_restores Y) dX10_restores_1 rfl) ?_
  refine rx_ac (rx_sd_iload_n dX10_restores_2 rfl) ?_
  refine rx_ac (rx_sd_aload_n dX10_restores_3 rfl) ?_
  refine rx_ac (rx_sd_get (C := RX10) (T := TX10) (N := 58) in_X10 rfl (by decide) kw_469 dX10_restores_4) ?_
  refine rx_ac (rx_sd_icmp_ge hY dX10_restores_7 (by decide)) ?_
  refine rx_ac (rx_sd_aload_n dX10_restores_10 rfl) ?_
  refine rx_ac (rx_sd_iload_n dX10_restores_11 rfl) ?_
  refine rx_ac (rx_sd_iload_n dX10_restores_12 rfl) ?_
  refine rx_ac (rx_sd_iload_n dX10_restores_13 rfl) ?_
  refine rx_ac (rx_sd_iadd dX10_restores_14) ?_
  refine rx_ac (rx_sd_cl (M := m_X10_restores Y) (rx_lk_V gok (mid := 104) (ci := 10) (C := (RX10, TX10, 58)) ⟨kw_562, kw_427, hd_X10_copy, Nat.le_of_ble_eq_true rfl, Nat.le_of_ble_eq_true rfl⟩ rfl kw_563 kw_564 kw_565 dX10_restores_15) (fun _ => ⟨_, rfl⟩) rfl rfl) ?_
  refine rx_ac (rx_sd_iinc (M := m_X10_restores Y) dX10_restores_18 (by decide)) ?_
  refine rx_ac (rx_sd_goto dX10_restores_21 (by decide)) ?_
  refine rx_ac (rx_sd_iconst dX10_restores_24 (by decide)) ?_
  refine rx_ac (rx_sd_istore_n (M := m_X10_restores Y) dX10_restores_25 rfl) ?_
  refine rx_ac (rx_sd_iload_n dX10_restores_26 rfl) ?_
  refine rx_ac (rx_sd_bipush dX10_restores_27 (by decide)) ?_
  refine rx_ac (rx_sd_icmp_ge hY dX10_restores_29 (by decide)) ?_
  refine rx_ac (rx_sd_aload_n dX10_restores_32 rfl) ?_
  refine rx_ac (rx_sd_get (C := RX10) (T := TX10) (N := 58) in_X10 rfl (by decide) kw_473 dX10_restores_33) ?_
  refine rx_ac (rx_sd_iload_n dX10_restores_36 rfl) ?_
  refine rx_ac (rx_sd_aload_n dX10_restores_37 rfl) ?_
  refine rx_ac (rx_sd_get (C := RX10) (T := TX10) (N := 58) in_X10 rfl (by decide) kw_543 dX10_restores_38) ?_
  refine rx_ac (rx_sd_iload_n dX10_restores_41 rfl) ?_
  refine rx_ac (rx_sd_iald ⟨rfl, rfl, rfl⟩ dX10_restores_42) ?_
  refine rx_ac (rx_sd_iast hY ⟨rfl, rfl, rfl⟩ dX10_restores_43) ?_
  refine rx_ac (rx_sd_iinc (M := m_X10_restores Y) dX10_restores_44 (by decide)) ?_
  refine rx_ac (rx_sd_goto dX10_restores_47 (by decide)) ?_
  refine rx_ac (rx_sd_ret0 (M := m_X10_restores Y) rfl dX10_restores_50) ?_
  exact rx_an
set_option maxRecDepth 100000 in
set_option maxHeartbeats 4000000 in
theorem s_X10_ring {l : Launch} {D : va_G} {cy : Nat → ClassId} {σ : Nat → Int32} {Y : rx_Y} (hY : rx_YOk Y σ) : ∀ q ∈ p_X10_ring Y, rx_Sd (gG l D cy σ) (mt Y) (m_X10_ring Y) q.1 q.2 := by
  unfold p_X10_ring
  refine rx_ac (rx_sd_aload_n dX10_ring_0 rfl) ?_
  refine rx_ac (rx_sd_iload_n dX10_ring_1 rfl) ?_
  refine rx_ac (rx_sd_cl (M := m_X10_ring Y) (rx_lk_V gok (mid := 117) (ci := 10) (C := (RX10, TX10, 58)) ⟨kw_478, kw_427, hd_X10_isSlot, Nat.le_of_ble_eq_true rfl, Nat.le_of_ble_eq_true rfl⟩ rfl kw_479 kw_480 kw_481 dX10_ring_2) (fun _ => ⟨_, rfl⟩) rfl rfl) ?_
  refine rx_ac (rx_sd_if_eq hY dX10_ring_5 (by decide)) ?_
  refine rx_ac (rx_sd_iload_n dX10_ring_8 rfl) ?_
  refine rx_ac (rx_sd_iconst dX10_ring_9 (by decide)) ?_
  refine rx_ac (rx_sd_icmp_lt hY dX10_ring_10 (by decide)) ?_
  refine rx_ac (rx_sd_iload_n dX10_ring_13 rfl) ?_
  refine rx_ac (rx_sd_bipush dX10_ring_14 (by decide)) ?_
  refine rx_ac (rx_sd_icmp_le hY dX10_ring_16 (by decide)) ?_
  refine rx_ac (rx_sd_iconst dX10_ring_19 (by decide)) ?_
  refine rx_ac (rx_sd_retI (M := m_X10_ring Y) rfl (Or.inr rfl) dX10_ring_20) ?_
  refine rx_ac (rx_sd_aload_n dX10_ring_21 rfl) ?_
  refine rx_ac (rx_sd_get (C := RX10) (T := TX10) (N := 58) in_X10 rfl (by decide) kw_482 dX10_ring_22) ?_
  refine rx_ac (rx_sd_iload_n dX10_ring_25 rfl) ?_
  refine rx_ac (rx_sd_iload_n dX10_ring_26 rfl) ?_
  refine rx_ac (rx_sd_iast hY ⟨rfl, rfl, rfl⟩ dX10_ring_27) ?_
  refine rx_ac (rx_sd_iconst dX10_ring_28 (by decide)) ?_
  refine rx_ac (rx_sd_istore_n (M := m_X10_ring Y) dX10_ring_29 rfl) ?_
  refine rx_ac (rx_sd_iload_n dX10_ring_30 rfl) ?_
  refine rx_ac (rx_sd_bipush dX10_ring_31 (by decide)) ?_
  refine rx_ac (rx_sd_icmp_ge hY dX10_ring_33 (by decide)) ?_
  refine rx_ac (rx_sd_aload_n dX10_ring_36 rfl) ?_
  refine rx_ac (rx_sd_get (C := RX10) (T := TX10) (N := 58) in_X10 rfl (by decide) kw_492 dX10_ring_37) ?_
  refine rx_ac (rx_sd_bipush dX10_ring_40 (by decide)) ?_
  refine rx_ac (rx_sd_iload_n dX10_ring_42 rfl) ?_
  refine rx_ac (rx_sd_imul dX10_ring_43) ?_
  refine rx_ac (rx_sd_iload_n dX10_ring_44 rfl) ?_
  refine rx_ac (rx_sd_iadd dX10_ring_45) ?_
  refine rx_ac (rx_sd_iconst dX10_ring_46 (by decide)) ?_
  refine rx_ac (rx_sd_zast ⟨rfl, rfl, rfl⟩ dX10_ring_47) ?_
  refine rx_ac (rx_sd_iinc (M := m_X10_ring Y) dX10_ring_48 (by decide)) ?_
  refine rx_ac (rx_sd_goto dX10_ring_51 (by decide)) ?_
  refine rx_ac (rx_sd_iconst dX10_ring_54 (by decide)) ?_
  refine rx_ac (rx_sd_retI (M := m_X10_ring Y) rfl (Or.inr rfl) dX10_ring_55) ?_
  exact rx_an
set_option maxRecDepth 100000 in
set_option maxHeartbeats 4000000 in
theorem s_X10_ringOf {l : Launch} {D : va_G} {cy : Nat → ClassId} {σ : Nat → Int32} {Y : rx_Y} (hY : rx_YOk Y σ) : ∀ q ∈ p_X10_ringOf Y, rx_Sd (gG l D cy σ) (mt Y) (m_X10_ringOf Y) q.1 q.2 := by
  unfold p_X10_ringOf
  refine rx_ac (rx_sd_aload_n dX10_ringOf_0 rfl) ?_
  refine rx_ac (rx_sd_iload_n dX10_ringOf_1 rfl) ?_
  refine rx_ac (rx_sd_cl (M := m_X10_ringOf Y) (rx_lk_V gok (mid := 117) (ci := 10) (C := (RX10, TX10, 58)) ⟨kw_478, kw_427, hd_X10_isSlot, Nat.le_of_ble_eq_true rfl, Nat.le_of_ble_eq_true rfl⟩ rfl kw_479 kw_480 kw_481 dX10_ringOf_2) (fun _ => ⟨_, rfl⟩) rfl rfl) ?_
  refine rx_ac (rx_sd_if_ne hY dX10_ringOf_5 (by decide)) ?_
  refine rx_ac (rx_sd_iconst dX10_ringOf_8 (by decide)) ?_
  refine rx_ac (rx_sd_retI (M := m_X10_ringOf Y) rfl (Or.inl rfl) dX10_ringOf_9) ?_
  refine rx_ac (rx_sd_iload_n dX10_ringOf_10 rfl) ?_
  refine rx_ac (rx_sd_sw hY dX10_ringOf_11 (by decide) (by decide)) ?_
  refine rx_ac (rx_sd_aload_n dX10_ringOf_36 rfl) ?_
  refine rx_ac (rx_sd_get (C := RX10) (T := TX10) (N := 58) in_X10 rfl (by decide) kw_482 dX10_ringOf_37) ?_
  refine rx_ac (rx_sd_iload_n dX10_ringOf_40 rfl) ?_
  refine rx_ac (rx_sd_iald ⟨rfl, rfl, rfl⟩ dX10_ringOf_41) ?_
  refine rx_ac (rx_sd_retI (M := m_X10_ringOf Y) rfl (Or.inl rfl) dX10_ringOf_42) ?_
  refine rx_ac (rx_sd_aload_n dX10_ringOf_43 rfl) ?_
  refine rx_ac (rx_sd_iload_n dX10_ringOf_44 rfl) ?_
  refine rx_ac (rx_sd_cl (M := m_X10_ringOf Y) (rx_lk_V gok (mid := 107) (ci := 10) (C := (RX10, TX10, 58)) ⟨kw_493, kw_427, hd_X10_fences, Nat.le_of_ble_eq_true rfl, Nat.le_of_ble_eq_true rfl⟩ rfl kw_494 kw_495 kw_496 dX10_ringOf_45) (fun _ => ⟨_, rfl⟩) rfl rfl) ?_
  refine rx_ac (rx_sd_retI (M := m_X10_ringOf Y) rfl (Or.inl rfl) dX10_ringOf_48) ?_
  refine rx_ac (rx_sd_aload_n dX10_ringOf_49 rfl) ?_
  refine rx_ac (rx_sd_iload_n dX10_ringOf_50 rfl) ?_
  refine rx_ac (rx_sd_cl (M := m_X10_ringOf Y) (rx_lk_V gok (mid := 116) (ci := 10) (C := (RX10, TX10, 58)) ⟨kw_506, kw_427, hd_X10_isCutting, Nat.le_of_ble_eq_true rfl, Nat.le_of_ble_eq_true rfl⟩ rfl kw_507 kw_508 kw_509 dX10_ringOf_51) (fun _ => ⟨_, rfl⟩) rfl rfl) ?_
  refine rx_ac (rx_sd_if_eq hY dX10_ringOf_54 (by decide)) ?_
  refine rx_ac (rx_sd_iconst dX10_ringOf_61 (by decide)) ?_
  refine rx_ac (rx_sd_retI (M := m_X10_ringOf Y) rfl (Or.inl rfl) dX10_ringOf_62) ?_
  refine rx_ac (rx_sd_iload_n dX10_ringOf_63 rfl) ?_
  refine rx_ac (rx_sd_bipush dX10_ringOf_64 (by decide)) ?_
  refine rx_ac (rx_sd_icmp_lt hY dX10_ringOf_66 (by decide)) ?_
  refine rx_ac (rx_sd_iload_n dX10_ringOf_69 rfl) ?_
  refine rx_ac (rx_sd_bipush dX10_ringOf_70 (by decide)) ?_
  refine rx_ac (rx_sd_aload_n dX10_ringOf_72 rfl) ?_
  refine rx_ac (rx_sd_get (C := RX10) (T := TX10) (N := 58) in_X10 rfl (by decide) kw_482 dX10_ringOf_73) ?_
  refine rx_ac (rx_sd_iload_n dX10_ringOf_76 rfl) ?_
  refine rx_ac (rx_sd_iald ⟨rfl, rfl, rfl⟩ dX10_ringOf_77) ?_
  refine rx_ac (rx_sd_iadd dX10_ringOf_78) ?_
  refine rx_ac (rx_sd_icmp_ge hY dX10_ringOf_79 (by decide)) ?_
  refine rx_ac (rx_sd_aload_n dX10_ringOf_82 rfl) ?_
  refine rx_ac (rx_sd_iload_n dX10_ringOf_83 rfl) ?_
  refine rx_ac (rx_sd_iload_n dX10_ringOf_84 rfl) ?_
  refine rx_ac (rx_sd_bipush dX10_ringOf_85 (by decide)) ?_
  refine rx_ac (rx_sd_isub dX10_ringOf_87) ?_
  refine rx_ac (rx_sd_cl (M := m_X10_ringOf Y) (rx_lk_V gok (mid := 151) (ci := 10) (C := (RX10, TX10, 58)) ⟨kw_580, kw_427, hd_X10_thirds, Nat.le_of_ble_eq_true rfl, Nat.le_of_ble_eq_true rfl⟩ rfl kw_581 kw_582 kw_583 dX10_ringOf_88) (fun _ => ⟨_, rfl⟩) rfl rfl) ?_
  refine rx_ac (rx_sd_retI (M := m_X10_ringOf Y) rfl (Or.inl rfl) dX10_ringOf_91) ?_
  refine rx_ac (rx_sd_iload_n dX10_ringOf_92 rfl) ?_
  refine rx_ac (rx_sd_bipush dX10_ringOf_93 (by decide)) ?_
  refine rx_ac (rx_sd_icmp_lt hY dX10_ringOf_95 (by decide)) ?_
  refine rx_ac (rx_sd_iload_n dX10_ringOf_98 rfl) ?_
  refine rx_ac (rx_sd_bipush dX10_ringOf_99 (by decide)) ?_
  refine rx_ac (rx_sd_aload_n dX10_ringOf_101 rfl) ?_
  refine rx_ac (rx_sd_iload_n dX10_ringOf_102 rfl) ?_
  refine rx_ac (rx_sd_cl (M := m_X10_ringOf Y) (rx_lk_V gok (mid := 107) (ci := 10) (C := (RX10, TX10, 58)) ⟨kw_493, kw_427, hd_X10_fences, Nat.le_of_ble_eq_true rfl, Nat.le_of_ble_eq_true rfl⟩ rfl kw_494 kw_495 kw_496 dX10_ringOf_103) (fun _ => ⟨_, rfl⟩) rfl rfl) ?_
  refine rx_ac (rx_sd_iadd dX10_ringOf_106) ?_
  refine rx_ac (rx_sd_icmp_ge hY dX10_ringOf_107 (by decide)) ?_
  refine rx_ac (rx_sd_iconst dX10_ringOf_125 (by decide)) ?_
  refine rx_ac (rx_sd_retI (M := m_X10_ringOf Y) rfl (Or.inl rfl) dX10_ringOf_126) ?_
  exact rx_an
set_option maxRecDepth 100000 in
set_option maxHeartbeats 4000000 in
theorem s_X10_row {l : Launch} {D : va_G} {cy : Nat → ClassId} {σ : Nat → Int32} {Y : rx_Y} (hY : rx_YOk Y σ) : ∀ q ∈ p_X10_row Y, rx_Sd (gG l D cy σ) (mt Y) (m_X10_row Y) q.1 q.2 := by
  unfold p_X10_row
  refine rx_ac (rx_sd_iload_n dX10_row_0 rfl) ?_
  refine rx_ac (rx_sd_iconst dX10_row_1 (by decide)) ?_
  refine rx_ac (rx_sd_icmp_lt hY dX10_row_2 (by decide)) ?_
  refine rx_ac (rx_sd_iload_n dX10_row_5 rfl) ?_
  refine rx_ac (rx_sd_bipush dX10_row_6 (by decide)) ?_
  refine rx_ac (rx_sd_icmp_gt hY dX10_row_8 (by decide)) ?_
  refine rx_ac (rx_sd_iload_n dX10_row_11 rfl) ?_
  refine rx_ac (rx_sd_if_lt hY dX10_row_12 (by decide)) ?_
  refine rx_ac (rx_sd_iload_n dX10_row_15 rfl) ?_
  refine rx_ac (rx_sd_iload_n dX10_row_16 rfl) ?_
  refine rx_ac (rx_sd_icmp_ge hY dX10_row_17 (by decide)) ?_
  refine rx_ac (rx_sd_iload_n dX10_row_20 rfl) ?_
  refine rx_ac (rx_sd_if_lt hY dX10_row_21 (by decide)) ?_
  refine rx_ac (rx_sd_iload_n dX10_row_24 rfl) ?_
  refine rx_ac (rx_sd_iconst dX10_row_25 (by decide)) ?_
  refine rx_ac (rx_sd_icmp_le hY dX10_row_26 (by decide)) ?_
  refine rx_ac (rx_sd_iconst dX10_row_29 (by decide)) ?_
  refine rx_ac (rx_sd_retI (M := m_X10_row Y) rfl (Or.inr rfl) dX10_row_30) ?_
  refine rx_ac (rx_sd_iload_n dX10_row_31 rfl) ?_
  refine rx_ac (rx_sd_aload_n dX10_row_32 rfl) ?_
  refine rx_ac (rx_sd_get (C := RX10) (T := TX10) (N := 58) in_X10 rfl (by decide) kw_570 dX10_row_33) ?_
  refine rx_ac (rx_sd_icmp_eq hY dX10_row_36 (by decide)) ?_
  refine rx_ac (rx_sd_iconst dX10_row_39 (by decide)) ?_
  refine rx_ac (rx_sd_istore (M := m_X10_row Y) dX10_row_40) ?_
  refine rx_ac (rx_sd_iload dX10_row_42) ?_
  refine rx_ac (rx_sd_bipush dX10_row_44 (by decide)) ?_
  refine rx_ac (rx_sd_icmp_ge hY dX10_row_46 (by decide)) ?_
  refine rx_ac (rx_sd_aload_n dX10_row_49 rfl) ?_
  refine rx_ac (rx_sd_get (C := RX10) (T := TX10) (N := 58) in_X10 rfl (by decide) kw_551 dX10_row_50) ?_
  refine rx_ac (rx_sd_iload dX10_row_53) ?_
  refine rx_ac (rx_sd_iconst dX10_row_55 (by decide)) ?_
  refine rx_ac (rx_sd_iast hY ⟨rfl, rfl, rfl⟩ dX10_row_56) ?_
  refine rx_ac (rx_sd_iinc (M := m_X10_row Y) dX10_row_57 (by decide)) ?_
  refine rx_ac (rx_sd_goto dX10_row_60 (by decide)) ?_
  refine rx_ac (rx_sd_aload_n dX10_row_63 rfl) ?_
  refine rx_ac (rx_sd_iload_n dX10_row_64 rfl) ?_
  refine rx_ac (rx_sd_putf (C := RX10) (T := TX10) (N := 58) (ty0 := tyX10) in_X10 tyX10_ok nmX10 rfl (by decide) kw_570 (Or.inl rfl) rfl dX10_row_65) ?_
  refine rx_ac (rx_sd_aload_n dX10_row_68 rfl) ?_
  refine rx_ac (rx_sd_get (C := RX10) (T := TX10) (N := 58) in_X10 rfl (by decide) kw_551 dX10_row_69) ?_
  refine rx_ac (rx_sd_iload_n dX10_row_72 rfl) ?_
  refine rx_ac (rx_sd_iload_n dX10_row_73 rfl) ?_
  refine rx_ac (rx_sd_iast hY ⟨rfl, rfl, rfl⟩ dX10_row_74) ?_
  refine rx_ac (rx_sd_iconst dX10_row_75 (by decide)) ?_
  refine rx_ac (rx_sd_retI (M := m_X10_row Y) rfl (Or.inr rfl) dX10_row_76) ?_
  exact rx_an
set_option maxRecDepth 100000 in
set_option maxHeartbeats 4000000 in
theorem s_X10_same {l : Launch} {D : va_G} {cy : Nat → ClassId} {σ : Nat → Int32} {Y : rx_Y} (hY : rx_YOk Y σ) : ∀ q ∈ p_X10_same Y, rx_Sd (gG l D cy σ) (mt Y) (m_X10_same Y) q.1 q.2 := by
  unfold p_X10_same
  refine rx_ac (rx_sd_iload_n dX10_same_0 rfl) ?_
  refine rx_ac (rx_sd_if_lt hY dX10_same_1 (by decide)) ?_
  refine rx_ac (rx_sd_iload_n dX10_same_4 rfl) ?_
  refine rx_ac (rx_sd_iconst dX10_same_5 (by decide)) ?_
  refine rx_ac (rx_sd_icmp_gt hY dX10_same_6 (by decide)) ?_
  refine rx_ac (rx_sd_aload_n dX10_same_9 rfl) ?_
  refine rx_ac (rx_sd_get (C := RX10) (T := TX10) (N := 58) in_X10 rfl (by decide) kw_539 dX10_same_10) ?_
  refine rx_ac (rx_sd_iload_n dX10_same_13 rfl) ?_
  refine rx_ac (rx_sd_iald ⟨rfl, rfl, rfl⟩ dX10_same_14) ?_
  refine rx_ac (rx_sd_if_ne hY dX10_same_15 (by decide)) ?_
  refine rx_ac (rx_sd_iconst dX10_same_18 (by decide)) ?_
  refine rx_ac (rx_sd_retI (M := m_X10_same Y) rfl (Or.inl rfl) dX10_same_19) ?_
  exact rx_an
set_option maxRecDepth 100000 in
set_option maxHeartbeats 4000000 in
theorem s_X10_saves {l : Launch} {D : va_G} {cy : Nat → ClassId} {σ : Nat → Int32} {Y : rx_Y} (hY : rx_YOk Y σ) : ∀ q ∈ p_X10_saves Y, rx_Sd (gG l D cy σ) (mt Y) (m_X10_saves Y) q.1 q.2 := by
  unfold p_X10_saves
  refine rx_ac (rx_sd_iconst dX10_saves_0 (by decide)) ?_
  refine rx_ac (rx_sd_istore_n (M := m_X10_saves Y) dX10_saves_1 rfl) ?_
  refine rx_ac (rx_sd_iload_n dX10_saves_2 rfl) ?_
  refine rx_ac (rx_sd_aload_n dX10_saves_3 rfl) ?_
  refine rx_ac (rx_sd_get (C := RX10) (T := TX10) (N := 58) in_X10 rfl (by decide) kw_469 dX10_saves_4) ?_
  refine rx_ac (rx_sd_icmp_ge hY dX10_saves_7 (by decide)) ?_
  refine rx_ac (rx_sd_aload_n dX10_saves_10 rfl) ?_
  refine rx_ac (rx_sd_iload_n dX10_saves_11 rfl) ?_
  refine rx_ac (rx_sd_iload_n dX10_saves_12 rfl) ?_
  refine rx_ac (rx_sd_iadd dX10_saves_13) ?_
  refine rx_ac (rx_sd_iload_n dX10_saves_14 rfl) ?_
  refine rx_ac (rx_sd_cl (M := m_X10_saves Y) (rx_lk_V gok (mid := 104) (ci := 10) (C := (RX10, TX10, 58)) ⟨kw_562, kw_427, hd_X10_copy, Nat.le_of_ble_eq_true rfl, Nat.le_of_ble_eq_true rfl⟩ rfl kw_563 kw_564 kw_565 dX10_saves_15) (fun _ => ⟨_, rfl⟩) rfl rfl) ?_
  refine rx_ac (rx_sd_iinc (M := m_X10_saves Y) dX10_saves_18 (by decide)) ?_
  refine rx_ac (rx_sd_goto dX10_saves_21 (by decide)) ?_
  refine rx_ac (rx_sd_iconst dX10_saves_24 (by decide)) ?_
  refine rx_ac (rx_sd_istore_n (M := m_X10_saves Y) dX10_saves_25 rfl) ?_
  refine rx_ac (rx_sd_iload_n dX10_saves_26 rfl) ?_
  refine rx_ac (rx_sd_bipush dX10_saves_27 (by decide)) ?_
  refine rx_ac (rx_sd_icmp_ge hY dX10_saves_29 (by decide)) ?_
  refine rx_ac (rx_sd_aload_n dX10_saves_32 rfl) ?_
  refine rx_ac (rx_sd_get (C := RX10) (T := TX10) (N := 58) in_X10 rfl (by decide) kw_543 dX10_saves_33) ?_
  refine rx_ac (rx_sd_iload_n dX10_saves_36 rfl) ?_
  refine rx_ac (rx_sd_aload_n dX10_saves_37 rfl) ?_
  refine rx_ac (rx_sd_get (C := RX10) (T := TX10) (N := 58) in_X10 rfl (by decide) kw_473 dX10_saves_38) ?_
  refine rx_ac (rx_sd_iload_n dX10_saves_41 rfl) ?_
  refine rx_ac (rx_sd_iald ⟨rfl, rfl, rfl⟩ dX10_saves_42) ?_
  refine rx_ac (rx_sd_iast hY ⟨rfl, rfl, rfl⟩ dX10_saves_43) ?_
  refine rx_ac (rx_sd_iinc (M := m_X10_saves Y) dX10_saves_44 (by decide)) ?_
  refine rx_ac (rx_sd_goto dX10_saves_47 (by decide)) ?_
  refine rx_ac (rx_sd_ret0 (M := m_X10_saves Y) rfl dX10_saves_50) ?_
  exact rx_an
set_option maxRecDepth 100000 in
set_option maxHeartbeats 4000000 in
theorem s_X10_searches {l : Launch} {D : va_G} {cy : Nat → ClassId} {σ : Nat → Int32} {Y : rx_Y} (hY : rx_YOk Y σ) : ∀ q ∈ p_X10_searches Y, rx_Sd (gG l D cy σ) (mt Y) (m_X10_searches Y) q.1 q.2 := by
  unfold p_X10_searches
  refine rx_ac (rx_sd_aload_n dX10_searches_0 rfl) ?_
  refine rx_ac (rx_sd_iconst dX10_searches_1 (by decide)) ?_
  refine rx_ac (rx_sd_putf (C := RX10) (T := TX10) (N := 58) (ty0 := tyX10) in_X10 tyX10_ok nmX10 rfl (by decide) kw_584 (Or.inl rfl) rfl dX10_searches_2) ?_
  refine rx_ac (rx_sd_aload_n dX10_searches_5 rfl) ?_
  refine rx_ac (rx_sd_iconst dX10_searches_6 (by decide)) ?_
  refine rx_ac (rx_sd_putf (C := RX10) (T := TX10) (N := 58) (ty0 := tyX10) in_X10 tyX10_ok nmX10 rfl (by decide) kw_585 (Or.inl rfl) rfl dX10_searches_7) ?_
  refine rx_ac (rx_sd_iconst dX10_searches_10 (by decide)) ?_
  refine rx_ac (rx_sd_istore_n (M := m_X10_searches Y) dX10_searches_11 rfl) ?_
  refine rx_ac (rx_sd_iload_n dX10_searches_12 rfl) ?_
  refine rx_ac (rx_sd_sipush dX10_searches_13 (by decide)) ?_
  refine rx_ac (rx_sd_icmp_ge hY dX10_searches_16 (by decide)) ?_
  refine rx_ac (rx_sd_aload_n dX10_searches_19 rfl) ?_
  refine rx_ac (rx_sd_get (C := RX10) (T := TX10) (N := 58) in_X10 rfl (by decide) kw_549 dX10_searches_20) ?_
  refine rx_ac (rx_sd_iload_n dX10_searches_23 rfl) ?_
  refine rx_ac (rx_sd_iconst dX10_searches_24 (by decide)) ?_
  refine rx_ac (rx_sd_iast hY ⟨rfl, rfl, rfl⟩ dX10_searches_25) ?_
  refine rx_ac (rx_sd_iinc (M := m_X10_searches Y) dX10_searches_26 (by decide)) ?_
  refine rx_ac (rx_sd_goto dX10_searches_29 (by decide)) ?_
  refine rx_ac (rx_sd_aload_n dX10_searches_32 rfl) ?_
  refine rx_ac (rx_sd_iconst dX10_searches_33 (by decide)) ?_
  refine rx_ac (rx_sd_iconst dX10_searches_34 (by decide)) ?_
  refine rx_ac (rx_sd_cl (M := m_X10_searches Y) (rx_lk_V gok (mid := 148) (ci := 10) (C := (RX10, TX10, 58)) ⟨kw_586, kw_427, hd_X10_tells, Nat.le_of_ble_eq_true rfl, Nat.le_of_ble_eq_true rfl⟩ rfl kw_587 kw_588 kw_589 dX10_searches_35) (fun _ => ⟨_, rfl⟩) rfl rfl) ?_
  refine rx_ac (rx_sd_istore_n (M := m_X10_searches Y) dX10_searches_38 rfl) ?_
  refine rx_ac (rx_sd_iconst dX10_searches_39 (by decide)) ?_
  refine rx_ac (rx_sd_istore_n (M := m_X10_searches Y) dX10_searches_40 rfl) ?_
  refine rx_ac (rx_sd_iconst dX10_searches_41 (by decide)) ?_
  refine rx_ac (rx_sd_istore_n (M := m_X10_searches Y) dX10_searches_42 rfl) ?_
  refine rx_ac (rx_sd_iconst dX10_searches_43 (by decide)) ?_
  refine rx_ac (rx_sd_istore (M := m_X10_searches Y) dX10_searches_44) ?_
  refine rx_ac (rx_sd_iload dX10_searches_46) ?_
  refine rx_ac (rx_sd_aload_n dX10_searches_48 rfl) ?_
  refine rx_ac (rx_sd_get (C := RX10) (T := TX10) (N := 58) in_X10 rfl (by decide) kw_584 dX10_searches_49) ?_
  refine rx_ac (rx_sd_icmp_ge hY dX10_searches_52 (by decide)) ?_
  refine rx_ac (rx_sd_iload_n dX10_searches_55 rfl) ?_
  refine rx_ac (rx_sd_iconst dX10_searches_56 (by decide)) ?_
  refine rx_ac (rx_sd_icmp_ge hY dX10_searches_57 (by decide)) ?_
  refine rx_ac (rx_sd_iconst dX10_searches_60 (by decide)) ?_
  refine rx_ac (rx_sd_istore (M := m_X10_searches Y) dX10_searches_61) ?_
  refine rx_ac (rx_sd_iload dX10_searches_63) ?_
  refine rx_ac (rx_sd_aload_n dX10_searches_65 rfl) ?_
  refine rx_ac (rx_sd_get (C := RX10) (T := TX10) (N := 58) in_X10 rfl (by decide) kw_469 dX10_searches_66) ?_
  refine rx_ac (rx_sd_icmp_ge hY dX10_searches_69 (by decide)) ?_
  refine rx_ac (rx_sd_iload_n dX10_searches_72 rfl) ?_
  refine rx_ac (rx_sd_iconst dX10_searches_73 (by decide)) ?_
  refine rx_ac (rx_sd_icmp_ge hY dX10_searches_74 (by decide)) ?_
  refine rx_ac (rx_sd_iconst dX10_searches_77 (by decide)) ?_
  refine rx_ac (rx_sd_istore (M := m_X10_searches Y) dX10_searches_78) ?_
  refine rx_ac (rx_sd_iload dX10_searches_80) ?_
  refine rx_ac (rx_sd_bipush dX10_searches_82 (by decide)) ?_
  refine rx_ac (rx_sd_icmp_ge hY dX10_searches_84 (by decide)) ?_
  refine rx_ac (rx_sd_aload_n dX10_searches_87 rfl) ?_
  refine rx_ac (rx_sd_get (C := RX10) (T := TX10) (N := 58) in_X10 rfl (by decide) kw_473 dX10_searches_88) ?_
  refine rx_ac (rx_sd_iload dX10_searches_91) ?_
  refine rx_ac (rx_sd_aload_n dX10_searches_93 rfl) ?_
  refine rx_ac (rx_sd_get (C := RX10) (T := TX10) (N := 58) in_X10 rfl (by decide) kw_545 dX10_searches_94) ?_
  refine rx_ac (rx_sd_bipush dX10_searches_97 (by decide)) ?_
  refine rx_ac (rx_sd_iload dX10_searches_99) ?_
  refine rx_ac (rx_sd_imul dX10_searches_101) ?_
  refine rx_ac (rx_sd_iload dX10_searches_102) ?_
  refine rx_ac (rx_sd_iadd dX10_searches_104) ?_
  refine rx_ac (rx_sd_iald ⟨rfl, rfl, rfl⟩ dX10_searches_105) ?_
  refine rx_ac (rx_sd_iast hY ⟨rfl, rfl, rfl⟩ dX10_searches_106) ?_
  refine rx_ac (rx_sd_iinc (M := m_X10_searches Y) dX10_searches_107 (by decide)) ?_
  refine rx_ac (rx_sd_goto dX10_searches_110 (by decide)) ?_
  refine rx_ac (rx_sd_aload_n dX10_searches_113 rfl) ?_
  refine rx_ac (rx_sd_iload dX10_searches_114) ?_
  refine rx_ac (rx_sd_cl (M := m_X10_searches Y) (rx_lk_V gok (mid := 155) (ci := 10) (C := (RX10, TX10, 58)) ⟨kw_590, kw_427, hd_X10_turnsArrows, Nat.le_of_ble_eq_true rfl, Nat.le_of_ble_eq_true rfl⟩ rfl kw_591 kw_592 kw_593 dX10_searches_116) (fun _ => ⟨_, rfl⟩) rfl rfl) ?_
  refine rx_ac (rx_sd_istore (M := m_X10_searches Y) dX10_searches_119) ?_
  refine rx_ac (rx_sd_iconst dX10_searches_121 (by decide)) ?_
  refine rx_ac (rx_sd_istore (M := m_X10_searches Y) dX10_searches_122) ?_
  refine rx_ac (rx_sd_iload dX10_searches_124) ?_
  refine rx_ac (rx_sd_bipush dX10_searches_126 (by decide)) ?_
  refine rx_ac (rx_sd_icmp_ge hY dX10_searches_128 (by decide)) ?_
  refine rx_ac (rx_sd_aload_n dX10_searches_131 rfl) ?_
  refine rx_ac (rx_sd_get (C := RX10) (T := TX10) (N := 58) in_X10 rfl (by decide) kw_473 dX10_searches_132) ?_
  refine rx_ac (rx_sd_iload dX10_searches_135) ?_
  refine rx_ac (rx_sd_iload dX10_searches_137) ?_
  refine rx_ac (rx_sd_bipush dX10_searches_139 (by decide)) ?_
  refine rx_ac (rx_sd_idiv dX10_searches_141) ?_
  refine rx_ac (rx_sd_aload_n dX10_searches_142 rfl) ?_
  refine rx_ac (rx_sd_get (C := RX10) (T := TX10) (N := 58) in_X10 rfl (by decide) kw_469 dX10_searches_143) ?_
  refine rx_ac (rx_sd_icmp_ge hY dX10_searches_146 (by decide)) ?_
  refine rx_ac (rx_sd_iload dX10_searches_149) ?_
  refine rx_ac (rx_sd_bipush dX10_searches_151 (by decide)) ?_
  refine rx_ac (rx_sd_irem dX10_searches_153) ?_
  refine rx_ac (rx_sd_aload_n dX10_searches_154 rfl) ?_
  refine rx_ac (rx_sd_get (C := RX10) (T := TX10) (N := 58) in_X10 rfl (by decide) kw_469 dX10_searches_155) ?_
  refine rx_ac (rx_sd_icmp_ge hY dX10_searches_158 (by decide)) ?_
  refine rx_ac (rx_sd_aload_n dX10_searches_161 rfl) ?_
  refine rx_ac (rx_sd_get (C := RX10) (T := TX10) (N := 58) in_X10 rfl (by decide) kw_538 dX10_searches_162) ?_
  refine rx_ac (rx_sd_iload dX10_searches_165) ?_
  refine rx_ac (rx_sd_iald ⟨rfl, rfl, rfl⟩ dX10_searches_167) ?_
  refine rx_ac (rx_sd_goto dX10_searches_168 (by decide)) ?_
  refine rx_ac (rx_sd_iconst dX10_searches_171 (by decide)) ?_
  refine rx_ac (rx_sd_iast hY ⟨rfl, rfl, rfl⟩ dX10_searches_172) ?_
  refine rx_ac (rx_sd_iinc (M := m_X10_searches Y) dX10_searches_173 (by decide)) ?_
  refine rx_ac (rx_sd_goto dX10_searches_176 (by decide)) ?_
  refine rx_ac (rx_sd_iload dX10_searches_179) ?_
  refine rx_ac (rx_sd_istore_n (M := m_X10_searches Y) dX10_searches_181 rfl) ?_
  refine rx_ac (rx_sd_iload dX10_searches_182) ?_
  refine rx_ac (rx_sd_istore_n (M := m_X10_searches Y) dX10_searches_184 rfl) ?_
  refine rx_ac (rx_sd_aload_n dX10_searches_185 rfl) ?_
  refine rx_ac (rx_sd_iload dX10_searches_186) ?_
  refine rx_ac (rx_sd_iload dX10_searches_188) ?_
  refine rx_ac (rx_sd_cl (M := m_X10_searches Y) (rx_lk_V gok (mid := 148) (ci := 10) (C := (RX10, TX10, 58)) ⟨kw_586, kw_427, hd_X10_tells, Nat.le_of_ble_eq_true rfl, Nat.le_of_ble_eq_true rfl⟩ rfl kw_587 kw_588 kw_589 dX10_searches_190) (fun _ => ⟨_, rfl⟩) rfl rfl) ?_
  refine rx_ac (rx_sd_istore_n (M := m_X10_searches Y) dX10_searches_193 rfl) ?_
  refine rx_ac (rx_sd_iinc (M := m_X10_searches Y) dX10_searches_194 (by decide)) ?_
  refine rx_ac (rx_sd_goto dX10_searches_197 (by decide)) ?_
  refine rx_ac (rx_sd_iinc (M := m_X10_searches Y) dX10_searches_200 (by decide)) ?_
  refine rx_ac (rx_sd_goto dX10_searches_203 (by decide)) ?_
  refine rx_ac (rx_sd_aload_n dX10_searches_206 rfl) ?_
  refine rx_ac (rx_sd_iload_n dX10_searches_207 rfl) ?_
  refine rx_ac (rx_sd_iconst dX10_searches_208 (by decide)) ?_
  refine rx_ac (rx_sd_icmp_ne hY dX10_searches_209 (by decide)) ?_
  refine rx_ac (rx_sd_aload_n dX10_searches_221 rfl) ?_
  refine rx_ac (rx_sd_get (C := RX10) (T := TX10) (N := 58) in_X10 rfl (by decide) kw_584 dX10_searches_222) ?_
  refine rx_ac (rx_sd_putf (C := RX10) (T := TX10) (N := 58) (ty0 := tyX10) in_X10 tyX10_ok nmX10 rfl (by decide) kw_594 (Or.inl rfl) rfl dX10_searches_225) ?_
  refine rx_ac (rx_sd_iload_n dX10_searches_228 rfl) ?_
  refine rx_ac (rx_sd_iconst dX10_searches_229 (by decide)) ?_
  refine rx_ac (rx_sd_icmp_ne hY dX10_searches_230 (by decide)) ?_
  refine rx_ac (rx_sd_iload_n dX10_searches_236 rfl) ?_
  refine rx_ac (rx_sd_iconst dX10_searches_237 (by decide)) ?_
  refine rx_ac (rx_sd_icmp_ge hY dX10_searches_238 (by decide)) ?_
  refine rx_ac (rx_sd_iconst dX10_searches_241 (by decide)) ?_
  refine rx_ac (rx_sd_retI (M := m_X10_searches Y) rfl (Or.inl rfl) dX10_searches_242) ?_
  exact rx_an
set_option maxRecDepth 100000 in
set_option maxHeartbeats 4000000 in
theorem s_X10_seed {l : Launch} {D : va_G} {cy : Nat → ClassId} {σ : Nat → Int32} {Y : rx_Y} (hY : rx_YOk Y σ) : ∀ q ∈ p_X10_seed Y, rx_Sd (gG l D cy σ) (mt Y) (m_X10_seed Y) q.1 q.2 := by
  unfold p_X10_seed
  refine rx_ac (rx_sd_aload_n dX10_seed_0 rfl) ?_
  refine rx_ac (rx_sd_iload_n dX10_seed_1 rfl) ?_
  refine rx_ac (rx_sd_cl (M := m_X10_seed Y) (rx_lk_V gok (mid := 117) (ci := 10) (C := (RX10, TX10, 58)) ⟨kw_478, kw_427, hd_X10_isSlot, Nat.le_of_ble_eq_true rfl, Nat.le_of_ble_eq_true rfl⟩ rfl kw_479 kw_480 kw_481 dX10_seed_2) (fun _ => ⟨_, rfl⟩) rfl rfl) ?_
  refine rx_ac (rx_sd_if_eq hY dX10_seed_5 (by decide)) ?_
  refine rx_ac (rx_sd_aload_n dX10_seed_8 rfl) ?_
  refine rx_ac (rx_sd_iload_n dX10_seed_9 rfl) ?_
  refine rx_ac (rx_sd_cl (M := m_X10_seed Y) (rx_lk_V gok (mid := 116) (ci := 10) (C := (RX10, TX10, 58)) ⟨kw_506, kw_427, hd_X10_isCutting, Nat.le_of_ble_eq_true rfl, Nat.le_of_ble_eq_true rfl⟩ rfl kw_507 kw_508 kw_509 dX10_seed_10) (fun _ => ⟨_, rfl⟩) rfl rfl) ?_
  refine rx_ac (rx_sd_if_eq hY dX10_seed_13 (by decide)) ?_
  refine rx_ac (rx_sd_iconst dX10_seed_27 (by decide)) ?_
  refine rx_ac (rx_sd_retI (M := m_X10_seed Y) rfl (Or.inr rfl) dX10_seed_28) ?_
  exact rx_an
set_option maxRecDepth 100000 in
set_option maxHeartbeats 4000000 in
theorem s_X10_size {l : Launch} {D : va_G} {cy : Nat → ClassId} {σ : Nat → Int32} {Y : rx_Y} (hY : rx_YOk Y σ) : ∀ q ∈ p_X10_size Y, rx_Sd (gG l D cy σ) (mt Y) (m_X10_size Y) q.1 q.2 := by
  unfold p_X10_size
  refine rx_ac (rx_sd_iload_n dX10_size_0 rfl) ?_
  refine rx_ac (rx_sd_if_lt hY dX10_size_1 (by decide)) ?_
  refine rx_ac (rx_sd_iload_n dX10_size_4 rfl) ?_
  refine rx_ac (rx_sd_aload_n dX10_size_5 rfl) ?_
  refine rx_ac (rx_sd_get (C := RX10) (T := TX10) (N := 58) in_X10 rfl (by decide) kw_469 dX10_size_6) ?_
  refine rx_ac (rx_sd_icmp_lt hY dX10_size_9 (by decide)) ?_
  refine rx_ac (rx_sd_iconst dX10_size_12 (by decide)) ?_
  refine rx_ac (rx_sd_goto dX10_size_13 (by decide)) ?_
  refine rx_ac (rx_sd_aload_n dX10_size_16 rfl) ?_
  refine rx_ac (rx_sd_get (C := RX10) (T := TX10) (N := 58) in_X10 rfl (by decide) kw_505 dX10_size_17) ?_
  refine rx_ac (rx_sd_iload_n dX10_size_20 rfl) ?_
  refine rx_ac (rx_sd_iald ⟨rfl, rfl, rfl⟩ dX10_size_21) ?_
  refine rx_ac (rx_sd_retI (M := m_X10_size Y) rfl (Or.inl rfl) dX10_size_22) ?_
  exact rx_an
set_option maxRecDepth 100000 in
set_option maxHeartbeats 4000000 in
theorem s_X10_step {l : Launch} {D : va_G} {cy : Nat → ClassId} {σ : Nat → Int32} {Y : rx_Y} (hY : rx_YOk Y σ) : ∀ q ∈ p_X10_step Y, rx_Sd (gG l D cy σ) (mt Y) (m_X10_step Y) q.1 q.2 := by
  unfold p_X10_step
  refine rx_ac (rx_sd_iload_n dX10_step_0 rfl) ?_
  refine rx_ac (rx_sd_if_lt hY dX10_step_1 (by decide)) ?_
  refine rx_ac (rx_sd_iload_n dX10_step_4 rfl) ?_
  refine rx_ac (rx_sd_aload_n dX10_step_5 rfl) ?_
  refine rx_ac (rx_sd_get (C := RX10) (T := TX10) (N := 58) in_X10 rfl (by decide) kw_585 dX10_step_6) ?_
  refine rx_ac (rx_sd_icmp_lt hY dX10_step_9 (by decide)) ?_
  refine rx_ac (rx_sd_iconst dX10_step_12 (by decide)) ?_
  refine rx_ac (rx_sd_goto dX10_step_13 (by decide)) ?_
  refine rx_ac (rx_sd_retI (M := m_X10_step Y) rfl (Or.inl rfl) dX10_step_22) ?_
  exact rx_an
set_option maxRecDepth 100000 in
set_option maxHeartbeats 4000000 in
theorem s_X10_sumOf {l : Launch} {D : va_G} {cy : Nat → ClassId} {σ : Nat → Int32} {Y : rx_Y} (hY : rx_YOk Y σ) : ∀ q ∈ p_X10_sumOf Y, rx_Sd (gG l D cy σ) (mt Y) (m_X10_sumOf Y) q.1 q.2 := by
  unfold p_X10_sumOf
  refine rx_ac (rx_sd_lconst dX10_sumOf_0 (by decide)) ?_
  refine rx_ac (rx_sd_lstore_n (M := m_X10_sumOf Y) dX10_sumOf_1 rfl) ?_
  refine rx_ac (rx_sd_iconst dX10_sumOf_2 (by decide)) ?_
  refine rx_ac (rx_sd_istore (M := m_X10_sumOf Y) dX10_sumOf_3) ?_
  refine rx_ac (rx_sd_iload dX10_sumOf_5) ?_
  refine rx_ac (rx_sd_aload_n dX10_sumOf_7 rfl) ?_
  refine rx_ac (rx_sd_get (C := RX10) (T := TX10) (N := 58) in_X10 rfl (by decide) kw_431 dX10_sumOf_8) ?_
  refine rx_ac (rx_sd_iload_n dX10_sumOf_11 rfl) ?_
  refine rx_ac (rx_sd_iald ⟨rfl, rfl, rfl⟩ dX10_sumOf_12) ?_
  refine rx_ac (rx_sd_icmp_ge hY dX10_sumOf_13 (by decide)) ?_
  refine rx_ac (rx_sd_lload_n dX10_sumOf_16 rfl) ?_
  refine rx_ac (rx_sd_aload_n dX10_sumOf_17 rfl) ?_
  refine rx_ac (rx_sd_get (C := RX10) (T := TX10) (N := 58) in_X10 rfl (by decide) kw_436 dX10_sumOf_18) ?_
  refine rx_ac (rx_sd_sipush dX10_sumOf_21 (by decide)) ?_
  refine rx_ac (rx_sd_iload_n dX10_sumOf_24 rfl) ?_
  refine rx_ac (rx_sd_imul dX10_sumOf_25) ?_
  refine rx_ac (rx_sd_iload dX10_sumOf_26) ?_
  refine rx_ac (rx_sd_iadd dX10_sumOf_28) ?_
  refine rx_ac (rx_sd_lald ⟨rfl, rfl, rfl⟩ dX10_sumOf_29) ?_
  refine rx_ac (rx_sd_ladd dX10_sumOf_30) ?_
  refine rx_ac (rx_sd_lstore_n (M := m_X10_sumOf Y) dX10_sumOf_31 rfl) ?_
  refine rx_ac (rx_sd_iinc (M := m_X10_sumOf Y) dX10_sumOf_32 (by decide)) ?_
  refine rx_ac (rx_sd_goto dX10_sumOf_35 (by decide)) ?_
  refine rx_ac (rx_sd_lload_n dX10_sumOf_38 rfl) ?_
  refine rx_ac (rx_sd_retL (M := m_X10_sumOf Y) rfl dX10_sumOf_39) ?_
  exact rx_an
set_option maxRecDepth 100000 in
set_option maxHeartbeats 4000000 in
theorem s_X10_table {l : Launch} {D : va_G} {cy : Nat → ClassId} {σ : Nat → Int32} {Y : rx_Y} (hY : rx_YOk Y σ) : ∀ q ∈ p_X10_table Y, rx_Sd (gG l D cy σ) (mt Y) (m_X10_table Y) q.1 q.2 := by
  unfold p_X10_table
  refine rx_ac (rx_sd_iload_n dX10_table_0 rfl) ?_
  refine rx_ac (rx_sd_iconst dX10_table_1 (by decide)) ?_
  refine rx_ac (rx_sd_icmp_lt hY dX10_table_2 (by decide)) ?_
  refine rx_ac (rx_sd_iload_n dX10_table_5 rfl) ?_
  refine rx_ac (rx_sd_bipush dX10_table_6 (by decide)) ?_
  refine rx_ac (rx_sd_icmp_gt hY dX10_table_8 (by decide)) ?_
  refine rx_ac (rx_sd_iload_n dX10_table_11 rfl) ?_
  refine rx_ac (rx_sd_if_lt hY dX10_table_12 (by decide)) ?_
  refine rx_ac (rx_sd_iload_n dX10_table_15 rfl) ?_
  refine rx_ac (rx_sd_bipush dX10_table_16 (by decide)) ?_
  refine rx_ac (rx_sd_icmp_le hY dX10_table_18 (by decide)) ?_
  refine rx_ac (rx_sd_iconst dX10_table_21 (by decide)) ?_
  refine rx_ac (rx_sd_retI (M := m_X10_table Y) rfl (Or.inr rfl) dX10_table_22) ?_
  refine rx_ac (rx_sd_aload_n dX10_table_23 rfl) ?_
  refine rx_ac (rx_sd_iload_n dX10_table_24 rfl) ?_
  refine rx_ac (rx_sd_putf (C := RX10) (T := TX10) (N := 58) (ty0 := tyX10) in_X10 tyX10_ok nmX10 rfl (by decide) kw_472 (Or.inl rfl) rfl dX10_table_25) ?_
  refine rx_ac (rx_sd_aload_n dX10_table_28 rfl) ?_
  refine rx_ac (rx_sd_iload_n dX10_table_29 rfl) ?_
  refine rx_ac (rx_sd_putf (C := RX10) (T := TX10) (N := 58) (ty0 := tyX10) in_X10 tyX10_ok nmX10 rfl (by decide) kw_595 (Or.inl rfl) rfl dX10_table_30) ?_
  refine rx_ac (rx_sd_iconst dX10_table_33 (by decide)) ?_
  refine rx_ac (rx_sd_istore_n (M := m_X10_table Y) dX10_table_34 rfl) ?_
  refine rx_ac (rx_sd_iload_n dX10_table_35 rfl) ?_
  refine rx_ac (rx_sd_bipush dX10_table_36 (by decide)) ?_
  refine rx_ac (rx_sd_icmp_ge hY dX10_table_38 (by decide)) ?_
  refine rx_ac (rx_sd_aload_n dX10_table_41 rfl) ?_
  refine rx_ac (rx_sd_get (C := RX10) (T := TX10) (N := 58) in_X10 rfl (by decide) kw_534 dX10_table_42) ?_
  refine rx_ac (rx_sd_iload_n dX10_table_45 rfl) ?_
  refine rx_ac (rx_sd_iconst dX10_table_46 (by decide)) ?_
  refine rx_ac (rx_sd_iast hY ⟨rfl, rfl, rfl⟩ dX10_table_47) ?_
  refine rx_ac (rx_sd_iinc (M := m_X10_table Y) dX10_table_48 (by decide)) ?_
  refine rx_ac (rx_sd_goto dX10_table_51 (by decide)) ?_
  refine rx_ac (rx_sd_iconst dX10_table_54 (by decide)) ?_
  refine rx_ac (rx_sd_retI (M := m_X10_table Y) rfl (Or.inr rfl) dX10_table_55) ?_
  exact rx_an
