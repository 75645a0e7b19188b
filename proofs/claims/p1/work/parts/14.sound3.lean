set_option maxRecDepth 100000 in
set_option maxHeartbeats 4000000 in
theorem s_X10_areAlike {l : Launch} {D : va_G} {cy : Nat → ClassId} {σ : Nat → Int32} {Y : rx_Y} (hY : rx_YOk Y σ) : ∀ q ∈ p_X10_areAlike Y, rx_Sd (gG l D cy σ) (mt Y) (m_X10_areAlike Y) q.1 q.2 := by
  unfold p_X10_areAlike
  refine rx_ac (rx_sd_aload_n dX10_areAlike_0 rfl) ?_
  refine rx_ac (rx_sd_get (C := RX10) (T := TX10) (N := 58) in_X10 rfl (by decide) kw_431 dX10_areAlike_1) ?_
  refine rx_ac (rx_sd_iload_n dX10_areAlike_4 rfl) ?_
  refine rx_ac (rx_sd_iald ⟨rfl, rfl, rfl⟩ dX10_areAlike_5) ?_
  refine rx_ac (rx_sd_aload_n dX10_areAlike_6 rfl) ?_
  refine rx_ac (rx_sd_get (C := RX10) (T := TX10) (N := 58) in_X10 rfl (by decide) kw_431 dX10_areAlike_7) ?_
  refine rx_ac (rx_sd_iload_n dX10_areAlike_10 rfl) ?_
  refine rx_ac (rx_sd_iald ⟨rfl, rfl, rfl⟩ dX10_areAlike_11) ?_
  refine rx_ac (rx_sd_icmp_eq hY dX10_areAlike_12 (by decide)) ?_
  refine rx_ac (rx_sd_iconst dX10_areAlike_17 (by decide)) ?_
  refine rx_ac (rx_sd_istore_n (M := m_X10_areAlike Y) dX10_areAlike_18 rfl) ?_
  refine rx_ac (rx_sd_iload_n dX10_areAlike_19 rfl) ?_
  refine rx_ac (rx_sd_aload_n dX10_areAlike_20 rfl) ?_
  refine rx_ac (rx_sd_get (C := RX10) (T := TX10) (N := 58) in_X10 rfl (by decide) kw_431 dX10_areAlike_21) ?_
  refine rx_ac (rx_sd_iload_n dX10_areAlike_24 rfl) ?_
  refine rx_ac (rx_sd_iald ⟨rfl, rfl, rfl⟩ dX10_areAlike_25) ?_
  refine rx_ac (rx_sd_icmp_ge hY dX10_areAlike_26 (by decide)) ?_
  refine rx_ac (rx_sd_aload_n dX10_areAlike_29 rfl) ?_
  refine rx_ac (rx_sd_get (C := RX10) (T := TX10) (N := 58) in_X10 rfl (by decide) kw_436 dX10_areAlike_30) ?_
  refine rx_ac (rx_sd_sipush dX10_areAlike_33 (by decide)) ?_
  refine rx_ac (rx_sd_iload_n dX10_areAlike_36 rfl) ?_
  refine rx_ac (rx_sd_imul dX10_areAlike_37) ?_
  refine rx_ac (rx_sd_iload_n dX10_areAlike_38 rfl) ?_
  refine rx_ac (rx_sd_iadd dX10_areAlike_39) ?_
  refine rx_ac (rx_sd_lald ⟨rfl, rfl, rfl⟩ dX10_areAlike_40) ?_
  refine rx_ac (rx_sd_aload_n dX10_areAlike_41 rfl) ?_
  refine rx_ac (rx_sd_get (C := RX10) (T := TX10) (N := 58) in_X10 rfl (by decide) kw_436 dX10_areAlike_42) ?_
  refine rx_ac (rx_sd_sipush dX10_areAlike_45 (by decide)) ?_
  refine rx_ac (rx_sd_iload_n dX10_areAlike_48 rfl) ?_
  refine rx_ac (rx_sd_imul dX10_areAlike_49) ?_
  refine rx_ac (rx_sd_iload_n dX10_areAlike_50 rfl) ?_
  refine rx_ac (rx_sd_iadd dX10_areAlike_51) ?_
  refine rx_ac (rx_sd_lald ⟨rfl, rfl, rfl⟩ dX10_areAlike_52) ?_
  refine rx_ac (rx_sd_lcmp dX10_areAlike_53) ?_
  refine rx_ac (rx_sd_if_eq hY dX10_areAlike_54 (by decide)) ?_
  refine rx_ac (rx_sd_iconst dX10_areAlike_57 (by decide)) ?_
  refine rx_ac (rx_sd_retI (M := m_X10_areAlike Y) rfl (Or.inr rfl) dX10_areAlike_58) ?_
  refine rx_ac (rx_sd_iconst dX10_areAlike_59 (by decide)) ?_
  refine rx_ac (rx_sd_istore (M := m_X10_areAlike Y) dX10_areAlike_60) ?_
  refine rx_ac (rx_sd_iload dX10_areAlike_62) ?_
  refine rx_ac (rx_sd_bipush dX10_areAlike_64 (by decide)) ?_
  refine rx_ac (rx_sd_icmp_ge hY dX10_areAlike_66 (by decide)) ?_
  refine rx_ac (rx_sd_aload_n dX10_areAlike_69 rfl) ?_
  refine rx_ac (rx_sd_get (C := RX10) (T := TX10) (N := 58) in_X10 rfl (by decide) kw_439 dX10_areAlike_70) ?_
  refine rx_ac (rx_sd_bipush dX10_areAlike_73 (by decide)) ?_
  refine rx_ac (rx_sd_sipush dX10_areAlike_75 (by decide)) ?_
  refine rx_ac (rx_sd_iload_n dX10_areAlike_78 rfl) ?_
  refine rx_ac (rx_sd_imul dX10_areAlike_79) ?_
  refine rx_ac (rx_sd_iload_n dX10_areAlike_80 rfl) ?_
  refine rx_ac (rx_sd_iadd dX10_areAlike_81) ?_
  refine rx_ac (rx_sd_imul dX10_areAlike_82) ?_
  refine rx_ac (rx_sd_iload dX10_areAlike_83) ?_
  refine rx_ac (rx_sd_iadd dX10_areAlike_85) ?_
  refine rx_ac (rx_sd_iald ⟨rfl, rfl, rfl⟩ dX10_areAlike_86) ?_
  refine rx_ac (rx_sd_aload_n dX10_areAlike_87 rfl) ?_
  refine rx_ac (rx_sd_get (C := RX10) (T := TX10) (N := 58) in_X10 rfl (by decide) kw_439 dX10_areAlike_88) ?_
  refine rx_ac (rx_sd_bipush dX10_areAlike_91 (by decide)) ?_
  refine rx_ac (rx_sd_sipush dX10_areAlike_93 (by decide)) ?_
  refine rx_ac (rx_sd_iload_n dX10_areAlike_96 rfl) ?_
  refine rx_ac (rx_sd_imul dX10_areAlike_97) ?_
  refine rx_ac (rx_sd_iload_n dX10_areAlike_98 rfl) ?_
  refine rx_ac (rx_sd_iadd dX10_areAlike_99) ?_
  refine rx_ac (rx_sd_imul dX10_areAlike_100) ?_
  refine rx_ac (rx_sd_iload dX10_areAlike_101) ?_
  refine rx_ac (rx_sd_iadd dX10_areAlike_103) ?_
  refine rx_ac (rx_sd_iald ⟨rfl, rfl, rfl⟩ dX10_areAlike_104) ?_
  refine rx_ac (rx_sd_icmp_eq hY dX10_areAlike_105 (by decide)) ?_
  refine rx_ac (rx_sd_iinc (M := m_X10_areAlike Y) dX10_areAlike_110 (by decide)) ?_
  refine rx_ac (rx_sd_goto dX10_areAlike_113 (by decide)) ?_
  refine rx_ac (rx_sd_iinc (M := m_X10_areAlike Y) dX10_areAlike_116 (by decide)) ?_
  refine rx_ac (rx_sd_goto dX10_areAlike_119 (by decide)) ?_
  refine rx_ac (rx_sd_iconst dX10_areAlike_122 (by decide)) ?_
  refine rx_ac (rx_sd_retI (M := m_X10_areAlike Y) rfl (Or.inr rfl) dX10_areAlike_123) ?_
  exact rx_an
set_option maxRecDepth 100000 in
set_option maxHeartbeats 4000000 in
theorem s_X10_areNeighbours {l : Launch} {D : va_G} {cy : Nat → ClassId} {σ : Nat → Int32} {Y : rx_Y} (hY : rx_YOk Y σ) : ∀ q ∈ p_X10_areNeighbours Y, rx_Sd (gG l D cy σ) (mt Y) (m_X10_areNeighbours Y) q.1 q.2 := by
  unfold p_X10_areNeighbours
  refine rx_ac (rx_sd_iload_n dX10_areNeighbours_0 rfl) ?_
  refine rx_ac (rx_sd_iload_n dX10_areNeighbours_1 rfl) ?_
  refine rx_ac (rx_sd_iconst dX10_areNeighbours_2 (by decide)) ?_
  refine rx_ac (rx_sd_iadd dX10_areNeighbours_3) ?_
  refine rx_ac (rx_sd_icmp_eq hY dX10_areNeighbours_4 (by decide)) ?_
  refine rx_ac (rx_sd_iload_n dX10_areNeighbours_7 rfl) ?_
  refine rx_ac (rx_sd_iload_n dX10_areNeighbours_8 rfl) ?_
  refine rx_ac (rx_sd_iconst dX10_areNeighbours_9 (by decide)) ?_
  refine rx_ac (rx_sd_iadd dX10_areNeighbours_10) ?_
  refine rx_ac (rx_sd_icmp_eq hY dX10_areNeighbours_11 (by decide)) ?_
  refine rx_ac (rx_sd_iload_n dX10_areNeighbours_14 rfl) ?_
  refine rx_ac (rx_sd_if_ne hY dX10_areNeighbours_15 (by decide)) ?_
  refine rx_ac (rx_sd_iload_n dX10_areNeighbours_18 rfl) ?_
  refine rx_ac (rx_sd_iload_n dX10_areNeighbours_19 rfl) ?_
  refine rx_ac (rx_sd_iconst dX10_areNeighbours_20 (by decide)) ?_
  refine rx_ac (rx_sd_isub dX10_areNeighbours_21) ?_
  refine rx_ac (rx_sd_icmp_eq hY dX10_areNeighbours_22 (by decide)) ?_
  refine rx_ac (rx_sd_iload_n dX10_areNeighbours_25 rfl) ?_
  refine rx_ac (rx_sd_if_ne hY dX10_areNeighbours_26 (by decide)) ?_
  refine rx_ac (rx_sd_iload_n dX10_areNeighbours_29 rfl) ?_
  refine rx_ac (rx_sd_iload_n dX10_areNeighbours_30 rfl) ?_
  refine rx_ac (rx_sd_iconst dX10_areNeighbours_31 (by decide)) ?_
  refine rx_ac (rx_sd_isub dX10_areNeighbours_32) ?_
  refine rx_ac (rx_sd_icmp_ne hY dX10_areNeighbours_33 (by decide)) ?_
  refine rx_ac (rx_sd_iconst dX10_areNeighbours_36 (by decide)) ?_
  refine rx_ac (rx_sd_goto dX10_areNeighbours_37 (by decide)) ?_
  refine rx_ac (rx_sd_iconst dX10_areNeighbours_40 (by decide)) ?_
  refine rx_ac (rx_sd_retI (M := m_X10_areNeighbours Y) rfl (Or.inr rfl) dX10_areNeighbours_41) ?_
  exact rx_an
set_option maxRecDepth 100000 in
set_option maxHeartbeats 4000000 in
theorem s_X10_arrows {l : Launch} {D : va_G} {cy : Nat → ClassId} {σ : Nat → Int32} {Y : rx_Y} (hY : rx_YOk Y σ) : ∀ q ∈ p_X10_arrows Y, rx_Sd (gG l D cy σ) (mt Y) (m_X10_arrows Y) q.1 q.2 := by
  unfold p_X10_arrows
  refine rx_ac (rx_sd_aload_n dX10_arrows_0 rfl) ?_
  refine rx_ac (rx_sd_get (C := RX10) (T := TX10) (N := 58) in_X10 rfl (by decide) kw_472 dX10_arrows_1) ?_
  refine rx_ac (rx_sd_if_eq hY dX10_arrows_4 (by decide)) ?_
  refine rx_ac (rx_sd_iconst dX10_arrows_48 (by decide)) ?_
  refine rx_ac (rx_sd_retI (M := m_X10_arrows Y) rfl (Or.inr rfl) dX10_arrows_49) ?_
  exact rx_an
set_option maxRecDepth 100000 in
set_option maxHeartbeats 4000000 in
theorem s_X10_b {l : Launch} {D : va_G} {cy : Nat → ClassId} {σ : Nat → Int32} {Y : rx_Y} (hY : rx_YOk Y σ) : ∀ q ∈ p_X10_b Y, rx_Sd (gG l D cy σ) (mt Y) (m_X10_b Y) q.1 q.2 := by
  unfold p_X10_b
  refine rx_ac (rx_sd_iload_n dX10_b_0 rfl) ?_
  refine rx_ac (rx_sd_if_lt hY dX10_b_1 (by decide)) ?_
  refine rx_ac (rx_sd_iload_n dX10_b_4 rfl) ?_
  refine rx_ac (rx_sd_aload_n dX10_b_5 rfl) ?_
  refine rx_ac (rx_sd_get (C := RX10) (T := TX10) (N := 58) in_X10 rfl (by decide) kw_469 dX10_b_6) ?_
  refine rx_ac (rx_sd_aload_n dX10_b_9 rfl) ?_
  refine rx_ac (rx_sd_get (C := RX10) (T := TX10) (N := 58) in_X10 rfl (by decide) kw_470 dX10_b_10) ?_
  refine rx_ac (rx_sd_iadd dX10_b_13) ?_
  refine rx_ac (rx_sd_icmp_ge hY dX10_b_14 (by decide)) ?_
  refine rx_ac (rx_sd_iload_n dX10_b_17 rfl) ?_
  refine rx_ac (rx_sd_if_lt hY dX10_b_18 (by decide)) ?_
  refine rx_ac (rx_sd_iload_n dX10_b_21 rfl) ?_
  refine rx_ac (rx_sd_aload_n dX10_b_22 rfl) ?_
  refine rx_ac (rx_sd_get (C := RX10) (T := TX10) (N := 58) in_X10 rfl (by decide) kw_469 dX10_b_23) ?_
  refine rx_ac (rx_sd_icmp_lt hY dX10_b_26 (by decide)) ?_
  refine rx_ac (rx_sd_iconst dX10_b_29 (by decide)) ?_
  refine rx_ac (rx_sd_goto dX10_b_30 (by decide)) ?_
  refine rx_ac (rx_sd_aload_n dX10_b_33 rfl) ?_
  refine rx_ac (rx_sd_get (C := RX10) (T := TX10) (N := 58) in_X10 rfl (by decide) kw_473 dX10_b_34) ?_
  refine rx_ac (rx_sd_bipush dX10_b_37 (by decide)) ?_
  refine rx_ac (rx_sd_iload_n dX10_b_39 rfl) ?_
  refine rx_ac (rx_sd_imul dX10_b_40) ?_
  refine rx_ac (rx_sd_iload_n dX10_b_41 rfl) ?_
  refine rx_ac (rx_sd_iadd dX10_b_42) ?_
  refine rx_ac (rx_sd_iald ⟨rfl, rfl, rfl⟩ dX10_b_43) ?_
  refine rx_ac (rx_sd_retI (M := m_X10_b Y) rfl (Or.inl rfl) dX10_b_44) ?_
  exact rx_an
set_option maxRecDepth 100000 in
set_option maxHeartbeats 4000000 in
theorem s_X10_back {l : Launch} {D : va_G} {cy : Nat → ClassId} {σ : Nat → Int32} {Y : rx_Y} (hY : rx_YOk Y σ) : ∀ q ∈ p_X10_back Y, rx_Sd (gG l D cy σ) (mt Y) (m_X10_back Y) q.1 q.2 := by
  unfold p_X10_back
  refine rx_ac (rx_sd_aload_n dX10_back_0 rfl) ?_
  refine rx_ac (rx_sd_get (C := RX10) (T := TX10) (N := 58) in_X10 rfl (by decide) kw_474 dX10_back_1) ?_
  refine rx_ac (rx_sd_if_ne hY dX10_back_4 (by decide)) ?_
  refine rx_ac (rx_sd_iconst dX10_back_7 (by decide)) ?_
  refine rx_ac (rx_sd_retI (M := m_X10_back Y) rfl (Or.inr rfl) dX10_back_8) ?_
  exact rx_an
set_option maxRecDepth 100000 in
set_option maxHeartbeats 4000000 in
theorem s_X10_begin {l : Launch} {D : va_G} {cy : Nat → ClassId} {σ : Nat → Int32} {Y : rx_Y} (hY : rx_YOk Y σ) : ∀ q ∈ p_X10_begin Y, rx_Sd (gG l D cy σ) (mt Y) (m_X10_begin Y) q.1 q.2 := by
  unfold p_X10_begin
  refine rx_ac (rx_sd_aload_n dX10_begin_0 rfl) ?_
  refine rx_ac (rx_sd_get (C := RX10) (T := TX10) (N := 58) in_X10 rfl (by decide) kw_472 dX10_begin_1) ?_
  refine rx_ac (rx_sd_if_ne hY dX10_begin_4 (by decide)) ?_
  refine rx_ac (rx_sd_iconst dX10_begin_7 (by decide)) ?_
  refine rx_ac (rx_sd_retI (M := m_X10_begin Y) rfl (Or.inl rfl) dX10_begin_8) ?_
  exact rx_an
set_option maxRecDepth 100000 in
set_option maxHeartbeats 4000000 in
theorem s_X10_comes {l : Launch} {D : va_G} {cy : Nat → ClassId} {σ : Nat → Int32} {Y : rx_Y} (hY : rx_YOk Y σ) : ∀ q ∈ p_X10_comes Y, rx_Sd (gG l D cy σ) (mt Y) (m_X10_comes Y) q.1 q.2 := by
  unfold p_X10_comes
  refine rx_ac (rx_sd_aload_n dX10_comes_0 rfl) ?_
  refine rx_ac (rx_sd_get (C := RX10) (T := TX10) (N := 58) in_X10 rfl (by decide) kw_453 dX10_comes_1) ?_
  refine rx_ac (rx_sd_sipush dX10_comes_4 (by decide)) ?_
  refine rx_ac (rx_sd_icmp_ne hY dX10_comes_7 (by decide)) ?_
  refine rx_ac (rx_sd_iconst dX10_comes_12 (by decide)) ?_
  refine rx_ac (rx_sd_istore_n (M := m_X10_comes Y) dX10_comes_13 rfl) ?_
  refine rx_ac (rx_sd_iload_n dX10_comes_14 rfl) ?_
  refine rx_ac (rx_sd_aload_n dX10_comes_15 rfl) ?_
  refine rx_ac (rx_sd_get (C := RX10) (T := TX10) (N := 58) in_X10 rfl (by decide) kw_469 dX10_comes_16) ?_
  refine rx_ac (rx_sd_icmp_ge hY dX10_comes_19 (by decide)) ?_
  refine rx_ac (rx_sd_aload_n dX10_comes_22 rfl) ?_
  refine rx_ac (rx_sd_get (C := RX10) (T := TX10) (N := 58) in_X10 rfl (by decide) kw_475 dX10_comes_23) ?_
  refine rx_ac (rx_sd_bipush dX10_comes_26 (by decide)) ?_
  refine rx_ac (rx_sd_aload_n dX10_comes_28 rfl) ?_
  refine rx_ac (rx_sd_get (C := RX10) (T := TX10) (N := 58) in_X10 rfl (by decide) kw_453 dX10_comes_29) ?_
  refine rx_ac (rx_sd_imul dX10_comes_32) ?_
  refine rx_ac (rx_sd_iload_n dX10_comes_33 rfl) ?_
  refine rx_ac (rx_sd_iadd dX10_comes_34) ?_
  refine rx_ac (rx_sd_aload_n dX10_comes_35 rfl) ?_
  refine rx_ac (rx_sd_get (C := RX10) (T := TX10) (N := 58) in_X10 rfl (by decide) kw_476 dX10_comes_36) ?_
  refine rx_ac (rx_sd_iload_n dX10_comes_39 rfl) ?_
  refine rx_ac (rx_sd_iald ⟨rfl, rfl, rfl⟩ dX10_comes_40) ?_
  refine rx_ac (rx_sd_iast hY ⟨rfl, rfl, rfl⟩ dX10_comes_41) ?_
  refine rx_ac (rx_sd_iinc (M := m_X10_comes Y) dX10_comes_42 (by decide)) ?_
  refine rx_ac (rx_sd_goto dX10_comes_45 (by decide)) ?_
  refine rx_ac (rx_sd_iconst dX10_comes_48 (by decide)) ?_
  refine rx_ac (rx_sd_istore_n (M := m_X10_comes Y) dX10_comes_49 rfl) ?_
  refine rx_ac (rx_sd_iload_n dX10_comes_50 rfl) ?_
  refine rx_ac (rx_sd_bipush dX10_comes_51 (by decide)) ?_
  refine rx_ac (rx_sd_icmp_ge hY dX10_comes_53 (by decide)) ?_
  refine rx_ac (rx_sd_aload_n dX10_comes_56 rfl) ?_
  refine rx_ac (rx_sd_get (C := RX10) (T := TX10) (N := 58) in_X10 rfl (by decide) kw_477 dX10_comes_57) ?_
  refine rx_ac (rx_sd_bipush dX10_comes_60 (by decide)) ?_
  refine rx_ac (rx_sd_aload_n dX10_comes_62 rfl) ?_
  refine rx_ac (rx_sd_get (C := RX10) (T := TX10) (N := 58) in_X10 rfl (by decide) kw_453 dX10_comes_63) ?_
  refine rx_ac (rx_sd_imul dX10_comes_66) ?_
  refine rx_ac (rx_sd_iload_n dX10_comes_67 rfl) ?_
  refine rx_ac (rx_sd_iadd dX10_comes_68) ?_
  refine rx_ac (rx_sd_aload_n dX10_comes_69 rfl) ?_
  refine rx_ac (rx_sd_get (C := RX10) (T := TX10) (N := 58) in_X10 rfl (by decide) kw_473 dX10_comes_70) ?_
  refine rx_ac (rx_sd_iload_n dX10_comes_73 rfl) ?_
  refine rx_ac (rx_sd_iald ⟨rfl, rfl, rfl⟩ dX10_comes_74) ?_
  refine rx_ac (rx_sd_iast hY ⟨rfl, rfl, rfl⟩ dX10_comes_75) ?_
  refine rx_ac (rx_sd_iinc (M := m_X10_comes Y) dX10_comes_76 (by decide)) ?_
  refine rx_ac (rx_sd_goto dX10_comes_79 (by decide)) ?_
  refine rx_ac (rx_sd_aload_n dX10_comes_82 rfl) ?_
  refine rx_ac (rx_sd_dup dX10_comes_83) ?_
  refine rx_ac (rx_sd_get (C := RX10) (T := TX10) (N := 58) in_X10 rfl (by decide) kw_453 dX10_comes_84) ?_
  refine rx_ac (rx_sd_iconst dX10_comes_87 (by decide)) ?_
  refine rx_ac (rx_sd_iadd dX10_comes_88) ?_
  refine rx_ac (rx_sd_putf (C := RX10) (T := TX10) (N := 58) (ty0 := tyX10) in_X10 tyX10_ok nmX10 rfl (by decide) kw_453 (Or.inl rfl) rfl dX10_comes_89) ?_
  refine rx_ac (rx_sd_aload_n dX10_comes_92 rfl) ?_
  refine rx_ac (rx_sd_get (C := RX10) (T := TX10) (N := 58) in_X10 rfl (by decide) kw_456 dX10_comes_93) ?_
  refine rx_ac (rx_sd_bipush dX10_comes_96 (by decide)) ?_
  refine rx_ac (rx_sd_icmp_gt hY dX10_comes_98 (by decide)) ?_
  refine rx_ac (rx_sd_iconst dX10_comes_101 (by decide)) ?_
  refine rx_ac (rx_sd_goto dX10_comes_102 (by decide)) ?_
  refine rx_ac (rx_sd_retI (M := m_X10_comes Y) rfl (Or.inr rfl) dX10_comes_106) ?_
  exact rx_an
set_option maxRecDepth 100000 in
set_option maxHeartbeats 4000000 in
theorem s_X10_copy {l : Launch} {D : va_G} {cy : Nat → ClassId} {σ : Nat → Int32} {Y : rx_Y} (hY : rx_YOk Y σ) : ∀ q ∈ p_X10_copy Y, rx_Sd (gG l D cy σ) (mt Y) (m_X10_copy Y) q.1 q.2 := by
  unfold p_X10_copy
  refine rx_ac (rx_sd_aload_n dX10_copy_0 rfl) ?_
  refine rx_ac (rx_sd_get (C := RX10) (T := TX10) (N := 58) in_X10 rfl (by decide) kw_431 dX10_copy_1) ?_
  refine rx_ac (rx_sd_iload_n dX10_copy_4 rfl) ?_
  refine rx_ac (rx_sd_aload_n dX10_copy_5 rfl) ?_
  refine rx_ac (rx_sd_get (C := RX10) (T := TX10) (N := 58) in_X10 rfl (by decide) kw_431 dX10_copy_6) ?_
  refine rx_ac (rx_sd_iload_n dX10_copy_9 rfl) ?_
  refine rx_ac (rx_sd_iald ⟨rfl, rfl, rfl⟩ dX10_copy_10) ?_
  refine rx_ac (rx_sd_iast hY ⟨rfl, rfl, rfl⟩ dX10_copy_11) ?_
  refine rx_ac (rx_sd_iconst dX10_copy_12 (by decide)) ?_
  refine rx_ac (rx_sd_istore_n (M := m_X10_copy Y) dX10_copy_13 rfl) ?_
  refine rx_ac (rx_sd_iload_n dX10_copy_14 rfl) ?_
  refine rx_ac (rx_sd_aload_n dX10_copy_15 rfl) ?_
  refine rx_ac (rx_sd_get (C := RX10) (T := TX10) (N := 58) in_X10 rfl (by decide) kw_431 dX10_copy_16) ?_
  refine rx_ac (rx_sd_iload_n dX10_copy_19 rfl) ?_
  refine rx_ac (rx_sd_iald ⟨rfl, rfl, rfl⟩ dX10_copy_20) ?_
  refine rx_ac (rx_sd_icmp_ge hY dX10_copy_21 (by decide)) ?_
  refine rx_ac (rx_sd_aload_n dX10_copy_24 rfl) ?_
  refine rx_ac (rx_sd_get (C := RX10) (T := TX10) (N := 58) in_X10 rfl (by decide) kw_436 dX10_copy_25) ?_
  refine rx_ac (rx_sd_sipush dX10_copy_28 (by decide)) ?_
  refine rx_ac (rx_sd_iload_n dX10_copy_31 rfl) ?_
  refine rx_ac (rx_sd_imul dX10_copy_32) ?_
  refine rx_ac (rx_sd_iload_n dX10_copy_33 rfl) ?_
  refine rx_ac (rx_sd_iadd dX10_copy_34) ?_
  refine rx_ac (rx_sd_aload_n dX10_copy_35 rfl) ?_
  refine rx_ac (rx_sd_get (C := RX10) (T := TX10) (N := 58) in_X10 rfl (by decide) kw_436 dX10_copy_36) ?_
  refine rx_ac (rx_sd_sipush dX10_copy_39 (by decide)) ?_
  refine rx_ac (rx_sd_iload_n dX10_copy_42 rfl) ?_
  refine rx_ac (rx_sd_imul dX10_copy_43) ?_
  refine rx_ac (rx_sd_iload_n dX10_copy_44 rfl) ?_
  refine rx_ac (rx_sd_iadd dX10_copy_45) ?_
  refine rx_ac (rx_sd_lald ⟨rfl, rfl, rfl⟩ dX10_copy_46) ?_
  refine rx_ac (rx_sd_last ⟨rfl, rfl, rfl⟩ dX10_copy_47) ?_
  refine rx_ac (rx_sd_iconst dX10_copy_48 (by decide)) ?_
  refine rx_ac (rx_sd_istore (M := m_X10_copy Y) dX10_copy_49) ?_
  refine rx_ac (rx_sd_iload dX10_copy_51) ?_
  refine rx_ac (rx_sd_bipush dX10_copy_53 (by decide)) ?_
  refine rx_ac (rx_sd_icmp_ge hY dX10_copy_55 (by decide)) ?_
  refine rx_ac (rx_sd_aload_n dX10_copy_58 rfl) ?_
  refine rx_ac (rx_sd_get (C := RX10) (T := TX10) (N := 58) in_X10 rfl (by decide) kw_439 dX10_copy_59) ?_
  refine rx_ac (rx_sd_bipush dX10_copy_62 (by decide)) ?_
  refine rx_ac (rx_sd_sipush dX10_copy_64 (by decide)) ?_
  refine rx_ac (rx_sd_iload_n dX10_copy_67 rfl) ?_
  refine rx_ac (rx_sd_imul dX10_copy_68) ?_
  refine rx_ac (rx_sd_iload_n dX10_copy_69 rfl) ?_
  refine rx_ac (rx_sd_iadd dX10_copy_70) ?_
  refine rx_ac (rx_sd_imul dX10_copy_71) ?_
  refine rx_ac (rx_sd_iload dX10_copy_72) ?_
  refine rx_ac (rx_sd_iadd dX10_copy_74) ?_
  refine rx_ac (rx_sd_aload_n dX10_copy_75 rfl) ?_
  refine rx_ac (rx_sd_get (C := RX10) (T := TX10) (N := 58) in_X10 rfl (by decide) kw_439 dX10_copy_76) ?_
  refine rx_ac (rx_sd_bipush dX10_copy_79 (by decide)) ?_
  refine rx_ac (rx_sd_sipush dX10_copy_81 (by decide)) ?_
  refine rx_ac (rx_sd_iload_n dX10_copy_84 rfl) ?_
  refine rx_ac (rx_sd_imul dX10_copy_85) ?_
  refine rx_ac (rx_sd_iload_n dX10_copy_86 rfl) ?_
  refine rx_ac (rx_sd_iadd dX10_copy_87) ?_
  refine rx_ac (rx_sd_imul dX10_copy_88) ?_
  refine rx_ac (rx_sd_iload dX10_copy_89) ?_
  refine rx_ac (rx_sd_iadd dX10_copy_91) ?_
  refine rx_ac (rx_sd_iald ⟨rfl, rfl, rfl⟩ dX10_copy_92) ?_
  refine rx_ac (rx_sd_iast hY ⟨rfl, rfl, rfl⟩ dX10_copy_93) ?_
  refine rx_ac (rx_sd_iinc (M := m_X10_copy Y) dX10_copy_94 (by decide)) ?_
  refine rx_ac (rx_sd_goto dX10_copy_97 (by decide)) ?_
  refine rx_ac (rx_sd_iinc (M := m_X10_copy Y) dX10_copy_100 (by decide)) ?_
  refine rx_ac (rx_sd_goto dX10_copy_103 (by decide)) ?_
  refine rx_ac (rx_sd_ret0 (M := m_X10_copy Y) rfl dX10_copy_106) ?_
  exact rx_an
set_option maxRecDepth 100000 in
set_option maxHeartbeats 4000000 in
theorem s_X10_count {l : Launch} {D : va_G} {cy : Nat → ClassId} {σ : Nat → Int32} {Y : rx_Y} (hY : rx_YOk Y σ) : ∀ q ∈ p_X10_count Y, rx_Sd (gG l D cy σ) (mt Y) (m_X10_count Y) q.1 q.2 := by
  unfold p_X10_count
  refine rx_ac (rx_sd_iload_n dX10_count_0 rfl) ?_
  refine rx_ac (rx_sd_sw hY dX10_count_1 (by decide) (by decide)) ?_
  refine rx_ac (rx_sd_aload_n dX10_count_36 rfl) ?_
  refine rx_ac (rx_sd_get (C := RX10) (T := TX10) (N := 58) in_X10 rfl (by decide) kw_469 dX10_count_37) ?_
  refine rx_ac (rx_sd_retI (M := m_X10_count Y) rfl (Or.inl rfl) dX10_count_40) ?_
  refine rx_ac (rx_sd_aload_n dX10_count_41 rfl) ?_
  refine rx_ac (rx_sd_get (C := RX10) (T := TX10) (N := 58) in_X10 rfl (by decide) kw_470 dX10_count_42) ?_
  refine rx_ac (rx_sd_retI (M := m_X10_count Y) rfl (Or.inl rfl) dX10_count_45) ?_
  refine rx_ac (rx_sd_aload_n dX10_count_46 rfl) ?_
  refine rx_ac (rx_sd_get (C := RX10) (T := TX10) (N := 58) in_X10 rfl (by decide) kw_474 dX10_count_47) ?_
  refine rx_ac (rx_sd_retI (M := m_X10_count Y) rfl (Or.inl rfl) dX10_count_50) ?_
  refine rx_ac (rx_sd_iconst dX10_count_51 (by decide)) ?_
  refine rx_ac (rx_sd_istore_n (M := m_X10_count Y) dX10_count_52 rfl) ?_
  refine rx_ac (rx_sd_iconst dX10_count_53 (by decide)) ?_
  refine rx_ac (rx_sd_istore_n (M := m_X10_count Y) dX10_count_54 rfl) ?_
  refine rx_ac (rx_sd_iload_n dX10_count_55 rfl) ?_
  refine rx_ac (rx_sd_aload_n dX10_count_56 rfl) ?_
  refine rx_ac (rx_sd_get (C := RX10) (T := TX10) (N := 58) in_X10 rfl (by decide) kw_469 dX10_count_57) ?_
  refine rx_ac (rx_sd_icmp_ge hY dX10_count_60 (by decide)) ?_
  refine rx_ac (rx_sd_iload_n dX10_count_63 rfl) ?_
  refine rx_ac (rx_sd_aload_n dX10_count_64 rfl) ?_
  refine rx_ac (rx_sd_get (C := RX10) (T := TX10) (N := 58) in_X10 rfl (by decide) kw_431 dX10_count_65) ?_
  refine rx_ac (rx_sd_iload_n dX10_count_68 rfl) ?_
  refine rx_ac (rx_sd_iald ⟨rfl, rfl, rfl⟩ dX10_count_69) ?_
  refine rx_ac (rx_sd_iadd dX10_count_70) ?_
  refine rx_ac (rx_sd_istore_n (M := m_X10_count Y) dX10_count_71 rfl) ?_
  refine rx_ac (rx_sd_iinc (M := m_X10_count Y) dX10_count_72 (by decide)) ?_
  refine rx_ac (rx_sd_goto dX10_count_75 (by decide)) ?_
  refine rx_ac (rx_sd_iload_n dX10_count_78 rfl) ?_
  refine rx_ac (rx_sd_retI (M := m_X10_count Y) rfl (Or.inl rfl) dX10_count_79) ?_
  refine rx_ac (rx_sd_aload_n dX10_count_80 rfl) ?_
  refine rx_ac (rx_sd_get (C := RX10) (T := TX10) (N := 58) in_X10 rfl (by decide) kw_454 dX10_count_81) ?_
  refine rx_ac (rx_sd_retI (M := m_X10_count Y) rfl (Or.inl rfl) dX10_count_84) ?_
  refine rx_ac (rx_sd_iconst dX10_count_85 (by decide)) ?_
  refine rx_ac (rx_sd_retI (M := m_X10_count Y) rfl (Or.inl rfl) dX10_count_86) ?_
  exact rx_an
set_option maxRecDepth 100000 in
set_option maxHeartbeats 4000000 in
theorem s_X10_fence {l : Launch} {D : va_G} {cy : Nat → ClassId} {σ : Nat → Int32} {Y : rx_Y} (hY : rx_YOk Y σ) : ∀ q ∈ p_X10_fence Y, rx_Sd (gG l D cy σ) (mt Y) (m_X10_fence Y) q.1 q.2 := by
  unfold p_X10_fence
  refine rx_ac (rx_sd_aload_n dX10_fence_0 rfl) ?_
  refine rx_ac (rx_sd_iload_n dX10_fence_1 rfl) ?_
  refine rx_ac (rx_sd_cl (M := m_X10_fence Y) (rx_lk_V gok (mid := 117) (ci := 10) (C := (RX10, TX10, 58)) ⟨kw_478, kw_427, hd_X10_isSlot, Nat.le_of_ble_eq_true rfl, Nat.le_of_ble_eq_true rfl⟩ rfl kw_479 kw_480 kw_481 dX10_fence_2) (fun _ => ⟨_, rfl⟩) rfl rfl) ?_
  refine rx_ac (rx_sd_if_eq hY dX10_fence_5 (by decide)) ?_
  refine rx_ac (rx_sd_iload_n dX10_fence_8 rfl) ?_
  refine rx_ac (rx_sd_if_lt hY dX10_fence_9 (by decide)) ?_
  refine rx_ac (rx_sd_iload_n dX10_fence_12 rfl) ?_
  refine rx_ac (rx_sd_aload_n dX10_fence_13 rfl) ?_
  refine rx_ac (rx_sd_get (C := RX10) (T := TX10) (N := 58) in_X10 rfl (by decide) kw_482 dX10_fence_14) ?_
  refine rx_ac (rx_sd_iload_n dX10_fence_17 rfl) ?_
  refine rx_ac (rx_sd_iald ⟨rfl, rfl, rfl⟩ dX10_fence_18) ?_
  refine rx_ac (rx_sd_icmp_ge hY dX10_fence_19 (by decide)) ?_
  refine rx_ac (rx_sd_iload_n dX10_fence_22 rfl) ?_
  refine rx_ac (rx_sd_if_lt hY dX10_fence_23 (by decide)) ?_
  refine rx_ac (rx_sd_iload_n dX10_fence_26 rfl) ?_
  refine rx_ac (rx_sd_aload_n dX10_fence_27 rfl) ?_
  refine rx_ac (rx_sd_get (C := RX10) (T := TX10) (N := 58) in_X10 rfl (by decide) kw_482 dX10_fence_28) ?_
  refine rx_ac (rx_sd_iload_n dX10_fence_31 rfl) ?_
  refine rx_ac (rx_sd_iald ⟨rfl, rfl, rfl⟩ dX10_fence_32) ?_
  refine rx_ac (rx_sd_icmp_ge hY dX10_fence_33 (by decide)) ?_
  refine rx_ac (rx_sd_iload_n dX10_fence_36 rfl) ?_
  refine rx_ac (rx_sd_iload_n dX10_fence_37 rfl) ?_
  refine rx_ac (rx_sd_icmp_eq hY dX10_fence_38 (by decide)) ?_
  refine rx_ac (rx_sd_aload_n dX10_fence_41 rfl) ?_
  refine rx_ac (rx_sd_get (C := RX10) (T := TX10) (N := 58) in_X10 rfl (by decide) kw_482 dX10_fence_42) ?_
  refine rx_ac (rx_sd_iload_n dX10_fence_45 rfl) ?_
  refine rx_ac (rx_sd_iald ⟨rfl, rfl, rfl⟩ dX10_fence_46) ?_
  refine rx_ac (rx_sd_iload_n dX10_fence_47 rfl) ?_
  refine rx_ac (rx_sd_iload_n dX10_fence_48 rfl) ?_
  refine rx_ac (rx_sd_cl (M := m_X10_fence Y) (rx_lk_S gok (mid := 98) ⟨kw_483, kw_427, hd_X10_areNeighbours, Nat.le_of_ble_eq_true rfl, Nat.le_of_ble_eq_true rfl⟩ kw_484 kw_485 dX10_fence_49) (fun h => nomatch h) rfl rfl) ?_
  refine rx_ac (rx_sd_if_eq hY dX10_fence_52 (by decide)) ?_
  refine rx_ac (rx_sd_iconst dX10_fence_55 (by decide)) ?_
  refine rx_ac (rx_sd_retI (M := m_X10_fence Y) rfl (Or.inl rfl) dX10_fence_56) ?_
  refine rx_ac (rx_sd_iload_n dX10_fence_57 rfl) ?_
  refine rx_ac (rx_sd_iload_n dX10_fence_58 rfl) ?_
  refine rx_ac (rx_sd_cl (M := m_X10_fence Y) (rx_lk_S gok (mid := 125) ⟨kw_486, kw_427, hd_X10_lesser, Nat.le_of_ble_eq_true rfl, Nat.le_of_ble_eq_true rfl⟩ kw_487 kw_488 dX10_fence_59) (fun h => nomatch h) rfl rfl) ?_
  refine rx_ac (rx_sd_istore (M := m_X10_fence Y) dX10_fence_62) ?_
  refine rx_ac (rx_sd_iload_n dX10_fence_64 rfl) ?_
  refine rx_ac (rx_sd_iload_n dX10_fence_65 rfl) ?_
  refine rx_ac (rx_sd_cl (M := m_X10_fence Y) (rx_lk_S gok (mid := 114) ⟨kw_489, kw_427, hd_X10_greater, Nat.le_of_ble_eq_true rfl, Nat.le_of_ble_eq_true rfl⟩ kw_490 kw_491 dX10_fence_66) (fun h => nomatch h) rfl rfl) ?_
  refine rx_ac (rx_sd_istore (M := m_X10_fence Y) dX10_fence_69) ?_
  refine rx_ac (rx_sd_aload_n dX10_fence_71 rfl) ?_
  refine rx_ac (rx_sd_get (C := RX10) (T := TX10) (N := 58) in_X10 rfl (by decide) kw_492 dX10_fence_72) ?_
  refine rx_ac (rx_sd_bipush dX10_fence_75 (by decide)) ?_
  refine rx_ac (rx_sd_iload_n dX10_fence_77 rfl) ?_
  refine rx_ac (rx_sd_imul dX10_fence_78) ?_
  refine rx_ac (rx_sd_bipush dX10_fence_79 (by decide)) ?_
  refine rx_ac (rx_sd_iload dX10_fence_81) ?_
  refine rx_ac (rx_sd_imul dX10_fence_83) ?_
  refine rx_ac (rx_sd_iadd dX10_fence_84) ?_
  refine rx_ac (rx_sd_iload dX10_fence_85) ?_
  refine rx_ac (rx_sd_iadd dX10_fence_87) ?_
  refine rx_ac (rx_sd_zald ⟨rfl, rfl, rfl⟩ dX10_fence_88) ?_
  refine rx_ac (rx_sd_if_eq hY dX10_fence_89 (by decide)) ?_
  refine rx_ac (rx_sd_iconst dX10_fence_94 (by decide)) ?_
  refine rx_ac (rx_sd_istore (M := m_X10_fence Y) dX10_fence_95) ?_
  refine rx_ac (rx_sd_iload dX10_fence_97) ?_
  refine rx_ac (rx_sd_bipush dX10_fence_99 (by decide)) ?_
  refine rx_ac (rx_sd_icmp_ge hY dX10_fence_101 (by decide)) ?_
  refine rx_ac (rx_sd_aload_n dX10_fence_104 rfl) ?_
  refine rx_ac (rx_sd_get (C := RX10) (T := TX10) (N := 58) in_X10 rfl (by decide) kw_492 dX10_fence_105) ?_
  refine rx_ac (rx_sd_bipush dX10_fence_108 (by decide)) ?_
  refine rx_ac (rx_sd_iload_n dX10_fence_110 rfl) ?_
  refine rx_ac (rx_sd_imul dX10_fence_111) ?_
  refine rx_ac (rx_sd_iload dX10_fence_112) ?_
  refine rx_ac (rx_sd_iadd dX10_fence_114) ?_
  refine rx_ac (rx_sd_zald ⟨rfl, rfl, rfl⟩ dX10_fence_115) ?_
  refine rx_ac (rx_sd_if_eq hY dX10_fence_116 (by decide)) ?_
  refine rx_ac (rx_sd_iinc (M := m_X10_fence Y) dX10_fence_141 (by decide)) ?_
  refine rx_ac (rx_sd_goto dX10_fence_144 (by decide)) ?_
  refine rx_ac (rx_sd_aload_n dX10_fence_147 rfl) ?_
  refine rx_ac (rx_sd_get (C := RX10) (T := TX10) (N := 58) in_X10 rfl (by decide) kw_492 dX10_fence_148) ?_
  refine rx_ac (rx_sd_bipush dX10_fence_151 (by decide)) ?_
  refine rx_ac (rx_sd_iload_n dX10_fence_153 rfl) ?_
  refine rx_ac (rx_sd_imul dX10_fence_154) ?_
  refine rx_ac (rx_sd_bipush dX10_fence_155 (by decide)) ?_
  refine rx_ac (rx_sd_iload dX10_fence_157) ?_
  refine rx_ac (rx_sd_imul dX10_fence_159) ?_
  refine rx_ac (rx_sd_iadd dX10_fence_160) ?_
  refine rx_ac (rx_sd_iload dX10_fence_161) ?_
  refine rx_ac (rx_sd_iadd dX10_fence_163) ?_
  refine rx_ac (rx_sd_iconst dX10_fence_164 (by decide)) ?_
  refine rx_ac (rx_sd_zast ⟨rfl, rfl, rfl⟩ dX10_fence_165) ?_
  refine rx_ac (rx_sd_aload_n dX10_fence_166 rfl) ?_
  refine rx_ac (rx_sd_iload_n dX10_fence_167 rfl) ?_
  refine rx_ac (rx_sd_cl (M := m_X10_fence Y) (rx_lk_V gok (mid := 107) (ci := 10) (C := (RX10, TX10, 58)) ⟨kw_493, kw_427, hd_X10_fences, Nat.le_of_ble_eq_true rfl, Nat.le_of_ble_eq_true rfl⟩ rfl kw_494 kw_495 kw_496 dX10_fence_168) (fun _ => ⟨_, rfl⟩) rfl rfl) ?_
  refine rx_ac (rx_sd_retI (M := m_X10_fence Y) rfl (Or.inl rfl) dX10_fence_171) ?_
  exact rx_an
set_option maxRecDepth 100000 in
set_option maxHeartbeats 4000000 in
theorem s_X10_fences {l : Launch} {D : va_G} {cy : Nat → ClassId} {σ : Nat → Int32} {Y : rx_Y} (hY : rx_YOk Y σ) : ∀ q ∈ p_X10_fences Y, rx_Sd (gG l D cy σ) (mt Y) (m_X10_fences Y) q.1 q.2 := by
  unfold p_X10_fences
  refine rx_ac (rx_sd_iconst dX10_fences_0 (by decide)) ?_
  refine rx_ac (rx_sd_istore_n (M := m_X10_fences Y) dX10_fences_1 rfl) ?_
  refine rx_ac (rx_sd_iconst dX10_fences_2 (by decide)) ?_
  refine rx_ac (rx_sd_istore_n (M := m_X10_fences Y) dX10_fences_3 rfl) ?_
  refine rx_ac (rx_sd_iload_n dX10_fences_4 rfl) ?_
  refine rx_ac (rx_sd_bipush dX10_fences_5 (by decide)) ?_
  refine rx_ac (rx_sd_icmp_ge hY dX10_fences_7 (by decide)) ?_
  refine rx_ac (rx_sd_aload_n dX10_fences_10 rfl) ?_
  refine rx_ac (rx_sd_get (C := RX10) (T := TX10) (N := 58) in_X10 rfl (by decide) kw_492 dX10_fences_11) ?_
  refine rx_ac (rx_sd_bipush dX10_fences_14 (by decide)) ?_
  refine rx_ac (rx_sd_iload_n dX10_fences_16 rfl) ?_
  refine rx_ac (rx_sd_imul dX10_fences_17) ?_
  refine rx_ac (rx_sd_iload_n dX10_fences_18 rfl) ?_
  refine rx_ac (rx_sd_iadd dX10_fences_19) ?_
  refine rx_ac (rx_sd_zald ⟨rfl, rfl, rfl⟩ dX10_fences_20) ?_
  refine rx_ac (rx_sd_if_eq hY dX10_fences_21 (by decide)) ?_
  refine rx_ac (rx_sd_iinc (M := m_X10_fences Y) dX10_fences_24 (by decide)) ?_
  refine rx_ac (rx_sd_iinc (M := m_X10_fences Y) dX10_fences_27 (by decide)) ?_
  refine rx_ac (rx_sd_goto dX10_fences_30 (by decide)) ?_
  refine rx_ac (rx_sd_iload_n dX10_fences_33 rfl) ?_
  refine rx_ac (rx_sd_retI (M := m_X10_fences Y) rfl (Or.inl rfl) dX10_fences_34) ?_
  exact rx_an
set_option maxRecDepth 100000 in
set_option maxHeartbeats 4000000 in
theorem s_X10_finite {l : Launch} {D : va_G} {cy : Nat → ClassId} {σ : Nat → Int32} {Y : rx_Y} (hY : rx_YOk Y σ) : ∀ q ∈ p_X10_finite Y, rx_Sd (gG l D cy σ) (mt Y) (m_X10_finite Y) q.1 q.2 := by
  unfold p_X10_finite
  refine rx_ac (rx_sd_aload_n dX10_finite_0 rfl) ?_
  refine rx_ac (rx_sd_bipush dX10_finite_1 (by decide)) ?_
  refine rx_ac (rx_sd_cl (M := m_X10_finite Y) (rx_lk_V gok (mid := 138) (ci := 10) (C := (RX10, TX10, 58)) ⟨kw_441, kw_427, hd_X10_saves, Nat.le_of_ble_eq_true rfl, Nat.le_of_ble_eq_true rfl⟩ rfl kw_442 kw_443 kw_444 dX10_finite_3) (fun _ => ⟨_, rfl⟩) rfl rfl) ?_
  refine rx_ac (rx_sd_aload_n dX10_finite_6 rfl) ?_
  refine rx_ac (rx_sd_cl (M := m_X10_finite Y) (rx_lk_V gok (mid := 139) (ci := 10) (C := (RX10, TX10, 58)) ⟨kw_497, kw_427, hd_X10_searches, Nat.le_of_ble_eq_true rfl, Nat.le_of_ble_eq_true rfl⟩ rfl kw_498 kw_499 kw_500 dX10_finite_7) (fun _ => ⟨_, rfl⟩) rfl rfl) ?_
  refine rx_ac (rx_sd_istore_n (M := m_X10_finite Y) dX10_finite_10 rfl) ?_
  refine rx_ac (rx_sd_aload_n dX10_finite_11 rfl) ?_
  refine rx_ac (rx_sd_bipush dX10_finite_12 (by decide)) ?_
  refine rx_ac (rx_sd_cl (M := m_X10_finite Y) (rx_lk_V gok (mid := 133) (ci := 10) (C := (RX10, TX10, 58)) ⟨kw_449, kw_427, hd_X10_restores, Nat.le_of_ble_eq_true rfl, Nat.le_of_ble_eq_true rfl⟩ rfl kw_450 kw_451 kw_452 dX10_finite_14) (fun _ => ⟨_, rfl⟩) rfl rfl) ?_
  refine rx_ac (rx_sd_iload_n dX10_finite_17 rfl) ?_
  refine rx_ac (rx_sd_retI (M := m_X10_finite Y) rfl (Or.inl rfl) dX10_finite_18) ?_
  exact rx_an
set_option maxRecDepth 100000 in
set_option maxHeartbeats 4000000 in
theorem s_X10_firsts {l : Launch} {D : va_G} {cy : Nat → ClassId} {σ : Nat → Int32} {Y : rx_Y} (hY : rx_YOk Y σ) : ∀ q ∈ p_X10_firsts Y, rx_Sd (gG l D cy σ) (mt Y) (m_X10_firsts Y) q.1 q.2 := by
  unfold p_X10_firsts
  refine rx_ac (rx_sd_iconst dX10_firsts_0 (by decide)) ?_
  refine rx_ac (rx_sd_istore_n (M := m_X10_firsts Y) dX10_firsts_1 rfl) ?_
  refine rx_ac (rx_sd_iload_n dX10_firsts_2 rfl) ?_
  refine rx_ac (rx_sd_aload_n dX10_firsts_3 rfl) ?_
  refine rx_ac (rx_sd_get (C := RX10) (T := TX10) (N := 58) in_X10 rfl (by decide) kw_469 dX10_firsts_4) ?_
  refine rx_ac (rx_sd_icmp_ge hY dX10_firsts_7 (by decide)) ?_
  refine rx_ac (rx_sd_aload_n dX10_firsts_10 rfl) ?_
  refine rx_ac (rx_sd_iload_n dX10_firsts_11 rfl) ?_
  refine rx_ac (rx_sd_cl (M := m_X10_firsts Y) (rx_lk_V gok (mid := 127) (ci := 10) (C := (RX10, TX10, 58)) ⟨kw_501, kw_427, hd_X10_one, Nat.le_of_ble_eq_true rfl, Nat.le_of_ble_eq_true rfl⟩ rfl kw_502 kw_503 kw_504 dX10_firsts_12) (fun _ => ⟨_, rfl⟩) rfl rfl) ?_
  refine rx_ac (rx_sd_aload_n dX10_firsts_15 rfl) ?_
  refine rx_ac (rx_sd_get (C := RX10) (T := TX10) (N := 58) in_X10 rfl (by decide) kw_439 dX10_firsts_16) ?_
  refine rx_ac (rx_sd_sipush dX10_firsts_19 (by decide)) ?_
  refine rx_ac (rx_sd_iload_n dX10_firsts_22 rfl) ?_
  refine rx_ac (rx_sd_imul dX10_firsts_23) ?_
  refine rx_ac (rx_sd_iload_n dX10_firsts_24 rfl) ?_
  refine rx_ac (rx_sd_iadd dX10_firsts_25) ?_
  refine rx_ac (rx_sd_iconst dX10_firsts_26 (by decide)) ?_
  refine rx_ac (rx_sd_iast hY ⟨rfl, rfl, rfl⟩ dX10_firsts_27) ?_
  refine rx_ac (rx_sd_iinc (M := m_X10_firsts Y) dX10_firsts_28 (by decide)) ?_
  refine rx_ac (rx_sd_goto dX10_firsts_31 (by decide)) ?_
  refine rx_ac (rx_sd_aload_n dX10_firsts_34 rfl) ?_
  refine rx_ac (rx_sd_iconst dX10_firsts_35 (by decide)) ?_
  refine rx_ac (rx_sd_putf (C := RX10) (T := TX10) (N := 58) (ty0 := tyX10) in_X10 tyX10_ok nmX10 rfl (by decide) kw_474 (Or.inl rfl) rfl dX10_firsts_36) ?_
  refine rx_ac (rx_sd_aload_n dX10_firsts_39 rfl) ?_
  refine rx_ac (rx_sd_get (C := RX10) (T := TX10) (N := 58) in_X10 rfl (by decide) kw_505 dX10_firsts_40) ?_
  refine rx_ac (rx_sd_iconst dX10_firsts_43 (by decide)) ?_
  refine rx_ac (rx_sd_iconst dX10_firsts_44 (by decide)) ?_
  refine rx_ac (rx_sd_iast hY ⟨rfl, rfl, rfl⟩ dX10_firsts_45) ?_
  refine rx_ac (rx_sd_ret0 (M := m_X10_firsts Y) rfl dX10_firsts_46) ?_
  exact rx_an
set_option maxRecDepth 100000 in
set_option maxHeartbeats 4000000 in
theorem s_X10_flip {l : Launch} {D : va_G} {cy : Nat → ClassId} {σ : Nat → Int32} {Y : rx_Y} (hY : rx_YOk Y σ) : ∀ q ∈ p_X10_flip Y, rx_Sd (gG l D cy σ) (mt Y) (m_X10_flip Y) q.1 q.2 := by
  unfold p_X10_flip
  refine rx_ac (rx_sd_aload_n dX10_flip_0 rfl) ?_
  refine rx_ac (rx_sd_iload_n dX10_flip_1 rfl) ?_
  refine rx_ac (rx_sd_cl (M := m_X10_flip Y) (rx_lk_V gok (mid := 117) (ci := 10) (C := (RX10, TX10, 58)) ⟨kw_478, kw_427, hd_X10_isSlot, Nat.le_of_ble_eq_true rfl, Nat.le_of_ble_eq_true rfl⟩ rfl kw_479 kw_480 kw_481 dX10_flip_2) (fun _ => ⟨_, rfl⟩) rfl rfl) ?_
  refine rx_ac (rx_sd_if_eq hY dX10_flip_5 (by decide)) ?_
  refine rx_ac (rx_sd_aload_n dX10_flip_8 rfl) ?_
  refine rx_ac (rx_sd_iload_n dX10_flip_9 rfl) ?_
  refine rx_ac (rx_sd_cl (M := m_X10_flip Y) (rx_lk_V gok (mid := 116) (ci := 10) (C := (RX10, TX10, 58)) ⟨kw_506, kw_427, hd_X10_isCutting, Nat.le_of_ble_eq_true rfl, Nat.le_of_ble_eq_true rfl⟩ rfl kw_507 kw_508 kw_509 dX10_flip_10) (fun _ => ⟨_, rfl⟩) rfl rfl) ?_
  refine rx_ac (rx_sd_if_eq hY dX10_flip_13 (by decide)) ?_
  refine rx_ac (rx_sd_iconst dX10_flip_49 (by decide)) ?_
  refine rx_ac (rx_sd_retI (M := m_X10_flip Y) rfl (Or.inl rfl) dX10_flip_50) ?_
  exact rx_an
set_option maxRecDepth 100000 in
set_option maxHeartbeats 4000000 in
theorem s_X10_frieze {l : Launch} {D : va_G} {cy : Nat → ClassId} {σ : Nat → Int32} {Y : rx_Y} (hY : rx_YOk Y σ) : ∀ q ∈ p_X10_frieze Y, rx_Sd (gG l D cy σ) (mt Y) (m_X10_frieze Y) q.1 q.2 := by
  unfold p_X10_frieze
  refine rx_ac (rx_sd_aload_n dX10_frieze_0 rfl) ?_
  refine rx_ac (rx_sd_iload_n dX10_frieze_1 rfl) ?_
  refine rx_ac (rx_sd_cl (M := m_X10_frieze Y) (rx_lk_V gok (mid := 117) (ci := 10) (C := (RX10, TX10, 58)) ⟨kw_478, kw_427, hd_X10_isSlot, Nat.le_of_ble_eq_true rfl, Nat.le_of_ble_eq_true rfl⟩ rfl kw_479 kw_480 kw_481 dX10_frieze_2) (fun _ => ⟨_, rfl⟩) rfl rfl) ?_
  refine rx_ac (rx_sd_if_eq hY dX10_frieze_5 (by decide)) ?_
  refine rx_ac (rx_sd_aload_n dX10_frieze_8 rfl) ?_
  refine rx_ac (rx_sd_iload_n dX10_frieze_9 rfl) ?_
  refine rx_ac (rx_sd_cl (M := m_X10_frieze Y) (rx_lk_V gok (mid := 116) (ci := 10) (C := (RX10, TX10, 58)) ⟨kw_506, kw_427, hd_X10_isCutting, Nat.le_of_ble_eq_true rfl, Nat.le_of_ble_eq_true rfl⟩ rfl kw_507 kw_508 kw_509 dX10_frieze_10) (fun _ => ⟨_, rfl⟩) rfl rfl) ?_
  refine rx_ac (rx_sd_if_eq hY dX10_frieze_13 (by decide)) ?_
  refine rx_ac (rx_sd_lconst dX10_frieze_47 (by decide)) ?_
  refine rx_ac (rx_sd_retL (M := m_X10_frieze Y) rfl dX10_frieze_48) ?_
  exact rx_an
set_option maxRecDepth 100000 in
set_option maxHeartbeats 4000000 in
theorem s_X10_goes {l : Launch} {D : va_G} {cy : Nat → ClassId} {σ : Nat → Int32} {Y : rx_Y} (hY : rx_YOk Y σ) : ∀ q ∈ p_X10_goes Y, rx_Sd (gG l D cy σ) (mt Y) (m_X10_goes Y) q.1 q.2 := by
  unfold p_X10_goes
  refine rx_ac (rx_sd_iload_n dX10_goes_0 rfl) ?_
  refine rx_ac (rx_sd_if_lt hY dX10_goes_1 (by decide)) ?_
  refine rx_ac (rx_sd_iload_n dX10_goes_4 rfl) ?_
  refine rx_ac (rx_sd_aload_n dX10_goes_5 rfl) ?_
  refine rx_ac (rx_sd_get (C := RX10) (T := TX10) (N := 58) in_X10 rfl (by decide) kw_510 dX10_goes_6) ?_
  refine rx_ac (rx_sd_icmp_lt hY dX10_goes_9 (by decide)) ?_
  refine rx_ac (rx_sd_iconst dX10_goes_12 (by decide)) ?_
  refine rx_ac (rx_sd_goto dX10_goes_13 (by decide)) ?_
  refine rx_ac (rx_sd_retI (M := m_X10_goes Y) rfl (Or.inl rfl) dX10_goes_22) ?_
  exact rx_an
set_option maxRecDepth 100000 in
set_option maxHeartbeats 4000000 in
theorem s_X10_goesThrough {l : Launch} {D : va_G} {cy : Nat → ClassId} {σ : Nat → Int32} {Y : rx_Y} (hY : rx_YOk Y σ) : ∀ q ∈ p_X10_goesThrough Y, rx_Sd (gG l D cy σ) (mt Y) (m_X10_goesThrough Y) q.1 q.2 := by
  unfold p_X10_goesThrough
  refine rx_ac (rx_sd_aload_n dX10_goesThrough_0 rfl) ?_
  refine rx_ac (rx_sd_iconst dX10_goesThrough_1 (by decide)) ?_
  refine rx_ac (rx_sd_putf (C := RX10) (T := TX10) (N := 58) (ty0 := tyX10) in_X10 tyX10_ok nmX10 rfl (by decide) kw_453 (Or.inl rfl) rfl dX10_goesThrough_2) ?_
  refine rx_ac (rx_sd_aload_n dX10_goesThrough_5 rfl) ?_
  refine rx_ac (rx_sd_iconst dX10_goesThrough_6 (by decide)) ?_
  refine rx_ac (rx_sd_putf (C := RX10) (T := TX10) (N := 58) (ty0 := tyX10) in_X10 tyX10_ok nmX10 rfl (by decide) kw_456 (Or.inl rfl) rfl dX10_goesThrough_7) ?_
  refine rx_ac (rx_sd_iconst dX10_goesThrough_10 (by decide)) ?_
  refine rx_ac (rx_sd_istore_n (M := m_X10_goesThrough Y) dX10_goesThrough_11 rfl) ?_
  refine rx_ac (rx_sd_iload_n dX10_goesThrough_12 rfl) ?_
  refine rx_ac (rx_sd_aload_n dX10_goesThrough_13 rfl) ?_
  refine rx_ac (rx_sd_get (C := RX10) (T := TX10) (N := 58) in_X10 rfl (by decide) kw_469 dX10_goesThrough_14) ?_
  refine rx_ac (rx_sd_icmp_ge hY dX10_goesThrough_17 (by decide)) ?_
  refine rx_ac (rx_sd_aload_n dX10_goesThrough_20 rfl) ?_
  refine rx_ac (rx_sd_get (C := RX10) (T := TX10) (N := 58) in_X10 rfl (by decide) kw_476 dX10_goesThrough_21) ?_
  refine rx_ac (rx_sd_iload_n dX10_goesThrough_24 rfl) ?_
  refine rx_ac (rx_sd_aload_n dX10_goesThrough_25 rfl) ?_
  refine rx_ac (rx_sd_iload_n dX10_goesThrough_26 rfl) ?_
  refine rx_ac (rx_sd_cl (M := m_X10_goesThrough Y) (rx_lk_V gok (mid := 126) (ci := 10) (C := (RX10, TX10, 58)) ⟨kw_511, kw_427, hd_X10_letterOf, Nat.le_of_ble_eq_true rfl, Nat.le_of_ble_eq_true rfl⟩ rfl kw_512 kw_513 kw_514 dX10_goesThrough_27) (fun _ => ⟨_, rfl⟩) rfl rfl) ?_
  refine rx_ac (rx_sd_iast hY ⟨rfl, rfl, rfl⟩ dX10_goesThrough_30) ?_
  refine rx_ac (rx_sd_iinc (M := m_X10_goesThrough Y) dX10_goesThrough_31 (by decide)) ?_
  refine rx_ac (rx_sd_goto dX10_goesThrough_34 (by decide)) ?_
  refine rx_ac (rx_sd_aload_n dX10_goesThrough_37 rfl) ?_
  refine rx_ac (rx_sd_cl (M := m_X10_goesThrough Y) (rx_lk_V gok (mid := 103) (ci := 10) (C := (RX10, TX10, 58)) ⟨kw_515, kw_427, hd_X10_comes, Nat.le_of_ble_eq_true rfl, Nat.le_of_ble_eq_true rfl⟩ rfl kw_516 kw_517 kw_518 dX10_goesThrough_38) (fun _ => ⟨_, rfl⟩) rfl rfl) ?_
  refine rx_ac (rx_sd_if_ne hY dX10_goesThrough_41 (by decide)) ?_
  refine rx_ac (rx_sd_iconst dX10_goesThrough_46 (by decide)) ?_
  refine rx_ac (rx_sd_istore_n (M := m_X10_goesThrough Y) dX10_goesThrough_47 rfl) ?_
  refine rx_ac (rx_sd_iload_n dX10_goesThrough_48 rfl) ?_
  refine rx_ac (rx_sd_aload_n dX10_goesThrough_49 rfl) ?_
  refine rx_ac (rx_sd_get (C := RX10) (T := TX10) (N := 58) in_X10 rfl (by decide) kw_453 dX10_goesThrough_50) ?_
  refine rx_ac (rx_sd_icmp_ge hY dX10_goesThrough_53 (by decide)) ?_
  refine rx_ac (rx_sd_iconst dX10_goesThrough_56 (by decide)) ?_
  refine rx_ac (rx_sd_istore_n (M := m_X10_goesThrough Y) dX10_goesThrough_57 rfl) ?_
  refine rx_ac (rx_sd_iload_n dX10_goesThrough_58 rfl) ?_
  refine rx_ac (rx_sd_aload_n dX10_goesThrough_59 rfl) ?_
  refine rx_ac (rx_sd_get (C := RX10) (T := TX10) (N := 58) in_X10 rfl (by decide) kw_469 dX10_goesThrough_60) ?_
  refine rx_ac (rx_sd_icmp_ge hY dX10_goesThrough_63 (by decide)) ?_
  refine rx_ac (rx_sd_aload_n dX10_goesThrough_66 rfl) ?_
  refine rx_ac (rx_sd_iload_n dX10_goesThrough_67 rfl) ?_
  refine rx_ac (rx_sd_cl (M := m_X10_goesThrough Y) (rx_lk_V gok (mid := 147) (ci := 10) (C := (RX10, TX10, 58)) ⟨kw_519, kw_427, hd_X10_takes, Nat.le_of_ble_eq_true rfl, Nat.le_of_ble_eq_true rfl⟩ rfl kw_520 kw_521 kw_522 dX10_goesThrough_68) (fun _ => ⟨_, rfl⟩) rfl rfl) ?_
  refine rx_ac (rx_sd_aload_n dX10_goesThrough_71 rfl) ?_
  refine rx_ac (rx_sd_iload_n dX10_goesThrough_72 rfl) ?_
  refine rx_ac (rx_sd_cl (M := m_X10_goesThrough Y) (rx_lk_V gok (mid := 154) (ci := 10) (C := (RX10, TX10, 58)) ⟨kw_523, kw_427, hd_X10_turns, Nat.le_of_ble_eq_true rfl, Nat.le_of_ble_eq_true rfl⟩ rfl kw_524 kw_525 kw_526 dX10_goesThrough_73) (fun _ => ⟨_, rfl⟩) rfl rfl) ?_
  refine rx_ac (rx_sd_if_ne hY dX10_goesThrough_76 (by decide)) ?_
  refine rx_ac (rx_sd_aload_n dX10_goesThrough_81 rfl) ?_
  refine rx_ac (rx_sd_get (C := RX10) (T := TX10) (N := 58) in_X10 rfl (by decide) kw_456 dX10_goesThrough_82) ?_
  refine rx_ac (rx_sd_istore_n (M := m_X10_goesThrough Y) dX10_goesThrough_85 rfl) ?_
  refine rx_ac (rx_sd_iconst dX10_goesThrough_86 (by decide)) ?_
  refine rx_ac (rx_sd_istore (M := m_X10_goesThrough Y) dX10_goesThrough_87) ?_
  refine rx_ac (rx_sd_iload dX10_goesThrough_89) ?_
  refine rx_ac (rx_sd_aload_n dX10_goesThrough_91 rfl) ?_
  refine rx_ac (rx_sd_get (C := RX10) (T := TX10) (N := 58) in_X10 rfl (by decide) kw_469 dX10_goesThrough_92) ?_
  refine rx_ac (rx_sd_icmp_ge hY dX10_goesThrough_95 (by decide)) ?_
  refine rx_ac (rx_sd_aload_n dX10_goesThrough_98 rfl) ?_
  refine rx_ac (rx_sd_get (C := RX10) (T := TX10) (N := 58) in_X10 rfl (by decide) kw_476 dX10_goesThrough_99) ?_
  refine rx_ac (rx_sd_iload dX10_goesThrough_102) ?_
  refine rx_ac (rx_sd_iload dX10_goesThrough_104) ?_
  refine rx_ac (rx_sd_iload_n dX10_goesThrough_106 rfl) ?_
  refine rx_ac (rx_sd_icmp_ne hY dX10_goesThrough_107 (by decide)) ?_
  refine rx_ac (rx_sd_aload_n dX10_goesThrough_110 rfl) ?_
  refine rx_ac (rx_sd_iload_n dX10_goesThrough_111 rfl) ?_
  refine rx_ac (rx_sd_cl (M := m_X10_goesThrough Y) (rx_lk_V gok (mid := 126) (ci := 10) (C := (RX10, TX10, 58)) ⟨kw_511, kw_427, hd_X10_letterOf, Nat.le_of_ble_eq_true rfl, Nat.le_of_ble_eq_true rfl⟩ rfl kw_512 kw_513 kw_514 dX10_goesThrough_112) (fun _ => ⟨_, rfl⟩) rfl rfl) ?_
  refine rx_ac (rx_sd_goto dX10_goesThrough_115 (by decide)) ?_
  refine rx_ac (rx_sd_iast hY ⟨rfl, rfl, rfl⟩ dX10_goesThrough_130) ?_
  refine rx_ac (rx_sd_iinc (M := m_X10_goesThrough Y) dX10_goesThrough_131 (by decide)) ?_
  refine rx_ac (rx_sd_goto dX10_goesThrough_134 (by decide)) ?_
  refine rx_ac (rx_sd_aload_n dX10_goesThrough_137 rfl) ?_
  refine rx_ac (rx_sd_get (C := RX10) (T := TX10) (N := 58) in_X10 rfl (by decide) kw_456 dX10_goesThrough_138) ?_
  refine rx_ac (rx_sd_iload_n dX10_goesThrough_141 rfl) ?_
  refine rx_ac (rx_sd_icmp_ne hY dX10_goesThrough_142 (by decide)) ?_
  refine rx_ac (rx_sd_aload_n dX10_goesThrough_145 rfl) ?_
  refine rx_ac (rx_sd_cl (M := m_X10_goesThrough Y) (rx_lk_V gok (mid := 119) (ci := 10) (C := (RX10, TX10, 58)) ⟨kw_527, kw_427, hd_X10_isThere, Nat.le_of_ble_eq_true rfl, Nat.le_of_ble_eq_true rfl⟩ rfl kw_528 kw_529 kw_530 dX10_goesThrough_146) (fun _ => ⟨_, rfl⟩) rfl rfl) ?_
  refine rx_ac (rx_sd_if_eq hY dX10_goesThrough_149 (by decide)) ?_
  refine rx_ac (rx_sd_goto dX10_goesThrough_152 (by decide)) ?_
  refine rx_ac (rx_sd_aload_n dX10_goesThrough_155 rfl) ?_
  refine rx_ac (rx_sd_cl (M := m_X10_goesThrough Y) (rx_lk_V gok (mid := 103) (ci := 10) (C := (RX10, TX10, 58)) ⟨kw_515, kw_427, hd_X10_comes, Nat.le_of_ble_eq_true rfl, Nat.le_of_ble_eq_true rfl⟩ rfl kw_516 kw_517 kw_518 dX10_goesThrough_156) (fun _ => ⟨_, rfl⟩) rfl rfl) ?_
  refine rx_ac (rx_sd_if_ne hY dX10_goesThrough_159 (by decide)) ?_
  refine rx_ac (rx_sd_iinc (M := m_X10_goesThrough Y) dX10_goesThrough_164 (by decide)) ?_
  refine rx_ac (rx_sd_goto dX10_goesThrough_167 (by decide)) ?_
  refine rx_ac (rx_sd_iinc (M := m_X10_goesThrough Y) dX10_goesThrough_170 (by decide)) ?_
  refine rx_ac (rx_sd_goto dX10_goesThrough_173 (by decide)) ?_
  refine rx_ac (rx_sd_iconst dX10_goesThrough_176 (by decide)) ?_
  refine rx_ac (rx_sd_retI (M := m_X10_goesThrough Y) rfl (Or.inr rfl) dX10_goesThrough_177) ?_
  exact rx_an
set_option maxRecDepth 100000 in
set_option maxHeartbeats 4000000 in
theorem s_X10_greater {l : Launch} {D : va_G} {cy : Nat → ClassId} {σ : Nat → Int32} {Y : rx_Y} (hY : rx_YOk Y σ) : ∀ q ∈ p_X10_greater Y, rx_Sd (gG l D cy σ) (mt Y) (m_X10_greater Y) q.1 q.2 := by
  unfold p_X10_greater
  refine rx_ac (rx_sd_iload_n dX10_greater_0 rfl) ?_
  refine rx_ac (rx_sd_iload_n dX10_greater_1 rfl) ?_
  refine rx_ac (rx_sd_icmp_le hY dX10_greater_2 (by decide)) ?_
  refine rx_ac (rx_sd_iload_n dX10_greater_5 rfl) ?_
  refine rx_ac (rx_sd_goto dX10_greater_6 (by decide)) ?_
  refine rx_ac (rx_sd_iload_n dX10_greater_9 rfl) ?_
  refine rx_ac (rx_sd_retI (M := m_X10_greater Y) rfl (Or.inl rfl) dX10_greater_10) ?_
  exact rx_an
set_option maxRecDepth 100000 in
set_option maxHeartbeats 4000000 in
theorem s_X10_init {l : Launch} {D : va_G} {cy : Nat → ClassId} {σ : Nat → Int32} {Y : rx_Y} (hY : rx_YOk Y σ) : ∀ q ∈ p_X10_init Y, rx_Sd (gG l D cy σ) (mt Y) (m_X10_init Y) q.1 q.2 := by
  unfold p_X10_init
  refine rx_ac (rx_sd_aload_n dX10_init_0 rfl) ?_
  refine rx_ac (rx_sd_obj (M := m_X10_init Y) kw_531 kw_66 kw_objcode (Nat.le_of_ble_eq_true rfl) dX10_init_1) ?_
  refine rx_ac (rx_sd_aload_n dX10_init_4 rfl) ?_
  refine rx_ac (rx_sd_sipush dX10_init_5 (by decide)) ?_
  refine rx_ac (rx_sd_newI (M := m_X10_init Y) ⟨rfl, rfl, rfl⟩ kw_69 rfl dX10_init_8) ?_
  refine rx_ac (rx_sd_putf (C := RX10) (T := TX10) (N := 58) (ty0 := tyX10) in_X10 tyX10_ok nmX10 rfl (by decide) kw_431 (Or.inr ⟨rfl, rfl, rfl⟩) rfl dX10_init_10) ?_
  refine rx_ac (rx_sd_aload_n dX10_init_13 rfl) ?_
  refine rx_ac (rx_sd_sipush dX10_init_14 (by decide)) ?_
  refine rx_ac (rx_sd_newL (M := m_X10_init Y) ⟨rfl, rfl, rfl⟩ kw_71 rfl dX10_init_17) ?_
  refine rx_ac (rx_sd_putf (C := RX10) (T := TX10) (N := 58) (ty0 := tyX10) in_X10 tyX10_ok nmX10 rfl (by decide) kw_436 (Or.inr ⟨rfl, rfl, rfl⟩) rfl dX10_init_19) ?_
  refine rx_ac (rx_sd_aload_n dX10_init_22 rfl) ?_
  refine rx_ac (rx_sd_ldc (M := m_X10_init Y) kw_532 dX10_init_23) ?_
  refine rx_ac (rx_sd_newI (M := m_X10_init Y) ⟨rfl, rfl, rfl⟩ kw_69 rfl dX10_init_25) ?_
  refine rx_ac (rx_sd_putf (C := RX10) (T := TX10) (N := 58) (ty0 := tyX10) in_X10 tyX10_ok nmX10 rfl (by decide) kw_439 (Or.inr ⟨rfl, rfl, rfl⟩) rfl dX10_init_27) ?_
  refine rx_ac (rx_sd_aload_n dX10_init_30 rfl) ?_
  refine rx_ac (rx_sd_bipush dX10_init_31 (by decide)) ?_
  refine rx_ac (rx_sd_newI (M := m_X10_init Y) ⟨rfl, rfl, rfl⟩ kw_69 rfl dX10_init_33) ?_
  refine rx_ac (rx_sd_putf (C := RX10) (T := TX10) (N := 58) (ty0 := tyX10) in_X10 tyX10_ok nmX10 rfl (by decide) kw_440 (Or.inr ⟨rfl, rfl, rfl⟩) rfl dX10_init_35) ?_
  refine rx_ac (rx_sd_aload_n dX10_init_38 rfl) ?_
  refine rx_ac (rx_sd_bipush dX10_init_39 (by decide)) ?_
  refine rx_ac (rx_sd_newI (M := m_X10_init Y) ⟨rfl, rfl, rfl⟩ kw_69 rfl dX10_init_41) ?_
  refine rx_ac (rx_sd_putf (C := RX10) (T := TX10) (N := 58) (ty0 := tyX10) in_X10 tyX10_ok nmX10 rfl (by decide) kw_473 (Or.inr ⟨rfl, rfl, rfl⟩) rfl dX10_init_43) ?_
  refine rx_ac (rx_sd_aload_n dX10_init_46 rfl) ?_
  refine rx_ac (rx_sd_bipush dX10_init_47 (by decide)) ?_
  refine rx_ac (rx_sd_newI (M := m_X10_init Y) ⟨rfl, rfl, rfl⟩ kw_69 rfl dX10_init_49) ?_
  refine rx_ac (rx_sd_putf (C := RX10) (T := TX10) (N := 58) (ty0 := tyX10) in_X10 tyX10_ok nmX10 rfl (by decide) kw_533 (Or.inr ⟨rfl, rfl, rfl⟩) rfl dX10_init_51) ?_
  refine rx_ac (rx_sd_aload_n dX10_init_54 rfl) ?_
  refine rx_ac (rx_sd_bipush dX10_init_55 (by decide)) ?_
  refine rx_ac (rx_sd_newI (M := m_X10_init Y) ⟨rfl, rfl, rfl⟩ kw_69 rfl dX10_init_57) ?_
  refine rx_ac (rx_sd_putf (C := RX10) (T := TX10) (N := 58) (ty0 := tyX10) in_X10 tyX10_ok nmX10 rfl (by decide) kw_534 (Or.inr ⟨rfl, rfl, rfl⟩) rfl dX10_init_59) ?_
  refine rx_ac (rx_sd_aload_n dX10_init_62 rfl) ?_
  refine rx_ac (rx_sd_bipush dX10_init_63 (by decide)) ?_
  refine rx_ac (rx_sd_newL (M := m_X10_init Y) ⟨rfl, rfl, rfl⟩ kw_71 rfl dX10_init_65) ?_
  refine rx_ac (rx_sd_putf (C := RX10) (T := TX10) (N := 58) (ty0 := tyX10) in_X10 tyX10_ok nmX10 rfl (by decide) kw_535 (Or.inr ⟨rfl, rfl, rfl⟩) rfl dX10_init_67) ?_
  refine rx_ac (rx_sd_aload_n dX10_init_70 rfl) ?_
  refine rx_ac (rx_sd_bipush dX10_init_71 (by decide)) ?_
  refine rx_ac (rx_sd_newL (M := m_X10_init Y) ⟨rfl, rfl, rfl⟩ kw_71 rfl dX10_init_73) ?_
  refine rx_ac (rx_sd_putf (C := RX10) (T := TX10) (N := 58) (ty0 := tyX10) in_X10 tyX10_ok nmX10 rfl (by decide) kw_536 (Or.inr ⟨rfl, rfl, rfl⟩) rfl dX10_init_75) ?_
  refine rx_ac (rx_sd_aload_n dX10_init_78 rfl) ?_
  refine rx_ac (rx_sd_bipush dX10_init_79 (by decide)) ?_
  refine rx_ac (rx_sd_newI (M := m_X10_init Y) ⟨rfl, rfl, rfl⟩ kw_69 rfl dX10_init_81) ?_
  refine rx_ac (rx_sd_putf (C := RX10) (T := TX10) (N := 58) (ty0 := tyX10) in_X10 tyX10_ok nmX10 rfl (by decide) kw_505 (Or.inr ⟨rfl, rfl, rfl⟩) rfl dX10_init_83) ?_
  refine rx_ac (rx_sd_aload_n dX10_init_86 rfl) ?_
  refine rx_ac (rx_sd_bipush dX10_init_87 (by decide)) ?_
  refine rx_ac (rx_sd_newZ (M := m_X10_init Y) ⟨rfl, rfl, rfl⟩ kw_70 rfl dX10_init_89) ?_
  refine rx_ac (rx_sd_putf (C := RX10) (T := TX10) (N := 58) (ty0 := tyX10) in_X10 tyX10_ok nmX10 rfl (by decide) kw_537 (Or.inr ⟨rfl, rfl, rfl⟩) rfl dX10_init_91) ?_
  refine rx_ac (rx_sd_aload_n dX10_init_94 rfl) ?_
  refine rx_ac (rx_sd_bipush dX10_init_95 (by decide)) ?_
  refine rx_ac (rx_sd_newI (M := m_X10_init Y) ⟨rfl, rfl, rfl⟩ kw_69 rfl dX10_init_97) ?_
  refine rx_ac (rx_sd_putf (C := RX10) (T := TX10) (N := 58) (ty0 := tyX10) in_X10 tyX10_ok nmX10 rfl (by decide) kw_538 (Or.inr ⟨rfl, rfl, rfl⟩) rfl dX10_init_99) ?_
  refine rx_ac (rx_sd_aload_n dX10_init_102 rfl) ?_
  refine rx_ac (rx_sd_iconst dX10_init_103 (by decide)) ?_
  refine rx_ac (rx_sd_newI (M := m_X10_init Y) ⟨rfl, rfl, rfl⟩ kw_69 rfl dX10_init_104) ?_
  refine rx_ac (rx_sd_putf (C := RX10) (T := TX10) (N := 58) (ty0 := tyX10) in_X10 tyX10_ok nmX10 rfl (by decide) kw_539 (Or.inr ⟨rfl, rfl, rfl⟩) rfl dX10_init_106) ?_
  refine rx_ac (rx_sd_aload_n dX10_init_109 rfl) ?_
  refine rx_ac (rx_sd_iconst dX10_init_110 (by decide)) ?_
  refine rx_ac (rx_sd_newI (M := m_X10_init Y) ⟨rfl, rfl, rfl⟩ kw_69 rfl dX10_init_111) ?_
  refine rx_ac (rx_sd_putf (C := RX10) (T := TX10) (N := 58) (ty0 := tyX10) in_X10 tyX10_ok nmX10 rfl (by decide) kw_540 (Or.inr ⟨rfl, rfl, rfl⟩) rfl dX10_init_113) ?_
  refine rx_ac (rx_sd_aload_n dX10_init_116 rfl) ?_
  refine rx_ac (rx_sd_sipush dX10_init_117 (by decide)) ?_
  refine rx_ac (rx_sd_newI (M := m_X10_init Y) ⟨rfl, rfl, rfl⟩ kw_69 rfl dX10_init_120) ?_
  refine rx_ac (rx_sd_putf (C := RX10) (T := TX10) (N := 58) (ty0 := tyX10) in_X10 tyX10_ok nmX10 rfl (by decide) kw_541 (Or.inr ⟨rfl, rfl, rfl⟩) rfl dX10_init_122) ?_
  refine rx_ac (rx_sd_aload_n dX10_init_125 rfl) ?_
  refine rx_ac (rx_sd_bipush dX10_init_126 (by decide)) ?_
  refine rx_ac (rx_sd_newI (M := m_X10_init Y) ⟨rfl, rfl, rfl⟩ kw_69 rfl dX10_init_128) ?_
  refine rx_ac (rx_sd_putf (C := RX10) (T := TX10) (N := 58) (ty0 := tyX10) in_X10 tyX10_ok nmX10 rfl (by decide) kw_542 (Or.inr ⟨rfl, rfl, rfl⟩) rfl dX10_init_130) ?_
  refine rx_ac (rx_sd_aload_n dX10_init_133 rfl) ?_
  refine rx_ac (rx_sd_sipush dX10_init_134 (by decide)) ?_
  refine rx_ac (rx_sd_newI (M := m_X10_init Y) ⟨rfl, rfl, rfl⟩ kw_69 rfl dX10_init_137) ?_
  refine rx_ac (rx_sd_putf (C := RX10) (T := TX10) (N := 58) (ty0 := tyX10) in_X10 tyX10_ok nmX10 rfl (by decide) kw_475 (Or.inr ⟨rfl, rfl, rfl⟩) rfl dX10_init_139) ?_
  refine rx_ac (rx_sd_aload_n dX10_init_142 rfl) ?_
  refine rx_ac (rx_sd_sipush dX10_init_143 (by decide)) ?_
  refine rx_ac (rx_sd_newI (M := m_X10_init Y) ⟨rfl, rfl, rfl⟩ kw_69 rfl dX10_init_146) ?_
  refine rx_ac (rx_sd_putf (C := RX10) (T := TX10) (N := 58) (ty0 := tyX10) in_X10 tyX10_ok nmX10 rfl (by decide) kw_477 (Or.inr ⟨rfl, rfl, rfl⟩) rfl dX10_init_148) ?_
  refine rx_ac (rx_sd_aload_n dX10_init_151 rfl) ?_
  refine rx_ac (rx_sd_bipush dX10_init_152 (by decide)) ?_
  refine rx_ac (rx_sd_newI (M := m_X10_init Y) ⟨rfl, rfl, rfl⟩ kw_69 rfl dX10_init_154) ?_
  refine rx_ac (rx_sd_putf (C := RX10) (T := TX10) (N := 58) (ty0 := tyX10) in_X10 tyX10_ok nmX10 rfl (by decide) kw_458 (Or.inr ⟨rfl, rfl, rfl⟩) rfl dX10_init_156) ?_
  refine rx_ac (rx_sd_aload_n dX10_init_159 rfl) ?_
  refine rx_ac (rx_sd_bipush dX10_init_160 (by decide)) ?_
  refine rx_ac (rx_sd_newL (M := m_X10_init Y) ⟨rfl, rfl, rfl⟩ kw_71 rfl dX10_init_162) ?_
  refine rx_ac (rx_sd_putf (C := RX10) (T := TX10) (N := 58) (ty0 := tyX10) in_X10 tyX10_ok nmX10 rfl (by decide) kw_459 (Or.inr ⟨rfl, rfl, rfl⟩) rfl dX10_init_164) ?_
  refine rx_ac (rx_sd_aload_n dX10_init_167 rfl) ?_
  refine rx_ac (rx_sd_sipush dX10_init_168 (by decide)) ?_
  refine rx_ac (rx_sd_newI (M := m_X10_init Y) ⟨rfl, rfl, rfl⟩ kw_69 rfl dX10_init_171) ?_
  refine rx_ac (rx_sd_putf (C := RX10) (T := TX10) (N := 58) (ty0 := tyX10) in_X10 tyX10_ok nmX10 rfl (by decide) kw_464 (Or.inr ⟨rfl, rfl, rfl⟩) rfl dX10_init_173) ?_
  refine rx_ac (rx_sd_aload_n dX10_init_176 rfl) ?_
  refine rx_ac (rx_sd_bipush dX10_init_177 (by decide)) ?_
  refine rx_ac (rx_sd_newI (M := m_X10_init Y) ⟨rfl, rfl, rfl⟩ kw_69 rfl dX10_init_179) ?_
  refine rx_ac (rx_sd_putf (C := RX10) (T := TX10) (N := 58) (ty0 := tyX10) in_X10 tyX10_ok nmX10 rfl (by decide) kw_543 (Or.inr ⟨rfl, rfl, rfl⟩) rfl dX10_init_181) ?_
  refine rx_ac (rx_sd_aload_n dX10_init_184 rfl) ?_
  refine rx_ac (rx_sd_bipush dX10_init_185 (by decide)) ?_
  refine rx_ac (rx_sd_newI (M := m_X10_init Y) ⟨rfl, rfl, rfl⟩ kw_69 rfl dX10_init_187) ?_
  refine rx_ac (rx_sd_putf (C := RX10) (T := TX10) (N := 58) (ty0 := tyX10) in_X10 tyX10_ok nmX10 rfl (by decide) kw_476 (Or.inr ⟨rfl, rfl, rfl⟩) rfl dX10_init_189) ?_
  refine rx_ac (rx_sd_aload_n dX10_init_192 rfl) ?_
  refine rx_ac (rx_sd_ldc (M := m_X10_init Y) kw_544 dX10_init_193) ?_
  refine rx_ac (rx_sd_newI (M := m_X10_init Y) ⟨rfl, rfl, rfl⟩ kw_69 rfl dX10_init_195) ?_
  refine rx_ac (rx_sd_putf (C := RX10) (T := TX10) (N := 58) (ty0 := tyX10) in_X10 tyX10_ok nmX10 rfl (by decide) kw_545 (Or.inr ⟨rfl, rfl, rfl⟩) rfl dX10_init_197) ?_
  refine rx_ac (rx_sd_aload_n dX10_init_200 rfl) ?_
  refine rx_ac (rx_sd_sipush dX10_init_201 (by decide)) ?_
  refine rx_ac (rx_sd_newI (M := m_X10_init Y) ⟨rfl, rfl, rfl⟩ kw_69 rfl dX10_init_204) ?_
  refine rx_ac (rx_sd_putf (C := RX10) (T := TX10) (N := 58) (ty0 := tyX10) in_X10 tyX10_ok nmX10 rfl (by decide) kw_546 (Or.inr ⟨rfl, rfl, rfl⟩) rfl dX10_init_206) ?_
  refine rx_ac (rx_sd_aload_n dX10_init_209 rfl) ?_
  refine rx_ac (rx_sd_sipush dX10_init_210 (by decide)) ?_
  refine rx_ac (rx_sd_newI (M := m_X10_init Y) ⟨rfl, rfl, rfl⟩ kw_69 rfl dX10_init_213) ?_
  refine rx_ac (rx_sd_putf (C := RX10) (T := TX10) (N := 58) (ty0 := tyX10) in_X10 tyX10_ok nmX10 rfl (by decide) kw_547 (Or.inr ⟨rfl, rfl, rfl⟩) rfl dX10_init_215) ?_
  refine rx_ac (rx_sd_aload_n dX10_init_218 rfl) ?_
  refine rx_ac (rx_sd_sipush dX10_init_219 (by decide)) ?_
  refine rx_ac (rx_sd_newI (M := m_X10_init Y) ⟨rfl, rfl, rfl⟩ kw_69 rfl dX10_init_222) ?_
  refine rx_ac (rx_sd_putf (C := RX10) (T := TX10) (N := 58) (ty0 := tyX10) in_X10 tyX10_ok nmX10 rfl (by decide) kw_548 (Or.inr ⟨rfl, rfl, rfl⟩) rfl dX10_init_224) ?_
  refine rx_ac (rx_sd_aload_n dX10_init_227 rfl) ?_
  refine rx_ac (rx_sd_sipush dX10_init_228 (by decide)) ?_
  refine rx_ac (rx_sd_newI (M := m_X10_init Y) ⟨rfl, rfl, rfl⟩ kw_69 rfl dX10_init_231) ?_
  refine rx_ac (rx_sd_putf (C := RX10) (T := TX10) (N := 58) (ty0 := tyX10) in_X10 tyX10_ok nmX10 rfl (by decide) kw_549 (Or.inr ⟨rfl, rfl, rfl⟩) rfl dX10_init_233) ?_
  refine rx_ac (rx_sd_aload_n dX10_init_236 rfl) ?_
  refine rx_ac (rx_sd_sipush dX10_init_237 (by decide)) ?_
  refine rx_ac (rx_sd_newI (M := m_X10_init Y) ⟨rfl, rfl, rfl⟩ kw_69 rfl dX10_init_240) ?_
  refine rx_ac (rx_sd_putf (C := RX10) (T := TX10) (N := 58) (ty0 := tyX10) in_X10 tyX10_ok nmX10 rfl (by decide) kw_550 (Or.inr ⟨rfl, rfl, rfl⟩) rfl dX10_init_242) ?_
  refine rx_ac (rx_sd_aload_n dX10_init_245 rfl) ?_
  refine rx_ac (rx_sd_bipush dX10_init_246 (by decide)) ?_
  refine rx_ac (rx_sd_newI (M := m_X10_init Y) ⟨rfl, rfl, rfl⟩ kw_69 rfl dX10_init_248) ?_
  refine rx_ac (rx_sd_putf (C := RX10) (T := TX10) (N := 58) (ty0 := tyX10) in_X10 tyX10_ok nmX10 rfl (by decide) kw_551 (Or.inr ⟨rfl, rfl, rfl⟩) rfl dX10_init_250) ?_
  refine rx_ac (rx_sd_aload_n dX10_init_253 rfl) ?_
  refine rx_ac (rx_sd_iconst dX10_init_254 (by decide)) ?_
  refine rx_ac (rx_sd_newI (M := m_X10_init Y) ⟨rfl, rfl, rfl⟩ kw_69 rfl dX10_init_255) ?_
  refine rx_ac (rx_sd_putf (C := RX10) (T := TX10) (N := 58) (ty0 := tyX10) in_X10 tyX10_ok nmX10 rfl (by decide) kw_482 (Or.inr ⟨rfl, rfl, rfl⟩) rfl dX10_init_257) ?_
  refine rx_ac (rx_sd_aload_n dX10_init_260 rfl) ?_
  refine rx_ac (rx_sd_sipush dX10_init_261 (by decide)) ?_
  refine rx_ac (rx_sd_newZ (M := m_X10_init Y) ⟨rfl, rfl, rfl⟩ kw_70 rfl dX10_init_264) ?_
  refine rx_ac (rx_sd_putf (C := RX10) (T := TX10) (N := 58) (ty0 := tyX10) in_X10 tyX10_ok nmX10 rfl (by decide) kw_492 (Or.inr ⟨rfl, rfl, rfl⟩) rfl dX10_init_266) ?_
  refine rx_ac (rx_sd_aload_n dX10_init_269 rfl) ?_
  refine rx_ac (rx_sd_bipush dX10_init_270 (by decide)) ?_
  refine rx_ac (rx_sd_newI (M := m_X10_init Y) ⟨rfl, rfl, rfl⟩ kw_69 rfl dX10_init_272) ?_
  refine rx_ac (rx_sd_putf (C := RX10) (T := TX10) (N := 58) (ty0 := tyX10) in_X10 tyX10_ok nmX10 rfl (by decide) kw_552 (Or.inr ⟨rfl, rfl, rfl⟩) rfl dX10_init_274) ?_
  refine rx_ac (rx_sd_aload_n dX10_init_277 rfl) ?_
  refine rx_ac (rx_sd_bipush dX10_init_278 (by decide)) ?_
  refine rx_ac (rx_sd_newI (M := m_X10_init Y) ⟨rfl, rfl, rfl⟩ kw_69 rfl dX10_init_280) ?_
  refine rx_ac (rx_sd_putf (C := RX10) (T := TX10) (N := 58) (ty0 := tyX10) in_X10 tyX10_ok nmX10 rfl (by decide) kw_553 (Or.inr ⟨rfl, rfl, rfl⟩) rfl dX10_init_282) ?_
  refine rx_ac (rx_sd_aload_n dX10_init_285 rfl) ?_
  refine rx_ac (rx_sd_sipush dX10_init_286 (by decide)) ?_
  refine rx_ac (rx_sd_newL (M := m_X10_init Y) ⟨rfl, rfl, rfl⟩ kw_71 rfl dX10_init_289) ?_
  refine rx_ac (rx_sd_putf (C := RX10) (T := TX10) (N := 58) (ty0 := tyX10) in_X10 tyX10_ok nmX10 rfl (by decide) kw_554 (Or.inr ⟨rfl, rfl, rfl⟩) rfl dX10_init_291) ?_
  refine rx_ac (rx_sd_aload_n dX10_init_294 rfl) ?_
  refine rx_ac (rx_sd_sipush dX10_init_295 (by decide)) ?_
  refine rx_ac (rx_sd_newI (M := m_X10_init Y) ⟨rfl, rfl, rfl⟩ kw_69 rfl dX10_init_298) ?_
  refine rx_ac (rx_sd_putf (C := RX10) (T := TX10) (N := 58) (ty0 := tyX10) in_X10 tyX10_ok nmX10 rfl (by decide) kw_555 (Or.inr ⟨rfl, rfl, rfl⟩) rfl dX10_init_300) ?_
  refine rx_ac (rx_sd_aload_n dX10_init_303 rfl) ?_
  refine rx_ac (rx_sd_bipush dX10_init_304 (by decide)) ?_
  refine rx_ac (rx_sd_newI (M := m_X10_init Y) ⟨rfl, rfl, rfl⟩ kw_69 rfl dX10_init_306) ?_
  refine rx_ac (rx_sd_putf (C := RX10) (T := TX10) (N := 58) (ty0 := tyX10) in_X10 tyX10_ok nmX10 rfl (by decide) kw_556 (Or.inr ⟨rfl, rfl, rfl⟩) rfl dX10_init_308) ?_
  refine rx_ac (rx_sd_aload_n dX10_init_311 rfl) ?_
  refine rx_ac (rx_sd_sipush dX10_init_312 (by decide)) ?_
  refine rx_ac (rx_sd_newZ (M := m_X10_init Y) ⟨rfl, rfl, rfl⟩ kw_70 rfl dX10_init_315) ?_
  refine rx_ac (rx_sd_putf (C := RX10) (T := TX10) (N := 58) (ty0 := tyX10) in_X10 tyX10_ok nmX10 rfl (by decide) kw_557 (Or.inr ⟨rfl, rfl, rfl⟩) rfl dX10_init_317) ?_
  refine rx_ac (rx_sd_aload_n dX10_init_320 rfl) ?_
  refine rx_ac (rx_sd_iconst dX10_init_321 (by decide)) ?_
  refine rx_ac (rx_sd_putf (C := RX10) (T := TX10) (N := 58) (ty0 := tyX10) in_X10 tyX10_ok nmX10 rfl (by decide) kw_469 (Or.inl rfl) rfl dX10_init_322) ?_
  refine rx_ac (rx_sd_aload_n dX10_init_325 rfl) ?_
  refine rx_ac (rx_sd_cl (M := m_X10_init Y) (rx_lk_V gok (mid := 109) (ci := 10) (C := (RX10, TX10, 58)) ⟨kw_558, kw_427, hd_X10_firsts, Nat.le_of_ble_eq_true rfl, Nat.le_of_ble_eq_true rfl⟩ rfl kw_559 kw_560 kw_561 dX10_init_326) (fun _ => ⟨_, rfl⟩) rfl rfl) ?_
  refine rx_ac (rx_sd_aload_n dX10_init_329 rfl) ?_
  refine rx_ac (rx_sd_get (C := RX10) (T := TX10) (N := 58) in_X10 rfl (by decide) kw_482 dX10_init_330) ?_
  refine rx_ac (rx_sd_iconst dX10_init_333 (by decide)) ?_
  refine rx_ac (rx_sd_iconst dX10_init_334 (by decide)) ?_
  refine rx_ac (rx_sd_iast hY ⟨rfl, rfl, rfl⟩ dX10_init_335) ?_
  refine rx_ac (rx_sd_aload_n dX10_init_336 rfl) ?_
  refine rx_ac (rx_sd_get (C := RX10) (T := TX10) (N := 58) in_X10 rfl (by decide) kw_482 dX10_init_337) ?_
  refine rx_ac (rx_sd_iconst dX10_init_340 (by decide)) ?_
  refine rx_ac (rx_sd_iconst dX10_init_341 (by decide)) ?_
  refine rx_ac (rx_sd_iast hY ⟨rfl, rfl, rfl⟩ dX10_init_342) ?_
  refine rx_ac (rx_sd_ret0 (M := m_X10_init Y) rfl dX10_init_343) ?_
  exact rx_an
set_option maxRecDepth 100000 in
set_option maxHeartbeats 4000000 in
theorem s_X10_isCutting {l : Launch} {D : va_G} {cy : Nat → ClassId} {σ : Nat → Int32} {Y : rx_Y} (hY : rx_YOk Y σ) : ∀ q ∈ p_X10_isCutting Y, rx_Sd (gG l D cy σ) (mt Y) (m_X10_isCutting Y) q.1 q.2 := by
  unfold p_X10_isCutting
  refine rx_ac (rx_sd_aload_n dX10_isCutting_0 rfl) ?_
  refine rx_ac (rx_sd_iload_n dX10_isCutting_1 rfl) ?_
  refine rx_ac (rx_sd_cl (M := m_X10_isCutting Y) (rx_lk_V gok (mid := 107) (ci := 10) (C := (RX10, TX10, 58)) ⟨kw_493, kw_427, hd_X10_fences, Nat.le_of_ble_eq_true rfl, Nat.le_of_ble_eq_true rfl⟩ rfl kw_494 kw_495 kw_496 dX10_isCutting_2) (fun _ => ⟨_, rfl⟩) rfl rfl) ?_
  refine rx_ac (rx_sd_aload_n dX10_isCutting_5 rfl) ?_
  refine rx_ac (rx_sd_get (C := RX10) (T := TX10) (N := 58) in_X10 rfl (by decide) kw_482 dX10_isCutting_6) ?_
  refine rx_ac (rx_sd_iload_n dX10_isCutting_9 rfl) ?_
  refine rx_ac (rx_sd_iald ⟨rfl, rfl, rfl⟩ dX10_isCutting_10) ?_
  refine rx_ac (rx_sd_iconst dX10_isCutting_11 (by decide)) ?_
  refine rx_ac (rx_sd_isub dX10_isCutting_12) ?_
  refine rx_ac (rx_sd_icmp_ne hY dX10_isCutting_13 (by decide)) ?_
  refine rx_ac (rx_sd_iconst dX10_isCutting_20 (by decide)) ?_
  refine rx_ac (rx_sd_retI (M := m_X10_isCutting Y) rfl (Or.inr rfl) dX10_isCutting_21) ?_
  exact rx_an
set_option maxRecDepth 100000 in
set_option maxHeartbeats 4000000 in
theorem s_X10_isSlot {l : Launch} {D : va_G} {cy : Nat → ClassId} {σ : Nat → Int32} {Y : rx_Y} (hY : rx_YOk Y σ) : ∀ q ∈ p_X10_isSlot Y, rx_Sd (gG l D cy σ) (mt Y) (m_X10_isSlot Y) q.1 q.2 := by
  unfold p_X10_isSlot
  refine rx_ac (rx_sd_iload_n dX10_isSlot_0 rfl) ?_
  refine rx_ac (rx_sd_if_eq hY dX10_isSlot_1 (by decide)) ?_
  refine rx_ac (rx_sd_iload_n dX10_isSlot_4 rfl) ?_
  refine rx_ac (rx_sd_iconst dX10_isSlot_5 (by decide)) ?_
  refine rx_ac (rx_sd_icmp_ne hY dX10_isSlot_6 (by decide)) ?_
  refine rx_ac (rx_sd_iconst dX10_isSlot_9 (by decide)) ?_
  refine rx_ac (rx_sd_goto dX10_isSlot_10 (by decide)) ?_
  refine rx_ac (rx_sd_iconst dX10_isSlot_13 (by decide)) ?_
  refine rx_ac (rx_sd_retI (M := m_X10_isSlot Y) rfl (Or.inr rfl) dX10_isSlot_14) ?_
  exact rx_an
set_option maxRecDepth 100000 in
set_option maxHeartbeats 4000000 in
theorem s_X10_isTable {l : Launch} {D : va_G} {cy : Nat → ClassId} {σ : Nat → Int32} {Y : rx_Y} (hY : rx_YOk Y σ) : ∀ q ∈ p_X10_isTable Y, rx_Sd (gG l D cy σ) (mt Y) (m_X10_isTable Y) q.1 q.2 := by
  unfold p_X10_isTable
  refine rx_ac (rx_sd_iconst dX10_isTable_0 (by decide)) ?_
  refine rx_ac (rx_sd_istore_n (M := m_X10_isTable Y) dX10_isTable_1 rfl) ?_
  refine rx_ac (rx_sd_iload_n dX10_isTable_2 rfl) ?_
  refine rx_ac (rx_sd_bipush dX10_isTable_3 (by decide)) ?_
  refine rx_ac (rx_sd_icmp_ge hY dX10_isTable_5 (by decide)) ?_
  refine rx_ac (rx_sd_aload_n dX10_isTable_8 rfl) ?_
  refine rx_ac (rx_sd_get (C := RX10) (T := TX10) (N := 58) in_X10 rfl (by decide) kw_545 dX10_isTable_9) ?_
  refine rx_ac (rx_sd_bipush dX10_isTable_12 (by decide)) ?_
  refine rx_ac (rx_sd_iload_n dX10_isTable_14 rfl) ?_
  refine rx_ac (rx_sd_imul dX10_isTable_15) ?_
  refine rx_ac (rx_sd_iload_n dX10_isTable_16 rfl) ?_
  refine rx_ac (rx_sd_iadd dX10_isTable_17) ?_
  refine rx_ac (rx_sd_iald ⟨rfl, rfl, rfl⟩ dX10_isTable_18) ?_
  refine rx_ac (rx_sd_iload_n dX10_isTable_19 rfl) ?_
  refine rx_ac (rx_sd_bipush dX10_isTable_20 (by decide)) ?_
  refine rx_ac (rx_sd_idiv dX10_isTable_22) ?_
  refine rx_ac (rx_sd_aload_n dX10_isTable_23 rfl) ?_
  refine rx_ac (rx_sd_get (C := RX10) (T := TX10) (N := 58) in_X10 rfl (by decide) kw_469 dX10_isTable_24) ?_
  refine rx_ac (rx_sd_icmp_ge hY dX10_isTable_27 (by decide)) ?_
  refine rx_ac (rx_sd_iload_n dX10_isTable_30 rfl) ?_
  refine rx_ac (rx_sd_bipush dX10_isTable_31 (by decide)) ?_
  refine rx_ac (rx_sd_irem dX10_isTable_33) ?_
  refine rx_ac (rx_sd_aload_n dX10_isTable_34 rfl) ?_
  refine rx_ac (rx_sd_get (C := RX10) (T := TX10) (N := 58) in_X10 rfl (by decide) kw_469 dX10_isTable_35) ?_
  refine rx_ac (rx_sd_icmp_ge hY dX10_isTable_38 (by decide)) ?_
  refine rx_ac (rx_sd_aload_n dX10_isTable_41 rfl) ?_
  refine rx_ac (rx_sd_get (C := RX10) (T := TX10) (N := 58) in_X10 rfl (by decide) kw_473 dX10_isTable_42) ?_
  refine rx_ac (rx_sd_iload_n dX10_isTable_45 rfl) ?_
  refine rx_ac (rx_sd_iald ⟨rfl, rfl, rfl⟩ dX10_isTable_46) ?_
  refine rx_ac (rx_sd_goto dX10_isTable_47 (by decide)) ?_
  refine rx_ac (rx_sd_iconst dX10_isTable_50 (by decide)) ?_
  refine rx_ac (rx_sd_icmp_eq hY dX10_isTable_51 (by decide)) ?_
  refine rx_ac (rx_sd_iinc (M := m_X10_isTable Y) dX10_isTable_56 (by decide)) ?_
  refine rx_ac (rx_sd_goto dX10_isTable_59 (by decide)) ?_
  refine rx_ac (rx_sd_iconst dX10_isTable_62 (by decide)) ?_
  refine rx_ac (rx_sd_retI (M := m_X10_isTable Y) rfl (Or.inr rfl) dX10_isTable_63) ?_
  exact rx_an
set_option maxRecDepth 100000 in
set_option maxHeartbeats 4000000 in
theorem s_X10_isThere {l : Launch} {D : va_G} {cy : Nat → ClassId} {σ : Nat → Int32} {Y : rx_Y} (hY : rx_YOk Y σ) : ∀ q ∈ p_X10_isThere Y, rx_Sd (gG l D cy σ) (mt Y) (m_X10_isThere Y) q.1 q.2 := by
  unfold p_X10_isThere
  refine rx_ac (rx_sd_iconst dX10_isThere_0 (by decide)) ?_
  refine rx_ac (rx_sd_istore_n (M := m_X10_isThere Y) dX10_isThere_1 rfl) ?_
  refine rx_ac (rx_sd_iload_n dX10_isThere_2 rfl) ?_
  refine rx_ac (rx_sd_aload_n dX10_isThere_3 rfl) ?_
  refine rx_ac (rx_sd_get (C := RX10) (T := TX10) (N := 58) in_X10 rfl (by decide) kw_453 dX10_isThere_4) ?_
  refine rx_ac (rx_sd_icmp_ge hY dX10_isThere_7 (by decide)) ?_
  refine rx_ac (rx_sd_iconst dX10_isThere_10 (by decide)) ?_
  refine rx_ac (rx_sd_istore_n (M := m_X10_isThere Y) dX10_isThere_11 rfl) ?_
  refine rx_ac (rx_sd_iconst dX10_isThere_12 (by decide)) ?_
  refine rx_ac (rx_sd_istore_n (M := m_X10_isThere Y) dX10_isThere_13 rfl) ?_
  refine rx_ac (rx_sd_iload_n dX10_isThere_14 rfl) ?_
  refine rx_ac (rx_sd_aload_n dX10_isThere_15 rfl) ?_
  refine rx_ac (rx_sd_get (C := RX10) (T := TX10) (N := 58) in_X10 rfl (by decide) kw_469 dX10_isThere_16) ?_
  refine rx_ac (rx_sd_icmp_ge hY dX10_isThere_19 (by decide)) ?_
  refine rx_ac (rx_sd_iload_n dX10_isThere_22 rfl) ?_
  refine rx_ac (rx_sd_if_eq hY dX10_isThere_23 (by decide)) ?_
  refine rx_ac (rx_sd_aload_n dX10_isThere_26 rfl) ?_
  refine rx_ac (rx_sd_get (C := RX10) (T := TX10) (N := 58) in_X10 rfl (by decide) kw_542 dX10_isThere_27) ?_
  refine rx_ac (rx_sd_iload_n dX10_isThere_30 rfl) ?_
  refine rx_ac (rx_sd_iconst dX10_isThere_31 (by decide)) ?_
  refine rx_ac (rx_sd_iast hY ⟨rfl, rfl, rfl⟩ dX10_isThere_32) ?_
  refine rx_ac (rx_sd_iconst dX10_isThere_33 (by decide)) ?_
  refine rx_ac (rx_sd_istore (M := m_X10_isThere Y) dX10_isThere_34) ?_
  refine rx_ac (rx_sd_iload dX10_isThere_36) ?_
  refine rx_ac (rx_sd_aload_n dX10_isThere_38 rfl) ?_
  refine rx_ac (rx_sd_get (C := RX10) (T := TX10) (N := 58) in_X10 rfl (by decide) kw_469 dX10_isThere_39) ?_
  refine rx_ac (rx_sd_icmp_ge hY dX10_isThere_42 (by decide)) ?_
  refine rx_ac (rx_sd_aload_n dX10_isThere_45 rfl) ?_
  refine rx_ac (rx_sd_get (C := RX10) (T := TX10) (N := 58) in_X10 rfl (by decide) kw_475 dX10_isThere_46) ?_
  refine rx_ac (rx_sd_bipush dX10_isThere_49 (by decide)) ?_
  refine rx_ac (rx_sd_iload_n dX10_isThere_51 rfl) ?_
  refine rx_ac (rx_sd_imul dX10_isThere_52) ?_
  refine rx_ac (rx_sd_iload dX10_isThere_53) ?_
  refine rx_ac (rx_sd_iadd dX10_isThere_55) ?_
  refine rx_ac (rx_sd_iald ⟨rfl, rfl, rfl⟩ dX10_isThere_56) ?_
  refine rx_ac (rx_sd_aload_n dX10_isThere_57 rfl) ?_
  refine rx_ac (rx_sd_get (C := RX10) (T := TX10) (N := 58) in_X10 rfl (by decide) kw_476 dX10_isThere_58) ?_
  refine rx_ac (rx_sd_iload_n dX10_isThere_61 rfl) ?_
  refine rx_ac (rx_sd_iald ⟨rfl, rfl, rfl⟩ dX10_isThere_62) ?_
  refine rx_ac (rx_sd_icmp_ne hY dX10_isThere_63 (by decide)) ?_
  refine rx_ac (rx_sd_aload_n dX10_isThere_66 rfl) ?_
  refine rx_ac (rx_sd_get (C := RX10) (T := TX10) (N := 58) in_X10 rfl (by decide) kw_542 dX10_isThere_67) ?_
  refine rx_ac (rx_sd_iload_n dX10_isThere_70 rfl) ?_
  refine rx_ac (rx_sd_iload dX10_isThere_71) ?_
  refine rx_ac (rx_sd_iast hY ⟨rfl, rfl, rfl⟩ dX10_isThere_73) ?_
  refine rx_ac (rx_sd_iinc (M := m_X10_isThere Y) dX10_isThere_74 (by decide)) ?_
  refine rx_ac (rx_sd_goto dX10_isThere_77 (by decide)) ?_
  refine rx_ac (rx_sd_aload_n dX10_isThere_80 rfl) ?_
  refine rx_ac (rx_sd_get (C := RX10) (T := TX10) (N := 58) in_X10 rfl (by decide) kw_542 dX10_isThere_81) ?_
  refine rx_ac (rx_sd_iload_n dX10_isThere_84 rfl) ?_
  refine rx_ac (rx_sd_iald ⟨rfl, rfl, rfl⟩ dX10_isThere_85) ?_
  refine rx_ac (rx_sd_iconst dX10_isThere_86 (by decide)) ?_
  refine rx_ac (rx_sd_icmp_eq hY dX10_isThere_87 (by decide)) ?_
  refine rx_ac (rx_sd_iconst dX10_isThere_90 (by decide)) ?_
  refine rx_ac (rx_sd_goto dX10_isThere_91 (by decide)) ?_
  refine rx_ac (rx_sd_istore_n (M := m_X10_isThere Y) dX10_isThere_95 rfl) ?_
  refine rx_ac (rx_sd_iinc (M := m_X10_isThere Y) dX10_isThere_96 (by decide)) ?_
  refine rx_ac (rx_sd_goto dX10_isThere_99 (by decide)) ?_
  refine rx_ac (rx_sd_iconst dX10_isThere_102 (by decide)) ?_
  refine rx_ac (rx_sd_istore_n (M := m_X10_isThere Y) dX10_isThere_103 rfl) ?_
  refine rx_ac (rx_sd_iload_n dX10_isThere_104 rfl) ?_
  refine rx_ac (rx_sd_aload_n dX10_isThere_105 rfl) ?_
  refine rx_ac (rx_sd_get (C := RX10) (T := TX10) (N := 58) in_X10 rfl (by decide) kw_469 dX10_isThere_106) ?_
  refine rx_ac (rx_sd_aload_n dX10_isThere_109 rfl) ?_
  refine rx_ac (rx_sd_get (C := RX10) (T := TX10) (N := 58) in_X10 rfl (by decide) kw_470 dX10_isThere_110) ?_
  refine rx_ac (rx_sd_iadd dX10_isThere_113) ?_
  refine rx_ac (rx_sd_icmp_ge hY dX10_isThere_114 (by decide)) ?_
  refine rx_ac (rx_sd_iload_n dX10_isThere_117 rfl) ?_
  refine rx_ac (rx_sd_if_eq hY dX10_isThere_118 (by decide)) ?_
  refine rx_ac (rx_sd_iload_n dX10_isThere_121 rfl) ?_
  refine rx_ac (rx_sd_aload_n dX10_isThere_122 rfl) ?_
  refine rx_ac (rx_sd_get (C := RX10) (T := TX10) (N := 58) in_X10 rfl (by decide) kw_469 dX10_isThere_123) ?_
  refine rx_ac (rx_sd_icmp_ge hY dX10_isThere_126 (by decide)) ?_
  refine rx_ac (rx_sd_aload_n dX10_isThere_129 rfl) ?_
  refine rx_ac (rx_sd_get (C := RX10) (T := TX10) (N := 58) in_X10 rfl (by decide) kw_542 dX10_isThere_130) ?_
  refine rx_ac (rx_sd_iload_n dX10_isThere_133 rfl) ?_
  refine rx_ac (rx_sd_iald ⟨rfl, rfl, rfl⟩ dX10_isThere_134) ?_
  refine rx_ac (rx_sd_goto dX10_isThere_135 (by decide)) ?_
  refine rx_ac (rx_sd_istore (M := m_X10_isThere Y) dX10_isThere_139) ?_
  refine rx_ac (rx_sd_iconst dX10_isThere_141 (by decide)) ?_
  refine rx_ac (rx_sd_istore (M := m_X10_isThere Y) dX10_isThere_142) ?_
  refine rx_ac (rx_sd_iload dX10_isThere_144) ?_
  refine rx_ac (rx_sd_aload_n dX10_isThere_146 rfl) ?_
  refine rx_ac (rx_sd_get (C := RX10) (T := TX10) (N := 58) in_X10 rfl (by decide) kw_469 dX10_isThere_147) ?_
  refine rx_ac (rx_sd_icmp_ge hY dX10_isThere_150 (by decide)) ?_
  refine rx_ac (rx_sd_iload_n dX10_isThere_153 rfl) ?_
  refine rx_ac (rx_sd_if_eq hY dX10_isThere_154 (by decide)) ?_
  refine rx_ac (rx_sd_aload_n dX10_isThere_157 rfl) ?_
  refine rx_ac (rx_sd_get (C := RX10) (T := TX10) (N := 58) in_X10 rfl (by decide) kw_473 dX10_isThere_158) ?_
  refine rx_ac (rx_sd_bipush dX10_isThere_161 (by decide)) ?_
  refine rx_ac (rx_sd_iload_n dX10_isThere_163 rfl) ?_
  refine rx_ac (rx_sd_imul dX10_isThere_164) ?_
  refine rx_ac (rx_sd_iload dX10_isThere_165) ?_
  refine rx_ac (rx_sd_iadd dX10_isThere_167) ?_
  refine rx_ac (rx_sd_iald ⟨rfl, rfl, rfl⟩ dX10_isThere_168) ?_
  refine rx_ac (rx_sd_aload_n dX10_isThere_169 rfl) ?_
  refine rx_ac (rx_sd_get (C := RX10) (T := TX10) (N := 58) in_X10 rfl (by decide) kw_477 dX10_isThere_170) ?_
  refine rx_ac (rx_sd_bipush dX10_isThere_173 (by decide)) ?_
  refine rx_ac (rx_sd_iload_n dX10_isThere_175 rfl) ?_
  refine rx_ac (rx_sd_imul dX10_isThere_176) ?_
  refine rx_ac (rx_sd_bipush dX10_isThere_177 (by decide)) ?_
  refine rx_ac (rx_sd_iload dX10_isThere_179) ?_
  refine rx_ac (rx_sd_imul dX10_isThere_181) ?_
  refine rx_ac (rx_sd_iadd dX10_isThere_182) ?_
  refine rx_ac (rx_sd_aload_n dX10_isThere_183 rfl) ?_
  refine rx_ac (rx_sd_get (C := RX10) (T := TX10) (N := 58) in_X10 rfl (by decide) kw_542 dX10_isThere_184) ?_
  refine rx_ac (rx_sd_iload dX10_isThere_187) ?_
  refine rx_ac (rx_sd_iald ⟨rfl, rfl, rfl⟩ dX10_isThere_189) ?_
  refine rx_ac (rx_sd_iadd dX10_isThere_190) ?_
  refine rx_ac (rx_sd_iald ⟨rfl, rfl, rfl⟩ dX10_isThere_191) ?_
  refine rx_ac (rx_sd_icmp_ne hY dX10_isThere_192 (by decide)) ?_
  refine rx_ac (rx_sd_iconst dX10_isThere_195 (by decide)) ?_
  refine rx_ac (rx_sd_goto dX10_isThere_196 (by decide)) ?_
  refine rx_ac (rx_sd_istore_n (M := m_X10_isThere Y) dX10_isThere_200 rfl) ?_
  refine rx_ac (rx_sd_iinc (M := m_X10_isThere Y) dX10_isThere_201 (by decide)) ?_
  refine rx_ac (rx_sd_goto dX10_isThere_204 (by decide)) ?_
  refine rx_ac (rx_sd_iinc (M := m_X10_isThere Y) dX10_isThere_207 (by decide)) ?_
  refine rx_ac (rx_sd_goto dX10_isThere_210 (by decide)) ?_
  refine rx_ac (rx_sd_iload_n dX10_isThere_213 rfl) ?_
  refine rx_ac (rx_sd_if_eq hY dX10_isThere_214 (by decide)) ?_
  refine rx_ac (rx_sd_iconst dX10_isThere_217 (by decide)) ?_
  refine rx_ac (rx_sd_retI (M := m_X10_isThere Y) rfl (Or.inr rfl) dX10_isThere_218) ?_
  exact rx_an
