set_option maxRecDepth 100000 in
set_option maxHeartbeats 4000000 in
theorem s_J6_signum_0f7a4 {l : Launch} {D : va_G} {cy : Nat → ClassId} {σ : Nat → Int32} : ∀ q ∈ p_J6_signum_0f7a4, rx_Sd (gG l D cy σ) mt m_J6_signum_0f7a4 q.1 q.2 :=
  ck_all (H := h_J6_signum_0f7a4) (P := o_J6_signum_0f7a4) rfl rfl rfl rfl rfl rfl (by decide +kernel) <|
  o_an
set_option maxRecDepth 100000 in
set_option maxHeartbeats 4000000 in
theorem s_J7_fill_53178 {l : Launch} {D : va_G} {cy : Nat → ClassId} {σ : Nat → Int32} : ∀ q ∈ p_J7_fill_53178, rx_Sd (gG l D cy σ) mt m_J7_fill_53178 q.1 q.2 :=
  ck_all (H := h_J7_fill_53178) (P := o_J7_fill_53178) rfl rfl rfl rfl rfl rfl (by decide +kernel) <|
  o_an
set_option maxRecDepth 100000 in
set_option maxHeartbeats 4000000 in
theorem s_J7_fill_d0a16 {l : Launch} {D : va_G} {cy : Nat → ClassId} {σ : Nat → Int32} : ∀ q ∈ p_J7_fill_d0a16, rx_Sd (gG l D cy σ) mt m_J7_fill_d0a16 q.1 q.2 :=
  ck_all (H := h_J7_fill_d0a16) (P := o_J7_fill_d0a16) rfl rfl rfl rfl rfl rfl (by decide +kernel) <|
  o_an
set_option maxRecDepth 100000 in
set_option maxHeartbeats 4000000 in
theorem s_J13_bitCount_95d88 {l : Launch} {D : va_G} {cy : Nat → ClassId} {σ : Nat → Int32} : ∀ q ∈ p_J13_bitCount_95d88, rx_Sd (gG l D cy σ) mt m_J13_bitCount_95d88 q.1 q.2 :=
  ck_all (H := h_J13_bitCount_95d88) (P := o_J13_bitCount_95d88) rfl rfl rfl rfl rfl rfl (by decide +kernel) <|
  o_an
set_option maxRecDepth 100000 in
set_option maxHeartbeats 4000000 in
theorem s_X0_arrive {l : Launch} {D : va_G} {cy : Nat → ClassId} {σ : Nat → Int32} : ∀ q ∈ p_X0_arrive, rx_Sd (gG l D cy σ) mt m_X0_arrive q.1 q.2 :=
  ck_all (H := h_X0_arrive) (P := o_X0_arrive) rfl rfl rfl rfl rfl rfl (by decide +kernel) <|
  o_ac (rx_sd_cl (M := m_X0_arrive) (rx_lk_V gok (mid := 8) (ci := 0) (C := (RX0, TX0, 18)) ⟨kw_0, kw_1, hd_X0_gatherLetters, Nat.le_of_ble_eq_true rfl, Nat.le_of_ble_eq_true rfl⟩ rfl kw_2 kw_3 kw_4 (by decide +kernel)) (fun _ => ⟨_, rfl⟩) rfl rfl) <|
  o_ac (rx_sd_cl (M := m_X0_arrive) (rx_lk_V gok (mid := 13) (ci := 0) (C := (RX0, TX0, 18)) ⟨kw_5, kw_1, hd_X0_rowOf, Nat.le_of_ble_eq_true rfl, Nat.le_of_ble_eq_true rfl⟩ rfl kw_6 kw_7 kw_8 (by decide +kernel)) (fun _ => ⟨_, rfl⟩) rfl rfl) <|
  o_ac (rx_sd_cl (M := m_X0_arrive) (rx_lk_V gok (mid := 5) (ci := 0) (C := (RX0, TX0, 18)) ⟨kw_9, kw_1, hd_X0_enter, Nat.le_of_ble_eq_true rfl, Nat.le_of_ble_eq_true rfl⟩ rfl kw_10 kw_11 kw_12 (by decide +kernel)) (fun _ => ⟨_, rfl⟩) rfl rfl) <|
  o_an
set_option maxRecDepth 100000 in
set_option maxHeartbeats 4000000 in
theorem s_X0_enter {l : Launch} {D : va_G} {cy : Nat → ClassId} {σ : Nat → Int32} : ∀ q ∈ p_X0_enter, rx_Sd (gG l D cy σ) mt m_X0_enter q.1 q.2 :=
  ck_all (H := h_X0_enter) (P := o_X0_enter) rfl rfl rfl rfl rfl rfl (by decide +kernel) <|
  o_ac (rx_sd_cpI (M := m_X0_enter) ⟨rfl, rfl, rfl⟩ kw_13 kw_14 kw_15 kw_16 (Nat.le_of_ble_eq_true rfl) (by decide +kernel)) <|
  o_an
set_option maxRecDepth 100000 in
set_option maxHeartbeats 4000000 in
theorem s_X0_enterFirst {l : Launch} {D : va_G} {cy : Nat → ClassId} {σ : Nat → Int32} : ∀ q ∈ p_X0_enterFirst, rx_Sd (gG l D cy σ) mt m_X0_enterFirst q.1 q.2 :=
  ck_all (H := h_X0_enterFirst) (P := o_X0_enterFirst) rfl rfl rfl rfl rfl rfl (by decide +kernel) <|
  o_ac (rx_sd_cpI (M := m_X0_enterFirst) ⟨rfl, rfl, rfl⟩ kw_13 kw_14 kw_15 kw_16 (Nat.le_of_ble_eq_true rfl) (by decide +kernel)) <|
  o_ac (rx_sd_cl (M := m_X0_enterFirst) (rx_lk_V gok (mid := 11) (ci := 0) (C := (RX0, TX0, 18)) ⟨kw_17, kw_1, hd_X0_numberOf, Nat.le_of_ble_eq_true rfl, Nat.le_of_ble_eq_true rfl⟩ rfl kw_18 kw_19 kw_20 (by decide +kernel)) (fun _ => ⟨_, rfl⟩) rfl rfl) <|
  o_ac (rx_sd_cl (M := m_X0_enterFirst) (rx_lk_V gok (mid := 8) (ci := 0) (C := (RX0, TX0, 18)) ⟨kw_0, kw_1, hd_X0_gatherLetters, Nat.le_of_ble_eq_true rfl, Nat.le_of_ble_eq_true rfl⟩ rfl kw_2 kw_3 kw_4 (by decide +kernel)) (fun _ => ⟨_, rfl⟩) rfl rfl) <|
  o_ac (rx_sd_cl (M := m_X0_enterFirst) (rx_lk_V gok (mid := 5) (ci := 0) (C := (RX0, TX0, 18)) ⟨kw_9, kw_1, hd_X0_enter, Nat.le_of_ble_eq_true rfl, Nat.le_of_ble_eq_true rfl⟩ rfl kw_10 kw_11 kw_12 (by decide +kernel)) (fun _ => ⟨_, rfl⟩) rfl rfl) <|
  o_an
set_option maxRecDepth 100000 in
set_option maxHeartbeats 4000000 in
theorem s_X0_explore {l : Launch} {D : va_G} {cy : Nat → ClassId} {σ : Nat → Int32} : ∀ q ∈ p_X0_explore, rx_Sd (gG l D cy σ) mt m_X0_explore q.1 q.2 :=
  ck_all (H := h_X0_explore) (P := o_X0_explore) rfl rfl rfl rfl rfl rfl (by decide +kernel) <|
  o_ac (rx_sd_cl (M := m_X0_explore) (rx_lk_V gok (mid := 6) (ci := 0) (C := (RX0, TX0, 18)) ⟨kw_21, kw_1, hd_X0_enterFirst, Nat.le_of_ble_eq_true rfl, Nat.le_of_ble_eq_true rfl⟩ rfl kw_22 kw_23 kw_24 (by decide +kernel)) (fun _ => ⟨_, rfl⟩) rfl rfl) <|
  o_ac (rx_sd_cl (M := m_X0_explore) (rx_lk_V gok (mid := 10) (ci := 0) (C := (RX0, TX0, 18)) ⟨kw_25, kw_1, hd_X0_load, Nat.le_of_ble_eq_true rfl, Nat.le_of_ble_eq_true rfl⟩ rfl kw_26 kw_27 kw_28 (by decide +kernel)) (fun _ => ⟨_, rfl⟩) rfl rfl) <|
  o_ac (rx_sd_cl (M := m_X0_explore) (rx_lk_V gok (mid := 42) (ci := 5) (C := (RX5, TX5, 7)) ⟨kw_29, kw_30, hd_X5_exchange, Nat.le_of_ble_eq_true rfl, Nat.le_of_ble_eq_true rfl⟩ rfl kw_31 kw_32 kw_33 (by decide +kernel)) (fun _ => ⟨_, rfl⟩) rfl rfl) <|
  o_ac (rx_sd_cl (M := m_X0_explore) (rx_lk_SN gok (host := "SeedBench") (mid := 116) ⟨kw_34, kw_35, hd_X9_turnTable, Nat.le_of_ble_eq_true rfl, Nat.le_of_ble_eq_true rfl⟩ (List.mem_of_getElem? (i := 12) rfl) kw_36 (by decide +kernel)) (fun h => nomatch h) rfl rfl) <|
  o_ac (rx_sd_cl (M := m_X0_explore) (rx_lk_V gok (mid := 11) (ci := 0) (C := (RX0, TX0, 18)) ⟨kw_17, kw_1, hd_X0_numberOf, Nat.le_of_ble_eq_true rfl, Nat.le_of_ble_eq_true rfl⟩ rfl kw_18 kw_19 kw_20 (by decide +kernel)) (fun _ => ⟨_, rfl⟩) rfl rfl) <|
  o_ac (rx_sd_cl (M := m_X0_explore) (rx_lk_V gok (mid := 4) (ci := 0) (C := (RX0, TX0, 18)) ⟨kw_37, kw_1, hd_X0_arrive, Nat.le_of_ble_eq_true rfl, Nat.le_of_ble_eq_true rfl⟩ rfl kw_38 kw_39 kw_40 (by decide +kernel)) (fun _ => ⟨_, rfl⟩) rfl rfl) <|
  o_ac (rx_sd_cl (M := m_X0_explore) (rx_lk_V gok (mid := 12) (ci := 0) (C := (RX0, TX0, 18)) ⟨kw_41, kw_1, hd_X0_remember, Nat.le_of_ble_eq_true rfl, Nat.le_of_ble_eq_true rfl⟩ rfl kw_42 kw_43 kw_44 (by decide +kernel)) (fun _ => ⟨_, rfl⟩) rfl rfl) <|
  o_an
set_option maxRecDepth 100000 in
set_option maxHeartbeats 4000000 in
theorem s_X0_gatherLetters {l : Launch} {D : va_G} {cy : Nat → ClassId} {σ : Nat → Int32} : ∀ q ∈ p_X0_gatherLetters, rx_Sd (gG l D cy σ) mt m_X0_gatherLetters q.1 q.2 :=
  ck_all (H := h_X0_gatherLetters) (P := o_X0_gatherLetters) rfl rfl rfl rfl rfl rfl (by decide +kernel) <|
  o_an
set_option maxRecDepth 100000 in
set_option maxHeartbeats 4000000 in
theorem s_X0_init {l : Launch} {D : va_G} {cy : Nat → ClassId} {σ : Nat → Int32} : ∀ q ∈ p_X0_init, rx_Sd (gG l D cy σ) mt m_X0_init q.1 q.2 :=
  rx_ac (rx_sd_aload_n dX0_init_0 rfl) <|
  rx_ac (rx_sd_obj (M := m_X0_init) kw_45 kw_46 kw_objcode (Nat.le_of_ble_eq_true rfl) dX0_init_1) <|
  rx_ac (rx_sd_aload_n dX0_init_4 rfl) <|
  rx_ac (rx_sd_bipush dX0_init_5 (by decide)) <|
  rx_ac (rx_sd_newq (M := m_X0_init) (t := 2) (C := "SeedBench$Share") rfl (List.mem_of_getElem? (i := 2) rfl) kw_47 dX0_init_7) <|
  rx_ac (rx_sd_putf (C := RX0) (T := TX0) (N := 18) (ty0 := tyX0) in_X0 tyX0_ok nmX0 rfl (by decide) kw_48 (Or.inr ⟨rfl, rfl, rfl⟩) rfl dX0_init_10) <|
  rx_ac (rx_sd_aload_n dX0_init_13 rfl) <|
  rx_ac (rx_sd_sipush dX0_init_14 (by decide)) <|
  rx_ac (rx_sd_newI (M := m_X0_init) ⟨rfl, rfl, rfl⟩ kw_49 rfl dX0_init_17) <|
  rx_ac (rx_sd_putf (C := RX0) (T := TX0) (N := 18) (ty0 := tyX0) in_X0 tyX0_ok nmX0 rfl (by decide) kw_50 (Or.inr ⟨rfl, rfl, rfl⟩) rfl dX0_init_19) <|
  rx_ac (rx_sd_aload_n dX0_init_22 rfl) <|
  rx_ac (rx_sd_sipush dX0_init_23 (by decide)) <|
  rx_ac (rx_sd_newZ (M := m_X0_init) ⟨rfl, rfl, rfl⟩ kw_51 rfl dX0_init_26) <|
  rx_ac (rx_sd_putf (C := RX0) (T := TX0) (N := 18) (ty0 := tyX0) in_X0 tyX0_ok nmX0 rfl (by decide) kw_52 (Or.inr ⟨rfl, rfl, rfl⟩) rfl dX0_init_28) <|
  rx_ac (rx_sd_aload_n dX0_init_31 rfl) <|
  rx_ac (rx_sd_sipush dX0_init_32 (by decide)) <|
  rx_ac (rx_sd_newI (M := m_X0_init) ⟨rfl, rfl, rfl⟩ kw_49 rfl dX0_init_35) <|
  rx_ac (rx_sd_putf (C := RX0) (T := TX0) (N := 18) (ty0 := tyX0) in_X0 tyX0_ok nmX0 rfl (by decide) kw_53 (Or.inr ⟨rfl, rfl, rfl⟩) rfl dX0_init_37) <|
  rx_ac (rx_sd_aload_n dX0_init_40 rfl) <|
  rx_ac (rx_sd_sipush dX0_init_41 (by decide)) <|
  rx_ac (rx_sd_newL (M := m_X0_init) ⟨rfl, rfl, rfl⟩ kw_54 rfl dX0_init_44) <|
  rx_ac (rx_sd_putf (C := RX0) (T := TX0) (N := 18) (ty0 := tyX0) in_X0 tyX0_ok nmX0 rfl (by decide) kw_55 (Or.inr ⟨rfl, rfl, rfl⟩) rfl dX0_init_46) <|
  rx_ac (rx_sd_aload_n dX0_init_49 rfl) <|
  rx_ac (rx_sd_sipush dX0_init_50 (by decide)) <|
  rx_ac (rx_sd_newL (M := m_X0_init) ⟨rfl, rfl, rfl⟩ kw_54 rfl dX0_init_53) <|
  rx_ac (rx_sd_putf (C := RX0) (T := TX0) (N := 18) (ty0 := tyX0) in_X0 tyX0_ok nmX0 rfl (by decide) kw_56 (Or.inr ⟨rfl, rfl, rfl⟩) rfl dX0_init_55) <|
  rx_ac (rx_sd_aload_n dX0_init_58 rfl) <|
  rx_ac (rx_sd_new (M := m_X0_init) (C := RX7) (T := TX7) (N := 6) (ty := tyX7) in_X7 tyX7_ok rfl kw_57 kw_58 kw_59 df_X7 rfl (cs_X7 σ) dX0_init_59) <|
  rx_ac (rx_sd_dup dX0_init_62) <|
  rx_ac (rx_sd_cl (M := m_X0_init) (rx_lk_I gok (mid := 69) (ci := 7) (C := (RX7, TX7, 6)) ⟨kw_60, kw_59, hd_X7_init, Nat.le_of_ble_eq_true rfl, Nat.le_of_ble_eq_true rfl⟩ rfl rfl kw_61 kw_62 rfl dX0_init_63) (fun _ => ⟨_, rfl⟩) rfl rfl) <|
  rx_ac (rx_sd_putf (C := RX0) (T := TX0) (N := 18) (ty0 := tyX0) in_X0 tyX0_ok nmX0 rfl (by decide) kw_63 (Or.inr ⟨rfl, rfl, rfl⟩) rfl dX0_init_66) <|
  rx_ac (rx_sd_aload_n dX0_init_69 rfl) <|
  rx_ac (rx_sd_bipush dX0_init_70 (by decide)) <|
  rx_ac (rx_sd_newI (M := m_X0_init) ⟨rfl, rfl, rfl⟩ kw_49 rfl dX0_init_72) <|
  rx_ac (rx_sd_putf (C := RX0) (T := TX0) (N := 18) (ty0 := tyX0) in_X0 tyX0_ok nmX0 rfl (by decide) kw_64 (Or.inr ⟨rfl, rfl, rfl⟩) rfl dX0_init_74) <|
  rx_ac (rx_sd_aload_n dX0_init_77 rfl) <|
  rx_ac (rx_sd_bipush dX0_init_78 (by decide)) <|
  rx_ac (rx_sd_newI (M := m_X0_init) ⟨rfl, rfl, rfl⟩ kw_49 rfl dX0_init_80) <|
  rx_ac (rx_sd_putf (C := RX0) (T := TX0) (N := 18) (ty0 := tyX0) in_X0 tyX0_ok nmX0 rfl (by decide) kw_65 (Or.inr ⟨rfl, rfl, rfl⟩) rfl dX0_init_82) <|
  rx_ac (rx_sd_aload_n dX0_init_85 rfl) <|
  rx_ac (rx_sd_iconst dX0_init_86 (by decide)) <|
  rx_ac (rx_sd_putf (C := RX0) (T := TX0) (N := 18) (ty0 := tyX0) in_X0 tyX0_ok nmX0 rfl (by decide) kw_66 (Or.inl rfl) rfl dX0_init_87) <|
  rx_ac (rx_sd_aload_n dX0_init_90 rfl) <|
  rx_ac (rx_sd_bipush dX0_init_91 (by decide)) <|
  rx_ac (rx_sd_newI (M := m_X0_init) ⟨rfl, rfl, rfl⟩ kw_49 rfl dX0_init_93) <|
  rx_ac (rx_sd_putf (C := RX0) (T := TX0) (N := 18) (ty0 := tyX0) in_X0 tyX0_ok nmX0 rfl (by decide) kw_67 (Or.inr ⟨rfl, rfl, rfl⟩) rfl dX0_init_95) <|
  rx_ac (rx_sd_aload_n dX0_init_98 rfl) <|
  rx_ac (rx_sd_bipush dX0_init_99 (by decide)) <|
  rx_ac (rx_sd_newL (M := m_X0_init) ⟨rfl, rfl, rfl⟩ kw_54 rfl dX0_init_101) <|
  rx_ac (rx_sd_putf (C := RX0) (T := TX0) (N := 18) (ty0 := tyX0) in_X0 tyX0_ok nmX0 rfl (by decide) kw_68 (Or.inr ⟨rfl, rfl, rfl⟩) rfl dX0_init_103) <|
  rx_ac (rx_sd_aload_n dX0_init_106 rfl) <|
  rx_ac (rx_sd_sipush dX0_init_107 (by decide)) <|
  rx_ac (rx_sd_newI (M := m_X0_init) ⟨rfl, rfl, rfl⟩ kw_49 rfl dX0_init_110) <|
  rx_ac (rx_sd_putf (C := RX0) (T := TX0) (N := 18) (ty0 := tyX0) in_X0 tyX0_ok nmX0 rfl (by decide) kw_69 (Or.inr ⟨rfl, rfl, rfl⟩) rfl dX0_init_112) <|
  rx_ac (rx_sd_iconst dX0_init_115 (by decide)) <|
  rx_ac (rx_sd_istore_n (M := m_X0_init) dX0_init_116 rfl) <|
  rx_ac (rx_sd_iload_n dX0_init_117 rfl) <|
  rx_ac (rx_sd_bipush dX0_init_118 (by decide)) <|
  rx_ac (rx_sd_icmp_ge (Yo_ok _) dX0_init_120 (by decide)) <|
  rx_ac (rx_sd_aload_n dX0_init_123 rfl) <|
  rx_ac (rx_sd_get (C := RX0) (T := TX0) (N := 18) in_X0 rfl (by decide) kw_48 dX0_init_124) <|
  rx_ac (rx_sd_iload_n dX0_init_127 rfl) <|
  rx_ac (rx_sd_new (M := m_X0_init) (C := RX8) (T := TX8) (N := 4) (ty := tyX8) in_X8 tyX8_ok rfl kw_47 kw_70 kw_71 df_X8 rfl (cs_X8 σ) dX0_init_128) <|
  rx_ac (rx_sd_dup dX0_init_131) <|
  rx_ac (rx_sd_cl (M := m_X0_init) (rx_lk_IN gok (host := "SeedBench") (mid := 79) (ci := 8) (C := (RX8, TX8, 4)) ⟨kw_72, kw_71, hd_X8_init, Nat.le_of_ble_eq_true rfl, Nat.le_of_ble_eq_true rfl⟩ rfl rfl (List.mem_of_getElem? (i := 4) rfl) kw_73 rfl dX0_init_132) (fun _ => ⟨_, rfl⟩) rfl rfl) <|
  rx_ac (rx_sd_aast (t := 2) (ci := 8) (C := (RX8, TX8, 4)) rfl rfl dX0_init_135) <|
  rx_ac (rx_sd_iinc (M := m_X0_init) dX0_init_136 (by decide)) <|
  rx_ac (rx_sd_goto dX0_init_139 (by decide)) <|
  rx_ac (rx_sd_ret0 (M := m_X0_init) rfl dX0_init_142) <|
  rx_an
set_option maxRecDepth 100000 in
set_option maxHeartbeats 4000000 in
theorem s_X0_load {l : Launch} {D : va_G} {cy : Nat → ClassId} {σ : Nat → Int32} : ∀ q ∈ p_X0_load, rx_Sd (gG l D cy σ) mt m_X0_load q.1 q.2 :=
  ck_all (H := h_X0_load) (P := o_X0_load) rfl rfl rfl rfl rfl rfl (by decide +kernel) <|
  o_ac (rx_sd_cpI (M := m_X0_load) ⟨rfl, rfl, rfl⟩ kw_13 kw_14 kw_15 kw_16 (Nat.le_of_ble_eq_true rfl) (by decide +kernel)) <|
  o_an
set_option maxRecDepth 100000 in
set_option maxHeartbeats 4000000 in
theorem s_X0_numberOf {l : Launch} {D : va_G} {cy : Nat → ClassId} {σ : Nat → Int32} : ∀ q ∈ p_X0_numberOf, rx_Sd (gG l D cy σ) mt m_X0_numberOf q.1 q.2 :=
  ck_all (H := h_X0_numberOf) (P := o_X0_numberOf) rfl rfl rfl rfl rfl rfl (by decide +kernel) <|
  o_ac (rx_sd_cl (M := m_X0_numberOf) (rx_lk_V gok (mid := 80) (ci := 8) (C := (RX8, TX8, 4)) ⟨kw_74, kw_71, hd_X8_isLike, Nat.le_of_ble_eq_true rfl, Nat.le_of_ble_eq_true rfl⟩ rfl kw_75 kw_76 kw_77 (by decide +kernel)) (fun _ => ⟨_, rfl⟩) rfl rfl) <|
  o_ac (rx_sd_cl (M := m_X0_numberOf) (rx_lk_V gok (mid := 76) (ci := 8) (C := (RX8, TX8, 4)) ⟨kw_78, kw_71, hd_X8_copyFrom, Nat.le_of_ble_eq_true rfl, Nat.le_of_ble_eq_true rfl⟩ rfl kw_79 kw_80 kw_81 (by decide +kernel)) (fun _ => ⟨_, rfl⟩) rfl rfl) <|
  o_an
set_option maxRecDepth 100000 in
set_option maxHeartbeats 4000000 in
theorem s_X0_remember {l : Launch} {D : va_G} {cy : Nat → ClassId} {σ : Nat → Int32} : ∀ q ∈ p_X0_remember, rx_Sd (gG l D cy σ) mt m_X0_remember q.1 q.2 :=
  ck_all (H := h_X0_remember) (P := o_X0_remember) rfl rfl rfl rfl rfl rfl (by decide +kernel) <|
  o_ac (rx_sd_cl (M := m_X0_remember) (rx_lk_V gok (mid := 82) (ci := 8) (C := (RX8, TX8, 4)) ⟨kw_82, kw_71, hd_X8_sum, Nat.le_of_ble_eq_true rfl, Nat.le_of_ble_eq_true rfl⟩ rfl kw_83 kw_84 kw_85 (by decide +kernel)) (fun _ => ⟨_, rfl⟩) rfl rfl) <|
  o_ac (rx_sd_cl (M := m_X0_remember) (rx_lk_V gok (mid := 81) (ci := 8) (C := (RX8, TX8, 4)) ⟨kw_86, kw_71, hd_X8_leastPower, Nat.le_of_ble_eq_true rfl, Nat.le_of_ble_eq_true rfl⟩ rfl kw_87 kw_88 kw_89 (by decide +kernel)) (fun _ => ⟨_, rfl⟩) rfl rfl) <|
  o_an
set_option maxRecDepth 100000 in
set_option maxHeartbeats 4000000 in
theorem s_X0_rowOf {l : Launch} {D : va_G} {cy : Nat → ClassId} {σ : Nat → Int32} : ∀ q ∈ p_X0_rowOf, rx_Sd (gG l D cy σ) mt m_X0_rowOf q.1 q.2 :=
  ck_all (H := h_X0_rowOf) (P := o_X0_rowOf) rfl rfl rfl rfl rfl rfl (by decide +kernel) <|
  o_ac (rx_sd_cl (M := m_X0_rowOf) (rx_lk_V gok (mid := 14) (ci := 0) (C := (RX0, TX0, 18)) ⟨kw_90, kw_1, hd_X0_seatsMap, Nat.le_of_ble_eq_true rfl, Nat.le_of_ble_eq_true rfl⟩ rfl kw_91 kw_92 kw_93 (by decide +kernel)) (fun _ => ⟨_, rfl⟩) rfl rfl) <|
  o_ac (rx_sd_cl (M := m_X0_rowOf) (rx_lk_V gok (mid := 68) (ci := 7) (C := (RX7, TX7, 6)) ⟨kw_94, kw_59, hd_X7_hasTable, Nat.le_of_ble_eq_true rfl, Nat.le_of_ble_eq_true rfl⟩ rfl kw_95 kw_96 kw_97 (by decide +kernel)) (fun _ => ⟨_, rfl⟩) rfl rfl) <|
  o_an
set_option maxRecDepth 100000 in
set_option maxHeartbeats 4000000 in
theorem s_X0_seatsMap {l : Launch} {D : va_G} {cy : Nat → ClassId} {σ : Nat → Int32} : ∀ q ∈ p_X0_seatsMap, rx_Sd (gG l D cy σ) mt m_X0_seatsMap q.1 q.2 :=
  ck_all (H := h_X0_seatsMap) (P := o_X0_seatsMap) rfl rfl rfl rfl rfl rfl (by decide +kernel) <|
  o_an
set_option maxRecDepth 100000 in
set_option maxHeartbeats 4000000 in
theorem s_X0_tell {l : Launch} {D : va_G} {cy : Nat → ClassId} {σ : Nat → Int32} : ∀ q ∈ p_X0_tell, rx_Sd (gG l D cy σ) mt m_X0_tell q.1 q.2 :=
  ck_all (H := h_X0_tell) (P := o_X0_tell) rfl rfl rfl rfl rfl rfl (by decide +kernel) <|
  o_an
set_option maxRecDepth 100000 in
set_option maxHeartbeats 4000000 in
theorem s_X1_clear {l : Launch} {D : va_G} {cy : Nat → ClassId} {σ : Nat → Int32} : ∀ q ∈ p_X1_clear, rx_Sd (gG l D cy σ) mt m_X1_clear q.1 q.2 :=
  ck_all (H := h_X1_clear) (P := o_X1_clear) rfl rfl rfl rfl rfl rfl (by decide +kernel) <|
  o_ac (rx_sd_cl (M := m_X1_clear) (rx_lk_S gok (mid := 1) ⟨kw_98, kw_99, hd_J7_fill_53178, Nat.le_of_ble_eq_true rfl, Nat.le_of_ble_eq_true rfl⟩ kw_100 kw_101 (by decide +kernel)) (fun h => nomatch h) rfl rfl) <|
  o_an
set_option maxRecDepth 100000 in
set_option maxHeartbeats 4000000 in
theorem s_X1_enter {l : Launch} {D : va_G} {cy : Nat → ClassId} {σ : Nat → Int32} : ∀ q ∈ p_X1_enter, rx_Sd (gG l D cy σ) mt m_X1_enter q.1 q.2 :=
  ck_all (H := h_X1_enter) (P := o_X1_enter) rfl rfl rfl rfl rfl rfl (by decide +kernel) <|
  o_ac (rx_sd_cl (M := m_X1_enter) (rx_lk_V gok (mid := 20) (ci := 1) (C := (RX1, TX1, 6)) ⟨kw_102, kw_103, hd_X1_slotOf, Nat.le_of_ble_eq_true rfl, Nat.le_of_ble_eq_true rfl⟩ rfl kw_104 kw_105 kw_106 (by decide +kernel)) (fun _ => ⟨_, rfl⟩) rfl rfl) <|
  o_an
set_option maxRecDepth 100000 in
set_option maxHeartbeats 4000000 in
theorem s_X1_find {l : Launch} {D : va_G} {cy : Nat → ClassId} {σ : Nat → Int32} : ∀ q ∈ p_X1_find, rx_Sd (gG l D cy σ) mt m_X1_find q.1 q.2 :=
  ck_all (H := h_X1_find) (P := o_X1_find) rfl rfl rfl rfl rfl rfl (by decide +kernel) <|
  o_ac (rx_sd_cl (M := m_X1_find) (rx_lk_V gok (mid := 20) (ci := 1) (C := (RX1, TX1, 6)) ⟨kw_102, kw_103, hd_X1_slotOf, Nat.le_of_ble_eq_true rfl, Nat.le_of_ble_eq_true rfl⟩ rfl kw_104 kw_105 kw_106 (by decide +kernel)) (fun _ => ⟨_, rfl⟩) rfl rfl) <|
  o_an
set_option maxRecDepth 100000 in
set_option maxHeartbeats 4000000 in
theorem s_X1_init {l : Launch} {D : va_G} {cy : Nat → ClassId} {σ : Nat → Int32} : ∀ q ∈ p_X1_init, rx_Sd (gG l D cy σ) mt m_X1_init q.1 q.2 :=
  rx_ac (rx_sd_aload_n dX1_init_0 rfl) <|
  rx_ac (rx_sd_obj (M := m_X1_init) kw_107 kw_46 kw_objcode (Nat.le_of_ble_eq_true rfl) dX1_init_1) <|
  rx_ac (rx_sd_aload_n dX1_init_4 rfl) <|
  rx_ac (rx_sd_sipush dX1_init_5 (by decide)) <|
  rx_ac (rx_sd_newL (M := m_X1_init) ⟨rfl, rfl, rfl⟩ kw_54 rfl dX1_init_8) <|
  rx_ac (rx_sd_putf (C := RX1) (T := TX1) (N := 6) (ty0 := tyX1) in_X1 tyX1_ok nmX1 rfl (by decide) kw_108 (Or.inr ⟨rfl, rfl, rfl⟩) rfl dX1_init_10) <|
  rx_ac (rx_sd_aload_n dX1_init_13 rfl) <|
  rx_ac (rx_sd_sipush dX1_init_14 (by decide)) <|
  rx_ac (rx_sd_newL (M := m_X1_init) ⟨rfl, rfl, rfl⟩ kw_54 rfl dX1_init_17) <|
  rx_ac (rx_sd_putf (C := RX1) (T := TX1) (N := 6) (ty0 := tyX1) in_X1 tyX1_ok nmX1 rfl (by decide) kw_109 (Or.inr ⟨rfl, rfl, rfl⟩) rfl dX1_init_19) <|
  rx_ac (rx_sd_aload_n dX1_init_22 rfl) <|
  rx_ac (rx_sd_sipush dX1_init_23 (by decide)) <|
  rx_ac (rx_sd_newI (M := m_X1_init) ⟨rfl, rfl, rfl⟩ kw_49 rfl dX1_init_26) <|
  rx_ac (rx_sd_putf (C := RX1) (T := TX1) (N := 6) (ty0 := tyX1) in_X1 tyX1_ok nmX1 rfl (by decide) kw_110 (Or.inr ⟨rfl, rfl, rfl⟩) rfl dX1_init_28) <|
  rx_ac (rx_sd_aload_n dX1_init_31 rfl) <|
  rx_ac (rx_sd_sipush dX1_init_32 (by decide)) <|
  rx_ac (rx_sd_newI (M := m_X1_init) ⟨rfl, rfl, rfl⟩ kw_49 rfl dX1_init_35) <|
  rx_ac (rx_sd_putf (C := RX1) (T := TX1) (N := 6) (ty0 := tyX1) in_X1 tyX1_ok nmX1 rfl (by decide) kw_111 (Or.inr ⟨rfl, rfl, rfl⟩) rfl dX1_init_37) <|
  rx_ac (rx_sd_aload_n dX1_init_40 rfl) <|
  rx_ac (rx_sd_sipush dX1_init_41 (by decide)) <|
  rx_ac (rx_sd_newI (M := m_X1_init) ⟨rfl, rfl, rfl⟩ kw_49 rfl dX1_init_44) <|
  rx_ac (rx_sd_putf (C := RX1) (T := TX1) (N := 6) (ty0 := tyX1) in_X1 tyX1_ok nmX1 rfl (by decide) kw_112 (Or.inr ⟨rfl, rfl, rfl⟩) rfl dX1_init_46) <|
  rx_ac (rx_sd_ret0 (M := m_X1_init) rfl dX1_init_49) <|
  rx_an
set_option maxRecDepth 100000 in
set_option maxHeartbeats 4000000 in
theorem s_X1_slotOf {l : Launch} {D : va_G} {cy : Nat → ClassId} {σ : Nat → Int32} : ∀ q ∈ p_X1_slotOf, rx_Sd (gG l D cy σ) mt m_X1_slotOf q.1 q.2 :=
  ck_all (H := h_X1_slotOf) (P := o_X1_slotOf) rfl rfl rfl rfl rfl rfl (by decide +kernel) <|
  o_an
set_option maxRecDepth 100000 in
set_option maxHeartbeats 4000000 in
theorem s_X2_fault {l : Launch} {D : va_G} {cy : Nat → ClassId} {σ : Nat → Int32} : ∀ q ∈ p_X2_fault, rx_Sd (gG l D cy σ) mt m_X2_fault q.1 q.2 :=
  ck_all (H := h_X2_fault) (P := o_X2_fault) rfl rfl rfl rfl rfl rfl (by decide +kernel) <|
  o_ac (rx_sd_cl (M := m_X2_fault) (rx_lk_S gok (mid := 0) ⟨kw_113, kw_114, hd_J6_signum_0f7a4, Nat.le_of_ble_eq_true rfl, Nat.le_of_ble_eq_true rfl⟩ kw_115 kw_116 (by decide +kernel)) (fun h => nomatch h) rfl rfl) <|
  o_ac (rx_sd_cl (M := m_X2_fault) (rx_lk_S gok (mid := 0) ⟨kw_113, kw_114, hd_J6_signum_0f7a4, Nat.le_of_ble_eq_true rfl, Nat.le_of_ble_eq_true rfl⟩ kw_115 kw_116 (by decide +kernel)) (fun h => nomatch h) rfl rfl) <|
  o_ac (rx_sd_cl (M := m_X2_fault) (rx_lk_V gok (mid := 22) (ci := 2) (C := (RX2, TX2, 5)) ⟨kw_117, kw_118, hd_X2_findSizes, Nat.le_of_ble_eq_true rfl, Nat.le_of_ble_eq_true rfl⟩ rfl kw_119 kw_120 kw_121 (by decide +kernel)) (fun _ => ⟨_, rfl⟩) rfl rfl) <|
  o_an
set_option maxRecDepth 100000 in
set_option maxHeartbeats 4000000 in
theorem s_X2_findSizes {l : Launch} {D : va_G} {cy : Nat → ClassId} {σ : Nat → Int32} : ∀ q ∈ p_X2_findSizes, rx_Sd (gG l D cy σ) mt m_X2_findSizes q.1 q.2 :=
  ck_all (H := h_X2_findSizes) (P := o_X2_findSizes) rfl rfl rfl rfl rfl rfl (by decide +kernel) <|
  o_ac (rx_sd_cl (M := m_X2_findSizes) (rx_lk_S gok (mid := 2) ⟨kw_122, kw_99, hd_J7_fill_d0a16, Nat.le_of_ble_eq_true rfl, Nat.le_of_ble_eq_true rfl⟩ kw_123 kw_124 (by decide +kernel)) (fun h => nomatch h) rfl rfl) <|
  o_ac (rx_sd_cl (M := m_X2_findSizes) (rx_lk_V gok (mid := 27) (ci := 2) (C := (RX2, TX2, 5)) ⟨kw_125, kw_118, hd_X2_sizeGroup, Nat.le_of_ble_eq_true rfl, Nat.le_of_ble_eq_true rfl⟩ rfl kw_126 kw_127 kw_128 (by decide +kernel)) (fun _ => ⟨_, rfl⟩) rfl rfl) <|
  o_an
set_option maxRecDepth 100000 in
set_option maxHeartbeats 4000000 in
theorem s_X2_greatestDivisor {l : Launch} {D : va_G} {cy : Nat → ClassId} {σ : Nat → Int32} : ∀ q ∈ p_X2_greatestDivisor, rx_Sd (gG l D cy σ) mt m_X2_greatestDivisor q.1 q.2 :=
  ck_all (H := h_X2_greatestDivisor) (P := o_X2_greatestDivisor) rfl rfl rfl rfl rfl rfl (by decide +kernel) <|
  o_an
set_option maxRecDepth 100000 in
set_option maxHeartbeats 4000000 in
theorem s_X2_init {l : Launch} {D : va_G} {cy : Nat → ClassId} {σ : Nat → Int32} : ∀ q ∈ p_X2_init, rx_Sd (gG l D cy σ) mt m_X2_init q.1 q.2 :=
  rx_ac (rx_sd_aload_n dX2_init_0 rfl) <|
  rx_ac (rx_sd_obj (M := m_X2_init) kw_129 kw_46 kw_objcode (Nat.le_of_ble_eq_true rfl) dX2_init_1) <|
  rx_ac (rx_sd_aload_n dX2_init_4 rfl) <|
  rx_ac (rx_sd_bipush dX2_init_5 (by decide)) <|
  rx_ac (rx_sd_newI (M := m_X2_init) ⟨rfl, rfl, rfl⟩ kw_49 rfl dX2_init_7) <|
  rx_ac (rx_sd_putf (C := RX2) (T := TX2) (N := 5) (ty0 := tyX2) in_X2 tyX2_ok nmX2 rfl (by decide) kw_130 (Or.inr ⟨rfl, rfl, rfl⟩) rfl dX2_init_9) <|
  rx_ac (rx_sd_aload_n dX2_init_12 rfl) <|
  rx_ac (rx_sd_bipush dX2_init_13 (by decide)) <|
  rx_ac (rx_sd_newL (M := m_X2_init) ⟨rfl, rfl, rfl⟩ kw_54 rfl dX2_init_15) <|
  rx_ac (rx_sd_putf (C := RX2) (T := TX2) (N := 5) (ty0 := tyX2) in_X2 tyX2_ok nmX2 rfl (by decide) kw_131 (Or.inr ⟨rfl, rfl, rfl⟩) rfl dX2_init_17) <|
  rx_ac (rx_sd_aload_n dX2_init_20 rfl) <|
  rx_ac (rx_sd_bipush dX2_init_21 (by decide)) <|
  rx_ac (rx_sd_newI (M := m_X2_init) ⟨rfl, rfl, rfl⟩ kw_49 rfl dX2_init_23) <|
  rx_ac (rx_sd_putf (C := RX2) (T := TX2) (N := 5) (ty0 := tyX2) in_X2 tyX2_ok nmX2 rfl (by decide) kw_132 (Or.inr ⟨rfl, rfl, rfl⟩) rfl dX2_init_25) <|
  rx_ac (rx_sd_ret0 (M := m_X2_init) rfl dX2_init_28) <|
  rx_an
set_option maxRecDepth 100000 in
set_option maxHeartbeats 4000000 in
theorem s_X2_restart {l : Launch} {D : va_G} {cy : Nat → ClassId} {σ : Nat → Int32} : ∀ q ∈ p_X2_restart, rx_Sd (gG l D cy σ) mt m_X2_restart q.1 q.2 :=
  ck_all (H := h_X2_restart) (P := o_X2_restart) rfl rfl rfl rfl rfl rfl (by decide +kernel) <|
  o_ac (rx_sd_cl (M := m_X2_restart) (rx_lk_S gok (mid := 1) ⟨kw_98, kw_99, hd_J7_fill_53178, Nat.le_of_ble_eq_true rfl, Nat.le_of_ble_eq_true rfl⟩ kw_133 kw_101 (by decide +kernel)) (fun h => nomatch h) rfl rfl) <|
  o_an
