set_option maxRecDepth 100000 in
set_option maxHeartbeats 4000000 in
theorem s_X10_seed {l : Launch} {D : va_G} {cy : Nat → ClassId} {σ : Nat → Int32} : ∀ q ∈ p_X10_seed, rx_Sd (gG l D cy σ) mt m_X10_seed q.1 q.2 :=
  ck_all (H := h_X10_seed) (P := o_X10_seed) rfl rfl rfl rfl rfl rfl (by decide +kernel) <|
  o_ac (rx_sd_cl (M := m_X10_seed) (rx_lk_V gok (mid := 156) (ci := 10) (C := (RX10, TX10, 58)) ⟨kw_528, kw_484, hd_X10_isSlot, Nat.le_of_ble_eq_true rfl, Nat.le_of_ble_eq_true rfl⟩ rfl kw_529 kw_530 kw_531 (by decide +kernel)) (fun _ => ⟨_, rfl⟩) rfl rfl) <|
  o_ac (rx_sd_cl (M := m_X10_seed) (rx_lk_V gok (mid := 154) (ci := 10) (C := (RX10, TX10, 58)) ⟨kw_556, kw_484, hd_X10_isCutting, Nat.le_of_ble_eq_true rfl, Nat.le_of_ble_eq_true rfl⟩ rfl kw_557 kw_558 kw_559 (by decide +kernel)) (fun _ => ⟨_, rfl⟩) rfl rfl) <|
  o_ac (rx_sd_cl (M := m_X10_seed) (rx_lk_V gok (mid := 187) (ci := 10) (C := (RX10, TX10, 58)) ⟨kw_687, kw_484, hd_X10_table, Nat.le_of_ble_eq_true rfl, Nat.le_of_ble_eq_true rfl⟩ rfl kw_688 kw_689 kw_690 (by decide +kernel)) (fun _ => ⟨_, rfl⟩) rfl rfl) <|
  o_ac (rx_sd_cl (M := m_X10_seed) (rx_lk_V gok (mid := 155) (ci := 10) (C := (RX10, TX10, 58)) ⟨kw_655, kw_484, hd_X10_isSide, Nat.le_of_ble_eq_true rfl, Nat.le_of_ble_eq_true rfl⟩ rfl kw_656 kw_657 kw_658 (by decide +kernel)) (fun _ => ⟨_, rfl⟩) rfl rfl) <|
  o_ac (rx_sd_cl (M := m_X10_seed) (rx_lk_V gok (mid := 155) (ci := 10) (C := (RX10, TX10, 58)) ⟨kw_655, kw_484, hd_X10_isSide, Nat.le_of_ble_eq_true rfl, Nat.le_of_ble_eq_true rfl⟩ rfl kw_656 kw_657 kw_658 (by decide +kernel)) (fun _ => ⟨_, rfl⟩) rfl rfl) <|
  o_ac (rx_sd_cl (M := m_X10_seed) (rx_lk_V gok (mid := 155) (ci := 10) (C := (RX10, TX10, 58)) ⟨kw_655, kw_484, hd_X10_isSide, Nat.le_of_ble_eq_true rfl, Nat.le_of_ble_eq_true rfl⟩ rfl kw_656 kw_657 kw_658 (by decide +kernel)) (fun _ => ⟨_, rfl⟩) rfl rfl) <|
  o_ac (rx_sd_cl (M := m_X10_seed) (rx_lk_V gok (mid := 174) (ci := 10) (C := (RX10, TX10, 58)) ⟨kw_691, kw_484, hd_X10_placeOf, Nat.le_of_ble_eq_true rfl, Nat.le_of_ble_eq_true rfl⟩ rfl kw_692 kw_693 kw_694 (by decide +kernel)) (fun _ => ⟨_, rfl⟩) rfl rfl) <|
  o_ac (rx_sd_cl (M := m_X10_seed) (rx_lk_V gok (mid := 174) (ci := 10) (C := (RX10, TX10, 58)) ⟨kw_691, kw_484, hd_X10_placeOf, Nat.le_of_ble_eq_true rfl, Nat.le_of_ble_eq_true rfl⟩ rfl kw_692 kw_693 kw_694 (by decide +kernel)) (fun _ => ⟨_, rfl⟩) rfl rfl) <|
  o_ac (rx_sd_cl (M := m_X10_seed) (rx_lk_V gok (mid := 174) (ci := 10) (C := (RX10, TX10, 58)) ⟨kw_691, kw_484, hd_X10_placeOf, Nat.le_of_ble_eq_true rfl, Nat.le_of_ble_eq_true rfl⟩ rfl kw_692 kw_693 kw_694 (by decide +kernel)) (fun _ => ⟨_, rfl⟩) rfl rfl) <|
  o_ac (rx_sd_cl (M := m_X10_seed) (rx_lk_V gok (mid := 161) (ci := 10) (C := (RX10, TX10, 58)) ⟨kw_695, kw_484, hd_X10_leads, Nat.le_of_ble_eq_true rfl, Nat.le_of_ble_eq_true rfl⟩ rfl kw_696 kw_697 kw_698 (by decide +kernel)) (fun _ => ⟨_, rfl⟩) rfl rfl) <|
  o_ac (rx_sd_cl (M := m_X10_seed) (rx_lk_V gok (mid := 161) (ci := 10) (C := (RX10, TX10, 58)) ⟨kw_695, kw_484, hd_X10_leads, Nat.le_of_ble_eq_true rfl, Nat.le_of_ble_eq_true rfl⟩ rfl kw_696 kw_697 kw_698 (by decide +kernel)) (fun _ => ⟨_, rfl⟩) rfl rfl) <|
  o_ac (rx_sd_cl (M := m_X10_seed) (rx_lk_V gok (mid := 161) (ci := 10) (C := (RX10, TX10, 58)) ⟨kw_695, kw_484, hd_X10_leads, Nat.le_of_ble_eq_true rfl, Nat.le_of_ble_eq_true rfl⟩ rfl kw_696 kw_697 kw_698 (by decide +kernel)) (fun _ => ⟨_, rfl⟩) rfl rfl) <|
  o_ac (rx_sd_cl (M := m_X10_seed) (rx_lk_V gok (mid := 129) (ci := 10) (C := (RX10, TX10, 58)) ⟨kw_699, kw_484, hd_X10_begin, Nat.le_of_ble_eq_true rfl, Nat.le_of_ble_eq_true rfl⟩ rfl kw_700 kw_701 kw_702 (by decide +kernel)) (fun _ => ⟨_, rfl⟩) rfl rfl) <|
  o_an
set_option maxRecDepth 100000 in
set_option maxHeartbeats 4000000 in
theorem s_X10_size {l : Launch} {D : va_G} {cy : Nat → ClassId} {σ : Nat → Int32} : ∀ q ∈ p_X10_size, rx_Sd (gG l D cy σ) mt m_X10_size q.1 q.2 :=
  ck_all (H := h_X10_size) (P := o_X10_size) rfl rfl rfl rfl rfl rfl (by decide +kernel) <|
  o_an
set_option maxRecDepth 100000 in
set_option maxHeartbeats 4000000 in
theorem s_X10_step {l : Launch} {D : va_G} {cy : Nat → ClassId} {σ : Nat → Int32} : ∀ q ∈ p_X10_step, rx_Sd (gG l D cy σ) mt m_X10_step q.1 q.2 :=
  ck_all (H := h_X10_step) (P := o_X10_step) rfl rfl rfl rfl rfl rfl (by decide +kernel) <|
  o_an
set_option maxRecDepth 100000 in
set_option maxHeartbeats 4000000 in
theorem s_X10_sumOf {l : Launch} {D : va_G} {cy : Nat → ClassId} {σ : Nat → Int32} : ∀ q ∈ p_X10_sumOf, rx_Sd (gG l D cy σ) mt m_X10_sumOf q.1 q.2 :=
  ck_all (H := h_X10_sumOf) (P := o_X10_sumOf) rfl rfl rfl rfl rfl rfl (by decide +kernel) <|
  o_an
set_option maxRecDepth 100000 in
set_option maxHeartbeats 4000000 in
theorem s_X10_table {l : Launch} {D : va_G} {cy : Nat → ClassId} {σ : Nat → Int32} : ∀ q ∈ p_X10_table, rx_Sd (gG l D cy σ) mt m_X10_table q.1 q.2 :=
  ck_all (H := h_X10_table) (P := o_X10_table) rfl rfl rfl rfl rfl rfl (by decide +kernel) <|
  o_an
set_option maxRecDepth 100000 in
set_option maxHeartbeats 4000000 in
theorem s_X10_tableHash {l : Launch} {D : va_G} {cy : Nat → ClassId} {σ : Nat → Int32} : ∀ q ∈ p_X10_tableHash, rx_Sd (gG l D cy σ) mt m_X10_tableHash q.1 q.2 :=
  ck_all (H := h_X10_tableHash) (P := o_X10_tableHash) rfl rfl rfl rfl rfl rfl (by decide +kernel) <|
  o_an
set_option maxRecDepth 100000 in
set_option maxHeartbeats 4000000 in
theorem s_X10_tables {l : Launch} {D : va_G} {cy : Nat → ClassId} {σ : Nat → Int32} : ∀ q ∈ p_X10_tables, rx_Sd (gG l D cy σ) mt m_X10_tables q.1 q.2 :=
  ck_all (H := h_X10_tables) (P := o_X10_tables) rfl rfl rfl rfl rfl rfl (by decide +kernel) <|
  o_an
set_option maxRecDepth 100000 in
set_option maxHeartbeats 4000000 in
theorem s_X10_takes {l : Launch} {D : va_G} {cy : Nat → ClassId} {σ : Nat → Int32} : ∀ q ∈ p_X10_takes, rx_Sd (gG l D cy σ) mt m_X10_takes q.1 q.2 :=
  ck_all (H := h_X10_takes) (P := o_X10_takes) rfl rfl rfl rfl rfl rfl (by decide +kernel) <|
  o_ac (rx_sd_cl (M := m_X10_takes) (rx_lk_V gok (mid := 134) (ci := 10) (C := (RX10, TX10, 58)) ⟨kw_647, kw_484, hd_X10_copy, Nat.le_of_ble_eq_true rfl, Nat.le_of_ble_eq_true rfl⟩ rfl kw_648 kw_649 kw_650 (by decide +kernel)) (fun _ => ⟨_, rfl⟩) rfl rfl) <|
  o_an
set_option maxRecDepth 100000 in
set_option maxHeartbeats 4000000 in
theorem s_X10_takesBits {l : Launch} {D : va_G} {cy : Nat → ClassId} {σ : Nat → Int32} : ∀ q ∈ p_X10_takesBits, rx_Sd (gG l D cy σ) mt m_X10_takesBits q.1 q.2 :=
  ck_all (H := h_X10_takesBits) (P := o_X10_takesBits) rfl rfl rfl rfl rfl rfl (by decide +kernel) <|
  o_an
set_option maxRecDepth 100000 in
set_option maxHeartbeats 4000000 in
theorem s_X10_tells {l : Launch} {D : va_G} {cy : Nat → ClassId} {σ : Nat → Int32} : ∀ q ∈ p_X10_tells, rx_Sd (gG l D cy σ) mt m_X10_tells q.1 q.2 :=
  ck_all (H := h_X10_tells) (P := o_X10_tells) rfl rfl rfl rfl rfl rfl (by decide +kernel) <|
  o_ac (rx_sd_cl (M := m_X10_tells) (rx_lk_V gok (mid := 188) (ci := 10) (C := (RX10, TX10, 58)) ⟨kw_703, kw_484, hd_X10_tableHash, Nat.le_of_ble_eq_true rfl, Nat.le_of_ble_eq_true rfl⟩ rfl kw_704 kw_705 kw_706 (by decide +kernel)) (fun _ => ⟨_, rfl⟩) rfl rfl) <|
  o_ac (rx_sd_cl (M := m_X10_tells) (rx_lk_V gok (mid := 157) (ci := 10) (C := (RX10, TX10, 58)) ⟨kw_707, kw_484, hd_X10_isTable, Nat.le_of_ble_eq_true rfl, Nat.le_of_ble_eq_true rfl⟩ rfl kw_708 kw_709 kw_710 (by decide +kernel)) (fun _ => ⟨_, rfl⟩) rfl rfl) <|
  o_ac (rx_sd_cl (M := m_X10_tells) (rx_lk_V gok (mid := 159) (ci := 10) (C := (RX10, TX10, 58)) ⟨kw_711, kw_484, hd_X10_isWild, Nat.le_of_ble_eq_true rfl, Nat.le_of_ble_eq_true rfl⟩ rfl kw_712 kw_713 kw_714 (by decide +kernel)) (fun _ => ⟨_, rfl⟩) rfl rfl) <|
  o_an
set_option maxRecDepth 100000 in
set_option maxHeartbeats 4000000 in
theorem s_X10_term {l : Launch} {D : va_G} {cy : Nat → ClassId} {σ : Nat → Int32} : ∀ q ∈ p_X10_term, rx_Sd (gG l D cy σ) mt m_X10_term q.1 q.2 :=
  ck_all (H := h_X10_term) (P := o_X10_term) rfl rfl rfl rfl rfl rfl (by decide +kernel) <|
  o_an
set_option maxRecDepth 100000 in
set_option maxHeartbeats 4000000 in
theorem s_X10_terms {l : Launch} {D : va_G} {cy : Nat → ClassId} {σ : Nat → Int32} : ∀ q ∈ p_X10_terms, rx_Sd (gG l D cy σ) mt m_X10_terms q.1 q.2 :=
  ck_all (H := h_X10_terms) (P := o_X10_terms) rfl rfl rfl rfl rfl rfl (by decide +kernel) <|
  o_an
set_option maxRecDepth 100000 in
set_option maxHeartbeats 4000000 in
theorem s_X10_thirds {l : Launch} {D : va_G} {cy : Nat → ClassId} {σ : Nat → Int32} : ∀ q ∈ p_X10_thirds, rx_Sd (gG l D cy σ) mt m_X10_thirds q.1 q.2 :=
  ck_all (H := h_X10_thirds) (P := o_X10_thirds) rfl rfl rfl rfl rfl rfl (by decide +kernel) <|
  o_an
set_option maxRecDepth 100000 in
set_option maxHeartbeats 4000000 in
theorem s_X10_times {l : Launch} {D : va_G} {cy : Nat → ClassId} {σ : Nat → Int32} : ∀ q ∈ p_X10_times, rx_Sd (gG l D cy σ) mt m_X10_times q.1 q.2 :=
  ck_all (H := h_X10_times) (P := o_X10_times) rfl rfl rfl rfl rfl rfl (by decide +kernel) <|
  o_ac (rx_sd_cl (M := m_X10_times) (rx_lk_V gok (mid := 121) (ci := 10) (C := (RX10, TX10, 58)) ⟨kw_715, kw_484, hd_X10_add, Nat.le_of_ble_eq_true rfl, Nat.le_of_ble_eq_true rfl⟩ rfl kw_716 kw_717 kw_718 (by decide +kernel)) (fun _ => ⟨_, rfl⟩) rfl rfl) <|
  o_an
set_option maxRecDepth 100000 in
set_option maxHeartbeats 4000000 in
theorem s_X10_timesOften {l : Launch} {D : va_G} {cy : Nat → ClassId} {σ : Nat → Int32} : ∀ q ∈ p_X10_timesOften, rx_Sd (gG l D cy σ) mt m_X10_timesOften q.1 q.2 :=
  ck_all (H := h_X10_timesOften) (P := o_X10_timesOften) rfl rfl rfl rfl rfl rfl (by decide +kernel) <|
  o_ac (rx_sd_cl (M := m_X10_timesOften) (rx_lk_V gok (mid := 196) (ci := 10) (C := (RX10, TX10, 58)) ⟨kw_719, kw_484, hd_X10_times, Nat.le_of_ble_eq_true rfl, Nat.le_of_ble_eq_true rfl⟩ rfl kw_720 kw_721 kw_722 (by decide +kernel)) (fun _ => ⟨_, rfl⟩) rfl rfl) <|
  o_ac (rx_sd_cl (M := m_X10_timesOften) (rx_lk_V gok (mid := 134) (ci := 10) (C := (RX10, TX10, 58)) ⟨kw_647, kw_484, hd_X10_copy, Nat.le_of_ble_eq_true rfl, Nat.le_of_ble_eq_true rfl⟩ rfl kw_648 kw_649 kw_650 (by decide +kernel)) (fun _ => ⟨_, rfl⟩) rfl rfl) <|
  o_an
set_option maxRecDepth 100000 in
set_option maxHeartbeats 4000000 in
theorem s_X10_turn {l : Launch} {D : va_G} {cy : Nat → ClassId} {σ : Nat → Int32} : ∀ q ∈ p_X10_turn, rx_Sd (gG l D cy σ) mt m_X10_turn q.1 q.2 :=
  ck_all (H := h_X10_turn) (P := o_X10_turn) rfl rfl rfl rfl rfl rfl (by decide +kernel) <|
  o_ac (rx_sd_cl (M := m_X10_turn) (rx_lk_V gok (mid := 200) (ci := 10) (C := (RX10, TX10, 58)) ⟨kw_512, kw_484, hd_X10_turns, Nat.le_of_ble_eq_true rfl, Nat.le_of_ble_eq_true rfl⟩ rfl kw_513 kw_514 kw_515 (by decide +kernel)) (fun _ => ⟨_, rfl⟩) rfl rfl) <|
  o_an
set_option maxRecDepth 100000 in
set_option maxHeartbeats 4000000 in
theorem s_X10_turnRound {l : Launch} {D : va_G} {cy : Nat → ClassId} {σ : Nat → Int32} : ∀ q ∈ p_X10_turnRound, rx_Sd (gG l D cy σ) mt m_X10_turnRound q.1 q.2 :=
  ck_all (H := h_X10_turnRound) (P := o_X10_turnRound) rfl rfl rfl rfl rfl rfl (by decide +kernel) <|
  o_an
set_option maxRecDepth 100000 in
set_option maxHeartbeats 4000000 in
theorem s_X10_turns {l : Launch} {D : va_G} {cy : Nat → ClassId} {σ : Nat → Int32} : ∀ q ∈ p_X10_turns, rx_Sd (gG l D cy σ) mt m_X10_turns q.1 q.2 :=
  ck_all (H := h_X10_turns) (P := o_X10_turns) rfl rfl rfl rfl rfl rfl (by decide +kernel) <|
  o_ac (rx_sd_cl (M := m_X10_turns) (rx_lk_V gok (mid := 175) (ci := 10) (C := (RX10, TX10, 58)) ⟨kw_723, kw_484, hd_X10_product, Nat.le_of_ble_eq_true rfl, Nat.le_of_ble_eq_true rfl⟩ rfl kw_724 kw_725 kw_726 (by decide +kernel)) (fun _ => ⟨_, rfl⟩) rfl rfl) <|
  o_ac (rx_sd_cl (M := m_X10_turns) (rx_lk_V gok (mid := 175) (ci := 10) (C := (RX10, TX10, 58)) ⟨kw_723, kw_484, hd_X10_product, Nat.le_of_ble_eq_true rfl, Nat.le_of_ble_eq_true rfl⟩ rfl kw_724 kw_725 kw_726 (by decide +kernel)) (fun _ => ⟨_, rfl⟩) rfl rfl) <|
  o_ac (rx_sd_cl (M := m_X10_turns) (rx_lk_V gok (mid := 134) (ci := 10) (C := (RX10, TX10, 58)) ⟨kw_647, kw_484, hd_X10_copy, Nat.le_of_ble_eq_true rfl, Nat.le_of_ble_eq_true rfl⟩ rfl kw_648 kw_649 kw_650 (by decide +kernel)) (fun _ => ⟨_, rfl⟩) rfl rfl) <|
  o_ac (rx_sd_cl (M := m_X10_turns) (rx_lk_V gok (mid := 121) (ci := 10) (C := (RX10, TX10, 58)) ⟨kw_715, kw_484, hd_X10_add, Nat.le_of_ble_eq_true rfl, Nat.le_of_ble_eq_true rfl⟩ rfl kw_716 kw_717 kw_718 (by decide +kernel)) (fun _ => ⟨_, rfl⟩) rfl rfl) <|
  o_ac (rx_sd_cl (M := m_X10_turns) (rx_lk_V gok (mid := 201) (ci := 10) (C := (RX10, TX10, 58)) ⟨kw_683, kw_484, hd_X10_turnsArrows, Nat.le_of_ble_eq_true rfl, Nat.le_of_ble_eq_true rfl⟩ rfl kw_684 kw_685 kw_686 (by decide +kernel)) (fun _ => ⟨_, rfl⟩) rfl rfl) <|
  o_ac (rx_sd_cl (M := m_X10_turns) (rx_lk_V gok (mid := 172) (ci := 10) (C := (RX10, TX10, 58)) ⟨kw_727, kw_484, hd_X10_parts, Nat.le_of_ble_eq_true rfl, Nat.le_of_ble_eq_true rfl⟩ rfl kw_728 kw_729 kw_730 (by decide +kernel)) (fun _ => ⟨_, rfl⟩) rfl rfl) <|
  o_ac (rx_sd_cl (M := m_X10_turns) (rx_lk_V gok (mid := 134) (ci := 10) (C := (RX10, TX10, 58)) ⟨kw_647, kw_484, hd_X10_copy, Nat.le_of_ble_eq_true rfl, Nat.le_of_ble_eq_true rfl⟩ rfl kw_648 kw_649 kw_650 (by decide +kernel)) (fun _ => ⟨_, rfl⟩) rfl rfl) <|
  o_an
set_option maxRecDepth 100000 in
set_option maxHeartbeats 4000000 in
theorem s_X10_turnsArrows {l : Launch} {D : va_G} {cy : Nat → ClassId} {σ : Nat → Int32} : ∀ q ∈ p_X10_turnsArrows, rx_Sd (gG l D cy σ) mt m_X10_turnsArrows q.1 q.2 :=
  ck_all (H := h_X10_turnsArrows) (P := o_X10_turnsArrows) rfl rfl rfl rfl rfl rfl (by decide +kernel) <|
  o_ac (rx_sd_cl (M := m_X10_turnsArrows) (rx_lk_S gok (mid := 204) ⟨kw_591, kw_484, hd_X10_without, Nat.le_of_ble_eq_true rfl, Nat.le_of_ble_eq_true rfl⟩ kw_592 kw_593 (by decide +kernel)) (fun h => nomatch h) rfl rfl) <|
  o_an
set_option maxRecDepth 100000 in
set_option maxHeartbeats 4000000 in
theorem s_X10_way {l : Launch} {D : va_G} {cy : Nat → ClassId} {σ : Nat → Int32} : ∀ q ∈ p_X10_way, rx_Sd (gG l D cy σ) mt m_X10_way q.1 q.2 :=
  ck_all (H := h_X10_way) (P := o_X10_way) rfl rfl rfl rfl rfl rfl (by decide +kernel) <|
  o_ac (rx_sd_cl (M := m_X10_way) (rx_lk_V gok (mid := 154) (ci := 10) (C := (RX10, TX10, 58)) ⟨kw_556, kw_484, hd_X10_isCutting, Nat.le_of_ble_eq_true rfl, Nat.le_of_ble_eq_true rfl⟩ rfl kw_557 kw_558 kw_559 (by decide +kernel)) (fun _ => ⟨_, rfl⟩) rfl rfl) <|
  o_ac (rx_sd_cl (M := m_X10_way) (rx_lk_V gok (mid := 154) (ci := 10) (C := (RX10, TX10, 58)) ⟨kw_556, kw_484, hd_X10_isCutting, Nat.le_of_ble_eq_true rfl, Nat.le_of_ble_eq_true rfl⟩ rfl kw_557 kw_558 kw_559 (by decide +kernel)) (fun _ => ⟨_, rfl⟩) rfl rfl) <|
  o_ac (rx_sd_cl (M := m_X10_way) (rx_lk_S gok (mid := 125) ⟨kw_532, kw_484, hd_X10_areNeighbours, Nat.le_of_ble_eq_true rfl, Nat.le_of_ble_eq_true rfl⟩ kw_533 kw_534 (by decide +kernel)) (fun h => nomatch h) rfl rfl) <|
  o_ac (rx_sd_cl (M := m_X10_way) (rx_lk_V gok (mid := 131) (ci := 10) (C := (RX10, TX10, 58)) ⟨kw_731, kw_484, hd_X10_bits, Nat.le_of_ble_eq_true rfl, Nat.le_of_ble_eq_true rfl⟩ rfl kw_732 kw_733 kw_734 (by decide +kernel)) (fun _ => ⟨_, rfl⟩) rfl rfl) <|
  o_ac (rx_sd_cl (M := m_X10_way) (rx_lk_V gok (mid := 131) (ci := 10) (C := (RX10, TX10, 58)) ⟨kw_731, kw_484, hd_X10_bits, Nat.le_of_ble_eq_true rfl, Nat.le_of_ble_eq_true rfl⟩ rfl kw_732 kw_733 kw_734 (by decide +kernel)) (fun _ => ⟨_, rfl⟩) rfl rfl) <|
  o_ac (rx_sd_cl (M := m_X10_way) (rx_lk_V gok (mid := 191) (ci := 10) (C := (RX10, TX10, 58)) ⟨kw_735, kw_484, hd_X10_takesBits, Nat.le_of_ble_eq_true rfl, Nat.le_of_ble_eq_true rfl⟩ rfl kw_736 kw_737 kw_738 (by decide +kernel)) (fun _ => ⟨_, rfl⟩) rfl rfl) <|
  o_ac (rx_sd_cl (M := m_X10_way) (rx_lk_V gok (mid := 144) (ci := 10) (C := (RX10, TX10, 58)) ⟨kw_560, kw_484, hd_X10_flips, Nat.le_of_ble_eq_true rfl, Nat.le_of_ble_eq_true rfl⟩ rfl kw_561 kw_562 kw_563 (by decide +kernel)) (fun _ => ⟨_, rfl⟩) rfl rfl) <|
  o_ac (rx_sd_cl (M := m_X10_way) (rx_lk_V gok (mid := 131) (ci := 10) (C := (RX10, TX10, 58)) ⟨kw_731, kw_484, hd_X10_bits, Nat.le_of_ble_eq_true rfl, Nat.le_of_ble_eq_true rfl⟩ rfl kw_732 kw_733 kw_734 (by decide +kernel)) (fun _ => ⟨_, rfl⟩) rfl rfl) <|
  o_ac (rx_sd_cl (M := m_X10_way) (rx_lk_V gok (mid := 137) (ci := 10) (C := (RX10, TX10, 58)) ⟨kw_739, kw_484, hd_X10_cuttingOf, Nat.le_of_ble_eq_true rfl, Nat.le_of_ble_eq_true rfl⟩ rfl kw_740 kw_741 kw_742 (by decide +kernel)) (fun _ => ⟨_, rfl⟩) rfl rfl) <|
  o_ac (rx_sd_cl (M := m_X10_way) (rx_lk_V gok (mid := 137) (ci := 10) (C := (RX10, TX10, 58)) ⟨kw_739, kw_484, hd_X10_cuttingOf, Nat.le_of_ble_eq_true rfl, Nat.le_of_ble_eq_true rfl⟩ rfl kw_740 kw_741 kw_742 (by decide +kernel)) (fun _ => ⟨_, rfl⟩) rfl rfl) <|
  o_ac (rx_sd_cl (M := m_X10_way) (rx_lk_V gok (mid := 191) (ci := 10) (C := (RX10, TX10, 58)) ⟨kw_735, kw_484, hd_X10_takesBits, Nat.le_of_ble_eq_true rfl, Nat.le_of_ble_eq_true rfl⟩ rfl kw_736 kw_737 kw_738 (by decide +kernel)) (fun _ => ⟨_, rfl⟩) rfl rfl) <|
  o_ac (rx_sd_cl (M := m_X10_way) (rx_lk_V gok (mid := 144) (ci := 10) (C := (RX10, TX10, 58)) ⟨kw_560, kw_484, hd_X10_flips, Nat.le_of_ble_eq_true rfl, Nat.le_of_ble_eq_true rfl⟩ rfl kw_561 kw_562 kw_563 (by decide +kernel)) (fun _ => ⟨_, rfl⟩) rfl rfl) <|
  o_ac (rx_sd_cl (M := m_X10_way) (rx_lk_V gok (mid := 131) (ci := 10) (C := (RX10, TX10, 58)) ⟨kw_731, kw_484, hd_X10_bits, Nat.le_of_ble_eq_true rfl, Nat.le_of_ble_eq_true rfl⟩ rfl kw_732 kw_733 kw_734 (by decide +kernel)) (fun _ => ⟨_, rfl⟩) rfl rfl) <|
  o_ac (rx_sd_cl (M := m_X10_way) (rx_lk_V gok (mid := 137) (ci := 10) (C := (RX10, TX10, 58)) ⟨kw_739, kw_484, hd_X10_cuttingOf, Nat.le_of_ble_eq_true rfl, Nat.le_of_ble_eq_true rfl⟩ rfl kw_740 kw_741 kw_742 (by decide +kernel)) (fun _ => ⟨_, rfl⟩) rfl rfl) <|
  o_ac (rx_sd_cl (M := m_X10_way) (rx_lk_S gok (mid := 167) ⟨kw_564, kw_484, hd_X10_named, Nat.le_of_ble_eq_true rfl, Nat.le_of_ble_eq_true rfl⟩ kw_565 kw_566 (by decide +kernel)) (fun h => nomatch h) rfl rfl) <|
  o_an
