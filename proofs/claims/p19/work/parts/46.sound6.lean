set_option maxRecDepth 100000 in
set_option maxHeartbeats 4000000 in
theorem s_X10_isBegun {l : Launch} {D : va_G} {cy : Nat → ClassId} {σ : Nat → Int32} : ∀ q ∈ p_X10_isBegun, rx_Sd (gG l D cy σ) mt m_X10_isBegun q.1 q.2 :=
  ck_all (H := h_X10_isBegun) (P := o_X10_isBegun) rfl rfl rfl rfl rfl rfl (by decide +kernel) <|
  o_ac (rx_sd_cl (M := m_X10_isBegun) (rx_lk_V gok (mid := 124) (ci := 10) (C := (RX10, TX10, 58)) ⟨kw_643, kw_484, hd_X10_areAlike, Nat.le_of_ble_eq_true rfl, Nat.le_of_ble_eq_true rfl⟩ rfl kw_644 kw_645 kw_646 (by decide +kernel)) (fun _ => ⟨_, rfl⟩) rfl rfl) <|
  o_an
set_option maxRecDepth 100000 in
set_option maxHeartbeats 4000000 in
theorem s_X10_isCutting {l : Launch} {D : va_G} {cy : Nat → ClassId} {σ : Nat → Int32} : ∀ q ∈ p_X10_isCutting, rx_Sd (gG l D cy σ) mt m_X10_isCutting q.1 q.2 :=
  ck_all (H := h_X10_isCutting) (P := o_X10_isCutting) rfl rfl rfl rfl rfl rfl (by decide +kernel) <|
  o_ac (rx_sd_cl (M := m_X10_isCutting) (rx_lk_V gok (mid := 140) (ci := 10) (C := (RX10, TX10, 58)) ⟨kw_544, kw_484, hd_X10_fences, Nat.le_of_ble_eq_true rfl, Nat.le_of_ble_eq_true rfl⟩ rfl kw_545 kw_546 kw_547 (by decide +kernel)) (fun _ => ⟨_, rfl⟩) rfl rfl) <|
  o_an
set_option maxRecDepth 100000 in
set_option maxHeartbeats 4000000 in
theorem s_X10_isSide {l : Launch} {D : va_G} {cy : Nat → ClassId} {σ : Nat → Int32} : ∀ q ∈ p_X10_isSide, rx_Sd (gG l D cy σ) mt m_X10_isSide q.1 q.2 :=
  ck_all (H := h_X10_isSide) (P := o_X10_isSide) rfl rfl rfl rfl rfl rfl (by decide +kernel) <|
  o_ac (rx_sd_cl (M := m_X10_isSide) (rx_lk_S gok (mid := 125) ⟨kw_532, kw_484, hd_X10_areNeighbours, Nat.le_of_ble_eq_true rfl, Nat.le_of_ble_eq_true rfl⟩ kw_533 kw_534 (by decide +kernel)) (fun h => nomatch h) rfl rfl) <|
  o_ac (rx_sd_cl (M := m_X10_isSide) (rx_lk_S gok (mid := 165) ⟨kw_535, kw_484, hd_X10_lesser, Nat.le_of_ble_eq_true rfl, Nat.le_of_ble_eq_true rfl⟩ kw_536 kw_537 (by decide +kernel)) (fun h => nomatch h) rfl rfl) <|
  o_ac (rx_sd_cl (M := m_X10_isSide) (rx_lk_S gok (mid := 148) ⟨kw_538, kw_484, hd_X10_greater, Nat.le_of_ble_eq_true rfl, Nat.le_of_ble_eq_true rfl⟩ kw_539 kw_540 (by decide +kernel)) (fun h => nomatch h) rfl rfl) <|
  o_an
set_option maxRecDepth 100000 in
set_option maxHeartbeats 4000000 in
theorem s_X10_isSlot {l : Launch} {D : va_G} {cy : Nat → ClassId} {σ : Nat → Int32} : ∀ q ∈ p_X10_isSlot, rx_Sd (gG l D cy σ) mt m_X10_isSlot q.1 q.2 :=
  ck_all (H := h_X10_isSlot) (P := o_X10_isSlot) rfl rfl rfl rfl rfl rfl (by decide +kernel) <|
  o_an
set_option maxRecDepth 100000 in
set_option maxHeartbeats 4000000 in
theorem s_X10_isTable {l : Launch} {D : va_G} {cy : Nat → ClassId} {σ : Nat → Int32} : ∀ q ∈ p_X10_isTable, rx_Sd (gG l D cy σ) mt m_X10_isTable q.1 q.2 :=
  ck_all (H := h_X10_isTable) (P := o_X10_isTable) rfl rfl rfl rfl rfl rfl (by decide +kernel) <|
  o_an
set_option maxRecDepth 100000 in
set_option maxHeartbeats 4000000 in
theorem s_X10_isThere {l : Launch} {D : va_G} {cy : Nat → ClassId} {σ : Nat → Int32} : ∀ q ∈ p_X10_isThere, rx_Sd (gG l D cy σ) mt m_X10_isThere q.1 q.2 :=
  ck_all (H := h_X10_isThere) (P := o_X10_isThere) rfl rfl rfl rfl rfl rfl (by decide +kernel) <|
  o_an
set_option maxRecDepth 100000 in
set_option maxHeartbeats 4000000 in
theorem s_X10_isWild {l : Launch} {D : va_G} {cy : Nat → ClassId} {σ : Nat → Int32} : ∀ q ∈ p_X10_isWild, rx_Sd (gG l D cy σ) mt m_X10_isWild q.1 q.2 :=
  ck_all (H := h_X10_isWild) (P := o_X10_isWild) rfl rfl rfl rfl rfl rfl (by decide +kernel) <|
  o_an
set_option maxRecDepth 100000 in
set_option maxHeartbeats 4000000 in
theorem s_X10_keep {l : Launch} {D : va_G} {cy : Nat → ClassId} {σ : Nat → Int32} : ∀ q ∈ p_X10_keep, rx_Sd (gG l D cy σ) mt m_X10_keep q.1 q.2 :=
  ck_all (H := h_X10_keep) (P := o_X10_keep) rfl rfl rfl rfl rfl rfl (by decide +kernel) <|
  o_ac (rx_sd_cl (M := m_X10_keep) (rx_lk_V gok (mid := 134) (ci := 10) (C := (RX10, TX10, 58)) ⟨kw_647, kw_484, hd_X10_copy, Nat.le_of_ble_eq_true rfl, Nat.le_of_ble_eq_true rfl⟩ rfl kw_648 kw_649 kw_650 (by decide +kernel)) (fun _ => ⟨_, rfl⟩) rfl rfl) <|
  o_an
set_option maxRecDepth 100000 in
set_option maxHeartbeats 4000000 in
theorem s_X10_leads {l : Launch} {D : va_G} {cy : Nat → ClassId} {σ : Nat → Int32} : ∀ q ∈ p_X10_leads, rx_Sd (gG l D cy σ) mt m_X10_leads q.1 q.2 :=
  ck_all (H := h_X10_leads) (P := o_X10_leads) rfl rfl rfl rfl rfl rfl (by decide +kernel) <|
  o_an
set_option maxRecDepth 100000 in
set_option maxHeartbeats 4000000 in
theorem s_X10_least {l : Launch} {D : va_G} {cy : Nat → ClassId} {σ : Nat → Int32} : ∀ q ∈ p_X10_least, rx_Sd (gG l D cy σ) mt m_X10_least q.1 q.2 :=
  ck_all (H := h_X10_least) (P := o_X10_least) rfl rfl rfl rfl rfl rfl (by decide +kernel) <|
  o_ac (rx_sd_cl (M := m_X10_least) (rx_lk_V gok (mid := 163) (ci := 10) (C := (RX10, TX10, 58)) ⟨kw_508, kw_484, hd_X10_leastOf, Nat.le_of_ble_eq_true rfl, Nat.le_of_ble_eq_true rfl⟩ rfl kw_509 kw_510 kw_511 (by decide +kernel)) (fun _ => ⟨_, rfl⟩) rfl rfl) <|
  o_an
set_option maxRecDepth 100000 in
set_option maxHeartbeats 4000000 in
theorem s_X10_leastOf {l : Launch} {D : va_G} {cy : Nat → ClassId} {σ : Nat → Int32} : ∀ q ∈ p_X10_leastOf, rx_Sd (gG l D cy σ) mt m_X10_leastOf q.1 q.2 :=
  ck_all (H := h_X10_leastOf) (P := o_X10_leastOf) rfl rfl rfl rfl rfl rfl (by decide +kernel) <|
  o_ac (rx_sd_cl (M := m_X10_leastOf) (rx_lk_S gok (mid := 165) ⟨kw_535, kw_484, hd_X10_lesser, Nat.le_of_ble_eq_true rfl, Nat.le_of_ble_eq_true rfl⟩ kw_536 kw_537 (by decide +kernel)) (fun h => nomatch h) rfl rfl) <|
  o_an
set_option maxRecDepth 100000 in
set_option maxHeartbeats 4000000 in
theorem s_X10_less {l : Launch} {D : va_G} {cy : Nat → ClassId} {σ : Nat → Int32} : ∀ q ∈ p_X10_less, rx_Sd (gG l D cy σ) mt m_X10_less q.1 q.2 :=
  ck_all (H := h_X10_less) (P := o_X10_less) rfl rfl rfl rfl rfl rfl (by decide +kernel) <|
  o_an
set_option maxRecDepth 100000 in
set_option maxHeartbeats 4000000 in
theorem s_X10_lesser {l : Launch} {D : va_G} {cy : Nat → ClassId} {σ : Nat → Int32} : ∀ q ∈ p_X10_lesser, rx_Sd (gG l D cy σ) mt m_X10_lesser q.1 q.2 :=
  ck_all (H := h_X10_lesser) (P := o_X10_lesser) rfl rfl rfl rfl rfl rfl (by decide +kernel) <|
  o_an
set_option maxRecDepth 100000 in
set_option maxHeartbeats 4000000 in
theorem s_X10_letterOf {l : Launch} {D : va_G} {cy : Nat → ClassId} {σ : Nat → Int32} : ∀ q ∈ p_X10_letterOf, rx_Sd (gG l D cy σ) mt m_X10_letterOf q.1 q.2 :=
  ck_all (H := h_X10_letterOf) (P := o_X10_letterOf) rfl rfl rfl rfl rfl rfl (by decide +kernel) <|
  o_ac (rx_sd_cl (M := m_X10_letterOf) (rx_lk_V gok (mid := 124) (ci := 10) (C := (RX10, TX10, 58)) ⟨kw_643, kw_484, hd_X10_areAlike, Nat.le_of_ble_eq_true rfl, Nat.le_of_ble_eq_true rfl⟩ rfl kw_644 kw_645 kw_646 (by decide +kernel)) (fun _ => ⟨_, rfl⟩) rfl rfl) <|
  o_ac (rx_sd_cl (M := m_X10_letterOf) (rx_lk_V gok (mid := 134) (ci := 10) (C := (RX10, TX10, 58)) ⟨kw_647, kw_484, hd_X10_copy, Nat.le_of_ble_eq_true rfl, Nat.le_of_ble_eq_true rfl⟩ rfl kw_648 kw_649 kw_650 (by decide +kernel)) (fun _ => ⟨_, rfl⟩) rfl rfl) <|
  o_an
set_option maxRecDepth 100000 in
set_option maxHeartbeats 4000000 in
theorem s_X10_named {l : Launch} {D : va_G} {cy : Nat → ClassId} {σ : Nat → Int32} : ∀ q ∈ p_X10_named, rx_Sd (gG l D cy σ) mt m_X10_named q.1 q.2 :=
  ck_all (H := h_X10_named) (P := o_X10_named) rfl rfl rfl rfl rfl rfl (by decide +kernel) <|
  o_an
set_option maxRecDepth 100000 in
set_option maxHeartbeats 4000000 in
theorem s_X10_one {l : Launch} {D : va_G} {cy : Nat → ClassId} {σ : Nat → Int32} : ∀ q ∈ p_X10_one, rx_Sd (gG l D cy σ) mt m_X10_one q.1 q.2 :=
  ck_all (H := h_X10_one) (P := o_X10_one) rfl rfl rfl rfl rfl rfl (by decide +kernel) <|
  o_an
set_option maxRecDepth 100000 in
set_option maxHeartbeats 4000000 in
theorem s_X10_ones {l : Launch} {D : va_G} {cy : Nat → ClassId} {σ : Nat → Int32} : ∀ q ∈ p_X10_ones, rx_Sd (gG l D cy σ) mt m_X10_ones q.1 q.2 :=
  ck_all (H := h_X10_ones) (P := o_X10_ones) rfl rfl rfl rfl rfl rfl (by decide +kernel) <|
  o_ac (rx_sd_cl (M := m_X10_ones) (rx_lk_V gok (mid := 186) (ci := 10) (C := (RX10, TX10, 58)) ⟨kw_504, kw_484, hd_X10_sumOf, Nat.le_of_ble_eq_true rfl, Nat.le_of_ble_eq_true rfl⟩ rfl kw_505 kw_506 kw_507 (by decide +kernel)) (fun _ => ⟨_, rfl⟩) rfl rfl) <|
  o_an
set_option maxRecDepth 100000 in
set_option maxHeartbeats 4000000 in
theorem s_X10_order {l : Launch} {D : va_G} {cy : Nat → ClassId} {σ : Nat → Int32} : ∀ q ∈ p_X10_order, rx_Sd (gG l D cy σ) mt m_X10_order q.1 q.2 :=
  ck_all (H := h_X10_order) (P := o_X10_order) rfl rfl rfl rfl rfl rfl (by decide +kernel) <|
  o_ac (rx_sd_cl (M := m_X10_order) (rx_lk_V gok (mid := 181) (ci := 10) (C := (RX10, TX10, 58)) ⟨kw_492, kw_484, hd_X10_saves, Nat.le_of_ble_eq_true rfl, Nat.le_of_ble_eq_true rfl⟩ rfl kw_493 kw_494 kw_495 (by decide +kernel)) (fun _ => ⟨_, rfl⟩) rfl rfl) <|
  o_ac (rx_sd_cl (M := m_X10_order) (rx_lk_V gok (mid := 200) (ci := 10) (C := (RX10, TX10, 58)) ⟨kw_512, kw_484, hd_X10_turns, Nat.le_of_ble_eq_true rfl, Nat.le_of_ble_eq_true rfl⟩ rfl kw_513 kw_514 kw_515 (by decide +kernel)) (fun _ => ⟨_, rfl⟩) rfl rfl) <|
  o_ac (rx_sd_cl (M := m_X10_order) (rx_lk_V gok (mid := 153) (ci := 10) (C := (RX10, TX10, 58)) ⟨kw_651, kw_484, hd_X10_isBegun, Nat.le_of_ble_eq_true rfl, Nat.le_of_ble_eq_true rfl⟩ rfl kw_652 kw_653 kw_654 (by decide +kernel)) (fun _ => ⟨_, rfl⟩) rfl rfl) <|
  o_ac (rx_sd_cl (M := m_X10_order) (rx_lk_V gok (mid := 176) (ci := 10) (C := (RX10, TX10, 58)) ⟨kw_500, kw_484, hd_X10_restores, Nat.le_of_ble_eq_true rfl, Nat.le_of_ble_eq_true rfl⟩ rfl kw_501 kw_502 kw_503 (by decide +kernel)) (fun _ => ⟨_, rfl⟩) rfl rfl) <|
  o_an
set_option maxRecDepth 100000 in
set_option maxHeartbeats 4000000 in
theorem s_X10_other {l : Launch} {D : va_G} {cy : Nat → ClassId} {σ : Nat → Int32} : ∀ q ∈ p_X10_other, rx_Sd (gG l D cy σ) mt m_X10_other q.1 q.2 :=
  ck_all (H := h_X10_other) (P := o_X10_other) rfl rfl rfl rfl rfl rfl (by decide +kernel) <|
  o_ac (rx_sd_cl (M := m_X10_other) (rx_lk_V gok (mid := 155) (ci := 10) (C := (RX10, TX10, 58)) ⟨kw_655, kw_484, hd_X10_isSide, Nat.le_of_ble_eq_true rfl, Nat.le_of_ble_eq_true rfl⟩ rfl kw_656 kw_657 kw_658 (by decide +kernel)) (fun _ => ⟨_, rfl⟩) rfl rfl) <|
  o_ac (rx_sd_cl (M := m_X10_other) (rx_lk_V gok (mid := 155) (ci := 10) (C := (RX10, TX10, 58)) ⟨kw_655, kw_484, hd_X10_isSide, Nat.le_of_ble_eq_true rfl, Nat.le_of_ble_eq_true rfl⟩ rfl kw_656 kw_657 kw_658 (by decide +kernel)) (fun _ => ⟨_, rfl⟩) rfl rfl) <|
  o_ac (rx_sd_cl (M := m_X10_other) (rx_lk_S gok (mid := 165) ⟨kw_535, kw_484, hd_X10_lesser, Nat.le_of_ble_eq_true rfl, Nat.le_of_ble_eq_true rfl⟩ kw_536 kw_537 (by decide +kernel)) (fun h => nomatch h) rfl rfl) <|
  o_ac (rx_sd_cl (M := m_X10_other) (rx_lk_S gok (mid := 148) ⟨kw_538, kw_484, hd_X10_greater, Nat.le_of_ble_eq_true rfl, Nat.le_of_ble_eq_true rfl⟩ kw_539 kw_540 (by decide +kernel)) (fun h => nomatch h) rfl rfl) <|
  o_an
set_option maxRecDepth 100000 in
set_option maxHeartbeats 4000000 in
theorem s_X10_parts {l : Launch} {D : va_G} {cy : Nat → ClassId} {σ : Nat → Int32} : ∀ q ∈ p_X10_parts, rx_Sd (gG l D cy σ) mt m_X10_parts q.1 q.2 :=
  ck_all (H := h_X10_parts) (P := o_X10_parts) rfl rfl rfl rfl rfl rfl (by decide +kernel) <|
  o_ac (rx_sd_cl (M := m_X10_parts) (rx_lk_V gok (mid := 173) (ci := 10) (C := (RX10, TX10, 58)) ⟨kw_483, kw_484, hd_X10_placeIn, Nat.le_of_ble_eq_true rfl, Nat.le_of_ble_eq_true rfl⟩ rfl kw_485 kw_486 kw_487 (by decide +kernel)) (fun _ => ⟨_, rfl⟩) rfl rfl) <|
  o_ac (rx_sd_cl (M := m_X10_parts) (rx_lk_V gok (mid := 164) (ci := 10) (C := (RX10, TX10, 58)) ⟨kw_659, kw_484, hd_X10_less, Nat.le_of_ble_eq_true rfl, Nat.le_of_ble_eq_true rfl⟩ rfl kw_660 kw_661 kw_662 (by decide +kernel)) (fun _ => ⟨_, rfl⟩) rfl rfl) <|
  o_ac (rx_sd_cl (M := m_X10_parts) (rx_lk_V gok (mid := 199) (ci := 10) (C := (RX10, TX10, 58)) ⟨kw_663, kw_484, hd_X10_turnRound, Nat.le_of_ble_eq_true rfl, Nat.le_of_ble_eq_true rfl⟩ rfl kw_664 kw_665 kw_666 (by decide +kernel)) (fun _ => ⟨_, rfl⟩) rfl rfl) <|
  o_an
set_option maxRecDepth 100000 in
set_option maxHeartbeats 4000000 in
theorem s_X10_placeIn {l : Launch} {D : va_G} {cy : Nat → ClassId} {σ : Nat → Int32} : ∀ q ∈ p_X10_placeIn, rx_Sd (gG l D cy σ) mt m_X10_placeIn q.1 q.2 :=
  ck_all (H := h_X10_placeIn) (P := o_X10_placeIn) rfl rfl rfl rfl rfl rfl (by decide +kernel) <|
  o_ac (rx_sd_cl (M := m_X10_placeIn) (rx_lk_V gok (mid := 122) (ci := 10) (C := (RX10, TX10, 58)) ⟨kw_488, kw_484, hd_X10_against, Nat.le_of_ble_eq_true rfl, Nat.le_of_ble_eq_true rfl⟩ rfl kw_489 kw_490 kw_491 (by decide +kernel)) (fun _ => ⟨_, rfl⟩) rfl rfl) <|
  o_an
set_option maxRecDepth 100000 in
set_option maxHeartbeats 4000000 in
theorem s_X10_placeOf {l : Launch} {D : va_G} {cy : Nat → ClassId} {σ : Nat → Int32} : ∀ q ∈ p_X10_placeOf, rx_Sd (gG l D cy σ) mt m_X10_placeOf q.1 q.2 :=
  ck_all (H := h_X10_placeOf) (P := o_X10_placeOf) rfl rfl rfl rfl rfl rfl (by decide +kernel) <|
  o_ac (rx_sd_cl (M := m_X10_placeOf) (rx_lk_S gok (mid := 165) ⟨kw_535, kw_484, hd_X10_lesser, Nat.le_of_ble_eq_true rfl, Nat.le_of_ble_eq_true rfl⟩ kw_536 kw_537 (by decide +kernel)) (fun h => nomatch h) rfl rfl) <|
  o_ac (rx_sd_cl (M := m_X10_placeOf) (rx_lk_S gok (mid := 148) ⟨kw_538, kw_484, hd_X10_greater, Nat.le_of_ble_eq_true rfl, Nat.le_of_ble_eq_true rfl⟩ kw_539 kw_540 (by decide +kernel)) (fun h => nomatch h) rfl rfl) <|
  o_an
set_option maxRecDepth 100000 in
set_option maxHeartbeats 4000000 in
theorem s_X10_product {l : Launch} {D : va_G} {cy : Nat → ClassId} {σ : Nat → Int32} : ∀ q ∈ p_X10_product, rx_Sd (gG l D cy σ) mt m_X10_product q.1 q.2 :=
  ck_all (H := h_X10_product) (P := o_X10_product) rfl rfl rfl rfl rfl rfl (by decide +kernel) <|
  o_ac (rx_sd_cl (M := m_X10_product) (rx_lk_V gok (mid := 168) (ci := 10) (C := (RX10, TX10, 58)) ⟨kw_552, kw_484, hd_X10_one, Nat.le_of_ble_eq_true rfl, Nat.le_of_ble_eq_true rfl⟩ rfl kw_553 kw_554 kw_555 (by decide +kernel)) (fun _ => ⟨_, rfl⟩) rfl rfl) <|
  o_ac (rx_sd_cl (M := m_X10_product) (rx_lk_V gok (mid := 151) (ci := 10) (C := (RX10, TX10, 58)) ⟨kw_667, kw_484, hd_X10_heldSlot, Nat.le_of_ble_eq_true rfl, Nat.le_of_ble_eq_true rfl⟩ rfl kw_668 kw_669 kw_670 (by decide +kernel)) (fun _ => ⟨_, rfl⟩) rfl rfl) <|
  o_ac (rx_sd_cl (M := m_X10_product) (rx_lk_V gok (mid := 197) (ci := 10) (C := (RX10, TX10, 58)) ⟨kw_671, kw_484, hd_X10_timesOften, Nat.le_of_ble_eq_true rfl, Nat.le_of_ble_eq_true rfl⟩ rfl kw_672 kw_673 kw_674 (by decide +kernel)) (fun _ => ⟨_, rfl⟩) rfl rfl) <|
  o_an
set_option maxRecDepth 100000 in
set_option maxHeartbeats 4000000 in
theorem s_X10_restores {l : Launch} {D : va_G} {cy : Nat → ClassId} {σ : Nat → Int32} : ∀ q ∈ p_X10_restores, rx_Sd (gG l D cy σ) mt m_X10_restores q.1 q.2 :=
  ck_all (H := h_X10_restores) (P := o_X10_restores) rfl rfl rfl rfl rfl rfl (by decide +kernel) <|
  o_ac (rx_sd_cl (M := m_X10_restores) (rx_lk_V gok (mid := 134) (ci := 10) (C := (RX10, TX10, 58)) ⟨kw_647, kw_484, hd_X10_copy, Nat.le_of_ble_eq_true rfl, Nat.le_of_ble_eq_true rfl⟩ rfl kw_648 kw_649 kw_650 (by decide +kernel)) (fun _ => ⟨_, rfl⟩) rfl rfl) <|
  o_an
set_option maxRecDepth 100000 in
set_option maxHeartbeats 4000000 in
theorem s_X10_ring {l : Launch} {D : va_G} {cy : Nat → ClassId} {σ : Nat → Int32} : ∀ q ∈ p_X10_ring, rx_Sd (gG l D cy σ) mt m_X10_ring q.1 q.2 :=
  ck_all (H := h_X10_ring) (P := o_X10_ring) rfl rfl rfl rfl rfl rfl (by decide +kernel) <|
  o_ac (rx_sd_cl (M := m_X10_ring) (rx_lk_V gok (mid := 156) (ci := 10) (C := (RX10, TX10, 58)) ⟨kw_528, kw_484, hd_X10_isSlot, Nat.le_of_ble_eq_true rfl, Nat.le_of_ble_eq_true rfl⟩ rfl kw_529 kw_530 kw_531 (by decide +kernel)) (fun _ => ⟨_, rfl⟩) rfl rfl) <|
  o_an
set_option maxRecDepth 100000 in
set_option maxHeartbeats 4000000 in
theorem s_X10_ringOf {l : Launch} {D : va_G} {cy : Nat → ClassId} {σ : Nat → Int32} : ∀ q ∈ p_X10_ringOf, rx_Sd (gG l D cy σ) mt m_X10_ringOf q.1 q.2 :=
  ck_all (H := h_X10_ringOf) (P := o_X10_ringOf) rfl rfl rfl rfl rfl rfl (by decide +kernel) <|
  o_ac (rx_sd_cl (M := m_X10_ringOf) (rx_lk_V gok (mid := 156) (ci := 10) (C := (RX10, TX10, 58)) ⟨kw_528, kw_484, hd_X10_isSlot, Nat.le_of_ble_eq_true rfl, Nat.le_of_ble_eq_true rfl⟩ rfl kw_529 kw_530 kw_531 (by decide +kernel)) (fun _ => ⟨_, rfl⟩) rfl rfl) <|
  o_ac (rx_sd_cl (M := m_X10_ringOf) (rx_lk_V gok (mid := 140) (ci := 10) (C := (RX10, TX10, 58)) ⟨kw_544, kw_484, hd_X10_fences, Nat.le_of_ble_eq_true rfl, Nat.le_of_ble_eq_true rfl⟩ rfl kw_545 kw_546 kw_547 (by decide +kernel)) (fun _ => ⟨_, rfl⟩) rfl rfl) <|
  o_ac (rx_sd_cl (M := m_X10_ringOf) (rx_lk_V gok (mid := 154) (ci := 10) (C := (RX10, TX10, 58)) ⟨kw_556, kw_484, hd_X10_isCutting, Nat.le_of_ble_eq_true rfl, Nat.le_of_ble_eq_true rfl⟩ rfl kw_557 kw_558 kw_559 (by decide +kernel)) (fun _ => ⟨_, rfl⟩) rfl rfl) <|
  o_ac (rx_sd_cl (M := m_X10_ringOf) (rx_lk_V gok (mid := 195) (ci := 10) (C := (RX10, TX10, 58)) ⟨kw_571, kw_484, hd_X10_thirds, Nat.le_of_ble_eq_true rfl, Nat.le_of_ble_eq_true rfl⟩ rfl kw_572 kw_573 kw_574 (by decide +kernel)) (fun _ => ⟨_, rfl⟩) rfl rfl) <|
  o_ac (rx_sd_cl (M := m_X10_ringOf) (rx_lk_V gok (mid := 140) (ci := 10) (C := (RX10, TX10, 58)) ⟨kw_544, kw_484, hd_X10_fences, Nat.le_of_ble_eq_true rfl, Nat.le_of_ble_eq_true rfl⟩ rfl kw_545 kw_546 kw_547 (by decide +kernel)) (fun _ => ⟨_, rfl⟩) rfl rfl) <|
  o_ac (rx_sd_cl (M := m_X10_ringOf) (rx_lk_V gok (mid := 139) (ci := 10) (C := (RX10, TX10, 58)) ⟨kw_675, kw_484, hd_X10_fenceAt, Nat.le_of_ble_eq_true rfl, Nat.le_of_ble_eq_true rfl⟩ rfl kw_676 kw_677 kw_678 (by decide +kernel)) (fun _ => ⟨_, rfl⟩) rfl rfl) <|
  o_ac (rx_sd_cl (M := m_X10_ringOf) (rx_lk_S gok (mid := 167) ⟨kw_564, kw_484, hd_X10_named, Nat.le_of_ble_eq_true rfl, Nat.le_of_ble_eq_true rfl⟩ kw_565 kw_566 (by decide +kernel)) (fun h => nomatch h) rfl rfl) <|
  o_an
set_option maxRecDepth 100000 in
set_option maxHeartbeats 4000000 in
theorem s_X10_row {l : Launch} {D : va_G} {cy : Nat → ClassId} {σ : Nat → Int32} : ∀ q ∈ p_X10_row, rx_Sd (gG l D cy σ) mt m_X10_row q.1 q.2 :=
  ck_all (H := h_X10_row) (P := o_X10_row) rfl rfl rfl rfl rfl rfl (by decide +kernel) <|
  o_an
set_option maxRecDepth 100000 in
set_option maxHeartbeats 4000000 in
theorem s_X10_same {l : Launch} {D : va_G} {cy : Nat → ClassId} {σ : Nat → Int32} : ∀ q ∈ p_X10_same, rx_Sd (gG l D cy σ) mt m_X10_same q.1 q.2 :=
  ck_all (H := h_X10_same) (P := o_X10_same) rfl rfl rfl rfl rfl rfl (by decide +kernel) <|
  o_ac (rx_sd_cl (M := m_X10_same) (rx_lk_V gok (mid := 124) (ci := 10) (C := (RX10, TX10, 58)) ⟨kw_643, kw_484, hd_X10_areAlike, Nat.le_of_ble_eq_true rfl, Nat.le_of_ble_eq_true rfl⟩ rfl kw_644 kw_645 kw_646 (by decide +kernel)) (fun _ => ⟨_, rfl⟩) rfl rfl) <|
  o_an
set_option maxRecDepth 100000 in
set_option maxHeartbeats 4000000 in
theorem s_X10_saves {l : Launch} {D : va_G} {cy : Nat → ClassId} {σ : Nat → Int32} : ∀ q ∈ p_X10_saves, rx_Sd (gG l D cy σ) mt m_X10_saves q.1 q.2 :=
  ck_all (H := h_X10_saves) (P := o_X10_saves) rfl rfl rfl rfl rfl rfl (by decide +kernel) <|
  o_ac (rx_sd_cl (M := m_X10_saves) (rx_lk_V gok (mid := 134) (ci := 10) (C := (RX10, TX10, 58)) ⟨kw_647, kw_484, hd_X10_copy, Nat.le_of_ble_eq_true rfl, Nat.le_of_ble_eq_true rfl⟩ rfl kw_648 kw_649 kw_650 (by decide +kernel)) (fun _ => ⟨_, rfl⟩) rfl rfl) <|
  o_an
set_option maxRecDepth 100000 in
set_option maxHeartbeats 4000000 in
theorem s_X10_searches {l : Launch} {D : va_G} {cy : Nat → ClassId} {σ : Nat → Int32} : ∀ q ∈ p_X10_searches, rx_Sd (gG l D cy σ) mt m_X10_searches q.1 q.2 :=
  ck_all (H := h_X10_searches) (P := o_X10_searches) rfl rfl rfl rfl rfl rfl (by decide +kernel) <|
  o_ac (rx_sd_cl (M := m_X10_searches) (rx_lk_V gok (mid := 192) (ci := 10) (C := (RX10, TX10, 58)) ⟨kw_679, kw_484, hd_X10_tells, Nat.le_of_ble_eq_true rfl, Nat.le_of_ble_eq_true rfl⟩ rfl kw_680 kw_681 kw_682 (by decide +kernel)) (fun _ => ⟨_, rfl⟩) rfl rfl) <|
  o_ac (rx_sd_cl (M := m_X10_searches) (rx_lk_V gok (mid := 201) (ci := 10) (C := (RX10, TX10, 58)) ⟨kw_683, kw_484, hd_X10_turnsArrows, Nat.le_of_ble_eq_true rfl, Nat.le_of_ble_eq_true rfl⟩ rfl kw_684 kw_685 kw_686 (by decide +kernel)) (fun _ => ⟨_, rfl⟩) rfl rfl) <|
  o_ac (rx_sd_cl (M := m_X10_searches) (rx_lk_V gok (mid := 192) (ci := 10) (C := (RX10, TX10, 58)) ⟨kw_679, kw_484, hd_X10_tells, Nat.le_of_ble_eq_true rfl, Nat.le_of_ble_eq_true rfl⟩ rfl kw_680 kw_681 kw_682 (by decide +kernel)) (fun _ => ⟨_, rfl⟩) rfl rfl) <|
  o_an
