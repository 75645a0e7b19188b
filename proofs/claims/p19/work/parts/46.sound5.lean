set_option maxRecDepth 100000 in
set_option maxHeartbeats 4000000 in
theorem s_X10_count {l : Launch} {D : va_G} {cy : Nat → ClassId} {σ : Nat → Int32} : ∀ q ∈ p_X10_count, rx_Sd (gG l D cy σ) mt m_X10_count q.1 q.2 :=
  ck_all (H := h_X10_count) (P := o_X10_count) rfl rfl rfl rfl rfl rfl (by decide +kernel) <|
  o_an
set_option maxRecDepth 100000 in
set_option maxHeartbeats 4000000 in
theorem s_X10_cross {l : Launch} {D : va_G} {cy : Nat → ClassId} {σ : Nat → Int32} : ∀ q ∈ p_X10_cross, rx_Sd (gG l D cy σ) mt m_X10_cross q.1 q.2 :=
  ck_all (H := h_X10_cross) (P := o_X10_cross) rfl rfl rfl rfl rfl rfl (by decide +kernel) <|
  o_an
set_option maxRecDepth 100000 in
set_option maxHeartbeats 4000000 in
theorem s_X10_cuttingOf {l : Launch} {D : va_G} {cy : Nat → ClassId} {σ : Nat → Int32} : ∀ q ∈ p_X10_cuttingOf, rx_Sd (gG l D cy σ) mt m_X10_cuttingOf q.1 q.2 :=
  ck_all (H := h_X10_cuttingOf) (P := o_X10_cuttingOf) rfl rfl rfl rfl rfl rfl (by decide +kernel) <|
  o_an
set_option maxRecDepth 100000 in
set_option maxHeartbeats 4000000 in
theorem s_X10_fence {l : Launch} {D : va_G} {cy : Nat → ClassId} {σ : Nat → Int32} : ∀ q ∈ p_X10_fence, rx_Sd (gG l D cy σ) mt m_X10_fence q.1 q.2 :=
  ck_all (H := h_X10_fence) (P := o_X10_fence) rfl rfl rfl rfl rfl rfl (by decide +kernel) <|
  o_ac (rx_sd_cl (M := m_X10_fence) (rx_lk_V gok (mid := 156) (ci := 10) (C := (RX10, TX10, 58)) ⟨kw_528, kw_484, hd_X10_isSlot, Nat.le_of_ble_eq_true rfl, Nat.le_of_ble_eq_true rfl⟩ rfl kw_529 kw_530 kw_531 (by decide +kernel)) (fun _ => ⟨_, rfl⟩) rfl rfl) <|
  o_ac (rx_sd_cl (M := m_X10_fence) (rx_lk_S gok (mid := 125) ⟨kw_532, kw_484, hd_X10_areNeighbours, Nat.le_of_ble_eq_true rfl, Nat.le_of_ble_eq_true rfl⟩ kw_533 kw_534 (by decide +kernel)) (fun h => nomatch h) rfl rfl) <|
  o_ac (rx_sd_cl (M := m_X10_fence) (rx_lk_S gok (mid := 165) ⟨kw_535, kw_484, hd_X10_lesser, Nat.le_of_ble_eq_true rfl, Nat.le_of_ble_eq_true rfl⟩ kw_536 kw_537 (by decide +kernel)) (fun h => nomatch h) rfl rfl) <|
  o_ac (rx_sd_cl (M := m_X10_fence) (rx_lk_S gok (mid := 148) ⟨kw_538, kw_484, hd_X10_greater, Nat.le_of_ble_eq_true rfl, Nat.le_of_ble_eq_true rfl⟩ kw_539 kw_540 (by decide +kernel)) (fun h => nomatch h) rfl rfl) <|
  o_ac (rx_sd_cl (M := m_X10_fence) (rx_lk_S gok (mid := 136) ⟨kw_541, kw_484, hd_X10_cross, Nat.le_of_ble_eq_true rfl, Nat.le_of_ble_eq_true rfl⟩ kw_542 kw_543 (by decide +kernel)) (fun h => nomatch h) rfl rfl) <|
  o_ac (rx_sd_cl (M := m_X10_fence) (rx_lk_V gok (mid := 140) (ci := 10) (C := (RX10, TX10, 58)) ⟨kw_544, kw_484, hd_X10_fences, Nat.le_of_ble_eq_true rfl, Nat.le_of_ble_eq_true rfl⟩ rfl kw_545 kw_546 kw_547 (by decide +kernel)) (fun _ => ⟨_, rfl⟩) rfl rfl) <|
  o_an
set_option maxRecDepth 100000 in
set_option maxHeartbeats 4000000 in
theorem s_X10_fenceAt {l : Launch} {D : va_G} {cy : Nat → ClassId} {σ : Nat → Int32} : ∀ q ∈ p_X10_fenceAt, rx_Sd (gG l D cy σ) mt m_X10_fenceAt q.1 q.2 :=
  ck_all (H := h_X10_fenceAt) (P := o_X10_fenceAt) rfl rfl rfl rfl rfl rfl (by decide +kernel) <|
  o_an
set_option maxRecDepth 100000 in
set_option maxHeartbeats 4000000 in
theorem s_X10_fences {l : Launch} {D : va_G} {cy : Nat → ClassId} {σ : Nat → Int32} : ∀ q ∈ p_X10_fences, rx_Sd (gG l D cy σ) mt m_X10_fences q.1 q.2 :=
  ck_all (H := h_X10_fences) (P := o_X10_fences) rfl rfl rfl rfl rfl rfl (by decide +kernel) <|
  o_an
set_option maxRecDepth 100000 in
set_option maxHeartbeats 4000000 in
theorem s_X10_finite {l : Launch} {D : va_G} {cy : Nat → ClassId} {σ : Nat → Int32} : ∀ q ∈ p_X10_finite, rx_Sd (gG l D cy σ) mt m_X10_finite q.1 q.2 :=
  ck_all (H := h_X10_finite) (P := o_X10_finite) rfl rfl rfl rfl rfl rfl (by decide +kernel) <|
  o_ac (rx_sd_cl (M := m_X10_finite) (rx_lk_V gok (mid := 181) (ci := 10) (C := (RX10, TX10, 58)) ⟨kw_492, kw_484, hd_X10_saves, Nat.le_of_ble_eq_true rfl, Nat.le_of_ble_eq_true rfl⟩ rfl kw_493 kw_494 kw_495 (by decide +kernel)) (fun _ => ⟨_, rfl⟩) rfl rfl) <|
  o_ac (rx_sd_cl (M := m_X10_finite) (rx_lk_V gok (mid := 182) (ci := 10) (C := (RX10, TX10, 58)) ⟨kw_548, kw_484, hd_X10_searches, Nat.le_of_ble_eq_true rfl, Nat.le_of_ble_eq_true rfl⟩ rfl kw_549 kw_550 kw_551 (by decide +kernel)) (fun _ => ⟨_, rfl⟩) rfl rfl) <|
  o_ac (rx_sd_cl (M := m_X10_finite) (rx_lk_V gok (mid := 176) (ci := 10) (C := (RX10, TX10, 58)) ⟨kw_500, kw_484, hd_X10_restores, Nat.le_of_ble_eq_true rfl, Nat.le_of_ble_eq_true rfl⟩ rfl kw_501 kw_502 kw_503 (by decide +kernel)) (fun _ => ⟨_, rfl⟩) rfl rfl) <|
  o_an
set_option maxRecDepth 100000 in
set_option maxHeartbeats 4000000 in
theorem s_X10_firsts {l : Launch} {D : va_G} {cy : Nat → ClassId} {σ : Nat → Int32} : ∀ q ∈ p_X10_firsts, rx_Sd (gG l D cy σ) mt m_X10_firsts q.1 q.2 :=
  ck_all (H := h_X10_firsts) (P := o_X10_firsts) rfl rfl rfl rfl rfl rfl (by decide +kernel) <|
  o_ac (rx_sd_cl (M := m_X10_firsts) (rx_lk_V gok (mid := 168) (ci := 10) (C := (RX10, TX10, 58)) ⟨kw_552, kw_484, hd_X10_one, Nat.le_of_ble_eq_true rfl, Nat.le_of_ble_eq_true rfl⟩ rfl kw_553 kw_554 kw_555 (by decide +kernel)) (fun _ => ⟨_, rfl⟩) rfl rfl) <|
  o_an
set_option maxRecDepth 100000 in
set_option maxHeartbeats 4000000 in
theorem s_X10_flip {l : Launch} {D : va_G} {cy : Nat → ClassId} {σ : Nat → Int32} : ∀ q ∈ p_X10_flip, rx_Sd (gG l D cy σ) mt m_X10_flip q.1 q.2 :=
  ck_all (H := h_X10_flip) (P := o_X10_flip) rfl rfl rfl rfl rfl rfl (by decide +kernel) <|
  o_ac (rx_sd_cl (M := m_X10_flip) (rx_lk_V gok (mid := 156) (ci := 10) (C := (RX10, TX10, 58)) ⟨kw_528, kw_484, hd_X10_isSlot, Nat.le_of_ble_eq_true rfl, Nat.le_of_ble_eq_true rfl⟩ rfl kw_529 kw_530 kw_531 (by decide +kernel)) (fun _ => ⟨_, rfl⟩) rfl rfl) <|
  o_ac (rx_sd_cl (M := m_X10_flip) (rx_lk_V gok (mid := 154) (ci := 10) (C := (RX10, TX10, 58)) ⟨kw_556, kw_484, hd_X10_isCutting, Nat.le_of_ble_eq_true rfl, Nat.le_of_ble_eq_true rfl⟩ rfl kw_557 kw_558 kw_559 (by decide +kernel)) (fun _ => ⟨_, rfl⟩) rfl rfl) <|
  o_ac (rx_sd_cl (M := m_X10_flip) (rx_lk_S gok (mid := 165) ⟨kw_535, kw_484, hd_X10_lesser, Nat.le_of_ble_eq_true rfl, Nat.le_of_ble_eq_true rfl⟩ kw_536 kw_537 (by decide +kernel)) (fun h => nomatch h) rfl rfl) <|
  o_ac (rx_sd_cl (M := m_X10_flip) (rx_lk_S gok (mid := 148) ⟨kw_538, kw_484, hd_X10_greater, Nat.le_of_ble_eq_true rfl, Nat.le_of_ble_eq_true rfl⟩ kw_539 kw_540 (by decide +kernel)) (fun h => nomatch h) rfl rfl) <|
  o_ac (rx_sd_cl (M := m_X10_flip) (rx_lk_V gok (mid := 144) (ci := 10) (C := (RX10, TX10, 58)) ⟨kw_560, kw_484, hd_X10_flips, Nat.le_of_ble_eq_true rfl, Nat.le_of_ble_eq_true rfl⟩ rfl kw_561 kw_562 kw_563 (by decide +kernel)) (fun _ => ⟨_, rfl⟩) rfl rfl) <|
  o_ac (rx_sd_cl (M := m_X10_flip) (rx_lk_S gok (mid := 167) ⟨kw_564, kw_484, hd_X10_named, Nat.le_of_ble_eq_true rfl, Nat.le_of_ble_eq_true rfl⟩ kw_565 kw_566 (by decide +kernel)) (fun h => nomatch h) rfl rfl) <|
  o_an
set_option maxRecDepth 100000 in
set_option maxHeartbeats 4000000 in
theorem s_X10_flips {l : Launch} {D : va_G} {cy : Nat → ClassId} {σ : Nat → Int32} : ∀ q ∈ p_X10_flips, rx_Sd (gG l D cy σ) mt m_X10_flips q.1 q.2 :=
  ck_all (H := h_X10_flips) (P := o_X10_flips) rfl rfl rfl rfl rfl rfl (by decide +kernel) <|
  o_ac (rx_sd_cl (M := m_X10_flips) (rx_lk_V gok (mid := 171) (ci := 10) (C := (RX10, TX10, 58)) ⟨kw_567, kw_484, hd_X10_other, Nat.le_of_ble_eq_true rfl, Nat.le_of_ble_eq_true rfl⟩ rfl kw_568 kw_569 kw_570 (by decide +kernel)) (fun _ => ⟨_, rfl⟩) rfl rfl) <|
  o_an
set_option maxRecDepth 100000 in
set_option maxHeartbeats 4000000 in
theorem s_X10_frieze {l : Launch} {D : va_G} {cy : Nat → ClassId} {σ : Nat → Int32} : ∀ q ∈ p_X10_frieze, rx_Sd (gG l D cy σ) mt m_X10_frieze q.1 q.2 :=
  ck_all (H := h_X10_frieze) (P := o_X10_frieze) rfl rfl rfl rfl rfl rfl (by decide +kernel) <|
  o_ac (rx_sd_cl (M := m_X10_frieze) (rx_lk_V gok (mid := 156) (ci := 10) (C := (RX10, TX10, 58)) ⟨kw_528, kw_484, hd_X10_isSlot, Nat.le_of_ble_eq_true rfl, Nat.le_of_ble_eq_true rfl⟩ rfl kw_529 kw_530 kw_531 (by decide +kernel)) (fun _ => ⟨_, rfl⟩) rfl rfl) <|
  o_ac (rx_sd_cl (M := m_X10_frieze) (rx_lk_V gok (mid := 154) (ci := 10) (C := (RX10, TX10, 58)) ⟨kw_556, kw_484, hd_X10_isCutting, Nat.le_of_ble_eq_true rfl, Nat.le_of_ble_eq_true rfl⟩ rfl kw_557 kw_558 kw_559 (by decide +kernel)) (fun _ => ⟨_, rfl⟩) rfl rfl) <|
  o_ac (rx_sd_cl (M := m_X10_frieze) (rx_lk_V gok (mid := 195) (ci := 10) (C := (RX10, TX10, 58)) ⟨kw_571, kw_484, hd_X10_thirds, Nat.le_of_ble_eq_true rfl, Nat.le_of_ble_eq_true rfl⟩ rfl kw_572 kw_573 kw_574 (by decide +kernel)) (fun _ => ⟨_, rfl⟩) rfl rfl) <|
  o_an
set_option maxRecDepth 100000 in
set_option maxHeartbeats 4000000 in
theorem s_X10_goes {l : Launch} {D : va_G} {cy : Nat → ClassId} {σ : Nat → Int32} : ∀ q ∈ p_X10_goes, rx_Sd (gG l D cy σ) mt m_X10_goes q.1 q.2 :=
  ck_all (H := h_X10_goes) (P := o_X10_goes) rfl rfl rfl rfl rfl rfl (by decide +kernel) <|
  o_an
set_option maxRecDepth 100000 in
set_option maxHeartbeats 4000000 in
theorem s_X10_goesThrough {l : Launch} {D : va_G} {cy : Nat → ClassId} {σ : Nat → Int32} : ∀ q ∈ p_X10_goesThrough, rx_Sd (gG l D cy σ) mt m_X10_goesThrough q.1 q.2 :=
  ck_all (H := h_X10_goesThrough) (P := o_X10_goesThrough) rfl rfl rfl rfl rfl rfl (by decide +kernel) <|
  o_ac (rx_sd_cl (M := m_X10_goesThrough) (rx_lk_V gok (mid := 166) (ci := 10) (C := (RX10, TX10, 58)) ⟨kw_575, kw_484, hd_X10_letterOf, Nat.le_of_ble_eq_true rfl, Nat.le_of_ble_eq_true rfl⟩ rfl kw_576 kw_577 kw_578 (by decide +kernel)) (fun _ => ⟨_, rfl⟩) rfl rfl) <|
  o_ac (rx_sd_cl (M := m_X10_goesThrough) (rx_lk_V gok (mid := 132) (ci := 10) (C := (RX10, TX10, 58)) ⟨kw_579, kw_484, hd_X10_comes, Nat.le_of_ble_eq_true rfl, Nat.le_of_ble_eq_true rfl⟩ rfl kw_580 kw_581 kw_582 (by decide +kernel)) (fun _ => ⟨_, rfl⟩) rfl rfl) <|
  o_ac (rx_sd_cl (M := m_X10_goesThrough) (rx_lk_V gok (mid := 190) (ci := 10) (C := (RX10, TX10, 58)) ⟨kw_583, kw_484, hd_X10_takes, Nat.le_of_ble_eq_true rfl, Nat.le_of_ble_eq_true rfl⟩ rfl kw_584 kw_585 kw_586 (by decide +kernel)) (fun _ => ⟨_, rfl⟩) rfl rfl) <|
  o_ac (rx_sd_cl (M := m_X10_goesThrough) (rx_lk_V gok (mid := 200) (ci := 10) (C := (RX10, TX10, 58)) ⟨kw_512, kw_484, hd_X10_turns, Nat.le_of_ble_eq_true rfl, Nat.le_of_ble_eq_true rfl⟩ rfl kw_513 kw_514 kw_515 (by decide +kernel)) (fun _ => ⟨_, rfl⟩) rfl rfl) <|
  o_ac (rx_sd_cl (M := m_X10_goesThrough) (rx_lk_V gok (mid := 166) (ci := 10) (C := (RX10, TX10, 58)) ⟨kw_575, kw_484, hd_X10_letterOf, Nat.le_of_ble_eq_true rfl, Nat.le_of_ble_eq_true rfl⟩ rfl kw_576 kw_577 kw_578 (by decide +kernel)) (fun _ => ⟨_, rfl⟩) rfl rfl) <|
  o_ac (rx_sd_cl (M := m_X10_goesThrough) (rx_lk_V gok (mid := 158) (ci := 10) (C := (RX10, TX10, 58)) ⟨kw_587, kw_484, hd_X10_isThere, Nat.le_of_ble_eq_true rfl, Nat.le_of_ble_eq_true rfl⟩ rfl kw_588 kw_589 kw_590 (by decide +kernel)) (fun _ => ⟨_, rfl⟩) rfl rfl) <|
  o_ac (rx_sd_cl (M := m_X10_goesThrough) (rx_lk_V gok (mid := 132) (ci := 10) (C := (RX10, TX10, 58)) ⟨kw_579, kw_484, hd_X10_comes, Nat.le_of_ble_eq_true rfl, Nat.le_of_ble_eq_true rfl⟩ rfl kw_580 kw_581 kw_582 (by decide +kernel)) (fun _ => ⟨_, rfl⟩) rfl rfl) <|
  o_an
set_option maxRecDepth 100000 in
set_option maxHeartbeats 4000000 in
theorem s_X10_greater {l : Launch} {D : va_G} {cy : Nat → ClassId} {σ : Nat → Int32} : ∀ q ∈ p_X10_greater, rx_Sd (gG l D cy σ) mt m_X10_greater q.1 q.2 :=
  ck_all (H := h_X10_greater) (P := o_X10_greater) rfl rfl rfl rfl rfl rfl (by decide +kernel) <|
  o_an
set_option maxRecDepth 100000 in
set_option maxHeartbeats 4000000 in
theorem s_X10_group {l : Launch} {D : va_G} {cy : Nat → ClassId} {σ : Nat → Int32} : ∀ q ∈ p_X10_group, rx_Sd (gG l D cy σ) mt m_X10_group q.1 q.2 :=
  ck_all (H := h_X10_group) (P := o_X10_group) rfl rfl rfl rfl rfl rfl (by decide +kernel) <|
  o_ac (rx_sd_cl (M := m_X10_group) (rx_lk_S gok (mid := 204) ⟨kw_591, kw_484, hd_X10_without, Nat.le_of_ble_eq_true rfl, Nat.le_of_ble_eq_true rfl⟩ kw_592 kw_593 (by decide +kernel)) (fun h => nomatch h) rfl rfl) <|
  o_ac (rx_sd_cl (M := m_X10_group) (rx_lk_S gok (mid := 204) ⟨kw_591, kw_484, hd_X10_without, Nat.le_of_ble_eq_true rfl, Nat.le_of_ble_eq_true rfl⟩ kw_592 kw_593 (by decide +kernel)) (fun h => nomatch h) rfl rfl) <|
  o_ac (rx_sd_cl (M := m_X10_group) (rx_lk_S gok (mid := 133) ⟨kw_594, kw_484, hd_X10_common, Nat.le_of_ble_eq_true rfl, Nat.le_of_ble_eq_true rfl⟩ kw_595 kw_596 (by decide +kernel)) (fun h => nomatch h) rfl rfl) <|
  o_ac (rx_sd_cl (M := m_X10_group) (rx_lk_S gok (mid := 133) ⟨kw_594, kw_484, hd_X10_common, Nat.le_of_ble_eq_true rfl, Nat.le_of_ble_eq_true rfl⟩ kw_595 kw_596 (by decide +kernel)) (fun h => nomatch h) rfl rfl) <|
  o_ac (rx_sd_cl (M := m_X10_group) (rx_lk_S gok (mid := 133) ⟨kw_594, kw_484, hd_X10_common, Nat.le_of_ble_eq_true rfl, Nat.le_of_ble_eq_true rfl⟩ kw_595 kw_596 (by decide +kernel)) (fun h => nomatch h) rfl rfl) <|
  o_an
set_option maxRecDepth 100000 in
set_option maxHeartbeats 4000000 in
theorem s_X10_hasSizes {l : Launch} {D : va_G} {cy : Nat → ClassId} {σ : Nat → Int32} : ∀ q ∈ p_X10_hasSizes, rx_Sd (gG l D cy σ) mt m_X10_hasSizes q.1 q.2 :=
  ck_all (H := h_X10_hasSizes) (P := o_X10_hasSizes) rfl rfl rfl rfl rfl rfl (by decide +kernel) <|
  o_ac (rx_sd_cl (M := m_X10_hasSizes) (rx_lk_V gok (mid := 149) (ci := 10) (C := (RX10, TX10, 58)) ⟨kw_597, kw_484, hd_X10_group, Nat.le_of_ble_eq_true rfl, Nat.le_of_ble_eq_true rfl⟩ rfl kw_598 kw_599 kw_600 (by decide +kernel)) (fun _ => ⟨_, rfl⟩) rfl rfl) <|
  o_an
set_option maxRecDepth 100000 in
set_option maxHeartbeats 4000000 in
theorem s_X10_heldSlot {l : Launch} {D : va_G} {cy : Nat → ClassId} {σ : Nat → Int32} : ∀ q ∈ p_X10_heldSlot, rx_Sd (gG l D cy σ) mt m_X10_heldSlot q.1 q.2 :=
  ck_all (H := h_X10_heldSlot) (P := o_X10_heldSlot) rfl rfl rfl rfl rfl rfl (by decide +kernel) <|
  o_ac (rx_sd_cl (M := m_X10_heldSlot) (rx_lk_V gok (mid := 168) (ci := 10) (C := (RX10, TX10, 58)) ⟨kw_552, kw_484, hd_X10_one, Nat.le_of_ble_eq_true rfl, Nat.le_of_ble_eq_true rfl⟩ rfl kw_553 kw_554 kw_555 (by decide +kernel)) (fun _ => ⟨_, rfl⟩) rfl rfl) <|
  o_an
set_option maxRecDepth 100000 in
set_option maxHeartbeats 4000000 in
theorem s_X10_init {l : Launch} {D : va_G} {cy : Nat → ClassId} {σ : Nat → Int32} : ∀ q ∈ p_X10_init, rx_Sd (gG l D cy σ) mt m_X10_init q.1 q.2 :=
  rx_ac (rx_sd_aload_n dX10_init_0 rfl) <|
  rx_ac (rx_sd_obj (M := m_X10_init) kw_601 kw_46 kw_objcode (Nat.le_of_ble_eq_true rfl) dX10_init_1) <|
  rx_ac (rx_sd_aload_n dX10_init_4 rfl) <|
  rx_ac (rx_sd_sipush dX10_init_5 (by decide)) <|
  rx_ac (rx_sd_newI (M := m_X10_init) ⟨rfl, rfl, rfl⟩ kw_49 rfl dX10_init_8) <|
  rx_ac (rx_sd_putf (C := RX10) (T := TX10) (N := 58) (ty0 := tyX10) in_X10 tyX10_ok nmX10 rfl (by decide) kw_602 (Or.inr ⟨rfl, rfl, rfl⟩) rfl dX10_init_10) <|
  rx_ac (rx_sd_aload_n dX10_init_13 rfl) <|
  rx_ac (rx_sd_sipush dX10_init_14 (by decide)) <|
  rx_ac (rx_sd_newL (M := m_X10_init) ⟨rfl, rfl, rfl⟩ kw_54 rfl dX10_init_17) <|
  rx_ac (rx_sd_putf (C := RX10) (T := TX10) (N := 58) (ty0 := tyX10) in_X10 tyX10_ok nmX10 rfl (by decide) kw_603 (Or.inr ⟨rfl, rfl, rfl⟩) rfl dX10_init_19) <|
  rx_ac (rx_sd_aload_n dX10_init_22 rfl) <|
  rx_ac (rx_sd_ldc (M := m_X10_init) kw_604 dX10_init_23) <|
  rx_ac (rx_sd_newI (M := m_X10_init) ⟨rfl, rfl, rfl⟩ kw_49 rfl dX10_init_25) <|
  rx_ac (rx_sd_putf (C := RX10) (T := TX10) (N := 58) (ty0 := tyX10) in_X10 tyX10_ok nmX10 rfl (by decide) kw_605 (Or.inr ⟨rfl, rfl, rfl⟩) rfl dX10_init_27) <|
  rx_ac (rx_sd_aload_n dX10_init_30 rfl) <|
  rx_ac (rx_sd_bipush dX10_init_31 (by decide)) <|
  rx_ac (rx_sd_newI (M := m_X10_init) ⟨rfl, rfl, rfl⟩ kw_49 rfl dX10_init_33) <|
  rx_ac (rx_sd_putf (C := RX10) (T := TX10) (N := 58) (ty0 := tyX10) in_X10 tyX10_ok nmX10 rfl (by decide) kw_606 (Or.inr ⟨rfl, rfl, rfl⟩) rfl dX10_init_35) <|
  rx_ac (rx_sd_aload_n dX10_init_38 rfl) <|
  rx_ac (rx_sd_bipush dX10_init_39 (by decide)) <|
  rx_ac (rx_sd_newI (M := m_X10_init) ⟨rfl, rfl, rfl⟩ kw_49 rfl dX10_init_41) <|
  rx_ac (rx_sd_putf (C := RX10) (T := TX10) (N := 58) (ty0 := tyX10) in_X10 tyX10_ok nmX10 rfl (by decide) kw_607 (Or.inr ⟨rfl, rfl, rfl⟩) rfl dX10_init_43) <|
  rx_ac (rx_sd_aload_n dX10_init_46 rfl) <|
  rx_ac (rx_sd_bipush dX10_init_47 (by decide)) <|
  rx_ac (rx_sd_newI (M := m_X10_init) ⟨rfl, rfl, rfl⟩ kw_49 rfl dX10_init_49) <|
  rx_ac (rx_sd_putf (C := RX10) (T := TX10) (N := 58) (ty0 := tyX10) in_X10 tyX10_ok nmX10 rfl (by decide) kw_608 (Or.inr ⟨rfl, rfl, rfl⟩) rfl dX10_init_51) <|
  rx_ac (rx_sd_aload_n dX10_init_54 rfl) <|
  rx_ac (rx_sd_bipush dX10_init_55 (by decide)) <|
  rx_ac (rx_sd_newI (M := m_X10_init) ⟨rfl, rfl, rfl⟩ kw_49 rfl dX10_init_57) <|
  rx_ac (rx_sd_putf (C := RX10) (T := TX10) (N := 58) (ty0 := tyX10) in_X10 tyX10_ok nmX10 rfl (by decide) kw_609 (Or.inr ⟨rfl, rfl, rfl⟩) rfl dX10_init_59) <|
  rx_ac (rx_sd_aload_n dX10_init_62 rfl) <|
  rx_ac (rx_sd_bipush dX10_init_63 (by decide)) <|
  rx_ac (rx_sd_newL (M := m_X10_init) ⟨rfl, rfl, rfl⟩ kw_54 rfl dX10_init_65) <|
  rx_ac (rx_sd_putf (C := RX10) (T := TX10) (N := 58) (ty0 := tyX10) in_X10 tyX10_ok nmX10 rfl (by decide) kw_610 (Or.inr ⟨rfl, rfl, rfl⟩) rfl dX10_init_67) <|
  rx_ac (rx_sd_aload_n dX10_init_70 rfl) <|
  rx_ac (rx_sd_bipush dX10_init_71 (by decide)) <|
  rx_ac (rx_sd_newL (M := m_X10_init) ⟨rfl, rfl, rfl⟩ kw_54 rfl dX10_init_73) <|
  rx_ac (rx_sd_putf (C := RX10) (T := TX10) (N := 58) (ty0 := tyX10) in_X10 tyX10_ok nmX10 rfl (by decide) kw_611 (Or.inr ⟨rfl, rfl, rfl⟩) rfl dX10_init_75) <|
  rx_ac (rx_sd_aload_n dX10_init_78 rfl) <|
  rx_ac (rx_sd_bipush dX10_init_79 (by decide)) <|
  rx_ac (rx_sd_newI (M := m_X10_init) ⟨rfl, rfl, rfl⟩ kw_49 rfl dX10_init_81) <|
  rx_ac (rx_sd_putf (C := RX10) (T := TX10) (N := 58) (ty0 := tyX10) in_X10 tyX10_ok nmX10 rfl (by decide) kw_612 (Or.inr ⟨rfl, rfl, rfl⟩) rfl dX10_init_83) <|
  rx_ac (rx_sd_aload_n dX10_init_86 rfl) <|
  rx_ac (rx_sd_bipush dX10_init_87 (by decide)) <|
  rx_ac (rx_sd_newZ (M := m_X10_init) ⟨rfl, rfl, rfl⟩ kw_51 rfl dX10_init_89) <|
  rx_ac (rx_sd_putf (C := RX10) (T := TX10) (N := 58) (ty0 := tyX10) in_X10 tyX10_ok nmX10 rfl (by decide) kw_613 (Or.inr ⟨rfl, rfl, rfl⟩) rfl dX10_init_91) <|
  rx_ac (rx_sd_aload_n dX10_init_94 rfl) <|
  rx_ac (rx_sd_bipush dX10_init_95 (by decide)) <|
  rx_ac (rx_sd_newI (M := m_X10_init) ⟨rfl, rfl, rfl⟩ kw_49 rfl dX10_init_97) <|
  rx_ac (rx_sd_putf (C := RX10) (T := TX10) (N := 58) (ty0 := tyX10) in_X10 tyX10_ok nmX10 rfl (by decide) kw_614 (Or.inr ⟨rfl, rfl, rfl⟩) rfl dX10_init_99) <|
  rx_ac (rx_sd_aload_n dX10_init_102 rfl) <|
  rx_ac (rx_sd_iconst dX10_init_103 (by decide)) <|
  rx_ac (rx_sd_newI (M := m_X10_init) ⟨rfl, rfl, rfl⟩ kw_49 rfl dX10_init_104) <|
  rx_ac (rx_sd_putf (C := RX10) (T := TX10) (N := 58) (ty0 := tyX10) in_X10 tyX10_ok nmX10 rfl (by decide) kw_615 (Or.inr ⟨rfl, rfl, rfl⟩) rfl dX10_init_106) <|
  rx_ac (rx_sd_aload_n dX10_init_109 rfl) <|
  rx_ac (rx_sd_iconst dX10_init_110 (by decide)) <|
  rx_ac (rx_sd_newI (M := m_X10_init) ⟨rfl, rfl, rfl⟩ kw_49 rfl dX10_init_111) <|
  rx_ac (rx_sd_putf (C := RX10) (T := TX10) (N := 58) (ty0 := tyX10) in_X10 tyX10_ok nmX10 rfl (by decide) kw_616 (Or.inr ⟨rfl, rfl, rfl⟩) rfl dX10_init_113) <|
  rx_ac (rx_sd_aload_n dX10_init_116 rfl) <|
  rx_ac (rx_sd_sipush dX10_init_117 (by decide)) <|
  rx_ac (rx_sd_newI (M := m_X10_init) ⟨rfl, rfl, rfl⟩ kw_49 rfl dX10_init_120) <|
  rx_ac (rx_sd_putf (C := RX10) (T := TX10) (N := 58) (ty0 := tyX10) in_X10 tyX10_ok nmX10 rfl (by decide) kw_617 (Or.inr ⟨rfl, rfl, rfl⟩) rfl dX10_init_122) <|
  rx_ac (rx_sd_aload_n dX10_init_125 rfl) <|
  rx_ac (rx_sd_bipush dX10_init_126 (by decide)) <|
  rx_ac (rx_sd_newI (M := m_X10_init) ⟨rfl, rfl, rfl⟩ kw_49 rfl dX10_init_128) <|
  rx_ac (rx_sd_putf (C := RX10) (T := TX10) (N := 58) (ty0 := tyX10) in_X10 tyX10_ok nmX10 rfl (by decide) kw_618 (Or.inr ⟨rfl, rfl, rfl⟩) rfl dX10_init_130) <|
  rx_ac (rx_sd_aload_n dX10_init_133 rfl) <|
  rx_ac (rx_sd_sipush dX10_init_134 (by decide)) <|
  rx_ac (rx_sd_newI (M := m_X10_init) ⟨rfl, rfl, rfl⟩ kw_49 rfl dX10_init_137) <|
  rx_ac (rx_sd_putf (C := RX10) (T := TX10) (N := 58) (ty0 := tyX10) in_X10 tyX10_ok nmX10 rfl (by decide) kw_619 (Or.inr ⟨rfl, rfl, rfl⟩) rfl dX10_init_139) <|
  rx_ac (rx_sd_aload_n dX10_init_142 rfl) <|
  rx_ac (rx_sd_sipush dX10_init_143 (by decide)) <|
  rx_ac (rx_sd_newI (M := m_X10_init) ⟨rfl, rfl, rfl⟩ kw_49 rfl dX10_init_146) <|
  rx_ac (rx_sd_putf (C := RX10) (T := TX10) (N := 58) (ty0 := tyX10) in_X10 tyX10_ok nmX10 rfl (by decide) kw_620 (Or.inr ⟨rfl, rfl, rfl⟩) rfl dX10_init_148) <|
  rx_ac (rx_sd_aload_n dX10_init_151 rfl) <|
  rx_ac (rx_sd_bipush dX10_init_152 (by decide)) <|
  rx_ac (rx_sd_newI (M := m_X10_init) ⟨rfl, rfl, rfl⟩ kw_49 rfl dX10_init_154) <|
  rx_ac (rx_sd_putf (C := RX10) (T := TX10) (N := 58) (ty0 := tyX10) in_X10 tyX10_ok nmX10 rfl (by decide) kw_621 (Or.inr ⟨rfl, rfl, rfl⟩) rfl dX10_init_156) <|
  rx_ac (rx_sd_aload_n dX10_init_159 rfl) <|
  rx_ac (rx_sd_bipush dX10_init_160 (by decide)) <|
  rx_ac (rx_sd_newL (M := m_X10_init) ⟨rfl, rfl, rfl⟩ kw_54 rfl dX10_init_162) <|
  rx_ac (rx_sd_putf (C := RX10) (T := TX10) (N := 58) (ty0 := tyX10) in_X10 tyX10_ok nmX10 rfl (by decide) kw_622 (Or.inr ⟨rfl, rfl, rfl⟩) rfl dX10_init_164) <|
  rx_ac (rx_sd_aload_n dX10_init_167 rfl) <|
  rx_ac (rx_sd_sipush dX10_init_168 (by decide)) <|
  rx_ac (rx_sd_newI (M := m_X10_init) ⟨rfl, rfl, rfl⟩ kw_49 rfl dX10_init_171) <|
  rx_ac (rx_sd_putf (C := RX10) (T := TX10) (N := 58) (ty0 := tyX10) in_X10 tyX10_ok nmX10 rfl (by decide) kw_623 (Or.inr ⟨rfl, rfl, rfl⟩) rfl dX10_init_173) <|
  rx_ac (rx_sd_aload_n dX10_init_176 rfl) <|
  rx_ac (rx_sd_bipush dX10_init_177 (by decide)) <|
  rx_ac (rx_sd_newI (M := m_X10_init) ⟨rfl, rfl, rfl⟩ kw_49 rfl dX10_init_179) <|
  rx_ac (rx_sd_putf (C := RX10) (T := TX10) (N := 58) (ty0 := tyX10) in_X10 tyX10_ok nmX10 rfl (by decide) kw_624 (Or.inr ⟨rfl, rfl, rfl⟩) rfl dX10_init_181) <|
  rx_ac (rx_sd_aload_n dX10_init_184 rfl) <|
  rx_ac (rx_sd_bipush dX10_init_185 (by decide)) <|
  rx_ac (rx_sd_newI (M := m_X10_init) ⟨rfl, rfl, rfl⟩ kw_49 rfl dX10_init_187) <|
  rx_ac (rx_sd_putf (C := RX10) (T := TX10) (N := 58) (ty0 := tyX10) in_X10 tyX10_ok nmX10 rfl (by decide) kw_625 (Or.inr ⟨rfl, rfl, rfl⟩) rfl dX10_init_189) <|
  rx_ac (rx_sd_aload_n dX10_init_192 rfl) <|
  rx_ac (rx_sd_ldc (M := m_X10_init) kw_626 dX10_init_193) <|
  rx_ac (rx_sd_newI (M := m_X10_init) ⟨rfl, rfl, rfl⟩ kw_49 rfl dX10_init_195) <|
  rx_ac (rx_sd_putf (C := RX10) (T := TX10) (N := 58) (ty0 := tyX10) in_X10 tyX10_ok nmX10 rfl (by decide) kw_627 (Or.inr ⟨rfl, rfl, rfl⟩) rfl dX10_init_197) <|
  rx_ac (rx_sd_aload_n dX10_init_200 rfl) <|
  rx_ac (rx_sd_sipush dX10_init_201 (by decide)) <|
  rx_ac (rx_sd_newI (M := m_X10_init) ⟨rfl, rfl, rfl⟩ kw_49 rfl dX10_init_204) <|
  rx_ac (rx_sd_putf (C := RX10) (T := TX10) (N := 58) (ty0 := tyX10) in_X10 tyX10_ok nmX10 rfl (by decide) kw_628 (Or.inr ⟨rfl, rfl, rfl⟩) rfl dX10_init_206) <|
  rx_ac (rx_sd_aload_n dX10_init_209 rfl) <|
  rx_ac (rx_sd_sipush dX10_init_210 (by decide)) <|
  rx_ac (rx_sd_newI (M := m_X10_init) ⟨rfl, rfl, rfl⟩ kw_49 rfl dX10_init_213) <|
  rx_ac (rx_sd_putf (C := RX10) (T := TX10) (N := 58) (ty0 := tyX10) in_X10 tyX10_ok nmX10 rfl (by decide) kw_629 (Or.inr ⟨rfl, rfl, rfl⟩) rfl dX10_init_215) <|
  rx_ac (rx_sd_aload_n dX10_init_218 rfl) <|
  rx_ac (rx_sd_sipush dX10_init_219 (by decide)) <|
  rx_ac (rx_sd_newI (M := m_X10_init) ⟨rfl, rfl, rfl⟩ kw_49 rfl dX10_init_222) <|
  rx_ac (rx_sd_putf (C := RX10) (T := TX10) (N := 58) (ty0 := tyX10) in_X10 tyX10_ok nmX10 rfl (by decide) kw_630 (Or.inr ⟨rfl, rfl, rfl⟩) rfl dX10_init_224) <|
  rx_ac (rx_sd_aload_n dX10_init_227 rfl) <|
  rx_ac (rx_sd_sipush dX10_init_228 (by decide)) <|
  rx_ac (rx_sd_newI (M := m_X10_init) ⟨rfl, rfl, rfl⟩ kw_49 rfl dX10_init_231) <|
  rx_ac (rx_sd_putf (C := RX10) (T := TX10) (N := 58) (ty0 := tyX10) in_X10 tyX10_ok nmX10 rfl (by decide) kw_631 (Or.inr ⟨rfl, rfl, rfl⟩) rfl dX10_init_233) <|
  rx_ac (rx_sd_aload_n dX10_init_236 rfl) <|
  rx_ac (rx_sd_sipush dX10_init_237 (by decide)) <|
  rx_ac (rx_sd_newI (M := m_X10_init) ⟨rfl, rfl, rfl⟩ kw_49 rfl dX10_init_240) <|
  rx_ac (rx_sd_putf (C := RX10) (T := TX10) (N := 58) (ty0 := tyX10) in_X10 tyX10_ok nmX10 rfl (by decide) kw_632 (Or.inr ⟨rfl, rfl, rfl⟩) rfl dX10_init_242) <|
  rx_ac (rx_sd_aload_n dX10_init_245 rfl) <|
  rx_ac (rx_sd_bipush dX10_init_246 (by decide)) <|
  rx_ac (rx_sd_newI (M := m_X10_init) ⟨rfl, rfl, rfl⟩ kw_49 rfl dX10_init_248) <|
  rx_ac (rx_sd_putf (C := RX10) (T := TX10) (N := 58) (ty0 := tyX10) in_X10 tyX10_ok nmX10 rfl (by decide) kw_633 (Or.inr ⟨rfl, rfl, rfl⟩) rfl dX10_init_250) <|
  rx_ac (rx_sd_aload_n dX10_init_253 rfl) <|
  rx_ac (rx_sd_iconst dX10_init_254 (by decide)) <|
  rx_ac (rx_sd_newI (M := m_X10_init) ⟨rfl, rfl, rfl⟩ kw_49 rfl dX10_init_255) <|
  rx_ac (rx_sd_putf (C := RX10) (T := TX10) (N := 58) (ty0 := tyX10) in_X10 tyX10_ok nmX10 rfl (by decide) kw_634 (Or.inr ⟨rfl, rfl, rfl⟩) rfl dX10_init_257) <|
  rx_ac (rx_sd_aload_n dX10_init_260 rfl) <|
  rx_ac (rx_sd_sipush dX10_init_261 (by decide)) <|
  rx_ac (rx_sd_newZ (M := m_X10_init) ⟨rfl, rfl, rfl⟩ kw_51 rfl dX10_init_264) <|
  rx_ac (rx_sd_putf (C := RX10) (T := TX10) (N := 58) (ty0 := tyX10) in_X10 tyX10_ok nmX10 rfl (by decide) kw_635 (Or.inr ⟨rfl, rfl, rfl⟩) rfl dX10_init_266) <|
  rx_ac (rx_sd_aload_n dX10_init_269 rfl) <|
  rx_ac (rx_sd_bipush dX10_init_270 (by decide)) <|
  rx_ac (rx_sd_newI (M := m_X10_init) ⟨rfl, rfl, rfl⟩ kw_49 rfl dX10_init_272) <|
  rx_ac (rx_sd_putf (C := RX10) (T := TX10) (N := 58) (ty0 := tyX10) in_X10 tyX10_ok nmX10 rfl (by decide) kw_636 (Or.inr ⟨rfl, rfl, rfl⟩) rfl dX10_init_274) <|
  rx_ac (rx_sd_aload_n dX10_init_277 rfl) <|
  rx_ac (rx_sd_bipush dX10_init_278 (by decide)) <|
  rx_ac (rx_sd_newI (M := m_X10_init) ⟨rfl, rfl, rfl⟩ kw_49 rfl dX10_init_280) <|
  rx_ac (rx_sd_putf (C := RX10) (T := TX10) (N := 58) (ty0 := tyX10) in_X10 tyX10_ok nmX10 rfl (by decide) kw_637 (Or.inr ⟨rfl, rfl, rfl⟩) rfl dX10_init_282) <|
  rx_ac (rx_sd_aload_n dX10_init_285 rfl) <|
  rx_ac (rx_sd_sipush dX10_init_286 (by decide)) <|
  rx_ac (rx_sd_newL (M := m_X10_init) ⟨rfl, rfl, rfl⟩ kw_54 rfl dX10_init_289) <|
  rx_ac (rx_sd_putf (C := RX10) (T := TX10) (N := 58) (ty0 := tyX10) in_X10 tyX10_ok nmX10 rfl (by decide) kw_638 (Or.inr ⟨rfl, rfl, rfl⟩) rfl dX10_init_291) <|
  rx_ac (rx_sd_aload_n dX10_init_294 rfl) <|
  rx_ac (rx_sd_sipush dX10_init_295 (by decide)) <|
  rx_ac (rx_sd_newI (M := m_X10_init) ⟨rfl, rfl, rfl⟩ kw_49 rfl dX10_init_298) <|
  rx_ac (rx_sd_putf (C := RX10) (T := TX10) (N := 58) (ty0 := tyX10) in_X10 tyX10_ok nmX10 rfl (by decide) kw_639 (Or.inr ⟨rfl, rfl, rfl⟩) rfl dX10_init_300) <|
  rx_ac (rx_sd_aload_n dX10_init_303 rfl) <|
  rx_ac (rx_sd_bipush dX10_init_304 (by decide)) <|
  rx_ac (rx_sd_newI (M := m_X10_init) ⟨rfl, rfl, rfl⟩ kw_49 rfl dX10_init_306) <|
  rx_ac (rx_sd_putf (C := RX10) (T := TX10) (N := 58) (ty0 := tyX10) in_X10 tyX10_ok nmX10 rfl (by decide) kw_640 (Or.inr ⟨rfl, rfl, rfl⟩) rfl dX10_init_308) <|
  rx_ac (rx_sd_aload_n dX10_init_311 rfl) <|
  rx_ac (rx_sd_sipush dX10_init_312 (by decide)) <|
  rx_ac (rx_sd_newZ (M := m_X10_init) ⟨rfl, rfl, rfl⟩ kw_51 rfl dX10_init_315) <|
  rx_ac (rx_sd_putf (C := RX10) (T := TX10) (N := 58) (ty0 := tyX10) in_X10 tyX10_ok nmX10 rfl (by decide) kw_641 (Or.inr ⟨rfl, rfl, rfl⟩) rfl dX10_init_317) <|
  rx_ac (rx_sd_aload_n dX10_init_320 rfl) <|
  rx_ac (rx_sd_iconst dX10_init_321 (by decide)) <|
  rx_ac (rx_sd_putf (C := RX10) (T := TX10) (N := 58) (ty0 := tyX10) in_X10 tyX10_ok nmX10 rfl (by decide) kw_642 (Or.inl rfl) rfl dX10_init_322) <|
  rx_ac (rx_sd_aload_n dX10_init_325 rfl) <|
  rx_ac (rx_sd_cl (M := m_X10_init) (rx_lk_V gok (mid := 142) (ci := 10) (C := (RX10, TX10, 58)) ⟨kw_524, kw_484, hd_X10_firsts, Nat.le_of_ble_eq_true rfl, Nat.le_of_ble_eq_true rfl⟩ rfl kw_525 kw_526 kw_527 dX10_init_326) (fun _ => ⟨_, rfl⟩) rfl rfl) <|
  rx_ac (rx_sd_aload_n dX10_init_329 rfl) <|
  rx_ac (rx_sd_get (C := RX10) (T := TX10) (N := 58) in_X10 rfl (by decide) kw_634 dX10_init_330) <|
  rx_ac (rx_sd_iconst dX10_init_333 (by decide)) <|
  rx_ac (rx_sd_iconst dX10_init_334 (by decide)) <|
  rx_ac (rx_sd_iast (Yo_ok _) ⟨rfl, rfl, rfl⟩ dX10_init_335) <|
  rx_ac (rx_sd_aload_n dX10_init_336 rfl) <|
  rx_ac (rx_sd_get (C := RX10) (T := TX10) (N := 58) in_X10 rfl (by decide) kw_634 dX10_init_337) <|
  rx_ac (rx_sd_iconst dX10_init_340 (by decide)) <|
  rx_ac (rx_sd_iconst dX10_init_341 (by decide)) <|
  rx_ac (rx_sd_iast (Yo_ok _) ⟨rfl, rfl, rfl⟩ dX10_init_342) <|
  rx_ac (rx_sd_ret0 (M := m_X10_init) rfl dX10_init_343) <|
  rx_an
