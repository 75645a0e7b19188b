set_option maxRecDepth 100000 in
set_option maxHeartbeats 4000000 in
theorem s_X9_ones {l : Launch} {D : va_G} {cy : Nat → ClassId} {σ : Nat → Int32} : ∀ q ∈ p_X9_ones, rx_Sd (gG l D cy σ) mt m_X9_ones q.1 q.2 :=
  ck_all (H := h_X9_ones) (P := o_X9_ones) rfl rfl rfl rfl rfl rfl (by decide +kernel) <|
  o_ac (rx_sd_cl (M := m_X9_ones) (rx_lk_V gok (mid := 96) (ci := 9) (C := (RX9, TX9, 15)) ⟨kw_341, kw_35, hd_X9_isPlace, Nat.le_of_ble_eq_true rfl, Nat.le_of_ble_eq_true rfl⟩ rfl kw_342 kw_343 kw_344 (by decide +kernel)) (fun _ => ⟨_, rfl⟩) rfl rfl) <|
  o_ac (rx_sd_cl (M := m_X9_ones) (rx_lk_V gok (mid := 82) (ci := 8) (C := (RX8, TX8, 4)) ⟨kw_82, kw_71, hd_X8_sum, Nat.le_of_ble_eq_true rfl, Nat.le_of_ble_eq_true rfl⟩ rfl kw_449 kw_84 kw_85 (by decide +kernel)) (fun _ => ⟨_, rfl⟩) rfl rfl) <|
  o_an
set_option maxRecDepth 100000 in
set_option maxHeartbeats 4000000 in
theorem s_X9_order {l : Launch} {D : va_G} {cy : Nat → ClassId} {σ : Nat → Int32} : ∀ q ∈ p_X9_order, rx_Sd (gG l D cy σ) mt m_X9_order q.1 q.2 :=
  ck_all (H := h_X9_order) (P := o_X9_order) rfl rfl rfl rfl rfl rfl (by decide +kernel) <|
  o_ac (rx_sd_cl (M := m_X9_order) (rx_lk_V gok (mid := 96) (ci := 9) (C := (RX9, TX9, 15)) ⟨kw_341, kw_35, hd_X9_isPlace, Nat.le_of_ble_eq_true rfl, Nat.le_of_ble_eq_true rfl⟩ rfl kw_342 kw_343 kw_344 (by decide +kernel)) (fun _ => ⟨_, rfl⟩) rfl rfl) <|
  o_ac (rx_sd_cl (M := m_X9_order) (rx_lk_V gok (mid := 67) (ci := 7) (C := (RX7, TX7, 6)) ⟨kw_440, kw_59, hd_X7_copyFrom, Nat.le_of_ble_eq_true rfl, Nat.le_of_ble_eq_true rfl⟩ rfl kw_441 kw_442 kw_443 (by decide +kernel)) (fun _ => ⟨_, rfl⟩) rfl rfl) <|
  o_ac (rx_sd_cl (M := m_X9_order) (rx_lk_V gok (mid := 118) (ci := 9) (C := (RX9, TX9, 15)) ⟨kw_450, kw_35, hd_X9_walkRow, Nat.le_of_ble_eq_true rfl, Nat.le_of_ble_eq_true rfl⟩ rfl kw_451 kw_452 kw_453 (by decide +kernel)) (fun _ => ⟨_, rfl⟩) rfl rfl) <|
  o_ac (rx_sd_cl (M := m_X9_order) (rx_lk_V gok (mid := 70) (ci := 7) (C := (RX7, TX7, 6)) ⟨kw_454, kw_59, hd_X7_isSameAs, Nat.le_of_ble_eq_true rfl, Nat.le_of_ble_eq_true rfl⟩ rfl kw_455 kw_456 kw_457 (by decide +kernel)) (fun _ => ⟨_, rfl⟩) rfl rfl) <|
  o_an
set_option maxRecDepth 100000 in
set_option maxHeartbeats 4000000 in
theorem s_X9_ring {l : Launch} {D : va_G} {cy : Nat → ClassId} {σ : Nat → Int32} : ∀ q ∈ p_X9_ring, rx_Sd (gG l D cy σ) mt m_X9_ring q.1 q.2 :=
  ck_all (H := h_X9_ring) (P := o_X9_ring) rfl rfl rfl rfl rfl rfl (by decide +kernel) <|
  o_ac (rx_sd_cl (M := m_X9_ring) (rx_lk_S gok (mid := 97) ⟨kw_362, kw_35, hd_X9_isSlot, Nat.le_of_ble_eq_true rfl, Nat.le_of_ble_eq_true rfl⟩ kw_363 kw_364 (by decide +kernel)) (fun h => nomatch h) rfl rfl) <|
  o_an
set_option maxRecDepth 100000 in
set_option maxHeartbeats 4000000 in
theorem s_X9_ringOf {l : Launch} {D : va_G} {cy : Nat → ClassId} {σ : Nat → Int32} : ∀ q ∈ p_X9_ringOf, rx_Sd (gG l D cy σ) mt m_X9_ringOf q.1 q.2 :=
  ck_all (H := h_X9_ringOf) (P := o_X9_ringOf) rfl rfl rfl rfl rfl rfl (by decide +kernel) <|
  o_ac (rx_sd_cl (M := m_X9_ringOf) (rx_lk_S gok (mid := 97) ⟨kw_362, kw_35, hd_X9_isSlot, Nat.le_of_ble_eq_true rfl, Nat.le_of_ble_eq_true rfl⟩ kw_363 kw_364 (by decide +kernel)) (fun h => nomatch h) rfl rfl) <|
  o_ac (rx_sd_cl (M := m_X9_ringOf) (rx_lk_V gok (mid := 62) (ci := 6) (C := (RX6, TX6, 2)) ⟨kw_458, kw_146, hd_X6_tell, Nat.le_of_ble_eq_true rfl, Nat.le_of_ble_eq_true rfl⟩ rfl kw_459 kw_460 kw_461 (by decide +kernel)) (fun _ => ⟨_, rfl⟩) rfl rfl) <|
  o_an
set_option maxRecDepth 100000 in
set_option maxHeartbeats 4000000 in
theorem s_X9_row {l : Launch} {D : va_G} {cy : Nat → ClassId} {σ : Nat → Int32} : ∀ q ∈ p_X9_row, rx_Sd (gG l D cy σ) mt m_X9_row q.1 q.2 :=
  ck_all (H := h_X9_row) (P := o_X9_row) rfl rfl rfl rfl rfl rfl (by decide +kernel) <|
  o_ac (rx_sd_cl (M := m_X9_row) (rx_lk_S gok (mid := 1) ⟨kw_98, kw_99, hd_J7_fill_53178, Nat.le_of_ble_eq_true rfl, Nat.le_of_ble_eq_true rfl⟩ kw_462 kw_101 (by decide +kernel)) (fun h => nomatch h) rfl rfl) <|
  o_an
set_option maxRecDepth 100000 in
set_option maxHeartbeats 4000000 in
theorem s_X9_same {l : Launch} {D : va_G} {cy : Nat → ClassId} {σ : Nat → Int32} : ∀ q ∈ p_X9_same, rx_Sd (gG l D cy σ) mt m_X9_same q.1 q.2 :=
  ck_all (H := h_X9_same) (P := o_X9_same) rfl rfl rfl rfl rfl rfl (by decide +kernel) <|
  o_ac (rx_sd_cl (M := m_X9_same) (rx_lk_V gok (mid := 70) (ci := 7) (C := (RX7, TX7, 6)) ⟨kw_454, kw_59, hd_X7_isSameAs, Nat.le_of_ble_eq_true rfl, Nat.le_of_ble_eq_true rfl⟩ rfl kw_455 kw_456 kw_457 (by decide +kernel)) (fun _ => ⟨_, rfl⟩) rfl rfl) <|
  o_an
set_option maxRecDepth 100000 in
set_option maxHeartbeats 4000000 in
theorem s_X9_seed {l : Launch} {D : va_G} {cy : Nat → ClassId} {σ : Nat → Int32} : ∀ q ∈ p_X9_seed, rx_Sd (gG l D cy σ) mt m_X9_seed q.1 q.2 :=
  ck_all (H := h_X9_seed) (P := o_X9_seed) rfl rfl rfl rfl rfl rfl (by decide +kernel) <|
  o_ac (rx_sd_cl (M := m_X9_seed) (rx_lk_S gok (mid := 97) ⟨kw_362, kw_35, hd_X9_isSlot, Nat.le_of_ble_eq_true rfl, Nat.le_of_ble_eq_true rfl⟩ kw_363 kw_364 (by decide +kernel)) (fun h => nomatch h) rfl rfl) <|
  o_ac (rx_sd_cl (M := m_X9_seed) (rx_lk_V gok (mid := 59) (ci := 6) (C := (RX6, TX6, 2)) ⟨kw_296, kw_146, hd_X6_isCut, Nat.le_of_ble_eq_true rfl, Nat.le_of_ble_eq_true rfl⟩ rfl kw_382 kw_298 kw_299 (by decide +kernel)) (fun _ => ⟨_, rfl⟩) rfl rfl) <|
  o_ac (rx_sd_cl (M := m_X9_seed) (rx_lk_V gok (mid := 25) (ci := 2) (C := (RX2, TX2, 5)) ⟨kw_463, kw_118, hd_X2_restart, Nat.le_of_ble_eq_true rfl, Nat.le_of_ble_eq_true rfl⟩ rfl kw_464 kw_465 kw_466 (by decide +kernel)) (fun _ => ⟨_, rfl⟩) rfl rfl) <|
  o_ac (rx_sd_cl (M := m_X9_seed) (rx_lk_V gok (mid := 64) (ci := 6) (C := (RX6, TX6, 2)) ⟨kw_467, kw_146, hd_X6_tellArrows, Nat.le_of_ble_eq_true rfl, Nat.le_of_ble_eq_true rfl⟩ rfl kw_468 kw_469 kw_470 (by decide +kernel)) (fun _ => ⟨_, rfl⟩) rfl rfl) <|
  o_ac (rx_sd_cl (M := m_X9_seed) (rx_lk_V gok (mid := 21) (ci := 2) (C := (RX2, TX2, 5)) ⟨kw_350, kw_118, hd_X2_fault, Nat.le_of_ble_eq_true rfl, Nat.le_of_ble_eq_true rfl⟩ rfl kw_351 kw_352 kw_353 (by decide +kernel)) (fun _ => ⟨_, rfl⟩) rfl rfl) <|
  o_ac (rx_sd_cl (M := m_X9_seed) (rx_lk_V gok (mid := 109) (ci := 9) (C := (RX9, TX9, 15)) ⟨kw_354, kw_35, hd_X9_startSeed, Nat.le_of_ble_eq_true rfl, Nat.le_of_ble_eq_true rfl⟩ rfl kw_355 kw_356 kw_357 (by decide +kernel)) (fun _ => ⟨_, rfl⟩) rfl rfl) <|
  o_an
set_option maxRecDepth 100000 in
set_option maxHeartbeats 4000000 in
theorem s_X9_size {l : Launch} {D : va_G} {cy : Nat → ClassId} {σ : Nat → Int32} : ∀ q ∈ p_X9_size, rx_Sd (gG l D cy σ) mt m_X9_size q.1 q.2 :=
  ck_all (H := h_X9_size) (P := o_X9_size) rfl rfl rfl rfl rfl rfl (by decide +kernel) <|
  o_ac (rx_sd_cl (M := m_X9_size) (rx_lk_V gok (mid := 96) (ci := 9) (C := (RX9, TX9, 15)) ⟨kw_341, kw_35, hd_X9_isPlace, Nat.le_of_ble_eq_true rfl, Nat.le_of_ble_eq_true rfl⟩ rfl kw_342 kw_343 kw_344 (by decide +kernel)) (fun _ => ⟨_, rfl⟩) rfl rfl) <|
  o_an
set_option maxRecDepth 100000 in
set_option maxHeartbeats 4000000 in
theorem s_X9_startSeed {l : Launch} {D : va_G} {cy : Nat → ClassId} {σ : Nat → Int32} : ∀ q ∈ p_X9_startSeed, rx_Sd (gG l D cy σ) mt m_X9_startSeed q.1 q.2 :=
  ck_all (H := h_X9_startSeed) (P := o_X9_startSeed) rfl rfl rfl rfl rfl rfl (by decide +kernel) <|
  o_ac (rx_sd_cl (M := m_X9_startSeed) (rx_lk_V gok (mid := 72) (ci := 7) (C := (RX7, TX7, 6)) ⟨kw_431, kw_59, hd_X7_start, Nat.le_of_ble_eq_true rfl, Nat.le_of_ble_eq_true rfl⟩ rfl kw_432 kw_433 kw_434 (by decide +kernel)) (fun _ => ⟨_, rfl⟩) rfl rfl) <|
  o_an
set_option maxRecDepth 100000 in
set_option maxHeartbeats 4000000 in
theorem s_X9_step {l : Launch} {D : va_G} {cy : Nat → ClassId} {σ : Nat → Int32} : ∀ q ∈ p_X9_step, rx_Sd (gG l D cy σ) mt m_X9_step q.1 q.2 :=
  ck_all (H := h_X9_step) (P := o_X9_step) rfl rfl rfl rfl rfl rfl (by decide +kernel) <|
  o_an
set_option maxRecDepth 100000 in
set_option maxHeartbeats 4000000 in
theorem s_X9_table {l : Launch} {D : va_G} {cy : Nat → ClassId} {σ : Nat → Int32} : ∀ q ∈ p_X9_table, rx_Sd (gG l D cy σ) mt m_X9_table q.1 q.2 :=
  ck_all (H := h_X9_table) (P := o_X9_table) rfl rfl rfl rfl rfl rfl (by decide +kernel) <|
  o_ac (rx_sd_cl (M := m_X9_table) (rx_lk_V gok (mid := 25) (ci := 2) (C := (RX2, TX2, 5)) ⟨kw_463, kw_118, hd_X2_restart, Nat.le_of_ble_eq_true rfl, Nat.le_of_ble_eq_true rfl⟩ rfl kw_464 kw_465 kw_466 (by decide +kernel)) (fun _ => ⟨_, rfl⟩) rfl rfl) <|
  o_an
set_option maxRecDepth 100000 in
set_option maxHeartbeats 4000000 in
theorem s_X9_tables {l : Launch} {D : va_G} {cy : Nat → ClassId} {σ : Nat → Int32} : ∀ q ∈ p_X9_tables, rx_Sd (gG l D cy σ) mt m_X9_tables q.1 q.2 :=
  ck_all (H := h_X9_tables) (P := o_X9_tables) rfl rfl rfl rfl rfl rfl (by decide +kernel) <|
  o_an
set_option maxRecDepth 100000 in
set_option maxHeartbeats 4000000 in
theorem s_X9_term {l : Launch} {D : va_G} {cy : Nat → ClassId} {σ : Nat → Int32} : ∀ q ∈ p_X9_term, rx_Sd (gG l D cy σ) mt m_X9_term q.1 q.2 :=
  ck_all (H := h_X9_term) (P := o_X9_term) rfl rfl rfl rfl rfl rfl (by decide +kernel) <|
  o_ac (rx_sd_cl (M := m_X9_term) (rx_lk_V gok (mid := 96) (ci := 9) (C := (RX9, TX9, 15)) ⟨kw_341, kw_35, hd_X9_isPlace, Nat.le_of_ble_eq_true rfl, Nat.le_of_ble_eq_true rfl⟩ rfl kw_342 kw_343 kw_344 (by decide +kernel)) (fun _ => ⟨_, rfl⟩) rfl rfl) <|
  o_ac (rx_sd_cl (M := m_X9_term) (rx_lk_V gok (mid := 78) (ci := 8) (C := (RX8, TX8, 4)) ⟨kw_444, kw_71, hd_X8_hasVariable, Nat.le_of_ble_eq_true rfl, Nat.le_of_ble_eq_true rfl⟩ rfl kw_445 kw_446 kw_447 (by decide +kernel)) (fun _ => ⟨_, rfl⟩) rfl rfl) <|
  o_an
set_option maxRecDepth 100000 in
set_option maxHeartbeats 4000000 in
theorem s_X9_terms {l : Launch} {D : va_G} {cy : Nat → ClassId} {σ : Nat → Int32} : ∀ q ∈ p_X9_terms, rx_Sd (gG l D cy σ) mt m_X9_terms q.1 q.2 :=
  ck_all (H := h_X9_terms) (P := o_X9_terms) rfl rfl rfl rfl rfl rfl (by decide +kernel) <|
  o_ac (rx_sd_cl (M := m_X9_terms) (rx_lk_V gok (mid := 96) (ci := 9) (C := (RX9, TX9, 15)) ⟨kw_341, kw_35, hd_X9_isPlace, Nat.le_of_ble_eq_true rfl, Nat.le_of_ble_eq_true rfl⟩ rfl kw_342 kw_343 kw_344 (by decide +kernel)) (fun _ => ⟨_, rfl⟩) rfl rfl) <|
  o_an
set_option maxRecDepth 100000 in
set_option maxHeartbeats 4000000 in
theorem s_X9_turn {l : Launch} {D : va_G} {cy : Nat → ClassId} {σ : Nat → Int32} : ∀ q ∈ p_X9_turn, rx_Sd (gG l D cy σ) mt m_X9_turn q.1 q.2 :=
  ck_all (H := h_X9_turn) (P := o_X9_turn) rfl rfl rfl rfl rfl rfl (by decide +kernel) <|
  o_ac (rx_sd_cl (M := m_X9_turn) (rx_lk_V gok (mid := 96) (ci := 9) (C := (RX9, TX9, 15)) ⟨kw_341, kw_35, hd_X9_isPlace, Nat.le_of_ble_eq_true rfl, Nat.le_of_ble_eq_true rfl⟩ rfl kw_342 kw_343 kw_344 (by decide +kernel)) (fun _ => ⟨_, rfl⟩) rfl rfl) <|
  o_ac (rx_sd_cl (M := m_X9_turn) (rx_lk_V gok (mid := 42) (ci := 5) (C := (RX5, TX5, 7)) ⟨kw_29, kw_30, hd_X5_exchange, Nat.le_of_ble_eq_true rfl, Nat.le_of_ble_eq_true rfl⟩ rfl kw_345 kw_32 kw_33 (by decide +kernel)) (fun _ => ⟨_, rfl⟩) rfl rfl) <|
  o_ac (rx_sd_cl (M := m_X9_turn) (rx_lk_V gok (mid := 47) (ci := 5) (C := (RX5, TX5, 7)) ⟨kw_346, kw_30, hd_X5_settle, Nat.le_of_ble_eq_true rfl, Nat.le_of_ble_eq_true rfl⟩ rfl kw_347 kw_348 kw_349 (by decide +kernel)) (fun _ => ⟨_, rfl⟩) rfl rfl) <|
  o_an
set_option maxRecDepth 100000 in
set_option maxHeartbeats 4000000 in
theorem s_X9_turnTable {l : Launch} {D : va_G} {cy : Nat → ClassId} {σ : Nat → Int32} : ∀ q ∈ p_X9_turnTable, rx_Sd (gG l D cy σ) mt m_X9_turnTable q.1 q.2 :=
  ck_all (H := h_X9_turnTable) (P := o_X9_turnTable) rfl rfl rfl rfl rfl rfl (by decide +kernel) <|
  o_ac (rx_sd_cl (M := m_X9_turnTable) (rx_lk_S gok (mid := 117) ⟨kw_436, kw_35, hd_X9_turnedEntry, Nat.le_of_ble_eq_true rfl, Nat.le_of_ble_eq_true rfl⟩ kw_437 kw_438 (by decide +kernel)) (fun h => nomatch h) rfl rfl) <|
  o_an
set_option maxRecDepth 100000 in
set_option maxHeartbeats 4000000 in
theorem s_X9_turnedEntry {l : Launch} {D : va_G} {cy : Nat → ClassId} {σ : Nat → Int32} : ∀ q ∈ p_X9_turnedEntry, rx_Sd (gG l D cy σ) mt m_X9_turnedEntry q.1 q.2 :=
  ck_all (H := h_X9_turnedEntry) (P := o_X9_turnedEntry) rfl rfl rfl rfl rfl rfl (by decide +kernel) <|
  o_ac (rx_sd_mabs (M := m_X9_turnedEntry) kw_439 kw_135 kw_136 kw_137 (Nat.le_of_ble_eq_true rfl) (by decide +kernel)) <|
  o_an
set_option maxRecDepth 100000 in
set_option maxHeartbeats 4000000 in
theorem s_X9_walkRow {l : Launch} {D : va_G} {cy : Nat → ClassId} {σ : Nat → Int32} : ∀ q ∈ p_X9_walkRow, rx_Sd (gG l D cy σ) mt m_X9_walkRow q.1 q.2 :=
  ck_all (H := h_X9_walkRow) (P := o_X9_walkRow) rfl rfl rfl rfl rfl rfl (by decide +kernel) <|
  o_ac (rx_sd_cl (M := m_X9_walkRow) (rx_lk_V gok (mid := 42) (ci := 5) (C := (RX5, TX5, 7)) ⟨kw_29, kw_30, hd_X5_exchange, Nat.le_of_ble_eq_true rfl, Nat.le_of_ble_eq_true rfl⟩ rfl kw_345 kw_32 kw_33 (by decide +kernel)) (fun _ => ⟨_, rfl⟩) rfl rfl) <|
  o_ac (rx_sd_cl (M := m_X9_walkRow) (rx_lk_V gok (mid := 47) (ci := 5) (C := (RX5, TX5, 7)) ⟨kw_346, kw_30, hd_X5_settle, Nat.le_of_ble_eq_true rfl, Nat.le_of_ble_eq_true rfl⟩ rfl kw_347 kw_348 kw_349 (by decide +kernel)) (fun _ => ⟨_, rfl⟩) rfl rfl) <|
  o_an
set_option maxRecDepth 100000 in
set_option maxHeartbeats 4000000 in
theorem s_X9_way {l : Launch} {D : va_G} {cy : Nat → ClassId} {σ : Nat → Int32} : ∀ q ∈ p_X9_way, rx_Sd (gG l D cy σ) mt m_X9_way q.1 q.2 :=
  ck_all (H := h_X9_way) (P := o_X9_way) rfl rfl rfl rfl rfl rfl (by decide +kernel) <|
  o_ac (rx_sd_cl (M := m_X9_way) (rx_lk_V gok (mid := 59) (ci := 6) (C := (RX6, TX6, 2)) ⟨kw_296, kw_146, hd_X6_isCut, Nat.le_of_ble_eq_true rfl, Nat.le_of_ble_eq_true rfl⟩ rfl kw_382 kw_298 kw_299 (by decide +kernel)) (fun _ => ⟨_, rfl⟩) rfl rfl) <|
  o_ac (rx_sd_cl (M := m_X9_way) (rx_lk_V gok (mid := 59) (ci := 6) (C := (RX6, TX6, 2)) ⟨kw_296, kw_146, hd_X6_isCut, Nat.le_of_ble_eq_true rfl, Nat.le_of_ble_eq_true rfl⟩ rfl kw_382 kw_298 kw_299 (by decide +kernel)) (fun _ => ⟨_, rfl⟩) rfl rfl) <|
  o_ac (rx_sd_cl (M := m_X9_way) (rx_lk_V gok (mid := 32) (ci := 3) (C := (RX3, TX3, 3)) ⟨kw_471, kw_158, hd_X3_measure, Nat.le_of_ble_eq_true rfl, Nat.le_of_ble_eq_true rfl⟩ rfl kw_472 kw_473 kw_474 (by decide +kernel)) (fun _ => ⟨_, rfl⟩) rfl rfl) <|
  o_ac (rx_sd_cl (M := m_X9_way) (rx_lk_V gok (mid := 31) (ci := 3) (C := (RX3, TX3, 3)) ⟨kw_475, kw_158, hd_X3_lead, Nat.le_of_ble_eq_true rfl, Nat.le_of_ble_eq_true rfl⟩ rfl kw_476 kw_477 kw_478 (by decide +kernel)) (fun _ => ⟨_, rfl⟩) rfl rfl) <|
  o_an
set_option maxRecDepth 100000 in
set_option maxHeartbeats 4000000 in
theorem s_X9_what {l : Launch} {D : va_G} {cy : Nat → ClassId} {σ : Nat → Int32} : ∀ q ∈ p_X9_what, rx_Sd (gG l D cy σ) mt m_X9_what q.1 q.2 :=
  ck_all (H := h_X9_what) (P := o_X9_what) rfl rfl rfl rfl rfl rfl (by decide +kernel) <|
  o_ac (rx_sd_cl (M := m_X9_what) (rx_lk_V gok (mid := 15) (ci := 0) (C := (RX0, TX0, 18)) ⟨kw_479, kw_1, hd_X0_tell, Nat.le_of_ble_eq_true rfl, Nat.le_of_ble_eq_true rfl⟩ rfl kw_480 kw_481 kw_482 (by decide +kernel)) (fun _ => ⟨_, rfl⟩) rfl rfl) <|
  o_an
set_option maxRecDepth 100000 in
set_option maxHeartbeats 4000000 in
theorem s_X10_add {l : Launch} {D : va_G} {cy : Nat → ClassId} {σ : Nat → Int32} : ∀ q ∈ p_X10_add, rx_Sd (gG l D cy σ) mt m_X10_add q.1 q.2 :=
  ck_all (H := h_X10_add) (P := o_X10_add) rfl rfl rfl rfl rfl rfl (by decide +kernel) <|
  o_ac (rx_sd_cl (M := m_X10_add) (rx_lk_V gok (mid := 173) (ci := 10) (C := (RX10, TX10, 58)) ⟨kw_483, kw_484, hd_X10_placeIn, Nat.le_of_ble_eq_true rfl, Nat.le_of_ble_eq_true rfl⟩ rfl kw_485 kw_486 kw_487 (by decide +kernel)) (fun _ => ⟨_, rfl⟩) rfl rfl) <|
  o_ac (rx_sd_cl (M := m_X10_add) (rx_lk_V gok (mid := 122) (ci := 10) (C := (RX10, TX10, 58)) ⟨kw_488, kw_484, hd_X10_against, Nat.le_of_ble_eq_true rfl, Nat.le_of_ble_eq_true rfl⟩ rfl kw_489 kw_490 kw_491 (by decide +kernel)) (fun _ => ⟨_, rfl⟩) rfl rfl) <|
  o_an
set_option maxRecDepth 100000 in
set_option maxHeartbeats 4000000 in
theorem s_X10_against {l : Launch} {D : va_G} {cy : Nat → ClassId} {σ : Nat → Int32} : ∀ q ∈ p_X10_against, rx_Sd (gG l D cy σ) mt m_X10_against q.1 q.2 :=
  ck_all (H := h_X10_against) (P := o_X10_against) rfl rfl rfl rfl rfl rfl (by decide +kernel) <|
  o_an
set_option maxRecDepth 100000 in
set_option maxHeartbeats 4000000 in
theorem s_X10_all {l : Launch} {D : va_G} {cy : Nat → ClassId} {σ : Nat → Int32} : ∀ q ∈ p_X10_all, rx_Sd (gG l D cy σ) mt m_X10_all q.1 q.2 :=
  ck_all (H := h_X10_all) (P := o_X10_all) rfl rfl rfl rfl rfl rfl (by decide +kernel) <|
  o_ac (rx_sd_cl (M := m_X10_all) (rx_lk_V gok (mid := 181) (ci := 10) (C := (RX10, TX10, 58)) ⟨kw_492, kw_484, hd_X10_saves, Nat.le_of_ble_eq_true rfl, Nat.le_of_ble_eq_true rfl⟩ rfl kw_493 kw_494 kw_495 (by decide +kernel)) (fun _ => ⟨_, rfl⟩) rfl rfl) <|
  o_ac (rx_sd_cl (M := m_X10_all) (rx_lk_V gok (mid := 147) (ci := 10) (C := (RX10, TX10, 58)) ⟨kw_496, kw_484, hd_X10_goesThrough, Nat.le_of_ble_eq_true rfl, Nat.le_of_ble_eq_true rfl⟩ rfl kw_497 kw_498 kw_499 (by decide +kernel)) (fun _ => ⟨_, rfl⟩) rfl rfl) <|
  o_ac (rx_sd_cl (M := m_X10_all) (rx_lk_V gok (mid := 176) (ci := 10) (C := (RX10, TX10, 58)) ⟨kw_500, kw_484, hd_X10_restores, Nat.le_of_ble_eq_true rfl, Nat.le_of_ble_eq_true rfl⟩ rfl kw_501 kw_502 kw_503 (by decide +kernel)) (fun _ => ⟨_, rfl⟩) rfl rfl) <|
  o_ac (rx_sd_cl (M := m_X10_all) (rx_lk_V gok (mid := 186) (ci := 10) (C := (RX10, TX10, 58)) ⟨kw_504, kw_484, hd_X10_sumOf, Nat.le_of_ble_eq_true rfl, Nat.le_of_ble_eq_true rfl⟩ rfl kw_505 kw_506 kw_507 (by decide +kernel)) (fun _ => ⟨_, rfl⟩) rfl rfl) <|
  o_ac (rx_sd_cl (M := m_X10_all) (rx_lk_V gok (mid := 163) (ci := 10) (C := (RX10, TX10, 58)) ⟨kw_508, kw_484, hd_X10_leastOf, Nat.le_of_ble_eq_true rfl, Nat.le_of_ble_eq_true rfl⟩ rfl kw_509 kw_510 kw_511 (by decide +kernel)) (fun _ => ⟨_, rfl⟩) rfl rfl) <|
  o_an
set_option maxRecDepth 100000 in
set_option maxHeartbeats 4000000 in
theorem s_X10_areAlike {l : Launch} {D : va_G} {cy : Nat → ClassId} {σ : Nat → Int32} : ∀ q ∈ p_X10_areAlike, rx_Sd (gG l D cy σ) mt m_X10_areAlike q.1 q.2 :=
  ck_all (H := h_X10_areAlike) (P := o_X10_areAlike) rfl rfl rfl rfl rfl rfl (by decide +kernel) <|
  o_an
set_option maxRecDepth 100000 in
set_option maxHeartbeats 4000000 in
theorem s_X10_areNeighbours {l : Launch} {D : va_G} {cy : Nat → ClassId} {σ : Nat → Int32} : ∀ q ∈ p_X10_areNeighbours, rx_Sd (gG l D cy σ) mt m_X10_areNeighbours q.1 q.2 :=
  ck_all (H := h_X10_areNeighbours) (P := o_X10_areNeighbours) rfl rfl rfl rfl rfl rfl (by decide +kernel) <|
  o_an
set_option maxRecDepth 100000 in
set_option maxHeartbeats 4000000 in
theorem s_X10_arrows {l : Launch} {D : va_G} {cy : Nat → ClassId} {σ : Nat → Int32} : ∀ q ∈ p_X10_arrows, rx_Sd (gG l D cy σ) mt m_X10_arrows q.1 q.2 :=
  ck_all (H := h_X10_arrows) (P := o_X10_arrows) rfl rfl rfl rfl rfl rfl (by decide +kernel) <|
  o_an
set_option maxRecDepth 100000 in
set_option maxHeartbeats 4000000 in
theorem s_X10_b {l : Launch} {D : va_G} {cy : Nat → ClassId} {σ : Nat → Int32} : ∀ q ∈ p_X10_b, rx_Sd (gG l D cy σ) mt m_X10_b q.1 q.2 :=
  ck_all (H := h_X10_b) (P := o_X10_b) rfl rfl rfl rfl rfl rfl (by decide +kernel) <|
  o_an
set_option maxRecDepth 100000 in
set_option maxHeartbeats 4000000 in
theorem s_X10_back {l : Launch} {D : va_G} {cy : Nat → ClassId} {σ : Nat → Int32} : ∀ q ∈ p_X10_back, rx_Sd (gG l D cy σ) mt m_X10_back q.1 q.2 :=
  ck_all (H := h_X10_back) (P := o_X10_back) rfl rfl rfl rfl rfl rfl (by decide +kernel) <|
  o_ac (rx_sd_cl (M := m_X10_back) (rx_lk_V gok (mid := 200) (ci := 10) (C := (RX10, TX10, 58)) ⟨kw_512, kw_484, hd_X10_turns, Nat.le_of_ble_eq_true rfl, Nat.le_of_ble_eq_true rfl⟩ rfl kw_513 kw_514 kw_515 (by decide +kernel)) (fun _ => ⟨_, rfl⟩) rfl rfl) <|
  o_an
set_option maxRecDepth 100000 in
set_option maxHeartbeats 4000000 in
theorem s_X10_begin {l : Launch} {D : va_G} {cy : Nat → ClassId} {σ : Nat → Int32} : ∀ q ∈ p_X10_begin, rx_Sd (gG l D cy σ) mt m_X10_begin q.1 q.2 :=
  ck_all (H := h_X10_begin) (P := o_X10_begin) rfl rfl rfl rfl rfl rfl (by decide +kernel) <|
  o_ac (rx_sd_cl (M := m_X10_begin) (rx_lk_V gok (mid := 150) (ci := 10) (C := (RX10, TX10, 58)) ⟨kw_516, kw_484, hd_X10_hasSizes, Nat.le_of_ble_eq_true rfl, Nat.le_of_ble_eq_true rfl⟩ rfl kw_517 kw_518 kw_519 (by decide +kernel)) (fun _ => ⟨_, rfl⟩) rfl rfl) <|
  o_ac (rx_sd_cl (M := m_X10_begin) (rx_lk_V gok (mid := 130) (ci := 10) (C := (RX10, TX10, 58)) ⟨kw_520, kw_484, hd_X10_begins, Nat.le_of_ble_eq_true rfl, Nat.le_of_ble_eq_true rfl⟩ rfl kw_521 kw_522 kw_523 (by decide +kernel)) (fun _ => ⟨_, rfl⟩) rfl rfl) <|
  o_an
set_option maxRecDepth 100000 in
set_option maxHeartbeats 4000000 in
theorem s_X10_begins {l : Launch} {D : va_G} {cy : Nat → ClassId} {σ : Nat → Int32} : ∀ q ∈ p_X10_begins, rx_Sd (gG l D cy σ) mt m_X10_begins q.1 q.2 :=
  ck_all (H := h_X10_begins) (P := o_X10_begins) rfl rfl rfl rfl rfl rfl (by decide +kernel) <|
  o_ac (rx_sd_cl (M := m_X10_begins) (rx_lk_V gok (mid := 142) (ci := 10) (C := (RX10, TX10, 58)) ⟨kw_524, kw_484, hd_X10_firsts, Nat.le_of_ble_eq_true rfl, Nat.le_of_ble_eq_true rfl⟩ rfl kw_525 kw_526 kw_527 (by decide +kernel)) (fun _ => ⟨_, rfl⟩) rfl rfl) <|
  o_an
set_option maxRecDepth 100000 in
set_option maxHeartbeats 4000000 in
theorem s_X10_bits {l : Launch} {D : va_G} {cy : Nat → ClassId} {σ : Nat → Int32} : ∀ q ∈ p_X10_bits, rx_Sd (gG l D cy σ) mt m_X10_bits q.1 q.2 :=
  ck_all (H := h_X10_bits) (P := o_X10_bits) rfl rfl rfl rfl rfl rfl (by decide +kernel) <|
  o_an
set_option maxRecDepth 100000 in
set_option maxHeartbeats 4000000 in
theorem s_X10_comes {l : Launch} {D : va_G} {cy : Nat → ClassId} {σ : Nat → Int32} : ∀ q ∈ p_X10_comes, rx_Sd (gG l D cy σ) mt m_X10_comes q.1 q.2 :=
  ck_all (H := h_X10_comes) (P := o_X10_comes) rfl rfl rfl rfl rfl rfl (by decide +kernel) <|
  o_an
set_option maxRecDepth 100000 in
set_option maxHeartbeats 4000000 in
theorem s_X10_common {l : Launch} {D : va_G} {cy : Nat → ClassId} {σ : Nat → Int32} : ∀ q ∈ p_X10_common, rx_Sd (gG l D cy σ) mt m_X10_common q.1 q.2 :=
  ck_all (H := h_X10_common) (P := o_X10_common) rfl rfl rfl rfl rfl rfl (by decide +kernel) <|
  o_an
set_option maxRecDepth 100000 in
set_option maxHeartbeats 4000000 in
theorem s_X10_copy {l : Launch} {D : va_G} {cy : Nat → ClassId} {σ : Nat → Int32} : ∀ q ∈ p_X10_copy, rx_Sd (gG l D cy σ) mt m_X10_copy q.1 q.2 :=
  ck_all (H := h_X10_copy) (P := o_X10_copy) rfl rfl rfl rfl rfl rfl (by decide +kernel) <|
  o_an
