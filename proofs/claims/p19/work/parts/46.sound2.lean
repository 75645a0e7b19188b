section
set_option maxRecDepth 100000 in
set_option maxHeartbeats 4000000 in
theorem s_X5_multiplied {l : Launch} {D : va_G} {cy : Nat → ClassId} {σ : Nat → Int32} : ∀ q ∈ p_X5_multiplied, rx_Sd (gG l D cy σ) mt m_X5_multiplied q.1 q.2 :=
  ck_all (H := h_X5_multiplied) (P := o_X5_multiplied) rfl rfl rfl rfl rfl rfl (by decide +kernel) <|
  o_an
set_option maxRecDepth 100000 in
set_option maxHeartbeats 4000000 in
theorem s_X5_multiply {l : Launch} {D : va_G} {cy : Nat → ClassId} {σ : Nat → Int32} : ∀ q ∈ p_X5_multiply, rx_Sd (gG l D cy σ) mt m_X5_multiply q.1 q.2 :=
  ck_all (H := h_X5_multiply) (P := o_X5_multiply) rfl rfl rfl rfl rfl rfl (by decide +kernel) <|
  o_ac (rx_sd_cl (M := m_X5_multiply) (rx_lk_V gok (mid := 75) (ci := 8) (C := (RX8, TX8, 4)) ⟨kw_221, kw_71, hd_X8_clear, Nat.le_of_ble_eq_true rfl, Nat.le_of_ble_eq_true rfl⟩ rfl kw_222 kw_223 kw_224 (by decide +kernel)) (fun _ => ⟨_, rfl⟩) rfl rfl) <|
  o_ac (rx_sd_cl (M := m_X5_multiply) (rx_lk_S gok (mid := 44) ⟨kw_218, kw_30, hd_X5_multiplied, Nat.le_of_ble_eq_true rfl, Nat.le_of_ble_eq_true rfl⟩ kw_219 kw_220 (by decide +kernel)) (fun h => nomatch h) rfl rfl) <|
  o_ac (rx_sd_cl (M := m_X5_multiply) (rx_lk_V gok (mid := 73) (ci := 8) (C := (RX8, TX8, 4)) ⟨kw_213, kw_71, hd_X8_add, Nat.le_of_ble_eq_true rfl, Nat.le_of_ble_eq_true rfl⟩ rfl kw_214 kw_215 kw_216 (by decide +kernel)) (fun _ => ⟨_, rfl⟩) rfl rfl) <|
  o_an
set_option maxRecDepth 100000 in
set_option maxHeartbeats 4000000 in
theorem s_X5_product {l : Launch} {D : va_G} {cy : Nat → ClassId} {σ : Nat → Int32} : ∀ q ∈ p_X5_product, rx_Sd (gG l D cy σ) mt m_X5_product q.1 q.2 :=
  ck_all (H := h_X5_product) (P := o_X5_product) rfl rfl rfl rfl rfl rfl (by decide +kernel) <|
  o_ac (rx_sd_cl (M := m_X5_product) (rx_lk_V gok (mid := 40) (ci := 5) (C := (RX5, TX5, 7)) ⟨kw_252, kw_30, hd_X5_beginProduct, Nat.le_of_ble_eq_true rfl, Nat.le_of_ble_eq_true rfl⟩ rfl kw_253 kw_254 kw_255 (by decide +kernel)) (fun _ => ⟨_, rfl⟩) rfl rfl) <|
  o_ac (rx_sd_cl (M := m_X5_product) (rx_lk_V gok (mid := 45) (ci := 5) (C := (RX5, TX5, 7)) ⟨kw_256, kw_30, hd_X5_multiply, Nat.le_of_ble_eq_true rfl, Nat.le_of_ble_eq_true rfl⟩ rfl kw_257 kw_258 kw_259 (by decide +kernel)) (fun _ => ⟨_, rfl⟩) rfl rfl) <|
  o_an
set_option maxRecDepth 100000 in
set_option maxHeartbeats 4000000 in
theorem s_X5_settle {l : Launch} {D : va_G} {cy : Nat → ClassId} {σ : Nat → Int32} : ∀ q ∈ p_X5_settle, rx_Sd (gG l D cy σ) mt m_X5_settle q.1 q.2 :=
  ck_all (H := h_X5_settle) (P := o_X5_settle) rfl rfl rfl rfl rfl rfl (by decide +kernel) <|
  o_ac (rx_sd_cl (M := m_X5_settle) (rx_lk_SN gok (host := "SeedBench") (mid := 116) ⟨kw_34, kw_35, hd_X9_turnTable, Nat.le_of_ble_eq_true rfl, Nat.le_of_ble_eq_true rfl⟩ (List.mem_of_getElem? (i := 11) rfl) kw_36 (by decide +kernel)) (fun h => nomatch h) rfl rfl) <|
  o_an
set_option maxRecDepth 100000 in
set_option maxHeartbeats 4000000 in
theorem s_X5_takeAway {l : Launch} {D : va_G} {cy : Nat → ClassId} {σ : Nat → Int32} : ∀ q ∈ p_X5_takeAway, rx_Sd (gG l D cy σ) mt m_X5_takeAway q.1 q.2 :=
  ck_all (H := h_X5_takeAway) (P := o_X5_takeAway) rfl rfl rfl rfl rfl rfl (by decide +kernel) <|
  o_ac (rx_sd_cl (M := m_X5_takeAway) (rx_lk_V gok (mid := 77) (ci := 8) (C := (RX8, TX8, 4)) ⟨kw_260, kw_71, hd_X8_find, Nat.le_of_ble_eq_true rfl, Nat.le_of_ble_eq_true rfl⟩ rfl kw_261 kw_262 kw_263 (by decide +kernel)) (fun _ => ⟨_, rfl⟩) rfl rfl) <|
  o_an
set_option maxRecDepth 100000 in
set_option maxHeartbeats 4000000 in
theorem s_X6_areLinked {l : Launch} {D : va_G} {cy : Nat → ClassId} {σ : Nat → Int32} : ∀ q ∈ p_X6_areLinked, rx_Sd (gG l D cy σ) mt m_X6_areLinked q.1 q.2 :=
  ck_all (H := h_X6_areLinked) (P := o_X6_areLinked) rfl rfl rfl rfl rfl rfl (by decide +kernel) <|
  o_ac (rx_sd_cl (M := m_X6_areLinked) (rx_lk_V gok (mid := 50) (ci := 6) (C := (RX6, TX6, 2)) ⟨kw_264, kw_146, hd_X6_areNeighbours, Nat.le_of_ble_eq_true rfl, Nat.le_of_ble_eq_true rfl⟩ rfl kw_265 kw_266 kw_267 (by decide +kernel)) (fun _ => ⟨_, rfl⟩) rfl rfl) <|
  o_ac (rx_sd_cl (M := m_X6_areLinked) (rx_lk_V gok (mid := 55) (ci := 6) (C := (RX6, TX6, 2)) ⟨kw_268, kw_146, hd_X6_has, Nat.le_of_ble_eq_true rfl, Nat.le_of_ble_eq_true rfl⟩ rfl kw_269 kw_270 kw_271 (by decide +kernel)) (fun _ => ⟨_, rfl⟩) rfl rfl) <|
  o_an
set_option maxRecDepth 100000 in
set_option maxHeartbeats 4000000 in
theorem s_X6_areNeighbours {l : Launch} {D : va_G} {cy : Nat → ClassId} {σ : Nat → Int32} : ∀ q ∈ p_X6_areNeighbours, rx_Sd (gG l D cy σ) mt m_X6_areNeighbours q.1 q.2 :=
  ck_all (H := h_X6_areNeighbours) (P := o_X6_areNeighbours) rfl rfl rfl rfl rfl rfl (by decide +kernel) <|
  o_ac (rx_sd_mabs (M := m_X6_areNeighbours) kw_272 kw_135 kw_136 kw_137 (Nat.le_of_ble_eq_true rfl) (by decide +kernel)) <|
  o_an
set_option maxRecDepth 100000 in
set_option maxHeartbeats 4000000 in
theorem s_X6_bit {l : Launch} {D : va_G} {cy : Nat → ClassId} {σ : Nat → Int32} : ∀ q ∈ p_X6_bit, rx_Sd (gG l D cy σ) mt m_X6_bit q.1 q.2 :=
  ck_all (H := h_X6_bit) (P := o_X6_bit) rfl rfl rfl rfl rfl rfl (by decide +kernel) <|
  o_an
set_option maxRecDepth 100000 in
set_option maxHeartbeats 4000000 in
theorem s_X6_fenceAt {l : Launch} {D : va_G} {cy : Nat → ClassId} {σ : Nat → Int32} : ∀ q ∈ p_X6_fenceAt, rx_Sd (gG l D cy σ) mt m_X6_fenceAt q.1 q.2 :=
  ck_all (H := h_X6_fenceAt) (P := o_X6_fenceAt) rfl rfl rfl rfl rfl rfl (by decide +kernel) <|
  o_ac (rx_sd_cl (M := m_X6_fenceAt) (rx_lk_V gok (mid := 55) (ci := 6) (C := (RX6, TX6, 2)) ⟨kw_268, kw_146, hd_X6_has, Nat.le_of_ble_eq_true rfl, Nat.le_of_ble_eq_true rfl⟩ rfl kw_269 kw_270 kw_271 (by decide +kernel)) (fun _ => ⟨_, rfl⟩) rfl rfl) <|
  o_an
set_option maxRecDepth 100000 in
set_option maxHeartbeats 4000000 in
theorem s_X6_fenceCount {l : Launch} {D : va_G} {cy : Nat → ClassId} {σ : Nat → Int32} : ∀ q ∈ p_X6_fenceCount, rx_Sd (gG l D cy σ) mt m_X6_fenceCount q.1 q.2 :=
  ck_all (H := h_X6_fenceCount) (P := o_X6_fenceCount) rfl rfl rfl rfl rfl rfl (by decide +kernel) <|
  o_ac (rx_sd_cl (M := m_X6_fenceCount) (rx_lk_S gok (mid := 3) ⟨kw_273, kw_274, hd_J13_bitCount_95d88, Nat.le_of_ble_eq_true rfl, Nat.le_of_ble_eq_true rfl⟩ kw_275 kw_276 (by decide +kernel)) (fun h => nomatch h) rfl rfl) <|
  o_an
set_option maxRecDepth 100000 in
set_option maxHeartbeats 4000000 in
theorem s_X6_friezeNumber {l : Launch} {D : va_G} {cy : Nat → ClassId} {σ : Nat → Int32} : ∀ q ∈ p_X6_friezeNumber, rx_Sd (gG l D cy σ) mt m_X6_friezeNumber q.1 q.2 :=
  ck_all (H := h_X6_friezeNumber) (P := o_X6_friezeNumber) rfl rfl rfl rfl rfl rfl (by decide +kernel) <|
  o_ac (rx_sd_cl (M := m_X6_friezeNumber) (rx_lk_V gok (mid := 65) (ci := 6) (C := (RX6, TX6, 2)) ⟨kw_277, kw_146, hd_X6_thirds, Nat.le_of_ble_eq_true rfl, Nat.le_of_ble_eq_true rfl⟩ rfl kw_278 kw_279 kw_280 (by decide +kernel)) (fun _ => ⟨_, rfl⟩) rfl rfl) <|
  o_an
set_option maxRecDepth 100000 in
set_option maxHeartbeats 4000000 in
theorem s_X6_has {l : Launch} {D : va_G} {cy : Nat → ClassId} {σ : Nat → Int32} : ∀ q ∈ p_X6_has, rx_Sd (gG l D cy σ) mt m_X6_has q.1 q.2 :=
  ck_all (H := h_X6_has) (P := o_X6_has) rfl rfl rfl rfl rfl rfl (by decide +kernel) <|
  o_ac (rx_sd_cl (M := m_X6_has) (rx_lk_S gok (mid := 51) ⟨kw_150, kw_146, hd_X6_bit, Nat.le_of_ble_eq_true rfl, Nat.le_of_ble_eq_true rfl⟩ kw_281 kw_152 (by decide +kernel)) (fun h => nomatch h) rfl rfl) <|
  o_an
set_option maxRecDepth 100000 in
set_option maxHeartbeats 4000000 in
theorem s_X6_init {l : Launch} {D : va_G} {cy : Nat → ClassId} {σ : Nat → Int32} : ∀ q ∈ p_X6_init, rx_Sd (gG l D cy σ) mt m_X6_init q.1 q.2 :=
  rx_ac (rx_sd_aload_n dX6_init_0 rfl) <|
  rx_ac (rx_sd_obj (M := m_X6_init) kw_282 kw_46 kw_objcode (Nat.le_of_ble_eq_true rfl) dX6_init_1) <|
  rx_ac (rx_sd_aload_n dX6_init_4 rfl) <|
  rx_ac (rx_sd_iconst dX6_init_5 (by decide)) <|
  rx_ac (rx_sd_putf (C := RX6) (T := TX6) (N := 2) (ty0 := tyX6) in_X6 tyX6_ok nmX6 rfl (by decide) kw_283 (Or.inl rfl) rfl dX6_init_6) <|
  rx_ac (rx_sd_ret0 (M := m_X6_init) rfl dX6_init_9) <|
  rx_an
set_option maxRecDepth 100000 in
set_option maxHeartbeats 4000000 in
theorem s_X6_isCorner {l : Launch} {D : va_G} {cy : Nat → ClassId} {σ : Nat → Int32} : ∀ q ∈ p_X6_isCorner, rx_Sd (gG l D cy σ) mt m_X6_isCorner q.1 q.2 :=
  ck_all (H := h_X6_isCorner) (P := o_X6_isCorner) rfl rfl rfl rfl rfl rfl (by decide +kernel) <|
  o_an
set_option maxRecDepth 100000 in
set_option maxHeartbeats 4000000 in
theorem s_X6_isCrossed {l : Launch} {D : va_G} {cy : Nat → ClassId} {σ : Nat → Int32} : ∀ q ∈ p_X6_isCrossed, rx_Sd (gG l D cy σ) mt m_X6_isCrossed q.1 q.2 :=
  ck_all (H := h_X6_isCrossed) (P := o_X6_isCrossed) rfl rfl rfl rfl rfl rfl (by decide +kernel) <|
  o_ac (rx_sd_cl (M := m_X6_isCrossed) (rx_lk_V gok (mid := 55) (ci := 6) (C := (RX6, TX6, 2)) ⟨kw_268, kw_146, hd_X6_has, Nat.le_of_ble_eq_true rfl, Nat.le_of_ble_eq_true rfl⟩ rfl kw_269 kw_270 kw_271 (by decide +kernel)) (fun _ => ⟨_, rfl⟩) rfl rfl) <|
  o_an
set_option maxRecDepth 100000 in
set_option maxHeartbeats 4000000 in
theorem s_X6_isCut {l : Launch} {D : va_G} {cy : Nat → ClassId} {σ : Nat → Int32} : ∀ q ∈ p_X6_isCut, rx_Sd (gG l D cy σ) mt m_X6_isCut q.1 q.2 :=
  ck_all (H := h_X6_isCut) (P := o_X6_isCut) rfl rfl rfl rfl rfl rfl (by decide +kernel) <|
  o_ac (rx_sd_cl (M := m_X6_isCut) (rx_lk_V gok (mid := 53) (ci := 6) (C := (RX6, TX6, 2)) ⟨kw_284, kw_146, hd_X6_fenceCount, Nat.le_of_ble_eq_true rfl, Nat.le_of_ble_eq_true rfl⟩ rfl kw_285 kw_286 kw_287 (by decide +kernel)) (fun _ => ⟨_, rfl⟩) rfl rfl) <|
  o_an
set_option maxRecDepth 100000 in
set_option maxHeartbeats 4000000 in
theorem s_X6_otherFence {l : Launch} {D : va_G} {cy : Nat → ClassId} {σ : Nat → Int32} : ∀ q ∈ p_X6_otherFence, rx_Sd (gG l D cy σ) mt m_X6_otherFence q.1 q.2 :=
  ck_all (H := h_X6_otherFence) (P := o_X6_otherFence) rfl rfl rfl rfl rfl rfl (by decide +kernel) <|
  o_ac (rx_sd_cl (M := m_X6_otherFence) (rx_lk_V gok (mid := 49) (ci := 6) (C := (RX6, TX6, 2)) ⟨kw_288, kw_146, hd_X6_areLinked, Nat.le_of_ble_eq_true rfl, Nat.le_of_ble_eq_true rfl⟩ rfl kw_289 kw_290 kw_291 (by decide +kernel)) (fun _ => ⟨_, rfl⟩) rfl rfl) <|
  o_ac (rx_sd_cl (M := m_X6_otherFence) (rx_lk_V gok (mid := 49) (ci := 6) (C := (RX6, TX6, 2)) ⟨kw_288, kw_146, hd_X6_areLinked, Nat.le_of_ble_eq_true rfl, Nat.le_of_ble_eq_true rfl⟩ rfl kw_289 kw_290 kw_291 (by decide +kernel)) (fun _ => ⟨_, rfl⟩) rfl rfl) <|
  o_ac (rx_sd_mmin (M := m_X6_otherFence) kw_292 kw_174 kw_136 kw_175 (Nat.le_of_ble_eq_true rfl) (by decide +kernel)) <|
  o_ac (rx_sd_mmax (M := m_X6_otherFence) kw_293 kw_294 kw_136 kw_295 (Nat.le_of_ble_eq_true rfl) (by decide +kernel)) <|
  o_an
set_option maxRecDepth 100000 in
set_option maxHeartbeats 4000000 in
theorem s_X6_placeOf {l : Launch} {D : va_G} {cy : Nat → ClassId} {σ : Nat → Int32} : ∀ q ∈ p_X6_placeOf, rx_Sd (gG l D cy σ) mt m_X6_placeOf q.1 q.2 :=
  ck_all (H := h_X6_placeOf) (P := o_X6_placeOf) rfl rfl rfl rfl rfl rfl (by decide +kernel) <|
  o_ac (rx_sd_cl (M := m_X6_placeOf) (rx_lk_V gok (mid := 55) (ci := 6) (C := (RX6, TX6, 2)) ⟨kw_268, kw_146, hd_X6_has, Nat.le_of_ble_eq_true rfl, Nat.le_of_ble_eq_true rfl⟩ rfl kw_269 kw_270 kw_271 (by decide +kernel)) (fun _ => ⟨_, rfl⟩) rfl rfl) <|
  o_ac (rx_sd_cl (M := m_X6_placeOf) (rx_lk_S gok (mid := 51) ⟨kw_150, kw_146, hd_X6_bit, Nat.le_of_ble_eq_true rfl, Nat.le_of_ble_eq_true rfl⟩ kw_281 kw_152 (by decide +kernel)) (fun h => nomatch h) rfl rfl) <|
  o_ac (rx_sd_cl (M := m_X6_placeOf) (rx_lk_S gok (mid := 3) ⟨kw_273, kw_274, hd_J13_bitCount_95d88, Nat.le_of_ble_eq_true rfl, Nat.le_of_ble_eq_true rfl⟩ kw_275 kw_276 (by decide +kernel)) (fun h => nomatch h) rfl rfl) <|
  o_an
set_option maxRecDepth 100000 in
set_option maxHeartbeats 4000000 in
theorem s_X6_tell {l : Launch} {D : va_G} {cy : Nat → ClassId} {σ : Nat → Int32} : ∀ q ∈ p_X6_tell, rx_Sd (gG l D cy σ) mt m_X6_tell q.1 q.2 :=
  ck_all (H := h_X6_tell) (P := o_X6_tell) rfl rfl rfl rfl rfl rfl (by decide +kernel) <|
  o_ac (rx_sd_cl (M := m_X6_tell) (rx_lk_V gok (mid := 53) (ci := 6) (C := (RX6, TX6, 2)) ⟨kw_284, kw_146, hd_X6_fenceCount, Nat.le_of_ble_eq_true rfl, Nat.le_of_ble_eq_true rfl⟩ rfl kw_285 kw_286 kw_287 (by decide +kernel)) (fun _ => ⟨_, rfl⟩) rfl rfl) <|
  o_ac (rx_sd_cl (M := m_X6_tell) (rx_lk_V gok (mid := 59) (ci := 6) (C := (RX6, TX6, 2)) ⟨kw_296, kw_146, hd_X6_isCut, Nat.le_of_ble_eq_true rfl, Nat.le_of_ble_eq_true rfl⟩ rfl kw_297 kw_298 kw_299 (by decide +kernel)) (fun _ => ⟨_, rfl⟩) rfl rfl) <|
  o_ac (rx_sd_cl (M := m_X6_tell) (rx_lk_V gok (mid := 65) (ci := 6) (C := (RX6, TX6, 2)) ⟨kw_277, kw_146, hd_X6_thirds, Nat.le_of_ble_eq_true rfl, Nat.le_of_ble_eq_true rfl⟩ rfl kw_278 kw_279 kw_280 (by decide +kernel)) (fun _ => ⟨_, rfl⟩) rfl rfl) <|
  o_ac (rx_sd_cl (M := m_X6_tell) (rx_lk_V gok (mid := 52) (ci := 6) (C := (RX6, TX6, 2)) ⟨kw_153, kw_146, hd_X6_fenceAt, Nat.le_of_ble_eq_true rfl, Nat.le_of_ble_eq_true rfl⟩ rfl kw_300 kw_155 kw_156 (by decide +kernel)) (fun _ => ⟨_, rfl⟩) rfl rfl) <|
  o_an
set_option maxRecDepth 100000 in
set_option maxHeartbeats 4000000 in
theorem s_X6_tellArrow {l : Launch} {D : va_G} {cy : Nat → ClassId} {σ : Nat → Int32} : ∀ q ∈ p_X6_tellArrow, rx_Sd (gG l D cy σ) mt m_X6_tellArrow q.1 q.2 :=
  ck_all (H := h_X6_tellArrow) (P := o_X6_tellArrow) rfl rfl rfl rfl rfl rfl (by decide +kernel) <|
  o_an
set_option maxRecDepth 100000 in
set_option maxHeartbeats 4000000 in
theorem s_X6_tellArrows {l : Launch} {D : va_G} {cy : Nat → ClassId} {σ : Nat → Int32} : ∀ q ∈ p_X6_tellArrows, rx_Sd (gG l D cy σ) mt m_X6_tellArrows q.1 q.2 :=
  ck_all (H := h_X6_tellArrows) (P := o_X6_tellArrows) rfl rfl rfl rfl rfl rfl (by decide +kernel) <|
  o_ac (rx_sd_cl (M := m_X6_tellArrows) (rx_lk_V gok (mid := 49) (ci := 6) (C := (RX6, TX6, 2)) ⟨kw_288, kw_146, hd_X6_areLinked, Nat.le_of_ble_eq_true rfl, Nat.le_of_ble_eq_true rfl⟩ rfl kw_289 kw_290 kw_291 (by decide +kernel)) (fun _ => ⟨_, rfl⟩) rfl rfl) <|
  o_ac (rx_sd_cl (M := m_X6_tellArrows) (rx_lk_V gok (mid := 49) (ci := 6) (C := (RX6, TX6, 2)) ⟨kw_288, kw_146, hd_X6_areLinked, Nat.le_of_ble_eq_true rfl, Nat.le_of_ble_eq_true rfl⟩ rfl kw_289 kw_290 kw_291 (by decide +kernel)) (fun _ => ⟨_, rfl⟩) rfl rfl) <|
  o_ac (rx_sd_cl (M := m_X6_tellArrows) (rx_lk_V gok (mid := 49) (ci := 6) (C := (RX6, TX6, 2)) ⟨kw_288, kw_146, hd_X6_areLinked, Nat.le_of_ble_eq_true rfl, Nat.le_of_ble_eq_true rfl⟩ rfl kw_289 kw_290 kw_291 (by decide +kernel)) (fun _ => ⟨_, rfl⟩) rfl rfl) <|
  o_ac (rx_sd_cl (M := m_X6_tellArrows) (rx_lk_V gok (mid := 61) (ci := 6) (C := (RX6, TX6, 2)) ⟨kw_301, kw_146, hd_X6_placeOf, Nat.le_of_ble_eq_true rfl, Nat.le_of_ble_eq_true rfl⟩ rfl kw_302 kw_303 kw_304 (by decide +kernel)) (fun _ => ⟨_, rfl⟩) rfl rfl) <|
  o_ac (rx_sd_cl (M := m_X6_tellArrows) (rx_lk_V gok (mid := 61) (ci := 6) (C := (RX6, TX6, 2)) ⟨kw_301, kw_146, hd_X6_placeOf, Nat.le_of_ble_eq_true rfl, Nat.le_of_ble_eq_true rfl⟩ rfl kw_302 kw_303 kw_304 (by decide +kernel)) (fun _ => ⟨_, rfl⟩) rfl rfl) <|
  o_ac (rx_sd_cl (M := m_X6_tellArrows) (rx_lk_S gok (mid := 63) ⟨kw_305, kw_146, hd_X6_tellArrow, Nat.le_of_ble_eq_true rfl, Nat.le_of_ble_eq_true rfl⟩ kw_306 kw_307 (by decide +kernel)) (fun h => nomatch h) rfl rfl) <|
  o_ac (rx_sd_cl (M := m_X6_tellArrows) (rx_lk_V gok (mid := 61) (ci := 6) (C := (RX6, TX6, 2)) ⟨kw_301, kw_146, hd_X6_placeOf, Nat.le_of_ble_eq_true rfl, Nat.le_of_ble_eq_true rfl⟩ rfl kw_302 kw_303 kw_304 (by decide +kernel)) (fun _ => ⟨_, rfl⟩) rfl rfl) <|
  o_ac (rx_sd_cl (M := m_X6_tellArrows) (rx_lk_V gok (mid := 61) (ci := 6) (C := (RX6, TX6, 2)) ⟨kw_301, kw_146, hd_X6_placeOf, Nat.le_of_ble_eq_true rfl, Nat.le_of_ble_eq_true rfl⟩ rfl kw_302 kw_303 kw_304 (by decide +kernel)) (fun _ => ⟨_, rfl⟩) rfl rfl) <|
  o_ac (rx_sd_cl (M := m_X6_tellArrows) (rx_lk_S gok (mid := 63) ⟨kw_305, kw_146, hd_X6_tellArrow, Nat.le_of_ble_eq_true rfl, Nat.le_of_ble_eq_true rfl⟩ kw_306 kw_307 (by decide +kernel)) (fun h => nomatch h) rfl rfl) <|
  o_ac (rx_sd_cl (M := m_X6_tellArrows) (rx_lk_V gok (mid := 61) (ci := 6) (C := (RX6, TX6, 2)) ⟨kw_301, kw_146, hd_X6_placeOf, Nat.le_of_ble_eq_true rfl, Nat.le_of_ble_eq_true rfl⟩ rfl kw_302 kw_303 kw_304 (by decide +kernel)) (fun _ => ⟨_, rfl⟩) rfl rfl) <|
  o_ac (rx_sd_cl (M := m_X6_tellArrows) (rx_lk_V gok (mid := 61) (ci := 6) (C := (RX6, TX6, 2)) ⟨kw_301, kw_146, hd_X6_placeOf, Nat.le_of_ble_eq_true rfl, Nat.le_of_ble_eq_true rfl⟩ rfl kw_302 kw_303 kw_304 (by decide +kernel)) (fun _ => ⟨_, rfl⟩) rfl rfl) <|
  o_ac (rx_sd_cl (M := m_X6_tellArrows) (rx_lk_S gok (mid := 63) ⟨kw_305, kw_146, hd_X6_tellArrow, Nat.le_of_ble_eq_true rfl, Nat.le_of_ble_eq_true rfl⟩ kw_306 kw_307 (by decide +kernel)) (fun h => nomatch h) rfl rfl) <|
  o_an
set_option maxRecDepth 100000 in
set_option maxHeartbeats 4000000 in
theorem s_X6_thirds {l : Launch} {D : va_G} {cy : Nat → ClassId} {σ : Nat → Int32} : ∀ q ∈ p_X6_thirds, rx_Sd (gG l D cy σ) mt m_X6_thirds q.1 q.2 :=
  ck_all (H := h_X6_thirds) (P := o_X6_thirds) rfl rfl rfl rfl rfl rfl (by decide +kernel) <|
  o_ac (rx_sd_cl (M := m_X6_thirds) (rx_lk_V gok (mid := 55) (ci := 6) (C := (RX6, TX6, 2)) ⟨kw_268, kw_146, hd_X6_has, Nat.le_of_ble_eq_true rfl, Nat.le_of_ble_eq_true rfl⟩ rfl kw_269 kw_270 kw_271 (by decide +kernel)) (fun _ => ⟨_, rfl⟩) rfl rfl) <|
  o_an
set_option maxRecDepth 100000 in
set_option maxHeartbeats 4000000 in
theorem s_X7_allTerms {l : Launch} {D : va_G} {cy : Nat → ClassId} {σ : Nat → Int32} : ∀ q ∈ p_X7_allTerms, rx_Sd (gG l D cy σ) mt m_X7_allTerms q.1 q.2 :=
  ck_all (H := h_X7_allTerms) (P := o_X7_allTerms) rfl rfl rfl rfl rfl rfl (by decide +kernel) <|
  o_an
set_option maxRecDepth 100000 in
set_option maxHeartbeats 4000000 in
theorem s_X7_copyFrom {l : Launch} {D : va_G} {cy : Nat → ClassId} {σ : Nat → Int32} : ∀ q ∈ p_X7_copyFrom, rx_Sd (gG l D cy σ) mt m_X7_copyFrom q.1 q.2 :=
  ck_all (H := h_X7_copyFrom) (P := o_X7_copyFrom) rfl rfl rfl rfl rfl rfl (by decide +kernel) <|
  o_ac (rx_sd_cpI (M := m_X7_copyFrom) ⟨rfl, rfl, rfl⟩ kw_308 kw_14 kw_15 kw_16 (Nat.le_of_ble_eq_true rfl) (by decide +kernel)) <|
  o_ac (rx_sd_cpL (M := m_X7_copyFrom) ⟨rfl, rfl, rfl⟩ kw_308 kw_14 kw_15 kw_16 (Nat.le_of_ble_eq_true rfl) (by decide +kernel)) <|
  o_ac (rx_sd_cl (M := m_X7_copyFrom) (rx_lk_V gok (mid := 76) (ci := 8) (C := (RX8, TX8, 4)) ⟨kw_78, kw_71, hd_X8_copyFrom, Nat.le_of_ble_eq_true rfl, Nat.le_of_ble_eq_true rfl⟩ rfl kw_309 kw_80 kw_81 (by decide +kernel)) (fun _ => ⟨_, rfl⟩) rfl rfl) <|
  o_an
set_option maxRecDepth 100000 in
set_option maxHeartbeats 4000000 in
theorem s_X7_hasTable {l : Launch} {D : va_G} {cy : Nat → ClassId} {σ : Nat → Int32} : ∀ q ∈ p_X7_hasTable, rx_Sd (gG l D cy σ) mt m_X7_hasTable q.1 q.2 :=
  ck_all (H := h_X7_hasTable) (P := o_X7_hasTable) rfl rfl rfl rfl rfl rfl (by decide +kernel) <|
  o_an
set_option maxRecDepth 100000 in
set_option maxHeartbeats 4000000 in
theorem s_X7_init {l : Launch} {D : va_G} {cy : Nat → ClassId} {σ : Nat → Int32} : ∀ q ∈ p_X7_init, rx_Sd (gG l D cy σ) mt m_X7_init q.1 q.2 :=
  rx_ac (rx_sd_aload_n dX7_init_0 rfl) <|
  rx_ac (rx_sd_obj (M := m_X7_init) kw_310 kw_46 kw_objcode (Nat.le_of_ble_eq_true rfl) dX7_init_1) <|
  rx_ac (rx_sd_aload_n dX7_init_4 rfl) <|
  rx_ac (rx_sd_bipush dX7_init_5 (by decide)) <|
  rx_ac (rx_sd_newI (M := m_X7_init) ⟨rfl, rfl, rfl⟩ kw_49 rfl dX7_init_7) <|
  rx_ac (rx_sd_putf (C := RX7) (T := TX7) (N := 6) (ty0 := tyX7) in_X7 tyX7_ok nmX7 rfl (by decide) kw_311 (Or.inr ⟨rfl, rfl, rfl⟩) rfl dX7_init_9) <|
  rx_ac (rx_sd_aload_n dX7_init_12 rfl) <|
  rx_ac (rx_sd_bipush dX7_init_13 (by decide)) <|
  rx_ac (rx_sd_newL (M := m_X7_init) ⟨rfl, rfl, rfl⟩ kw_54 rfl dX7_init_15) <|
  rx_ac (rx_sd_putf (C := RX7) (T := TX7) (N := 6) (ty0 := tyX7) in_X7 tyX7_ok nmX7 rfl (by decide) kw_312 (Or.inr ⟨rfl, rfl, rfl⟩) rfl dX7_init_17) <|
  rx_ac (rx_sd_aload_n dX7_init_20 rfl) <|
  rx_ac (rx_sd_bipush dX7_init_21 (by decide)) <|
  rx_ac (rx_sd_newq (M := m_X7_init) (t := 2) (C := "SeedBench$Share") rfl (List.mem_of_getElem? (i := 2) rfl) kw_313 dX7_init_23) <|
  rx_ac (rx_sd_putf (C := RX7) (T := TX7) (N := 6) (ty0 := tyX7) in_X7 tyX7_ok nmX7 rfl (by decide) kw_314 (Or.inr ⟨rfl, rfl, rfl⟩) rfl dX7_init_26) <|
  rx_ac (rx_sd_aload_n dX7_init_29 rfl) <|
  rx_ac (rx_sd_bipush dX7_init_30 (by decide)) <|
  rx_ac (rx_sd_newI (M := m_X7_init) ⟨rfl, rfl, rfl⟩ kw_49 rfl dX7_init_32) <|
  rx_ac (rx_sd_putf (C := RX7) (T := TX7) (N := 6) (ty0 := tyX7) in_X7 tyX7_ok nmX7 rfl (by decide) kw_315 (Or.inr ⟨rfl, rfl, rfl⟩) rfl dX7_init_34) <|
  rx_ac (rx_sd_iconst dX7_init_37 (by decide)) <|
  rx_ac (rx_sd_istore_n (M := m_X7_init) dX7_init_38 rfl) <|
  rx_ac (rx_sd_iload_n dX7_init_39 rfl) <|
  rx_ac (rx_sd_bipush dX7_init_40 (by decide)) <|
  rx_ac (rx_sd_icmp_ge (Yo_ok _) dX7_init_42 (by decide)) <|
  rx_ac (rx_sd_aload_n dX7_init_45 rfl) <|
  rx_ac (rx_sd_get (C := RX7) (T := TX7) (N := 6) in_X7 rfl (by decide) kw_314 dX7_init_46) <|
  rx_ac (rx_sd_iload_n dX7_init_49 rfl) <|
  rx_ac (rx_sd_new (M := m_X7_init) (C := RX8) (T := TX8) (N := 4) (ty := tyX8) in_X8 tyX8_ok rfl kw_313 kw_70 kw_71 df_X8 rfl (cs_X8 σ) dX7_init_50) <|
  rx_ac (rx_sd_dup dX7_init_53) <|
  rx_ac (rx_sd_cl (M := m_X7_init) (rx_lk_IN gok (host := "SeedBench") (mid := 79) (ci := 8) (C := (RX8, TX8, 4)) ⟨kw_72, kw_71, hd_X8_init, Nat.le_of_ble_eq_true rfl, Nat.le_of_ble_eq_true rfl⟩ rfl rfl (List.mem_of_getElem? (i := 0) rfl) kw_73 rfl dX7_init_54) (fun _ => ⟨_, rfl⟩) rfl rfl) <|
  rx_ac (rx_sd_aast (t := 2) (ci := 8) (C := (RX8, TX8, 4)) rfl rfl dX7_init_57) <|
  rx_ac (rx_sd_iinc (M := m_X7_init) dX7_init_58 (by decide)) <|
  rx_ac (rx_sd_goto dX7_init_61 (by decide)) <|
  rx_ac (rx_sd_ret0 (M := m_X7_init) rfl dX7_init_64) <|
  rx_an
set_option maxRecDepth 100000 in
set_option maxHeartbeats 4000000 in
theorem s_X7_isSameAs {l : Launch} {D : va_G} {cy : Nat → ClassId} {σ : Nat → Int32} : ∀ q ∈ p_X7_isSameAs, rx_Sd (gG l D cy σ) mt m_X7_isSameAs q.1 q.2 :=
  ck_all (H := h_X7_isSameAs) (P := o_X7_isSameAs) rfl rfl rfl rfl rfl rfl (by decide +kernel) <|
  o_ac (rx_sd_cl (M := m_X7_isSameAs) (rx_lk_V gok (mid := 71) (ci := 7) (C := (RX7, TX7, 6)) ⟨kw_316, kw_59, hd_X7_placeOf, Nat.le_of_ble_eq_true rfl, Nat.le_of_ble_eq_true rfl⟩ rfl kw_317 kw_318 kw_319 (by decide +kernel)) (fun _ => ⟨_, rfl⟩) rfl rfl) <|
  o_ac (rx_sd_cl (M := m_X7_isSameAs) (rx_lk_V gok (mid := 68) (ci := 7) (C := (RX7, TX7, 6)) ⟨kw_94, kw_59, hd_X7_hasTable, Nat.le_of_ble_eq_true rfl, Nat.le_of_ble_eq_true rfl⟩ rfl kw_320 kw_96 kw_97 (by decide +kernel)) (fun _ => ⟨_, rfl⟩) rfl rfl) <|
  o_an
set_option maxRecDepth 100000 in
set_option maxHeartbeats 4000000 in
theorem s_X7_placeOf {l : Launch} {D : va_G} {cy : Nat → ClassId} {σ : Nat → Int32} : ∀ q ∈ p_X7_placeOf, rx_Sd (gG l D cy σ) mt m_X7_placeOf q.1 q.2 :=
  ck_all (H := h_X7_placeOf) (P := o_X7_placeOf) rfl rfl rfl rfl rfl rfl (by decide +kernel) <|
  o_ac (rx_sd_cl (M := m_X7_placeOf) (rx_lk_V gok (mid := 80) (ci := 8) (C := (RX8, TX8, 4)) ⟨kw_74, kw_71, hd_X8_isLike, Nat.le_of_ble_eq_true rfl, Nat.le_of_ble_eq_true rfl⟩ rfl kw_321 kw_76 kw_77 (by decide +kernel)) (fun _ => ⟨_, rfl⟩) rfl rfl) <|
  o_an
set_option maxRecDepth 100000 in
set_option maxHeartbeats 4000000 in
theorem s_X7_start {l : Launch} {D : va_G} {cy : Nat → ClassId} {σ : Nat → Int32} : ∀ q ∈ p_X7_start, rx_Sd (gG l D cy σ) mt m_X7_start q.1 q.2 :=
  ck_all (H := h_X7_start) (P := o_X7_start) rfl rfl rfl rfl rfl rfl (by decide +kernel) <|
  o_ac (rx_sd_cpI (M := m_X7_start) ⟨rfl, rfl, rfl⟩ kw_308 kw_14 kw_15 kw_16 (Nat.le_of_ble_eq_true rfl) (by decide +kernel)) <|
  o_ac (rx_sd_cpL (M := m_X7_start) ⟨rfl, rfl, rfl⟩ kw_308 kw_14 kw_15 kw_16 (Nat.le_of_ble_eq_true rfl) (by decide +kernel)) <|
  o_ac (rx_sd_cl (M := m_X7_start) (rx_lk_V gok (mid := 74) (ci := 8) (C := (RX8, TX8, 4)) ⟨kw_322, kw_71, hd_X8_becomeVariable, Nat.le_of_ble_eq_true rfl, Nat.le_of_ble_eq_true rfl⟩ rfl kw_323 kw_324 kw_325 (by decide +kernel)) (fun _ => ⟨_, rfl⟩) rfl rfl) <|
  o_an
set_option maxRecDepth 100000 in
set_option maxHeartbeats 4000000 in
theorem s_X8_add {l : Launch} {D : va_G} {cy : Nat → ClassId} {σ : Nat → Int32} : ∀ q ∈ p_X8_add, rx_Sd (gG l D cy σ) mt m_X8_add q.1 q.2 :=
  ck_all (H := h_X8_add) (P := o_X8_add) rfl rfl rfl rfl rfl rfl (by decide +kernel) <|
  o_ac (rx_sd_cl (M := m_X8_add) (rx_lk_V gok (mid := 77) (ci := 8) (C := (RX8, TX8, 4)) ⟨kw_260, kw_71, hd_X8_find, Nat.le_of_ble_eq_true rfl, Nat.le_of_ble_eq_true rfl⟩ rfl kw_326 kw_262 kw_263 (by decide +kernel)) (fun _ => ⟨_, rfl⟩) rfl rfl) <|
  o_ac (rx_sd_cpL (M := m_X8_add) ⟨rfl, rfl, rfl⟩ kw_327 kw_14 kw_15 kw_16 (Nat.le_of_ble_eq_true rfl) (by decide +kernel)) <|
  o_ac (rx_sd_cpI (M := m_X8_add) ⟨rfl, rfl, rfl⟩ kw_327 kw_14 kw_15 kw_16 (Nat.le_of_ble_eq_true rfl) (by decide +kernel)) <|
  o_ac (rx_sd_cpI (M := m_X8_add) ⟨rfl, rfl, rfl⟩ kw_327 kw_14 kw_15 kw_16 (Nat.le_of_ble_eq_true rfl) (by decide +kernel)) <|
  o_an
end

section
set_option maxRecDepth 100000 in
set_option maxHeartbeats 4000000 in
theorem s_X8_becomeVariable {l : Launch} {D : va_G} {cy : Nat → ClassId} {σ : Nat → Int32} : ∀ q ∈ p_X8_becomeVariable, rx_Sd (gG l D cy σ) mt m_X8_becomeVariable q.1 q.2 :=
  ck_all (H := h_X8_becomeVariable) (P := o_X8_becomeVariable) rfl rfl rfl rfl rfl rfl (by decide +kernel) <|
  o_ac (rx_sd_cl (M := m_X8_becomeVariable) (rx_lk_V gok (mid := 75) (ci := 8) (C := (RX8, TX8, 4)) ⟨kw_221, kw_71, hd_X8_clear, Nat.le_of_ble_eq_true rfl, Nat.le_of_ble_eq_true rfl⟩ rfl kw_328 kw_223 kw_224 (by decide +kernel)) (fun _ => ⟨_, rfl⟩) rfl rfl) <|
  o_an
set_option maxRecDepth 100000 in
set_option maxHeartbeats 4000000 in
theorem s_X8_clear {l : Launch} {D : va_G} {cy : Nat → ClassId} {σ : Nat → Int32} : ∀ q ∈ p_X8_clear, rx_Sd (gG l D cy σ) mt m_X8_clear q.1 q.2 :=
  ck_all (H := h_X8_clear) (P := o_X8_clear) rfl rfl rfl rfl rfl rfl (by decide +kernel) <|
  o_an
set_option maxRecDepth 100000 in
set_option maxHeartbeats 4000000 in
theorem s_X8_copyFrom {l : Launch} {D : va_G} {cy : Nat → ClassId} {σ : Nat → Int32} : ∀ q ∈ p_X8_copyFrom, rx_Sd (gG l D cy σ) mt m_X8_copyFrom q.1 q.2 :=
  ck_all (H := h_X8_copyFrom) (P := o_X8_copyFrom) rfl rfl rfl rfl rfl rfl (by decide +kernel) <|
  o_ac (rx_sd_cl (M := m_X8_copyFrom) (rx_lk_V gok (mid := 75) (ci := 8) (C := (RX8, TX8, 4)) ⟨kw_221, kw_71, hd_X8_clear, Nat.le_of_ble_eq_true rfl, Nat.le_of_ble_eq_true rfl⟩ rfl kw_328 kw_223 kw_224 (by decide +kernel)) (fun _ => ⟨_, rfl⟩) rfl rfl) <|
  o_ac (rx_sd_cpL (M := m_X8_copyFrom) ⟨rfl, rfl, rfl⟩ kw_327 kw_14 kw_15 kw_16 (Nat.le_of_ble_eq_true rfl) (by decide +kernel)) <|
  o_ac (rx_sd_cpI (M := m_X8_copyFrom) ⟨rfl, rfl, rfl⟩ kw_327 kw_14 kw_15 kw_16 (Nat.le_of_ble_eq_true rfl) (by decide +kernel)) <|
  o_an
set_option maxRecDepth 100000 in
set_option maxHeartbeats 4000000 in
theorem s_X8_find {l : Launch} {D : va_G} {cy : Nat → ClassId} {σ : Nat → Int32} : ∀ q ∈ p_X8_find, rx_Sd (gG l D cy σ) mt m_X8_find q.1 q.2 :=
  ck_all (H := h_X8_find) (P := o_X8_find) rfl rfl rfl rfl rfl rfl (by decide +kernel) <|
  o_an
set_option maxRecDepth 100000 in
set_option maxHeartbeats 4000000 in
theorem s_X8_hasVariable {l : Launch} {D : va_G} {cy : Nat → ClassId} {σ : Nat → Int32} : ∀ q ∈ p_X8_hasVariable, rx_Sd (gG l D cy σ) mt m_X8_hasVariable q.1 q.2 :=
  ck_all (H := h_X8_hasVariable) (P := o_X8_hasVariable) rfl rfl rfl rfl rfl rfl (by decide +kernel) <|
  o_an
set_option maxRecDepth 100000 in
set_option maxHeartbeats 4000000 in
theorem s_X8_init {l : Launch} {D : va_G} {cy : Nat → ClassId} {σ : Nat → Int32} : ∀ q ∈ p_X8_init, rx_Sd (gG l D cy σ) mt m_X8_init q.1 q.2 :=
  rx_ac (rx_sd_aload_n dX8_init_0 rfl) <|
  rx_ac (rx_sd_obj (M := m_X8_init) kw_329 kw_46 kw_objcode (Nat.le_of_ble_eq_true rfl) dX8_init_1) <|
  rx_ac (rx_sd_aload_n dX8_init_4 rfl) <|
  rx_ac (rx_sd_sipush dX8_init_5 (by decide)) <|
  rx_ac (rx_sd_newL (M := m_X8_init) ⟨rfl, rfl, rfl⟩ kw_54 rfl dX8_init_8) <|
  rx_ac (rx_sd_putf (C := RX8) (T := TX8) (N := 4) (ty0 := tyX8) in_X8 tyX8_ok nmX8 rfl (by decide) kw_330 (Or.inr ⟨rfl, rfl, rfl⟩) rfl dX8_init_10) <|
  rx_ac (rx_sd_aload_n dX8_init_13 rfl) <|
  rx_ac (rx_sd_sipush dX8_init_14 (by decide)) <|
  rx_ac (rx_sd_newI (M := m_X8_init) ⟨rfl, rfl, rfl⟩ kw_49 rfl dX8_init_17) <|
  rx_ac (rx_sd_putf (C := RX8) (T := TX8) (N := 4) (ty0 := tyX8) in_X8 tyX8_ok nmX8 rfl (by decide) kw_331 (Or.inr ⟨rfl, rfl, rfl⟩) rfl dX8_init_19) <|
  rx_ac (rx_sd_ret0 (M := m_X8_init) rfl dX8_init_22) <|
  rx_an
set_option maxRecDepth 100000 in
set_option maxHeartbeats 4000000 in
theorem s_X8_isLike {l : Launch} {D : va_G} {cy : Nat → ClassId} {σ : Nat → Int32} : ∀ q ∈ p_X8_isLike, rx_Sd (gG l D cy σ) mt m_X8_isLike q.1 q.2 :=
  ck_all (H := h_X8_isLike) (P := o_X8_isLike) rfl rfl rfl rfl rfl rfl (by decide +kernel) <|
  o_an
set_option maxRecDepth 100000 in
set_option maxHeartbeats 4000000 in
theorem s_X8_leastPower {l : Launch} {D : va_G} {cy : Nat → ClassId} {σ : Nat → Int32} : ∀ q ∈ p_X8_leastPower, rx_Sd (gG l D cy σ) mt m_X8_leastPower q.1 q.2 :=
  ck_all (H := h_X8_leastPower) (P := o_X8_leastPower) rfl rfl rfl rfl rfl rfl (by decide +kernel) <|
  o_ac (rx_sd_mmin (M := m_X8_leastPower) kw_332 kw_174 kw_136 kw_175 (Nat.le_of_ble_eq_true rfl) (by decide +kernel)) <|
  o_an
set_option maxRecDepth 100000 in
set_option maxHeartbeats 4000000 in
theorem s_X8_sum {l : Launch} {D : va_G} {cy : Nat → ClassId} {σ : Nat → Int32} : ∀ q ∈ p_X8_sum, rx_Sd (gG l D cy σ) mt m_X8_sum q.1 q.2 :=
  ck_all (H := h_X8_sum) (P := o_X8_sum) rfl rfl rfl rfl rfl rfl (by decide +kernel) <|
  o_an
set_option maxRecDepth 100000 in
set_option maxHeartbeats 4000000 in
theorem s_X9_all {l : Launch} {D : va_G} {cy : Nat → ClassId} {σ : Nat → Int32} : ∀ q ∈ p_X9_all, rx_Sd (gG l D cy σ) mt m_X9_all q.1 q.2 :=
  ck_all (H := h_X9_all) (P := o_X9_all) rfl rfl rfl rfl rfl rfl (by decide +kernel) <|
  o_ac (rx_sd_cl (M := m_X9_all) (rx_lk_V gok (mid := 7) (ci := 0) (C := (RX0, TX0, 18)) ⟨kw_333, kw_1, hd_X0_explore, Nat.le_of_ble_eq_true rfl, Nat.le_of_ble_eq_true rfl⟩ rfl kw_334 kw_335 kw_336 (by decide +kernel)) (fun _ => ⟨_, rfl⟩) rfl rfl) <|
  o_ac (rx_sd_mmax (M := m_X9_all) kw_337 kw_294 kw_136 kw_295 (Nat.le_of_ble_eq_true rfl) (by decide +kernel)) <|
  o_an
set_option maxRecDepth 100000 in
set_option maxHeartbeats 4000000 in
theorem s_X9_arrows {l : Launch} {D : va_G} {cy : Nat → ClassId} {σ : Nat → Int32} : ∀ q ∈ p_X9_arrows, rx_Sd (gG l D cy σ) mt m_X9_arrows q.1 q.2 :=
  ck_all (H := h_X9_arrows) (P := o_X9_arrows) rfl rfl rfl rfl rfl rfl (by decide +kernel) <|
  o_ac (rx_sd_cl (M := m_X9_arrows) (rx_lk_S gok (mid := 95) ⟨kw_338, kw_35, hd_X9_isCell, Nat.le_of_ble_eq_true rfl, Nat.le_of_ble_eq_true rfl⟩ kw_339 kw_340 (by decide +kernel)) (fun h => nomatch h) rfl rfl) <|
  o_an
set_option maxRecDepth 100000 in
set_option maxHeartbeats 4000000 in
theorem s_X9_b {l : Launch} {D : va_G} {cy : Nat → ClassId} {σ : Nat → Int32} : ∀ q ∈ p_X9_b, rx_Sd (gG l D cy σ) mt m_X9_b q.1 q.2 :=
  ck_all (H := h_X9_b) (P := o_X9_b) rfl rfl rfl rfl rfl rfl (by decide +kernel) <|
  o_ac (rx_sd_cl (M := m_X9_b) (rx_lk_S gok (mid := 95) ⟨kw_338, kw_35, hd_X9_isCell, Nat.le_of_ble_eq_true rfl, Nat.le_of_ble_eq_true rfl⟩ kw_339 kw_340 (by decide +kernel)) (fun h => nomatch h) rfl rfl) <|
  o_an
set_option maxRecDepth 100000 in
set_option maxHeartbeats 4000000 in
theorem s_X9_back {l : Launch} {D : va_G} {cy : Nat → ClassId} {σ : Nat → Int32} : ∀ q ∈ p_X9_back, rx_Sd (gG l D cy σ) mt m_X9_back q.1 q.2 :=
  ck_all (H := h_X9_back) (P := o_X9_back) rfl rfl rfl rfl rfl rfl (by decide +kernel) <|
  o_ac (rx_sd_cl (M := m_X9_back) (rx_lk_V gok (mid := 96) (ci := 9) (C := (RX9, TX9, 15)) ⟨kw_341, kw_35, hd_X9_isPlace, Nat.le_of_ble_eq_true rfl, Nat.le_of_ble_eq_true rfl⟩ rfl kw_342 kw_343 kw_344 (by decide +kernel)) (fun _ => ⟨_, rfl⟩) rfl rfl) <|
  o_ac (rx_sd_cl (M := m_X9_back) (rx_lk_V gok (mid := 42) (ci := 5) (C := (RX5, TX5, 7)) ⟨kw_29, kw_30, hd_X5_exchange, Nat.le_of_ble_eq_true rfl, Nat.le_of_ble_eq_true rfl⟩ rfl kw_345 kw_32 kw_33 (by decide +kernel)) (fun _ => ⟨_, rfl⟩) rfl rfl) <|
  o_ac (rx_sd_cl (M := m_X9_back) (rx_lk_V gok (mid := 47) (ci := 5) (C := (RX5, TX5, 7)) ⟨kw_346, kw_30, hd_X5_settle, Nat.le_of_ble_eq_true rfl, Nat.le_of_ble_eq_true rfl⟩ rfl kw_347 kw_348 kw_349 (by decide +kernel)) (fun _ => ⟨_, rfl⟩) rfl rfl) <|
  o_an
set_option maxRecDepth 100000 in
set_option maxHeartbeats 4000000 in
theorem s_X9_begin {l : Launch} {D : va_G} {cy : Nat → ClassId} {σ : Nat → Int32} : ∀ q ∈ p_X9_begin, rx_Sd (gG l D cy σ) mt m_X9_begin q.1 q.2 :=
  ck_all (H := h_X9_begin) (P := o_X9_begin) rfl rfl rfl rfl rfl rfl (by decide +kernel) <|
  o_ac (rx_sd_cl (M := m_X9_begin) (rx_lk_V gok (mid := 21) (ci := 2) (C := (RX2, TX2, 5)) ⟨kw_350, kw_118, hd_X2_fault, Nat.le_of_ble_eq_true rfl, Nat.le_of_ble_eq_true rfl⟩ rfl kw_351 kw_352 kw_353 (by decide +kernel)) (fun _ => ⟨_, rfl⟩) rfl rfl) <|
  o_ac (rx_sd_cl (M := m_X9_begin) (rx_lk_V gok (mid := 109) (ci := 9) (C := (RX9, TX9, 15)) ⟨kw_354, kw_35, hd_X9_startSeed, Nat.le_of_ble_eq_true rfl, Nat.le_of_ble_eq_true rfl⟩ rfl kw_355 kw_356 kw_357 (by decide +kernel)) (fun _ => ⟨_, rfl⟩) rfl rfl) <|
  o_an
set_option maxRecDepth 100000 in
set_option maxHeartbeats 4000000 in
theorem s_X9_count {l : Launch} {D : va_G} {cy : Nat → ClassId} {σ : Nat → Int32} : ∀ q ∈ p_X9_count, rx_Sd (gG l D cy σ) mt m_X9_count q.1 q.2 :=
  ck_all (H := h_X9_count) (P := o_X9_count) rfl rfl rfl rfl rfl rfl (by decide +kernel) <|
  o_ac (rx_sd_cl (M := m_X9_count) (rx_lk_V gok (mid := 66) (ci := 7) (C := (RX7, TX7, 6)) ⟨kw_358, kw_59, hd_X7_allTerms, Nat.le_of_ble_eq_true rfl, Nat.le_of_ble_eq_true rfl⟩ rfl kw_359 kw_360 kw_361 (by decide +kernel)) (fun _ => ⟨_, rfl⟩) rfl rfl) <|
  o_an
set_option maxRecDepth 100000 in
set_option maxHeartbeats 4000000 in
theorem s_X9_fence {l : Launch} {D : va_G} {cy : Nat → ClassId} {σ : Nat → Int32} : ∀ q ∈ p_X9_fence, rx_Sd (gG l D cy σ) mt m_X9_fence q.1 q.2 :=
  ck_all (H := h_X9_fence) (P := o_X9_fence) rfl rfl rfl rfl rfl rfl (by decide +kernel) <|
  o_ac (rx_sd_cl (M := m_X9_fence) (rx_lk_S gok (mid := 97) ⟨kw_362, kw_35, hd_X9_isSlot, Nat.le_of_ble_eq_true rfl, Nat.le_of_ble_eq_true rfl⟩ kw_363 kw_364 (by decide +kernel)) (fun h => nomatch h) rfl rfl) <|
  o_ac (rx_sd_cl (M := m_X9_fence) (rx_lk_V gok (mid := 57) (ci := 6) (C := (RX6, TX6, 2)) ⟨kw_365, kw_146, hd_X6_isCorner, Nat.le_of_ble_eq_true rfl, Nat.le_of_ble_eq_true rfl⟩ rfl kw_366 kw_367 kw_368 (by decide +kernel)) (fun _ => ⟨_, rfl⟩) rfl rfl) <|
  o_ac (rx_sd_cl (M := m_X9_fence) (rx_lk_V gok (mid := 57) (ci := 6) (C := (RX6, TX6, 2)) ⟨kw_365, kw_146, hd_X6_isCorner, Nat.le_of_ble_eq_true rfl, Nat.le_of_ble_eq_true rfl⟩ rfl kw_366 kw_367 kw_368 (by decide +kernel)) (fun _ => ⟨_, rfl⟩) rfl rfl) <|
  o_ac (rx_sd_cl (M := m_X9_fence) (rx_lk_V gok (mid := 50) (ci := 6) (C := (RX6, TX6, 2)) ⟨kw_264, kw_146, hd_X6_areNeighbours, Nat.le_of_ble_eq_true rfl, Nat.le_of_ble_eq_true rfl⟩ rfl kw_369 kw_266 kw_267 (by decide +kernel)) (fun _ => ⟨_, rfl⟩) rfl rfl) <|
  o_ac (rx_sd_cl (M := m_X9_fence) (rx_lk_V gok (mid := 55) (ci := 6) (C := (RX6, TX6, 2)) ⟨kw_268, kw_146, hd_X6_has, Nat.le_of_ble_eq_true rfl, Nat.le_of_ble_eq_true rfl⟩ rfl kw_370 kw_270 kw_271 (by decide +kernel)) (fun _ => ⟨_, rfl⟩) rfl rfl) <|
  o_ac (rx_sd_mmin (M := m_X9_fence) kw_371 kw_174 kw_136 kw_175 (Nat.le_of_ble_eq_true rfl) (by decide +kernel)) <|
  o_ac (rx_sd_mmax (M := m_X9_fence) kw_337 kw_294 kw_136 kw_295 (Nat.le_of_ble_eq_true rfl) (by decide +kernel)) <|
  o_ac (rx_sd_cl (M := m_X9_fence) (rx_lk_V gok (mid := 58) (ci := 6) (C := (RX6, TX6, 2)) ⟨kw_372, kw_146, hd_X6_isCrossed, Nat.le_of_ble_eq_true rfl, Nat.le_of_ble_eq_true rfl⟩ rfl kw_373 kw_374 kw_375 (by decide +kernel)) (fun _ => ⟨_, rfl⟩) rfl rfl) <|
  o_ac (rx_sd_cl (M := m_X9_fence) (rx_lk_S gok (mid := 51) ⟨kw_150, kw_146, hd_X6_bit, Nat.le_of_ble_eq_true rfl, Nat.le_of_ble_eq_true rfl⟩ kw_376 kw_152 (by decide +kernel)) (fun h => nomatch h) rfl rfl) <|
  o_ac (rx_sd_cl (M := m_X9_fence) (rx_lk_V gok (mid := 53) (ci := 6) (C := (RX6, TX6, 2)) ⟨kw_284, kw_146, hd_X6_fenceCount, Nat.le_of_ble_eq_true rfl, Nat.le_of_ble_eq_true rfl⟩ rfl kw_377 kw_286 kw_287 (by decide +kernel)) (fun _ => ⟨_, rfl⟩) rfl rfl) <|
  o_an
set_option maxRecDepth 100000 in
set_option maxHeartbeats 4000000 in
theorem s_X9_finite {l : Launch} {D : va_G} {cy : Nat → ClassId} {σ : Nat → Int32} : ∀ q ∈ p_X9_finite, rx_Sd (gG l D cy σ) mt m_X9_finite q.1 q.2 :=
  ck_all (H := h_X9_finite) (P := o_X9_finite) rfl rfl rfl rfl rfl rfl (by decide +kernel) <|
  o_ac (rx_sd_cl (M := m_X9_finite) (rx_lk_V gok (mid := 35) (ci := 4) (C := (RX4, TX4, 6)) ⟨kw_378, kw_193, hd_X4_judge, Nat.le_of_ble_eq_true rfl, Nat.le_of_ble_eq_true rfl⟩ rfl kw_379 kw_380 kw_381 (by decide +kernel)) (fun _ => ⟨_, rfl⟩) rfl rfl) <|
  o_an
set_option maxRecDepth 100000 in
set_option maxHeartbeats 4000000 in
theorem s_X9_flip {l : Launch} {D : va_G} {cy : Nat → ClassId} {σ : Nat → Int32} : ∀ q ∈ p_X9_flip, rx_Sd (gG l D cy σ) mt m_X9_flip q.1 q.2 :=
  ck_all (H := h_X9_flip) (P := o_X9_flip) rfl rfl rfl rfl rfl rfl (by decide +kernel) <|
  o_ac (rx_sd_cl (M := m_X9_flip) (rx_lk_S gok (mid := 97) ⟨kw_362, kw_35, hd_X9_isSlot, Nat.le_of_ble_eq_true rfl, Nat.le_of_ble_eq_true rfl⟩ kw_363 kw_364 (by decide +kernel)) (fun h => nomatch h) rfl rfl) <|
  o_ac (rx_sd_cl (M := m_X9_flip) (rx_lk_V gok (mid := 59) (ci := 6) (C := (RX6, TX6, 2)) ⟨kw_296, kw_146, hd_X6_isCut, Nat.le_of_ble_eq_true rfl, Nat.le_of_ble_eq_true rfl⟩ rfl kw_382 kw_298 kw_299 (by decide +kernel)) (fun _ => ⟨_, rfl⟩) rfl rfl) <|
  o_ac (rx_sd_cl (M := m_X9_flip) (rx_lk_V gok (mid := 57) (ci := 6) (C := (RX6, TX6, 2)) ⟨kw_365, kw_146, hd_X6_isCorner, Nat.le_of_ble_eq_true rfl, Nat.le_of_ble_eq_true rfl⟩ rfl kw_366 kw_367 kw_368 (by decide +kernel)) (fun _ => ⟨_, rfl⟩) rfl rfl) <|
  o_ac (rx_sd_cl (M := m_X9_flip) (rx_lk_V gok (mid := 57) (ci := 6) (C := (RX6, TX6, 2)) ⟨kw_365, kw_146, hd_X6_isCorner, Nat.le_of_ble_eq_true rfl, Nat.le_of_ble_eq_true rfl⟩ rfl kw_366 kw_367 kw_368 (by decide +kernel)) (fun _ => ⟨_, rfl⟩) rfl rfl) <|
  o_ac (rx_sd_cl (M := m_X9_flip) (rx_lk_V gok (mid := 55) (ci := 6) (C := (RX6, TX6, 2)) ⟨kw_268, kw_146, hd_X6_has, Nat.le_of_ble_eq_true rfl, Nat.le_of_ble_eq_true rfl⟩ rfl kw_370 kw_270 kw_271 (by decide +kernel)) (fun _ => ⟨_, rfl⟩) rfl rfl) <|
  o_ac (rx_sd_mmin (M := m_X9_flip) kw_371 kw_174 kw_136 kw_175 (Nat.le_of_ble_eq_true rfl) (by decide +kernel)) <|
  o_ac (rx_sd_mmax (M := m_X9_flip) kw_337 kw_294 kw_136 kw_295 (Nat.le_of_ble_eq_true rfl) (by decide +kernel)) <|
  o_ac (rx_sd_cl (M := m_X9_flip) (rx_lk_V gok (mid := 60) (ci := 6) (C := (RX6, TX6, 2)) ⟨kw_145, kw_146, hd_X6_otherFence, Nat.le_of_ble_eq_true rfl, Nat.le_of_ble_eq_true rfl⟩ rfl kw_383 kw_148 kw_149 (by decide +kernel)) (fun _ => ⟨_, rfl⟩) rfl rfl) <|
  o_ac (rx_sd_cl (M := m_X9_flip) (rx_lk_S gok (mid := 51) ⟨kw_150, kw_146, hd_X6_bit, Nat.le_of_ble_eq_true rfl, Nat.le_of_ble_eq_true rfl⟩ kw_376 kw_152 (by decide +kernel)) (fun h => nomatch h) rfl rfl) <|
  o_ac (rx_sd_cl (M := m_X9_flip) (rx_lk_S gok (mid := 51) ⟨kw_150, kw_146, hd_X6_bit, Nat.le_of_ble_eq_true rfl, Nat.le_of_ble_eq_true rfl⟩ kw_376 kw_152 (by decide +kernel)) (fun h => nomatch h) rfl rfl) <|
  o_an
set_option maxRecDepth 100000 in
set_option maxHeartbeats 4000000 in
theorem s_X9_frieze {l : Launch} {D : va_G} {cy : Nat → ClassId} {σ : Nat → Int32} : ∀ q ∈ p_X9_frieze, rx_Sd (gG l D cy σ) mt m_X9_frieze q.1 q.2 :=
  ck_all (H := h_X9_frieze) (P := o_X9_frieze) rfl rfl rfl rfl rfl rfl (by decide +kernel) <|
  o_ac (rx_sd_cl (M := m_X9_frieze) (rx_lk_S gok (mid := 97) ⟨kw_362, kw_35, hd_X9_isSlot, Nat.le_of_ble_eq_true rfl, Nat.le_of_ble_eq_true rfl⟩ kw_363 kw_364 (by decide +kernel)) (fun h => nomatch h) rfl rfl) <|
  o_ac (rx_sd_cl (M := m_X9_frieze) (rx_lk_V gok (mid := 59) (ci := 6) (C := (RX6, TX6, 2)) ⟨kw_296, kw_146, hd_X6_isCut, Nat.le_of_ble_eq_true rfl, Nat.le_of_ble_eq_true rfl⟩ rfl kw_382 kw_298 kw_299 (by decide +kernel)) (fun _ => ⟨_, rfl⟩) rfl rfl) <|
  o_ac (rx_sd_cl (M := m_X9_frieze) (rx_lk_V gok (mid := 57) (ci := 6) (C := (RX6, TX6, 2)) ⟨kw_365, kw_146, hd_X6_isCorner, Nat.le_of_ble_eq_true rfl, Nat.le_of_ble_eq_true rfl⟩ rfl kw_366 kw_367 kw_368 (by decide +kernel)) (fun _ => ⟨_, rfl⟩) rfl rfl) <|
  o_ac (rx_sd_cl (M := m_X9_frieze) (rx_lk_V gok (mid := 54) (ci := 6) (C := (RX6, TX6, 2)) ⟨kw_384, kw_146, hd_X6_friezeNumber, Nat.le_of_ble_eq_true rfl, Nat.le_of_ble_eq_true rfl⟩ rfl kw_385 kw_386 kw_387 (by decide +kernel)) (fun _ => ⟨_, rfl⟩) rfl rfl) <|
  o_an
set_option maxRecDepth 100000 in
set_option maxHeartbeats 4000000 in
theorem s_X9_goes {l : Launch} {D : va_G} {cy : Nat → ClassId} {σ : Nat → Int32} : ∀ q ∈ p_X9_goes, rx_Sd (gG l D cy σ) mt m_X9_goes q.1 q.2 :=
  ck_all (H := h_X9_goes) (P := o_X9_goes) rfl rfl rfl rfl rfl rfl (by decide +kernel) <|
  o_an
set_option maxRecDepth 100000 in
set_option maxHeartbeats 4000000 in
theorem s_X9_init {l : Launch} {D : va_G} {cy : Nat → ClassId} {σ : Nat → Int32} : ∀ q ∈ p_X9_init, rx_Sd (gG l D cy σ) mt m_X9_init q.1 q.2 :=
  rx_ac (rx_sd_aload_n dX9_init_0 rfl) <|
  rx_ac (rx_sd_obj (M := m_X9_init) kw_388 kw_46 kw_objcode (Nat.le_of_ble_eq_true rfl) dX9_init_1) <|
  rx_ac (rx_sd_aload_n dX9_init_4 rfl) <|
  rx_ac (rx_sd_new (M := m_X9_init) (C := RX7) (T := TX7) (N := 6) (ty := tyX7) in_X7 tyX7_ok rfl kw_389 kw_58 kw_59 df_X7 rfl (cs_X7 σ) dX9_init_5) <|
  rx_ac (rx_sd_dup dX9_init_8) <|
  rx_ac (rx_sd_cl (M := m_X9_init) (rx_lk_I gok (mid := 69) (ci := 7) (C := (RX7, TX7, 6)) ⟨kw_60, kw_59, hd_X7_init, Nat.le_of_ble_eq_true rfl, Nat.le_of_ble_eq_true rfl⟩ rfl rfl kw_390 kw_62 rfl dX9_init_9) (fun _ => ⟨_, rfl⟩) rfl rfl) <|
  rx_ac (rx_sd_putf (C := RX9) (T := TX9) (N := 15) (ty0 := tyX9) in_X9 tyX9_ok nmX9 rfl (by decide) kw_391 (Or.inr ⟨rfl, rfl, rfl⟩) rfl dX9_init_12) <|
  rx_ac (rx_sd_aload_n dX9_init_15 rfl) <|
  rx_ac (rx_sd_new (M := m_X9_init) (C := RX2) (T := TX2) (N := 5) (ty := tyX2) in_X2 tyX2_ok rfl kw_392 kw_393 kw_118 df_X2 rfl (cs_X2 σ) dX9_init_16) <|
  rx_ac (rx_sd_dup dX9_init_19) <|
  rx_ac (rx_sd_cl (M := m_X9_init) (rx_lk_IN gok (host := "SeedBench") (mid := 24) (ci := 2) (C := (RX2, TX2, 5)) ⟨kw_394, kw_118, hd_X2_init, Nat.le_of_ble_eq_true rfl, Nat.le_of_ble_eq_true rfl⟩ rfl rfl (List.mem_of_getElem? (i := 1) rfl) kw_395 rfl dX9_init_20) (fun _ => ⟨_, rfl⟩) rfl rfl) <|
  rx_ac (rx_sd_putf (C := RX9) (T := TX9) (N := 15) (ty0 := tyX9) in_X9 tyX9_ok nmX9 rfl (by decide) kw_396 (Or.inr ⟨rfl, rfl, rfl⟩) rfl dX9_init_23) <|
  rx_ac (rx_sd_aload_n dX9_init_26 rfl) <|
  rx_ac (rx_sd_new (M := m_X9_init) (C := RX5) (T := TX5) (N := 7) (ty := tyX5) in_X5 tyX5_ok rfl kw_397 kw_398 kw_30 df_X5 rfl (cs_X5 σ) dX9_init_27) <|
  rx_ac (rx_sd_dup dX9_init_30) <|
  rx_ac (rx_sd_cl (M := m_X9_init) (rx_lk_IN gok (host := "SeedBench") (mid := 43) (ci := 5) (C := (RX5, TX5, 7)) ⟨kw_399, kw_30, hd_X5_init, Nat.le_of_ble_eq_true rfl, Nat.le_of_ble_eq_true rfl⟩ rfl rfl (List.mem_of_getElem? (i := 2) rfl) kw_400 rfl dX9_init_31) (fun _ => ⟨_, rfl⟩) rfl rfl) <|
  rx_ac (rx_sd_putf (C := RX9) (T := TX9) (N := 15) (ty0 := tyX9) in_X9 tyX9_ok nmX9 rfl (by decide) kw_401 (Or.inr ⟨rfl, rfl, rfl⟩) rfl dX9_init_34) <|
  rx_ac (rx_sd_aload_n dX9_init_37 rfl) <|
  rx_ac (rx_sd_bipush dX9_init_38 (by decide)) <|
  rx_ac (rx_sd_newI (M := m_X9_init) ⟨rfl, rfl, rfl⟩ kw_49 rfl dX9_init_40) <|
  rx_ac (rx_sd_putf (C := RX9) (T := TX9) (N := 15) (ty0 := tyX9) in_X9 tyX9_ok nmX9 rfl (by decide) kw_402 (Or.inr ⟨rfl, rfl, rfl⟩) rfl dX9_init_42) <|
  rx_ac (rx_sd_aload_n dX9_init_45 rfl) <|
  rx_ac (rx_sd_iconst dX9_init_46 (by decide)) <|
  rx_ac (rx_sd_newq (M := m_X9_init) (t := 1) (C := "SeedBench$Seed") rfl (List.mem_of_getElem? (i := 1) rfl) kw_389 dX9_init_47) <|
  rx_ac (rx_sd_putf (C := RX9) (T := TX9) (N := 15) (ty0 := tyX9) in_X9 tyX9_ok nmX9 rfl (by decide) kw_403 (Or.inr ⟨rfl, rfl, rfl⟩) rfl dX9_init_50) <|
  rx_ac (rx_sd_aload_n dX9_init_53 rfl) <|
  rx_ac (rx_sd_bipush dX9_init_54 (by decide)) <|
  rx_ac (rx_sd_newI (M := m_X9_init) ⟨rfl, rfl, rfl⟩ kw_49 rfl dX9_init_56) <|
  rx_ac (rx_sd_putf (C := RX9) (T := TX9) (N := 15) (ty0 := tyX9) in_X9 tyX9_ok nmX9 rfl (by decide) kw_404 (Or.inr ⟨rfl, rfl, rfl⟩) rfl dX9_init_58) <|
  rx_ac (rx_sd_aload_n dX9_init_61 rfl) <|
  rx_ac (rx_sd_new (M := m_X9_init) (C := RX7) (T := TX7) (N := 6) (ty := tyX7) in_X7 tyX7_ok rfl kw_389 kw_58 kw_59 df_X7 rfl (cs_X7 σ) dX9_init_62) <|
  rx_ac (rx_sd_dup dX9_init_65) <|
  rx_ac (rx_sd_cl (M := m_X9_init) (rx_lk_I gok (mid := 69) (ci := 7) (C := (RX7, TX7, 6)) ⟨kw_60, kw_59, hd_X7_init, Nat.le_of_ble_eq_true rfl, Nat.le_of_ble_eq_true rfl⟩ rfl rfl kw_390 kw_62 rfl dX9_init_66) (fun _ => ⟨_, rfl⟩) rfl rfl) <|
  rx_ac (rx_sd_putf (C := RX9) (T := TX9) (N := 15) (ty0 := tyX9) in_X9 tyX9_ok nmX9 rfl (by decide) kw_405 (Or.inr ⟨rfl, rfl, rfl⟩) rfl dX9_init_69) <|
  rx_ac (rx_sd_aload_n dX9_init_72 rfl) <|
  rx_ac (rx_sd_new (M := m_X9_init) (C := RX0) (T := TX0) (N := 18) (ty := tyX0) in_X0 tyX0_ok rfl kw_406 kw_407 kw_1 df_X0 rfl (cs_X0 σ) dX9_init_73) <|
  rx_ac (rx_sd_dup dX9_init_76) <|
  rx_ac (rx_sd_cl (M := m_X9_init) (rx_lk_I gok (mid := 9) (ci := 0) (C := (RX0, TX0, 18)) ⟨kw_408, kw_1, hd_X0_init, Nat.le_of_ble_eq_true rfl, Nat.le_of_ble_eq_true rfl⟩ rfl rfl kw_409 kw_410 rfl dX9_init_77) (fun _ => ⟨_, rfl⟩) rfl rfl) <|
  rx_ac (rx_sd_putf (C := RX9) (T := TX9) (N := 15) (ty0 := tyX9) in_X9 tyX9_ok nmX9 rfl (by decide) kw_411 (Or.inr ⟨rfl, rfl, rfl⟩) rfl dX9_init_80) <|
  rx_ac (rx_sd_aload_n dX9_init_83 rfl) <|
  rx_ac (rx_sd_new (M := m_X9_init) (C := RX1) (T := TX1) (N := 6) (ty := tyX1) in_X1 tyX1_ok rfl kw_412 kw_413 kw_103 df_X1 rfl (cs_X1 σ) dX9_init_84) <|
  rx_ac (rx_sd_dup dX9_init_87) <|
  rx_ac (rx_sd_cl (M := m_X9_init) (rx_lk_IN gok (host := "SeedBench") (mid := 19) (ci := 1) (C := (RX1, TX1, 6)) ⟨kw_414, kw_103, hd_X1_init, Nat.le_of_ble_eq_true rfl, Nat.le_of_ble_eq_true rfl⟩ rfl rfl (List.mem_of_getElem? (i := 5) rfl) kw_415 rfl dX9_init_88) (fun _ => ⟨_, rfl⟩) rfl rfl) <|
  rx_ac (rx_sd_putf (C := RX9) (T := TX9) (N := 15) (ty0 := tyX9) in_X9 tyX9_ok nmX9 rfl (by decide) kw_416 (Or.inr ⟨rfl, rfl, rfl⟩) rfl dX9_init_91) <|
  rx_ac (rx_sd_aload_n dX9_init_94 rfl) <|
  rx_ac (rx_sd_new (M := m_X9_init) (C := RX4) (T := TX4) (N := 6) (ty := tyX4) in_X4 tyX4_ok rfl kw_417 kw_418 kw_193 df_X4 rfl (cs_X4 σ) dX9_init_95) <|
  rx_ac (rx_sd_dup dX9_init_98) <|
  rx_ac (rx_sd_cl (M := m_X9_init) (rx_lk_IN gok (host := "SeedBench") (mid := 33) (ci := 4) (C := (RX4, TX4, 6)) ⟨kw_419, kw_193, hd_X4_init, Nat.le_of_ble_eq_true rfl, Nat.le_of_ble_eq_true rfl⟩ rfl rfl (List.mem_of_getElem? (i := 6) rfl) kw_420 rfl dX9_init_99) (fun _ => ⟨_, rfl⟩) rfl rfl) <|
  rx_ac (rx_sd_putf (C := RX9) (T := TX9) (N := 15) (ty0 := tyX9) in_X9 tyX9_ok nmX9 rfl (by decide) kw_421 (Or.inr ⟨rfl, rfl, rfl⟩) rfl dX9_init_102) <|
  rx_ac (rx_sd_aload_n dX9_init_105 rfl) <|
  rx_ac (rx_sd_iconst dX9_init_106 (by decide)) <|
  rx_ac (rx_sd_newq (M := m_X9_init) (t := 0) (C := "SeedBench$Ring") rfl (List.mem_of_getElem? (i := 0) rfl) kw_422 dX9_init_107) <|
  rx_ac (rx_sd_putf (C := RX9) (T := TX9) (N := 15) (ty0 := tyX9) in_X9 tyX9_ok nmX9 rfl (by decide) kw_423 (Or.inr ⟨rfl, rfl, rfl⟩) rfl dX9_init_110) <|
  rx_ac (rx_sd_aload_n dX9_init_113 rfl) <|
  rx_ac (rx_sd_new (M := m_X9_init) (C := RX3) (T := TX3) (N := 3) (ty := tyX3) in_X3 tyX3_ok rfl kw_424 kw_425 kw_158 df_X3 rfl (cs_X3 σ) dX9_init_114) <|
  rx_ac (rx_sd_dup dX9_init_117) <|
  rx_ac (rx_sd_cl (M := m_X9_init) (rx_lk_IN gok (host := "SeedBench") (mid := 30) (ci := 3) (C := (RX3, TX3, 3)) ⟨kw_426, kw_158, hd_X3_init, Nat.le_of_ble_eq_true rfl, Nat.le_of_ble_eq_true rfl⟩ rfl rfl (List.mem_of_getElem? (i := 7) rfl) kw_427 rfl dX9_init_118) (fun _ => ⟨_, rfl⟩) rfl rfl) <|
  rx_ac (rx_sd_putf (C := RX9) (T := TX9) (N := 15) (ty0 := tyX9) in_X9 tyX9_ok nmX9 rfl (by decide) kw_428 (Or.inr ⟨rfl, rfl, rfl⟩) rfl dX9_init_121) <|
  rx_ac (rx_sd_aload_n dX9_init_124 rfl) <|
  rx_ac (rx_sd_get (C := RX9) (T := TX9) (N := 15) in_X9 rfl (by decide) kw_391 dX9_init_125) <|
  rx_ac (rx_sd_iconst dX9_init_128 (by decide)) <|
  rx_ac (rx_sd_iconst dX9_init_129 (by decide)) <|
  rx_ac (rx_sd_aload_n dX9_init_130 rfl) <|
  rx_ac (rx_sd_get (C := RX9) (T := TX9) (N := 15) in_X9 rfl (by decide) kw_396 dX9_init_131) <|
  rx_ac (rx_sd_get (C := RX2) (T := TX2) (N := 5) in_X2 rfl (by decide) kw_429 dX9_init_134) <|
  rx_ac (rx_sd_aload_n dX9_init_137 rfl) <|
  rx_ac (rx_sd_get (C := RX9) (T := TX9) (N := 15) in_X9 rfl (by decide) kw_396 dX9_init_138) <|
  rx_ac (rx_sd_get (C := RX2) (T := TX2) (N := 5) in_X2 rfl (by decide) kw_430 dX9_init_141) <|
  rx_ac (rx_sd_cl (M := m_X9_init) (rx_lk_V gok (mid := 72) (ci := 7) (C := (RX7, TX7, 6)) ⟨kw_431, kw_59, hd_X7_start, Nat.le_of_ble_eq_true rfl, Nat.le_of_ble_eq_true rfl⟩ rfl kw_432 kw_433 kw_434 dX9_init_144) (fun _ => ⟨_, rfl⟩) rfl rfl) <|
  rx_ac (rx_sd_aload_n dX9_init_147 rfl) <|
  rx_ac (rx_sd_get (C := RX9) (T := TX9) (N := 15) in_X9 rfl (by decide) kw_391 dX9_init_148) <|
  rx_ac (rx_sd_get (C := RX7) (T := TX7) (N := 6) in_X7 rfl (by decide) kw_435 dX9_init_151) <|
  rx_ac (rx_sd_iconst dX9_init_154 (by decide)) <|
  rx_ac (rx_sd_lconst dX9_init_155 (by decide)) <|
  rx_ac (rx_sd_last ⟨rfl, rfl, rfl⟩ dX9_init_156) <|
  rx_ac (rx_sd_iconst dX9_init_157 (by decide)) <|
  rx_ac (rx_sd_istore_n (M := m_X9_init) dX9_init_158 rfl) <|
  rx_ac (rx_sd_iload_n dX9_init_159 rfl) <|
  rx_ac (rx_sd_iconst dX9_init_160 (by decide)) <|
  rx_ac (rx_sd_icmp_ge (Yo_ok _) dX9_init_161 (by decide)) <|
  rx_ac (rx_sd_aload_n dX9_init_164 rfl) <|
  rx_ac (rx_sd_get (C := RX9) (T := TX9) (N := 15) in_X9 rfl (by decide) kw_403 dX9_init_165) <|
  rx_ac (rx_sd_iload_n dX9_init_168 rfl) <|
  rx_ac (rx_sd_new (M := m_X9_init) (C := RX7) (T := TX7) (N := 6) (ty := tyX7) in_X7 tyX7_ok rfl kw_389 kw_58 kw_59 df_X7 rfl (cs_X7 σ) dX9_init_169) <|
  rx_ac (rx_sd_dup dX9_init_172) <|
  rx_ac (rx_sd_cl (M := m_X9_init) (rx_lk_I gok (mid := 69) (ci := 7) (C := (RX7, TX7, 6)) ⟨kw_60, kw_59, hd_X7_init, Nat.le_of_ble_eq_true rfl, Nat.le_of_ble_eq_true rfl⟩ rfl rfl kw_390 kw_62 rfl dX9_init_173) (fun _ => ⟨_, rfl⟩) rfl rfl) <|
  rx_ac (rx_sd_aast (t := 1) (ci := 7) (C := (RX7, TX7, 6)) rfl rfl dX9_init_176) <|
  rx_ac (rx_sd_iinc (M := m_X9_init) dX9_init_177 (by decide)) <|
  rx_ac (rx_sd_goto dX9_init_180 (by decide)) <|
  rx_ac (rx_sd_iconst dX9_init_183 (by decide)) <|
  rx_ac (rx_sd_istore_n (M := m_X9_init) dX9_init_184 rfl) <|
  rx_ac (rx_sd_iload_n dX9_init_185 rfl) <|
  rx_ac (rx_sd_iconst dX9_init_186 (by decide)) <|
  rx_ac (rx_sd_icmp_ge (Yo_ok _) dX9_init_187 (by decide)) <|
  rx_ac (rx_sd_aload_n dX9_init_190 rfl) <|
  rx_ac (rx_sd_get (C := RX9) (T := TX9) (N := 15) in_X9 rfl (by decide) kw_423 dX9_init_191) <|
  rx_ac (rx_sd_iload_n dX9_init_194 rfl) <|
  rx_ac (rx_sd_new (M := m_X9_init) (C := RX6) (T := TX6) (N := 2) (ty := tyX6) in_X6 tyX6_ok rfl kw_422 kw_169 kw_146 df_X6 rfl (cs_X6 σ) dX9_init_195) <|
  rx_ac (rx_sd_dup dX9_init_198) <|
  rx_ac (rx_sd_cl (M := m_X9_init) (rx_lk_IN gok (host := "SeedBench") (mid := 56) (ci := 6) (C := (RX6, TX6, 2)) ⟨kw_170, kw_146, hd_X6_init, Nat.le_of_ble_eq_true rfl, Nat.le_of_ble_eq_true rfl⟩ rfl rfl (List.mem_of_getElem? (i := 9) rfl) kw_171 rfl dX9_init_199) (fun _ => ⟨_, rfl⟩) rfl rfl) <|
  rx_ac (rx_sd_aast (t := 0) (ci := 6) (C := (RX6, TX6, 2)) rfl rfl dX9_init_202) <|
  rx_ac (rx_sd_iinc (M := m_X9_init) dX9_init_203 (by decide)) <|
  rx_ac (rx_sd_goto dX9_init_206 (by decide)) <|
  rx_ac (rx_sd_ret0 (M := m_X9_init) rfl dX9_init_209) <|
  rx_an
set_option maxRecDepth 100000 in
set_option maxHeartbeats 4000000 in
theorem s_X9_isCell {l : Launch} {D : va_G} {cy : Nat → ClassId} {σ : Nat → Int32} : ∀ q ∈ p_X9_isCell, rx_Sd (gG l D cy σ) mt m_X9_isCell q.1 q.2 :=
  ck_all (H := h_X9_isCell) (P := o_X9_isCell) rfl rfl rfl rfl rfl rfl (by decide +kernel) <|
  o_an
set_option maxRecDepth 100000 in
set_option maxHeartbeats 4000000 in
theorem s_X9_isPlace {l : Launch} {D : va_G} {cy : Nat → ClassId} {σ : Nat → Int32} : ∀ q ∈ p_X9_isPlace, rx_Sd (gG l D cy σ) mt m_X9_isPlace q.1 q.2 :=
  ck_all (H := h_X9_isPlace) (P := o_X9_isPlace) rfl rfl rfl rfl rfl rfl (by decide +kernel) <|
  o_an
set_option maxRecDepth 100000 in
set_option maxHeartbeats 4000000 in
theorem s_X9_isSlot {l : Launch} {D : va_G} {cy : Nat → ClassId} {σ : Nat → Int32} : ∀ q ∈ p_X9_isSlot, rx_Sd (gG l D cy σ) mt m_X9_isSlot q.1 q.2 :=
  ck_all (H := h_X9_isSlot) (P := o_X9_isSlot) rfl rfl rfl rfl rfl rfl (by decide +kernel) <|
  o_an
set_option maxRecDepth 100000 in
set_option maxHeartbeats 4000000 in
theorem s_X9_isTableTurnable {l : Launch} {D : va_G} {cy : Nat → ClassId} {σ : Nat → Int32} : ∀ q ∈ p_X9_isTableTurnable, rx_Sd (gG l D cy σ) mt m_X9_isTableTurnable q.1 q.2 :=
  ck_all (H := h_X9_isTableTurnable) (P := o_X9_isTableTurnable) rfl rfl rfl rfl rfl rfl (by decide +kernel) <|
  o_ac (rx_sd_cl (M := m_X9_isTableTurnable) (rx_lk_S gok (mid := 117) ⟨kw_436, kw_35, hd_X9_turnedEntry, Nat.le_of_ble_eq_true rfl, Nat.le_of_ble_eq_true rfl⟩ kw_437 kw_438 (by decide +kernel)) (fun h => nomatch h) rfl rfl) <|
  o_ac (rx_sd_mabs (M := m_X9_isTableTurnable) kw_439 kw_135 kw_136 kw_137 (Nat.le_of_ble_eq_true rfl) (by decide +kernel)) <|
  o_an
set_option maxRecDepth 100000 in
set_option maxHeartbeats 4000000 in
theorem s_X9_keep {l : Launch} {D : va_G} {cy : Nat → ClassId} {σ : Nat → Int32} : ∀ q ∈ p_X9_keep, rx_Sd (gG l D cy σ) mt m_X9_keep q.1 q.2 :=
  ck_all (H := h_X9_keep) (P := o_X9_keep) rfl rfl rfl rfl rfl rfl (by decide +kernel) <|
  o_ac (rx_sd_cl (M := m_X9_keep) (rx_lk_V gok (mid := 67) (ci := 7) (C := (RX7, TX7, 6)) ⟨kw_440, kw_59, hd_X7_copyFrom, Nat.le_of_ble_eq_true rfl, Nat.le_of_ble_eq_true rfl⟩ rfl kw_441 kw_442 kw_443 (by decide +kernel)) (fun _ => ⟨_, rfl⟩) rfl rfl) <|
  o_an
set_option maxRecDepth 100000 in
set_option maxHeartbeats 4000000 in
theorem s_X9_least {l : Launch} {D : va_G} {cy : Nat → ClassId} {σ : Nat → Int32} : ∀ q ∈ p_X9_least, rx_Sd (gG l D cy σ) mt m_X9_least q.1 q.2 :=
  ck_all (H := h_X9_least) (P := o_X9_least) rfl rfl rfl rfl rfl rfl (by decide +kernel) <|
  o_ac (rx_sd_cl (M := m_X9_least) (rx_lk_V gok (mid := 96) (ci := 9) (C := (RX9, TX9, 15)) ⟨kw_341, kw_35, hd_X9_isPlace, Nat.le_of_ble_eq_true rfl, Nat.le_of_ble_eq_true rfl⟩ rfl kw_342 kw_343 kw_344 (by decide +kernel)) (fun _ => ⟨_, rfl⟩) rfl rfl) <|
  o_ac (rx_sd_cl (M := m_X9_least) (rx_lk_V gok (mid := 78) (ci := 8) (C := (RX8, TX8, 4)) ⟨kw_444, kw_71, hd_X8_hasVariable, Nat.le_of_ble_eq_true rfl, Nat.le_of_ble_eq_true rfl⟩ rfl kw_445 kw_446 kw_447 (by decide +kernel)) (fun _ => ⟨_, rfl⟩) rfl rfl) <|
  o_ac (rx_sd_cl (M := m_X9_least) (rx_lk_V gok (mid := 81) (ci := 8) (C := (RX8, TX8, 4)) ⟨kw_86, kw_71, hd_X8_leastPower, Nat.le_of_ble_eq_true rfl, Nat.le_of_ble_eq_true rfl⟩ rfl kw_448 kw_88 kw_89 (by decide +kernel)) (fun _ => ⟨_, rfl⟩) rfl rfl) <|
  o_an
end
