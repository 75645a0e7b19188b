set_option maxRecDepth 100000 in
set_option maxHeartbeats 4000000 in
theorem s_X5_multiplied {l : Launch} {D : va_G} {cy : Nat → ClassId} {σ : Nat → Int32} : ∀ q ∈ p_X5_multiplied, rx_Sd (gG l D cy σ) mt m_X5_multiplied q.1 q.2 :=
  ck_all (H := h_X5_multiplied) (P := o_X5_multiplied) rfl rfl rfl rfl rfl rfl (by decide +kernel) <|
  o_an
set_option maxRecDepth 100000 in
set_option maxHeartbeats 4000000 in
theorem s_X5_multiply {l : Launch} {D : va_G} {cy : Nat → ClassId} {σ : Nat → Int32} : ∀ q ∈ p_X5_multiply, rx_Sd (gG l D cy σ) mt m_X5_multiply q.1 q.2 :=
  ck_all (H := h_X5_multiply) (P := o_X5_multiply) rfl rfl rfl rfl rfl rfl (by decide +kernel) <|
  o_ac (rx_sd_cl (M := m_X5_multiply) (rx_lk_V gok (mid := 75) (ci := 8) (C := (RX8, TX8, 4)) ⟨kw_221, kw_71, hd_X8_clear, Nat.le_of_ble_eq_true rfl, Nat.le_of_ble_eq_true rfl⟩ rfl kw_222 kw_223 kw_224 (by decide +kernel)) (fun _ => ⟨_, rfl⟩) rfl rfl) <|
  o_ac (rx_sd_cl (M := m_X5_multiply) (rx_lk_S gok (mid := 44) ⟨kw_218, kw_30, hd_X5_multiplied, Nat.le_of_ble_eq_true rfl, Nat.le_of_ble_eq_true rfl⟩ kw_219 kw_220 (by decide +kernel)) (fun h => nomatch h) rfl rfl) <|
  o_ac (rx_sd_cl (M := m_X5_multiply) (rx_lk_V gok (mid := 73) (ci := 8) (C := (RX8, TX8, 4)) ⟨kw_213, kw_71, hd_X8_add, Nat.le_of_ble_eq_true rfl, Nat.le_of_ble_eq_true rfl⟩ rfl kw_214 kw_215 kw_216 (by decide +kernel)) (fun _ => ⟨_, rfl⟩) rfl rfl) <|
  o_an
set_option maxRecDepth 100000 in
set_option maxHeartbeats 4000000 in
theorem s_X5_product {l : Launch} {D : va_G} {cy : Nat → ClassId} {σ : Nat → Int32} : ∀ q ∈ p_X5_product, rx_Sd (gG l D cy σ) mt m_X5_product q.1 q.2 :=
  ck_all (H := h_X5_product) (P := o_X5_product) rfl rfl rfl rfl rfl rfl (by decide +kernel) <|
  o_ac (rx_sd_cl (M := m_X5_product) (rx_lk_V gok (mid := 40) (ci := 5) (C := (RX5, TX5, 7)) ⟨kw_252, kw_30, hd_X5_beginProduct, Nat.le_of_ble_eq_true rfl, Nat.le_of_ble_eq_true rfl⟩ rfl kw_253 kw_254 kw_255 (by decide +kernel)) (fun _ => ⟨_, rfl⟩) rfl rfl) <|
  o_ac (rx_sd_cl (M := m_X5_product) (rx_lk_V gok (mid := 45) (ci := 5) (C := (RX5, TX5, 7)) ⟨kw_256, kw_30, hd_X5_multiply, Nat.le_of_ble_eq_true rfl, Nat.le_of_ble_eq_true rfl⟩ rfl kw_257 kw_258 kw_259 (by decide +kernel)) (fun _ => ⟨_, rfl⟩) rfl rfl) <|
  o_an
set_option maxRecDepth 100000 in
set_option maxHeartbeats 4000000 in
theorem s_X5_settle {l : Launch} {D : va_G} {cy : Nat → ClassId} {σ : Nat → Int32} : ∀ q ∈ p_X5_settle, rx_Sd (gG l D cy σ) mt m_X5_settle q.1 q.2 :=
  ck_all (H := h_X5_settle) (P := o_X5_settle) rfl rfl rfl rfl rfl rfl (by decide +kernel) <|
  o_ac (rx_sd_cl (M := m_X5_settle) (rx_lk_SN gok (host := "SeedBench") (mid := 116) ⟨kw_34, kw_35, hd_X9_turnTable, Nat.le_of_ble_eq_true rfl, Nat.le_of_ble_eq_true rfl⟩ (List.mem_of_getElem? (i := 11) rfl) kw_36 (by decide +kernel)) (fun h => nomatch h) rfl rfl) <|
  o_an
set_option maxRecDepth 100000 in
set_option maxHeartbeats 4000000 in
theorem s_X5_takeAway {l : Launch} {D : va_G} {cy : Nat → ClassId} {σ : Nat → Int32} : ∀ q ∈ p_X5_takeAway, rx_Sd (gG l D cy σ) mt m_X5_takeAway q.1 q.2 :=
  ck_all (H := h_X5_takeAway) (P := o_X5_takeAway) rfl rfl rfl rfl rfl rfl (by decide +kernel) <|
  o_ac (rx_sd_cl (M := m_X5_takeAway) (rx_lk_V gok (mid := 77) (ci := 8) (C := (RX8, TX8, 4)) ⟨kw_260, kw_71, hd_X8_find, Nat.le_of_ble_eq_true rfl, Nat.le_of_ble_eq_true rfl⟩ rfl kw_261 kw_262 kw_263 (by decide +kernel)) (fun _ => ⟨_, rfl⟩) rfl rfl) <|
  o_an
set_option maxRecDepth 100000 in
set_option maxHeartbeats 4000000 in
theorem s_X6_areLinked {l : Launch} {D : va_G} {cy : Nat → ClassId} {σ : Nat → Int32} : ∀ q ∈ p_X6_areLinked, rx_Sd (gG l D cy σ) mt m_X6_areLinked q.1 q.2 :=
  ck_all (H := h_X6_areLinked) (P := o_X6_areLinked) rfl rfl rfl rfl rfl rfl (by decide +kernel) <|
  o_ac (rx_sd_cl (M := m_X6_areLinked) (rx_lk_V gok (mid := 50) (ci := 6) (C := (RX6, TX6, 2)) ⟨kw_264, kw_146, hd_X6_areNeighbours, Nat.le_of_ble_eq_true rfl, Nat.le_of_ble_eq_true rfl⟩ rfl kw_265 kw_266 kw_267 (by decide +kernel)) (fun _ => ⟨_, rfl⟩) rfl rfl) <|
  o_ac (rx_sd_cl (M := m_X6_areLinked) (rx_lk_V gok (mid := 55) (ci := 6) (C := (RX6, TX6, 2)) ⟨kw_268, kw_146, hd_X6_has, Nat.le_of_ble_eq_true rfl, Nat.le_of_ble_eq_true rfl⟩ rfl kw_269 kw_270 kw_271 (by decide +kernel)) (fun _ => ⟨_, rfl⟩) rfl rfl) <|
  o_an
set_option maxRecDepth 100000 in
set_option maxHeartbeats 4000000 in
theorem s_X6_areNeighbours {l : Launch} {D : va_G} {cy : Nat → ClassId} {σ : Nat → Int32} : ∀ q ∈ p_X6_areNeighbours, rx_Sd (gG l D cy σ) mt m_X6_areNeighbours q.1 q.2 :=
  ck_all (H := h_X6_areNeighbours) (P := o_X6_areNeighbours) rfl rfl rfl rfl rfl rfl (by decide +kernel) <|
  o_ac (rx_sd_mabs (M := m_X6_areNeighbours) kw_272 kw_135 kw_136 kw_137 (Nat.le_of_ble_eq_true rfl) (by decide +kernel)) <|
  o_an
set_option maxRecDepth 100000 in
set_option maxHeartbeats 4000000 in
theorem s_X6_bit {l : Launch} {D : va_G} {cy : Nat → ClassId} {σ : Nat → Int32} : ∀ q ∈ p_X6_bit, rx_Sd (gG l D cy σ) mt m_X6_bit q.1 q.2 :=
  ck_all (H := h_X6_bit) (P := o_X6_bit) rfl rfl rfl rfl rfl rfl (by decide +kernel) <|
  o_an
set_option maxRecDepth 100000 in
set_option maxHeartbeats 4000000 in
theorem s_X6_fenceAt {l : Launch} {D : va_G} {cy : Nat → ClassId} {σ : Nat → Int32} : ∀ q ∈ p_X6_fenceAt, rx_Sd (gG l D cy σ) mt m_X6_fenceAt q.1 q.2 :=
  ck_all (H := h_X6_fenceAt) (P := o_X6_fenceAt) rfl rfl rfl rfl rfl rfl (by decide +kernel) <|
  o_ac (rx_sd_cl (M := m_X6_fenceAt) (rx_lk_V gok (mid := 55) (ci := 6) (C := (RX6, TX6, 2)) ⟨kw_268, kw_146, hd_X6_has, Nat.le_of_ble_eq_true rfl, Nat.le_of_ble_eq_true rfl⟩ rfl kw_269 kw_270 kw_271 (by decide +kernel)) (fun _ => ⟨_, rfl⟩) rfl rfl) <|
  o_an
set_option maxRecDepth 100000 in
set_option maxHeartbeats 4000000 in
theorem s_X6_fenceCount {l : Launch} {D : va_G} {cy : Nat → ClassId} {σ : Nat → Int32} : ∀ q ∈ p_X6_fenceCount, rx_Sd (gG l D cy σ) mt m_X6_fenceCount q.1 q.2 :=
  ck_all (H := h_X6_fenceCount) (P := o_X6_fenceCount) rfl rfl rfl rfl rfl rfl (by decide +kernel) <|
  o_ac (rx_sd_cl (M := m_X6_fenceCount) (rx_lk_S gok (mid := 3) ⟨kw_273, kw_274, hd_J13_bitCount_95d88, Nat.le_of_ble_eq_true rfl, Nat.le_of_ble_eq_true rfl⟩ kw_275 kw_276 (by decide +kernel)) (fun h => nomatch h) rfl rfl) <|
  o_an
set_option maxRecDepth 100000 in
set_option maxHeartbeats 4000000 in
theorem s_X6_friezeNumber {l : Launch} {D : va_G} {cy : Nat → ClassId} {σ : Nat → Int32} : ∀ q ∈ p_X6_friezeNumber, rx_Sd (gG l D cy σ) mt m_X6_friezeNumber q.1 q.2 :=
  ck_all (H := h_X6_friezeNumber) (P := o_X6_friezeNumber) rfl rfl rfl rfl rfl rfl (by decide +kernel) <|
  o_ac (rx_sd_cl (M := m_X6_friezeNumber) (rx_lk_V gok (mid := 65) (ci := 6) (C := (RX6, TX6, 2)) ⟨kw_277, kw_146, hd_X6_thirds, Nat.le_of_ble_eq_true rfl, Nat.le_of_ble_eq_true rfl⟩ rfl kw_278 kw_279 kw_280 (by decide +kernel)) (fun _ => ⟨_, rfl⟩) rfl rfl) <|
  o_an
set_option maxRecDepth 100000 in
set_option maxHeartbeats 4000000 in
theorem s_X6_has {l : Launch} {D : va_G} {cy : Nat → ClassId} {σ : Nat → Int32} : ∀ q ∈ p_X6_has, rx_Sd (gG l D cy σ) mt m_X6_has q.1 q.2 :=
  ck_all (H := h_X6_has) (P := o_X6_has) rfl rfl rfl rfl rfl rfl (by decide +kernel) <|
  o_ac (rx_sd_cl (M := m_X6_has) (rx_lk_S gok (mid := 51) ⟨kw_150, kw_146, hd_X6_bit, Nat.le_of_ble_eq_true rfl, Nat.le_of_ble_eq_true rfl⟩ kw_281 kw_152 (by decide +kernel)) (fun h => nomatch h) rfl rfl) <|
  o_an
set_option maxRecDepth 100000 in
set_option maxHeartbeats 4000000 in
theorem s_X6_init {l : Launch} {D : va_G} {cy : Nat → ClassId} {σ : Nat → Int32} : ∀ q ∈ p_X6_init, rx_Sd (gG l D cy σ) mt m_X6_init q.1 q.2 :=
  rx_ac (rx_sd_aload_n dX6_init_0 rfl) <|
  rx_ac (rx_sd_obj (M := m_X6_init) kw_282 kw_46 kw_objcode (Nat.le_of_ble_eq_true rfl) dX6_init_1) <|
  rx_ac (rx_sd_aload_n dX6_init_4 rfl) <|
  rx_ac (rx_sd_iconst dX6_init_5 (by decide)) <|
  rx_ac (rx_sd_putf (C := RX6) (T := TX6) (N := 2) (ty0 := tyX6) in_X6 tyX6_ok nmX6 rfl (by decide) kw_283 (Or.inl rfl) rfl dX6_init_6) <|
  rx_ac (rx_sd_ret0 (M := m_X6_init) rfl dX6_init_9) <|
  rx_an
set_option maxRecDepth 100000 in
set_option maxHeartbeats 4000000 in
theorem s_X6_isCorner {l : Launch} {D : va_G} {cy : Nat → ClassId} {σ : Nat → Int32} : ∀ q ∈ p_X6_isCorner, rx_Sd (gG l D cy σ) mt m_X6_isCorner q.1 q.2 :=
  ck_all (H := h_X6_isCorner) (P := o_X6_isCorner) rfl rfl rfl rfl rfl rfl (by decide +kernel) <|
  o_an
set_option maxRecDepth 100000 in
set_option maxHeartbeats 4000000 in
theorem s_X6_isCrossed {l : Launch} {D : va_G} {cy : Nat → ClassId} {σ : Nat → Int32} : ∀ q ∈ p_X6_isCrossed, rx_Sd (gG l D cy σ) mt m_X6_isCrossed q.1 q.2 :=
  ck_all (H := h_X6_isCrossed) (P := o_X6_isCrossed) rfl rfl rfl rfl rfl rfl (by decide +kernel) <|
  o_ac (rx_sd_cl (M := m_X6_isCrossed) (rx_lk_V gok (mid := 55) (ci := 6) (C := (RX6, TX6, 2)) ⟨kw_268, kw_146, hd_X6_has, Nat.le_of_ble_eq_true rfl, Nat.le_of_ble_eq_true rfl⟩ rfl kw_269 kw_270 kw_271 (by decide +kernel)) (fun _ => ⟨_, rfl⟩) rfl rfl) <|
  o_an
set_option maxRecDepth 100000 in
set_option maxHeartbeats 4000000 in
theorem s_X6_isCut {l : Launch} {D : va_G} {cy : Nat → ClassId} {σ : Nat → Int32} : ∀ q ∈ p_X6_isCut, rx_Sd (gG l D cy σ) mt m_X6_isCut q.1 q.2 :=
  ck_all (H := h_X6_isCut) (P := o_X6_isCut) rfl rfl rfl rfl rfl rfl (by decide +kernel) <|
  o_ac (rx_sd_cl (M := m_X6_isCut) (rx_lk_V gok (mid := 53) (ci := 6) (C := (RX6, TX6, 2)) ⟨kw_284, kw_146, hd_X6_fenceCount, Nat.le_of_ble_eq_true rfl, Nat.le_of_ble_eq_true rfl⟩ rfl kw_285 kw_286 kw_287 (by decide +kernel)) (fun _ => ⟨_, rfl⟩) rfl rfl) <|
  o_an
set_option maxRecDepth 100000 in
set_option maxHeartbeats 4000000 in
theorem s_X6_otherFence {l : Launch} {D : va_G} {cy : Nat → ClassId} {σ : Nat → Int32} : ∀ q ∈ p_X6_otherFence, rx_Sd (gG l D cy σ) mt m_X6_otherFence q.1 q.2 :=
  ck_all (H := h_X6_otherFence) (P := o_X6_otherFence) rfl rfl rfl rfl rfl rfl (by decide +kernel) <|
  o_ac (rx_sd_cl (M := m_X6_otherFence) (rx_lk_V gok (mid := 49) (ci := 6) (C := (RX6, TX6, 2)) ⟨kw_288, kw_146, hd_X6_areLinked, Nat.le_of_ble_eq_true rfl, Nat.le_of_ble_eq_true rfl⟩ rfl kw_289 kw_290 kw_291 (by decide +kernel)) (fun _ => ⟨_, rfl⟩) rfl rfl) <|
  o_ac (rx_sd_cl (M := m_X6_otherFence) (rx_lk_V gok (mid := 49) (ci := 6) (C := (RX6, TX6, 2)) ⟨kw_288, kw_146, hd_X6_areLinked, Nat.le_of_ble_eq_true rfl, Nat.le_of_ble_eq_true rfl⟩ rfl kw_289 kw_290 kw_291 (by decide +kernel)) (fun _ => ⟨_, rfl⟩) rfl rfl) <|
  o_ac (rx_sd_mmin (M := m_X6_otherFence) kw_292 kw_174 kw_136 kw_175 (Nat.le_of_ble_eq_true rfl) (by decide +kernel)) <|
  o_ac (rx_sd_mmax (M := m_X6_otherFence) kw_293 kw_294 kw_136 kw_295 (Nat.le_of_ble_eq_true rfl) (by decide +kernel)) <|
  o_an
set_option maxRecDepth 100000 in
set_option maxHeartbeats 4000000 in
theorem s_X6_placeOf {l : Launch} {D : va_G} {cy : Nat → ClassId} {σ : Nat → Int32} : ∀ q ∈ p_X6_placeOf, rx_Sd (gG l D cy σ) mt m_X6_placeOf q.1 q.2 :=
  ck_all (H := h_X6_placeOf) (P := o_X6_placeOf) rfl rfl rfl rfl rfl rfl (by decide +kernel) <|
  o_ac (rx_sd_cl (M := m_X6_placeOf) (rx_lk_V gok (mid := 55) (ci := 6) (C := (RX6, TX6, 2)) ⟨kw_268, kw_146, hd_X6_has, Nat.le_of_ble_eq_true rfl, Nat.le_of_ble_eq_true rfl⟩ rfl kw_269 kw_270 kw_271 (by decide +kernel)) (fun _ => ⟨_, rfl⟩) rfl rfl) <|
  o_ac (rx_sd_cl (M := m_X6_placeOf) (rx_lk_S gok (mid := 51) ⟨kw_150, kw_146, hd_X6_bit, Nat.le_of_ble_eq_true rfl, Nat.le_of_ble_eq_true rfl⟩ kw_281 kw_152 (by decide +kernel)) (fun h => nomatch h) rfl rfl) <|
  o_ac (rx_sd_cl (M := m_X6_placeOf) (rx_lk_S gok (mid := 3) ⟨kw_273, kw_274, hd_J13_bitCount_95d88, Nat.le_of_ble_eq_true rfl, Nat.le_of_ble_eq_true rfl⟩ kw_275 kw_276 (by decide +kernel)) (fun h => nomatch h) rfl rfl) <|
  o_an
set_option maxRecDepth 100000 in
set_option maxHeartbeats 4000000 in
theorem s_X6_tell {l : Launch} {D : va_G} {cy : Nat → ClassId} {σ : Nat → Int32} : ∀ q ∈ p_X6_tell, rx_Sd (gG l D cy σ) mt m_X6_tell q.1 q.2 :=
  ck_all (H := h_X6_tell) (P := o_X6_tell) rfl rfl rfl rfl rfl rfl (by decide +kernel) <|
  o_ac (rx_sd_cl (M := m_X6_tell) (rx_lk_V gok (mid := 53) (ci := 6) (C := (RX6, TX6, 2)) ⟨kw_284, kw_146, hd_X6_fenceCount, Nat.le_of_ble_eq_true rfl, Nat.le_of_ble_eq_true rfl⟩ rfl kw_285 kw_286 kw_287 (by decide +kernel)) (fun _ => ⟨_, rfl⟩) rfl rfl) <|
  o_ac (rx_sd_cl (M := m_X6_tell) (rx_lk_V gok (mid := 59) (ci := 6) (C := (RX6, TX6, 2)) ⟨kw_296, kw_146, hd_X6_isCut, Nat.le_of_ble_eq_true rfl, Nat.le_of_ble_eq_true rfl⟩ rfl kw_297 kw_298 kw_299 (by decide +kernel)) (fun _ => ⟨_, rfl⟩) rfl rfl) <|
  o_ac (rx_sd_cl (M := m_X6_tell) (rx_lk_V gok (mid := 65) (ci := 6) (C := (RX6, TX6, 2)) ⟨kw_277, kw_146, hd_X6_thirds, Nat.le_of_ble_eq_true rfl, Nat.le_of_ble_eq_true rfl⟩ rfl kw_278 kw_279 kw_280 (by decide +kernel)) (fun _ => ⟨_, rfl⟩) rfl rfl) <|
  o_ac (rx_sd_cl (M := m_X6_tell) (rx_lk_V gok (mid := 52) (ci := 6) (C := (RX6, TX6, 2)) ⟨kw_153, kw_146, hd_X6_fenceAt, Nat.le_of_ble_eq_true rfl, Nat.le_of_ble_eq_true rfl⟩ rfl kw_300 kw_155 kw_156 (by decide +kernel)) (fun _ => ⟨_, rfl⟩) rfl rfl) <|
  o_an
set_option maxRecDepth 100000 in
set_option maxHeartbeats 4000000 in
theorem s_X6_tellArrow {l : Launch} {D : va_G} {cy : Nat → ClassId} {σ : Nat → Int32} : ∀ q ∈ p_X6_tellArrow, rx_Sd (gG l D cy σ) mt m_X6_tellArrow q.1 q.2 :=
  ck_all (H := h_X6_tellArrow) (P := o_X6_tellArrow) rfl rfl rfl rfl rfl rfl (by decide +kernel) <|
  o_an
set_option maxRecDepth 100000 in
set_option maxHeartbeats 4000000 in
theorem s_X6_tellArrows {l : Launch} {D : va_G} {cy : Nat → ClassId} {σ : Nat → Int32} : ∀ q ∈ p_X6_tellArrows, rx_Sd (gG l D cy σ) mt m_X6_tellArrows q.1 q.2 :=
  ck_all (H := h_X6_tellArrows) (P := o_X6_tellArrows) rfl rfl rfl rfl rfl rfl (by decide +kernel) <|
  o_ac (rx_sd_cl (M := m_X6_tellArrows) (rx_lk_V gok (mid := 49) (ci := 6) (C := (RX6, TX6, 2)) ⟨kw_288, kw_146, hd_X6_areLinked, Nat.le_of_ble_eq_true rfl, Nat.le_of_ble_eq_true rfl⟩ rfl kw_289 kw_290 kw_291 (by decide +kernel)) (fun _ => ⟨_, rfl⟩) rfl rfl) <|
  o_ac (rx_sd_cl (M := m_X6_tellArrows) (rx_lk_V gok (mid := 49) (ci := 6) (C := (RX6, TX6, 2)) ⟨kw_288, kw_146, hd_X6_areLinked, Nat.le_of_ble_eq_true rfl, Nat.le_of_ble_eq_true rfl⟩ rfl kw_289 kw_290 kw_291 (by decide +kernel)) (fun _ => ⟨_, rfl⟩) rfl rfl) <|
  o_ac (rx_sd_cl (M := m_X6_tellArrows) (rx_lk_V gok (mid := 49) (ci := 6) (C := (RX6, TX6, 2)) ⟨kw_288, kw_146, hd_X6_areLinked, Nat.le_of_ble_eq_true rfl, Nat.le_of_ble_eq_true rfl⟩ rfl kw_289 kw_290 kw_291 (by decide +kernel)) (fun _ => ⟨_, rfl⟩) rfl rfl) <|
  o_ac (rx_sd_cl (M := m_X6_tellArrows) (rx_lk_V gok (mid := 61) (ci := 6) (C := (RX6, TX6, 2)) ⟨kw_301, kw_146, hd_X6_placeOf, Nat.le_of_ble_eq_true rfl, Nat.le_of_ble_eq_true rfl⟩ rfl kw_302 kw_303 kw_304 (by decide +kernel)) (fun _ => ⟨_, rfl⟩) rfl rfl) <|
  o_ac (rx_sd_cl (M := m_X6_tellArrows) (rx_lk_V gok (mid := 61) (ci := 6) (C := (RX6, TX6, 2)) ⟨kw_301, kw_146, hd_X6_placeOf, Nat.le_of_ble_eq_true rfl, Nat.le_of_ble_eq_true rfl⟩ rfl kw_302 kw_303 kw_304 (by decide +kernel)) (fun _ => ⟨_, rfl⟩) rfl rfl) <|
  o_ac (rx_sd_cl (M := m_X6_tellArrows) (rx_lk_S gok (mid := 63) ⟨kw_305, kw_146, hd_X6_tellArrow, Nat.le_of_ble_eq_true rfl, Nat.le_of_ble_eq_true rfl⟩ kw_306 kw_307 (by decide +kernel)) (fun h => nomatch h) rfl rfl) <|
  o_ac (rx_sd_cl (M := m_X6_tellArrows) (rx_lk_V gok (mid := 61) (ci := 6) (C := (RX6, TX6, 2)) ⟨kw_301, kw_146, hd_X6_placeOf, Nat.le_of_ble_eq_true rfl, Nat.le_of_ble_eq_true rfl⟩ rfl kw_302 kw_303 kw_304 (by decide +kernel)) (fun _ => ⟨_, rfl⟩) rfl rfl) <|
  o_ac (rx_sd_cl (M := m_X6_tellArrows) (rx_lk_V gok (mid := 61) (ci := 6) (C := (RX6, TX6, 2)) ⟨kw_301, kw_146, hd_X6_placeOf, Nat.le_of_ble_eq_true rfl, Nat.le_of_ble_eq_true rfl⟩ rfl kw_302 kw_303 kw_304 (by decide +kernel)) (fun _ => ⟨_, rfl⟩) rfl rfl) <|
  o_ac (rx_sd_cl (M := m_X6_tellArrows) (rx_lk_S gok (mid := 63) ⟨kw_305, kw_146, hd_X6_tellArrow, Nat.le_of_ble_eq_true rfl, Nat.le_of_ble_eq_true rfl⟩ kw_306 kw_307 (by decide +kernel)) (fun h => nomatch h) rfl rfl) <|
  o_ac (rx_sd_cl (M := m_X6_tellArrows) (rx_lk_V gok (mid := 61) (ci := 6) (C := (RX6, TX6, 2)) ⟨kw_301, kw_146, hd_X6_placeOf, Nat.le_of_ble_eq_true rfl, Nat.le_of_ble_eq_true rfl⟩ rfl kw_302 kw_303 kw_304 (by decide +kernel)) (fun _ => ⟨_, rfl⟩) rfl rfl) <|
  o_ac (rx_sd_cl (M := m_X6_tellArrows) (rx_lk_V gok (mid := 61) (ci := 6) (C := (RX6, TX6, 2)) ⟨kw_301, kw_146, hd_X6_placeOf, Nat.le_of_ble_eq_true rfl, Nat.le_of_ble_eq_true rfl⟩ rfl kw_302 kw_303 kw_304 (by decide +kernel)) (fun _ => ⟨_, rfl⟩) rfl rfl) <|
  o_ac (rx_sd_cl (M := m_X6_tellArrows) (rx_lk_S gok (mid := 63) ⟨kw_305, kw_146, hd_X6_tellArrow, Nat.le_of_ble_eq_true rfl, Nat.le_of_ble_eq_true rfl⟩ kw_306 kw_307 (by decide +kernel)) (fun h => nomatch h) rfl rfl) <|
  o_an
set_option maxRecDepth 100000 in
set_option maxHeartbeats 4000000 in
theorem s_X6_thirds {l : Launch} {D : va_G} {cy : Nat → ClassId} {σ : Nat → Int32} : ∀ q ∈ p_X6_thirds, rx_Sd (gG l D cy σ) mt m_X6_thirds q.1 q.2 :=
  ck_all (H := h_X6_thirds) (P := o_X6_thirds) rfl rfl rfl rfl rfl rfl (by decide +kernel) <|
  o_ac (rx_sd_cl (M := m_X6_thirds) (rx_lk_V gok (mid := 55) (ci := 6) (C := (RX6, TX6, 2)) ⟨kw_268, kw_146, hd_X6_has, Nat.le_of_ble_eq_true rfl, Nat.le_of_ble_eq_true rfl⟩ rfl kw_269 kw_270 kw_271 (by decide +kernel)) (fun _ => ⟨_, rfl⟩) rfl rfl) <|
  o_an
set_option maxRecDepth 100000 in
set_option maxHeartbeats 4000000 in
theorem s_X7_allTerms {l : Launch} {D : va_G} {cy : Nat → ClassId} {σ : Nat → Int32} : ∀ q ∈ p_X7_allTerms, rx_Sd (gG l D cy σ) mt m_X7_allTerms q.1 q.2 :=
  ck_all (H := h_X7_allTerms) (P := o_X7_allTerms) rfl rfl rfl rfl rfl rfl (by decide +kernel) <|
  o_an
set_option maxRecDepth 100000 in
set_option maxHeartbeats 4000000 in
theorem s_X7_copyFrom {l : Launch} {D : va_G} {cy : Nat → ClassId} {σ : Nat → Int32} : ∀ q ∈ p_X7_copyFrom, rx_Sd (gG l D cy σ) mt m_X7_copyFrom q.1 q.2 :=
  ck_all (H := h_X7_copyFrom) (P := o_X7_copyFrom) rfl rfl rfl rfl rfl rfl (by decide +kernel) <|
  o_ac (rx_sd_cpI (M := m_X7_copyFrom) ⟨rfl, rfl, rfl⟩ kw_308 kw_14 kw_15 kw_16 (Nat.le_of_ble_eq_true rfl) (by decide +kernel)) <|
  o_ac (rx_sd_cpL (M := m_X7_copyFrom) ⟨rfl, rfl, rfl⟩ kw_308 kw_14 kw_15 kw_16 (Nat.le_of_ble_eq_true rfl) (by decide +kernel)) <|
  o_ac (rx_sd_cl (M := m_X7_copyFrom) (rx_lk_V gok (mid := 76) (ci := 8) (C := (RX8, TX8, 4)) ⟨kw_78, kw_71, hd_X8_copyFrom, Nat.le_of_ble_eq_true rfl, Nat.le_of_ble_eq_true rfl⟩ rfl kw_309 kw_80 kw_81 (by decide +kernel)) (fun _ => ⟨_, rfl⟩) rfl rfl) <|
  o_an
set_option maxRecDepth 100000 in
set_option maxHeartbeats 4000000 in
theorem s_X7_hasTable {l : Launch} {D : va_G} {cy : Nat → ClassId} {σ : Nat → Int32} : ∀ q ∈ p_X7_hasTable, rx_Sd (gG l D cy σ) mt m_X7_hasTable q.1 q.2 :=
  ck_all (H := h_X7_hasTable) (P := o_X7_hasTable) rfl rfl rfl rfl rfl rfl (by decide +kernel) <|
  o_an
set_option maxRecDepth 100000 in
set_option maxHeartbeats 4000000 in
theorem s_X7_init {l : Launch} {D : va_G} {cy : Nat → ClassId} {σ : Nat → Int32} : ∀ q ∈ p_X7_init, rx_Sd (gG l D cy σ) mt m_X7_init q.1 q.2 :=
  rx_ac (rx_sd_aload_n dX7_init_0 rfl) <|
  rx_ac (rx_sd_obj (M := m_X7_init) kw_310 kw_46 kw_objcode (Nat.le_of_ble_eq_true rfl) dX7_init_1) <|
  rx_ac (rx_sd_aload_n dX7_init_4 rfl) <|
  rx_ac (rx_sd_bipush dX7_init_5 (by decide)) <|
  rx_ac (rx_sd_newI (M := m_X7_init) ⟨rfl, rfl, rfl⟩ kw_49 rfl dX7_init_7) <|
  rx_ac (rx_sd_putf (C := RX7) (T := TX7) (N := 6) (ty0 := tyX7) in_X7 tyX7_ok nmX7 rfl (by decide) kw_311 (Or.inr ⟨rfl, rfl, rfl⟩) rfl dX7_init_9) <|
  rx_ac (rx_sd_aload_n dX7_init_12 rfl) <|
  rx_ac (rx_sd_bipush dX7_init_13 (by decide)) <|
  rx_ac (rx_sd_newL (M := m_X7_init) ⟨rfl, rfl, rfl⟩ kw_54 rfl dX7_init_15) <|
  rx_ac (rx_sd_putf (C := RX7) (T := TX7) (N := 6) (ty0 := tyX7) in_X7 tyX7_ok nmX7 rfl (by decide) kw_312 (Or.inr ⟨rfl, rfl, rfl⟩) rfl dX7_init_17) <|
  rx_ac (rx_sd_aload_n dX7_init_20 rfl) <|
  rx_ac (rx_sd_bipush dX7_init_21 (by decide)) <|
  rx_ac (rx_sd_newq (M := m_X7_init) (t := 2) (C := "SeedBench$Share") rfl (List.mem_of_getElem? (i := 2) rfl) kw_313 dX7_init_23) <|
  rx_ac (rx_sd_putf (C := RX7) (T := TX7) (N := 6) (ty0 := tyX7) in_X7 tyX7_ok nmX7 rfl (by decide) kw_314 (Or.inr ⟨rfl, rfl, rfl⟩) rfl dX7_init_26) <|
  rx_ac (rx_sd_aload_n dX7_init_29 rfl) <|
  rx_ac (rx_sd_bipush dX7_init_30 (by decide)) <|
  rx_ac (rx_sd_newI (M := m_X7_init) ⟨rfl, rfl, rfl⟩ kw_49 rfl dX7_init_32) <|
  rx_ac (rx_sd_putf (C := RX7) (T := TX7) (N := 6) (ty0 := tyX7) in_X7 tyX7_ok nmX7 rfl (by decide) kw_315 (Or.inr ⟨rfl, rfl, rfl⟩) rfl dX7_init_34) <|
  rx_ac (rx_sd_iconst dX7_init_37 (by decide)) <|
  rx_ac (rx_sd_istore_n (M := m_X7_init) dX7_init_38 rfl) <|
  rx_ac (rx_sd_iload_n dX7_init_39 rfl) <|
  rx_ac (rx_sd_bipush dX7_init_40 (by decide)) <|
  rx_ac (rx_sd_icmp_ge (Yo_ok _) dX7_init_42 (by decide)) <|
  rx_ac (rx_sd_aload_n dX7_init_45 rfl) <|
  rx_ac (rx_sd_get (C := RX7) (T := TX7) (N := 6) in_X7 rfl (by decide) kw_314 dX7_init_46) <|
  rx_ac (rx_sd_iload_n dX7_init_49 rfl) <|
  rx_ac (rx_sd_new (M := m_X7_init) (C := RX8) (T := TX8) (N := 4) (ty := tyX8) in_X8 tyX8_ok rfl kw_313 kw_70 kw_71 df_X8 rfl (cs_X8 σ) dX7_init_50) <|
  rx_ac (rx_sd_dup dX7_init_53) <|
  rx_ac (rx_sd_cl (M := m_X7_init) (rx_lk_IN gok (host := "SeedBench") (mid := 79) (ci := 8) (C := (RX8, TX8, 4)) ⟨kw_72, kw_71, hd_X8_init, Nat.le_of_ble_eq_true rfl, Nat.le_of_ble_eq_true rfl⟩ rfl rfl (List.mem_of_getElem? (i := 0) rfl) kw_73 rfl dX7_init_54) (fun _ => ⟨_, rfl⟩) rfl rfl) <|
  rx_ac (rx_sd_aast (t := 2) (ci := 8) (C := (RX8, TX8, 4)) rfl rfl dX7_init_57) <|
  rx_ac (rx_sd_iinc (M := m_X7_init) dX7_init_58 (by decide)) <|
  rx_ac (rx_sd_goto dX7_init_61 (by decide)) <|
  rx_ac (rx_sd_ret0 (M := m_X7_init) rfl dX7_init_64) <|
  rx_an
set_option maxRecDepth 100000 in
set_option maxHeartbeats 4000000 in
theorem s_X7_isSameAs {l : Launch} {D : va_G} {cy : Nat → ClassId} {σ : Nat → Int32} : ∀ q ∈ p_X7_isSameAs, rx_Sd (gG l D cy σ) mt m_X7_isSameAs q.1 q.2 :=
  ck_all (H := h_X7_isSameAs) (P := o_X7_isSameAs) rfl rfl rfl rfl rfl rfl (by decide +kernel) <|
  o_ac (rx_sd_cl (M := m_X7_isSameAs) (rx_lk_V gok (mid := 71) (ci := 7) (C := (RX7, TX7, 6)) ⟨kw_316, kw_59, hd_X7_placeOf, Nat.le_of_ble_eq_true rfl, Nat.le_of_ble_eq_true rfl⟩ rfl kw_317 kw_318 kw_319 (by decide +kernel)) (fun _ => ⟨_, rfl⟩) rfl rfl) <|
  o_ac (rx_sd_cl (M := m_X7_isSameAs) (rx_lk_V gok (mid := 68) (ci := 7) (C := (RX7, TX7, 6)) ⟨kw_94, kw_59, hd_X7_hasTable, Nat.le_of_ble_eq_true rfl, Nat.le_of_ble_eq_true rfl⟩ rfl kw_320 kw_96 kw_97 (by decide +kernel)) (fun _ => ⟨_, rfl⟩) rfl rfl) <|
  o_an
set_option maxRecDepth 100000 in
set_option maxHeartbeats 4000000 in
theorem s_X7_placeOf {l : Launch} {D : va_G} {cy : Nat → ClassId} {σ : Nat → Int32} : ∀ q ∈ p_X7_placeOf, rx_Sd (gG l D cy σ) mt m_X7_placeOf q.1 q.2 :=
  ck_all (H := h_X7_placeOf) (P := o_X7_placeOf) rfl rfl rfl rfl rfl rfl (by decide +kernel) <|
  o_ac (rx_sd_cl (M := m_X7_placeOf) (rx_lk_V gok (mid := 80) (ci := 8) (C := (RX8, TX8, 4)) ⟨kw_74, kw_71, hd_X8_isLike, Nat.le_of_ble_eq_true rfl, Nat.le_of_ble_eq_true rfl⟩ rfl kw_321 kw_76 kw_77 (by decide +kernel)) (fun _ => ⟨_, rfl⟩) rfl rfl) <|
  o_an
set_option maxRecDepth 100000 in
set_option maxHeartbeats 4000000 in
theorem s_X7_start {l : Launch} {D : va_G} {cy : Nat → ClassId} {σ : Nat → Int32} : ∀ q ∈ p_X7_start, rx_Sd (gG l D cy σ) mt m_X7_start q.1 q.2 :=
  ck_all (H := h_X7_start) (P := o_X7_start) rfl rfl rfl rfl rfl rfl (by decide +kernel) <|
  o_ac (rx_sd_cpI (M := m_X7_start) ⟨rfl, rfl, rfl⟩ kw_308 kw_14 kw_15 kw_16 (Nat.le_of_ble_eq_true rfl) (by decide +kernel)) <|
  o_ac (rx_sd_cpL (M := m_X7_start) ⟨rfl, rfl, rfl⟩ kw_308 kw_14 kw_15 kw_16 (Nat.le_of_ble_eq_true rfl) (by decide +kernel)) <|
  o_ac (rx_sd_cl (M := m_X7_start) (rx_lk_V gok (mid := 74) (ci := 8) (C := (RX8, TX8, 4)) ⟨kw_322, kw_71, hd_X8_becomeVariable, Nat.le_of_ble_eq_true rfl, Nat.le_of_ble_eq_true rfl⟩ rfl kw_323 kw_324 kw_325 (by decide +kernel)) (fun _ => ⟨_, rfl⟩) rfl rfl) <|
  o_an
set_option maxRecDepth 100000 in
set_option maxHeartbeats 4000000 in
theorem s_X8_add {l : Launch} {D : va_G} {cy : Nat → ClassId} {σ : Nat → Int32} : ∀ q ∈ p_X8_add, rx_Sd (gG l D cy σ) mt m_X8_add q.1 q.2 :=
  ck_all (H := h_X8_add) (P := o_X8_add) rfl rfl rfl rfl rfl rfl (by decide +kernel) <|
  o_ac (rx_sd_cl (M := m_X8_add) (rx_lk_V gok (mid := 77) (ci := 8) (C := (RX8, TX8, 4)) ⟨kw_260, kw_71, hd_X8_find, Nat.le_of_ble_eq_true rfl, Nat.le_of_ble_eq_true rfl⟩ rfl kw_326 kw_262 kw_263 (by decide +kernel)) (fun _ => ⟨_, rfl⟩) rfl rfl) <|
  o_ac (rx_sd_cpL (M := m_X8_add) ⟨rfl, rfl, rfl⟩ kw_327 kw_14 kw_15 kw_16 (Nat.le_of_ble_eq_true rfl) (by decide +kernel)) <|
  o_ac (rx_sd_cpI (M := m_X8_add) ⟨rfl, rfl, rfl⟩ kw_327 kw_14 kw_15 kw_16 (Nat.le_of_ble_eq_true rfl) (by decide +kernel)) <|
  o_ac (rx_sd_cpI (M := m_X8_add) ⟨rfl, rfl, rfl⟩ kw_327 kw_14 kw_15 kw_16 (Nat.le_of_ble_eq_true rfl) (by decide +kernel)) <|
  o_an
