set_option maxRecDepth 100000 in
set_option maxHeartbeats 4000000 in
theorem s_X2_sizeAlong {l : Launch} {D : va_G} {cy : Nat → ClassId} {σ : Nat → Int32} : ∀ q ∈ p_X2_sizeAlong, rx_Sd (gG l D cy σ) mt m_X2_sizeAlong q.1 q.2 :=
  ck_all (H := h_X2_sizeAlong) (P := o_X2_sizeAlong) rfl rfl rfl rfl rfl rfl (by decide +kernel) <|
  o_ac (rx_sd_mabs (M := m_X2_sizeAlong) kw_134 kw_135 kw_136 kw_137 (Nat.le_of_ble_eq_true rfl) (by decide +kernel)) <|
  o_ac (rx_sd_mabs (M := m_X2_sizeAlong) kw_134 kw_135 kw_136 kw_137 (Nat.le_of_ble_eq_true rfl) (by decide +kernel)) <|
  o_ac (rx_sd_cl (M := m_X2_sizeAlong) (rx_lk_S gok (mid := 23) ⟨kw_138, kw_118, hd_X2_greatestDivisor, Nat.le_of_ble_eq_true rfl, Nat.le_of_ble_eq_true rfl⟩ kw_139 kw_140 (by decide +kernel)) (fun h => nomatch h) rfl rfl) <|
  o_an
set_option maxRecDepth 100000 in
set_option maxHeartbeats 4000000 in
theorem s_X2_sizeGroup {l : Launch} {D : va_G} {cy : Nat → ClassId} {σ : Nat → Int32} : ∀ q ∈ p_X2_sizeGroup, rx_Sd (gG l D cy σ) mt m_X2_sizeGroup q.1 q.2 :=
  ck_all (H := h_X2_sizeGroup) (P := o_X2_sizeGroup) rfl rfl rfl rfl rfl rfl (by decide +kernel) <|
  o_ac (rx_sd_cl (M := m_X2_sizeGroup) (rx_lk_V gok (mid := 26) (ci := 2) (C := (RX2, TX2, 5)) ⟨kw_141, kw_118, hd_X2_sizeAlong, Nat.le_of_ble_eq_true rfl, Nat.le_of_ble_eq_true rfl⟩ rfl kw_142 kw_143 kw_144 (by decide +kernel)) (fun _ => ⟨_, rfl⟩) rfl rfl) <|
  o_an
set_option maxRecDepth 100000 in
set_option maxHeartbeats 4000000 in
theorem s_X3_flipped {l : Launch} {D : va_G} {cy : Nat → ClassId} {σ : Nat → Int32} : ∀ q ∈ p_X3_flipped, rx_Sd (gG l D cy σ) mt m_X3_flipped q.1 q.2 :=
  ck_all (H := h_X3_flipped) (P := o_X3_flipped) rfl rfl rfl rfl rfl rfl (by decide +kernel) <|
  o_ac (rx_sd_cl (M := m_X3_flipped) (rx_lk_V gok (mid := 60) (ci := 6) (C := (RX6, TX6, 2)) ⟨kw_145, kw_146, hd_X6_otherFence, Nat.le_of_ble_eq_true rfl, Nat.le_of_ble_eq_true rfl⟩ rfl kw_147 kw_148 kw_149 (by decide +kernel)) (fun _ => ⟨_, rfl⟩) rfl rfl) <|
  o_ac (rx_sd_cl (M := m_X3_flipped) (rx_lk_S gok (mid := 51) ⟨kw_150, kw_146, hd_X6_bit, Nat.le_of_ble_eq_true rfl, Nat.le_of_ble_eq_true rfl⟩ kw_151 kw_152 (by decide +kernel)) (fun h => nomatch h) rfl rfl) <|
  o_ac (rx_sd_cl (M := m_X3_flipped) (rx_lk_S gok (mid := 51) ⟨kw_150, kw_146, hd_X6_bit, Nat.le_of_ble_eq_true rfl, Nat.le_of_ble_eq_true rfl⟩ kw_151 kw_152 (by decide +kernel)) (fun h => nomatch h) rfl rfl) <|
  o_an
set_option maxRecDepth 100000 in
set_option maxHeartbeats 4000000 in
theorem s_X3_goNearer {l : Launch} {D : va_G} {cy : Nat → ClassId} {σ : Nat → Int32} : ∀ q ∈ p_X3_goNearer, rx_Sd (gG l D cy σ) mt m_X3_goNearer q.1 q.2 :=
  ck_all (H := h_X3_goNearer) (P := o_X3_goNearer) rfl rfl rfl rfl rfl rfl (by decide +kernel) <|
  o_ac (rx_sd_cl (M := m_X3_goNearer) (rx_lk_V gok (mid := 52) (ci := 6) (C := (RX6, TX6, 2)) ⟨kw_153, kw_146, hd_X6_fenceAt, Nat.le_of_ble_eq_true rfl, Nat.le_of_ble_eq_true rfl⟩ rfl kw_154 kw_155 kw_156 (by decide +kernel)) (fun _ => ⟨_, rfl⟩) rfl rfl) <|
  o_ac (rx_sd_cl (M := m_X3_goNearer) (rx_lk_V gok (mid := 28) (ci := 3) (C := (RX3, TX3, 3)) ⟨kw_157, kw_158, hd_X3_flipped, Nat.le_of_ble_eq_true rfl, Nat.le_of_ble_eq_true rfl⟩ rfl kw_159 kw_160 kw_161 (by decide +kernel)) (fun _ => ⟨_, rfl⟩) rfl rfl) <|
  o_ac (rx_sd_cl (M := m_X3_goNearer) (rx_lk_V gok (mid := 18) (ci := 1) (C := (RX1, TX1, 6)) ⟨kw_162, kw_103, hd_X1_find, Nat.le_of_ble_eq_true rfl, Nat.le_of_ble_eq_true rfl⟩ rfl kw_163 kw_164 kw_165 (by decide +kernel)) (fun _ => ⟨_, rfl⟩) rfl rfl) <|
  o_an
set_option maxRecDepth 100000 in
set_option maxHeartbeats 4000000 in
theorem s_X3_init {l : Launch} {D : va_G} {cy : Nat → ClassId} {σ : Nat → Int32} : ∀ q ∈ p_X3_init, rx_Sd (gG l D cy σ) mt m_X3_init q.1 q.2 :=
  rx_ac (rx_sd_aload_n dX3_init_0 rfl) <|
  rx_ac (rx_sd_obj (M := m_X3_init) kw_166 kw_46 kw_objcode (Nat.le_of_ble_eq_true rfl) dX3_init_1) <|
  rx_ac (rx_sd_aload_n dX3_init_4 rfl) <|
  rx_ac (rx_sd_bipush dX3_init_5 (by decide)) <|
  rx_ac (rx_sd_newI (M := m_X3_init) ⟨rfl, rfl, rfl⟩ kw_49 rfl dX3_init_7) <|
  rx_ac (rx_sd_putf (C := RX3) (T := TX3) (N := 3) (ty0 := tyX3) in_X3 tyX3_ok nmX3 rfl (by decide) kw_167 (Or.inr ⟨rfl, rfl, rfl⟩) rfl dX3_init_9) <|
  rx_ac (rx_sd_aload_n dX3_init_12 rfl) <|
  rx_ac (rx_sd_new (M := m_X3_init) (C := RX6) (T := TX6) (N := 2) (ty := tyX6) in_X6 tyX6_ok rfl kw_168 kw_169 kw_146 df_X6 rfl (cs_X6 σ) dX3_init_13) <|
  rx_ac (rx_sd_dup dX3_init_16) <|
  rx_ac (rx_sd_cl (M := m_X3_init) (rx_lk_IN gok (host := "SeedBench") (mid := 56) (ci := 6) (C := (RX6, TX6, 2)) ⟨kw_170, kw_146, hd_X6_init, Nat.le_of_ble_eq_true rfl, Nat.le_of_ble_eq_true rfl⟩ rfl rfl (List.mem_of_getElem? (i := 8) rfl) kw_171 rfl dX3_init_17) (fun _ => ⟨_, rfl⟩) rfl rfl) <|
  rx_ac (rx_sd_putf (C := RX3) (T := TX3) (N := 3) (ty0 := tyX3) in_X3 tyX3_ok nmX3 rfl (by decide) kw_172 (Or.inr ⟨rfl, rfl, rfl⟩) rfl dX3_init_20) <|
  rx_ac (rx_sd_ret0 (M := m_X3_init) rfl dX3_init_23) <|
  rx_an
set_option maxRecDepth 100000 in
set_option maxHeartbeats 4000000 in
theorem s_X3_lead {l : Launch} {D : va_G} {cy : Nat → ClassId} {σ : Nat → Int32} : ∀ q ∈ p_X3_lead, rx_Sd (gG l D cy σ) mt m_X3_lead q.1 q.2 :=
  ck_all (H := h_X3_lead) (P := o_X3_lead) rfl rfl rfl rfl rfl rfl (by decide +kernel) <|
  o_ac (rx_sd_cl (M := m_X3_lead) (rx_lk_V gok (mid := 18) (ci := 1) (C := (RX1, TX1, 6)) ⟨kw_162, kw_103, hd_X1_find, Nat.le_of_ble_eq_true rfl, Nat.le_of_ble_eq_true rfl⟩ rfl kw_163 kw_164 kw_165 (by decide +kernel)) (fun _ => ⟨_, rfl⟩) rfl rfl) <|
  o_ac (rx_sd_mmin (M := m_X3_lead) kw_173 kw_174 kw_136 kw_175 (Nat.le_of_ble_eq_true rfl) (by decide +kernel)) <|
  o_ac (rx_sd_cl (M := m_X3_lead) (rx_lk_V gok (mid := 29) (ci := 3) (C := (RX3, TX3, 3)) ⟨kw_176, kw_158, hd_X3_goNearer, Nat.le_of_ble_eq_true rfl, Nat.le_of_ble_eq_true rfl⟩ rfl kw_177 kw_178 kw_179 (by decide +kernel)) (fun _ => ⟨_, rfl⟩) rfl rfl) <|
  o_an
set_option maxRecDepth 100000 in
set_option maxHeartbeats 4000000 in
theorem s_X3_measure {l : Launch} {D : va_G} {cy : Nat → ClassId} {σ : Nat → Int32} : ∀ q ∈ p_X3_measure, rx_Sd (gG l D cy σ) mt m_X3_measure q.1 q.2 :=
  ck_all (H := h_X3_measure) (P := o_X3_measure) rfl rfl rfl rfl rfl rfl (by decide +kernel) <|
  o_ac (rx_sd_cl (M := m_X3_measure) (rx_lk_V gok (mid := 16) (ci := 1) (C := (RX1, TX1, 6)) ⟨kw_180, kw_103, hd_X1_clear, Nat.le_of_ble_eq_true rfl, Nat.le_of_ble_eq_true rfl⟩ rfl kw_181 kw_182 kw_183 (by decide +kernel)) (fun _ => ⟨_, rfl⟩) rfl rfl) <|
  o_ac (rx_sd_cl (M := m_X3_measure) (rx_lk_V gok (mid := 17) (ci := 1) (C := (RX1, TX1, 6)) ⟨kw_184, kw_103, hd_X1_enter, Nat.le_of_ble_eq_true rfl, Nat.le_of_ble_eq_true rfl⟩ rfl kw_185 kw_186 kw_187 (by decide +kernel)) (fun _ => ⟨_, rfl⟩) rfl rfl) <|
  o_ac (rx_sd_cl (M := m_X3_measure) (rx_lk_V gok (mid := 18) (ci := 1) (C := (RX1, TX1, 6)) ⟨kw_162, kw_103, hd_X1_find, Nat.le_of_ble_eq_true rfl, Nat.le_of_ble_eq_true rfl⟩ rfl kw_163 kw_164 kw_165 (by decide +kernel)) (fun _ => ⟨_, rfl⟩) rfl rfl) <|
  o_ac (rx_sd_cl (M := m_X3_measure) (rx_lk_V gok (mid := 52) (ci := 6) (C := (RX6, TX6, 2)) ⟨kw_153, kw_146, hd_X6_fenceAt, Nat.le_of_ble_eq_true rfl, Nat.le_of_ble_eq_true rfl⟩ rfl kw_154 kw_155 kw_156 (by decide +kernel)) (fun _ => ⟨_, rfl⟩) rfl rfl) <|
  o_ac (rx_sd_cl (M := m_X3_measure) (rx_lk_V gok (mid := 28) (ci := 3) (C := (RX3, TX3, 3)) ⟨kw_157, kw_158, hd_X3_flipped, Nat.le_of_ble_eq_true rfl, Nat.le_of_ble_eq_true rfl⟩ rfl kw_159 kw_160 kw_161 (by decide +kernel)) (fun _ => ⟨_, rfl⟩) rfl rfl) <|
  o_ac (rx_sd_cl (M := m_X3_measure) (rx_lk_V gok (mid := 18) (ci := 1) (C := (RX1, TX1, 6)) ⟨kw_162, kw_103, hd_X1_find, Nat.le_of_ble_eq_true rfl, Nat.le_of_ble_eq_true rfl⟩ rfl kw_163 kw_164 kw_165 (by decide +kernel)) (fun _ => ⟨_, rfl⟩) rfl rfl) <|
  o_ac (rx_sd_cl (M := m_X3_measure) (rx_lk_V gok (mid := 17) (ci := 1) (C := (RX1, TX1, 6)) ⟨kw_184, kw_103, hd_X1_enter, Nat.le_of_ble_eq_true rfl, Nat.le_of_ble_eq_true rfl⟩ rfl kw_185 kw_186 kw_187 (by decide +kernel)) (fun _ => ⟨_, rfl⟩) rfl rfl) <|
  o_an
set_option maxRecDepth 100000 in
set_option maxHeartbeats 4000000 in
theorem s_X4_init {l : Launch} {D : va_G} {cy : Nat → ClassId} {σ : Nat → Int32} : ∀ q ∈ p_X4_init, rx_Sd (gG l D cy σ) mt m_X4_init q.1 q.2 :=
  rx_ac (rx_sd_aload_n dX4_init_0 rfl) <|
  rx_ac (rx_sd_obj (M := m_X4_init) kw_188 kw_46 kw_objcode (Nat.le_of_ble_eq_true rfl) dX4_init_1) <|
  rx_ac (rx_sd_aload_n dX4_init_4 rfl) <|
  rx_ac (rx_sd_sipush dX4_init_5 (by decide)) <|
  rx_ac (rx_sd_newI (M := m_X4_init) ⟨rfl, rfl, rfl⟩ kw_49 rfl dX4_init_8) <|
  rx_ac (rx_sd_putf (C := RX4) (T := TX4) (N := 6) (ty0 := tyX4) in_X4 tyX4_ok nmX4 rfl (by decide) kw_189 (Or.inr ⟨rfl, rfl, rfl⟩) rfl dX4_init_10) <|
  rx_ac (rx_sd_aload_n dX4_init_13 rfl) <|
  rx_ac (rx_sd_bipush dX4_init_14 (by decide)) <|
  rx_ac (rx_sd_newI (M := m_X4_init) ⟨rfl, rfl, rfl⟩ kw_49 rfl dX4_init_16) <|
  rx_ac (rx_sd_putf (C := RX4) (T := TX4) (N := 6) (ty0 := tyX4) in_X4 tyX4_ok nmX4 rfl (by decide) kw_190 (Or.inr ⟨rfl, rfl, rfl⟩) rfl dX4_init_18) <|
  rx_ac (rx_sd_ret0 (M := m_X4_init) rfl dX4_init_21) <|
  rx_an
set_option maxRecDepth 100000 in
set_option maxHeartbeats 4000000 in
theorem s_X4_isWild {l : Launch} {D : va_G} {cy : Nat → ClassId} {σ : Nat → Int32} : ∀ q ∈ p_X4_isWild, rx_Sd (gG l D cy σ) mt m_X4_isWild q.1 q.2 :=
  ck_all (H := h_X4_isWild) (P := o_X4_isWild) rfl rfl rfl rfl rfl rfl (by decide +kernel) <|
  o_an
set_option maxRecDepth 100000 in
set_option maxHeartbeats 4000000 in
theorem s_X4_judge {l : Launch} {D : va_G} {cy : Nat → ClassId} {σ : Nat → Int32} : ∀ q ∈ p_X4_judge, rx_Sd (gG l D cy σ) mt m_X4_judge q.1 q.2 :=
  ck_all (H := h_X4_judge) (P := o_X4_judge) rfl rfl rfl rfl rfl rfl (by decide +kernel) <|
  o_ac (rx_sd_cpI (M := m_X4_judge) ⟨rfl, rfl, rfl⟩ kw_191 kw_14 kw_15 kw_16 (Nat.le_of_ble_eq_true rfl) (by decide +kernel)) <|
  o_ac (rx_sd_cl (M := m_X4_judge) (rx_lk_V gok (mid := 34) (ci := 4) (C := (RX4, TX4, 6)) ⟨kw_192, kw_193, hd_X4_isWild, Nat.le_of_ble_eq_true rfl, Nat.le_of_ble_eq_true rfl⟩ rfl kw_194 kw_195 kw_196 (by decide +kernel)) (fun _ => ⟨_, rfl⟩) rfl rfl) <|
  o_ac (rx_sd_cl (M := m_X4_judge) (rx_lk_V gok (mid := 16) (ci := 1) (C := (RX1, TX1, 6)) ⟨kw_180, kw_103, hd_X1_clear, Nat.le_of_ble_eq_true rfl, Nat.le_of_ble_eq_true rfl⟩ rfl kw_197 kw_182 kw_183 (by decide +kernel)) (fun _ => ⟨_, rfl⟩) rfl rfl) <|
  o_ac (rx_sd_cl (M := m_X4_judge) (rx_lk_V gok (mid := 36) (ci := 4) (C := (RX4, TX4, 6)) ⟨kw_198, kw_193, hd_X4_pack, Nat.le_of_ble_eq_true rfl, Nat.le_of_ble_eq_true rfl⟩ rfl kw_199 kw_200 kw_201 (by decide +kernel)) (fun _ => ⟨_, rfl⟩) rfl rfl) <|
  o_ac (rx_sd_cl (M := m_X4_judge) (rx_lk_V gok (mid := 17) (ci := 1) (C := (RX1, TX1, 6)) ⟨kw_184, kw_103, hd_X1_enter, Nat.le_of_ble_eq_true rfl, Nat.le_of_ble_eq_true rfl⟩ rfl kw_202 kw_186 kw_187 (by decide +kernel)) (fun _ => ⟨_, rfl⟩) rfl rfl) <|
  o_ac (rx_sd_cl (M := m_X4_judge) (rx_lk_V gok (mid := 38) (ci := 4) (C := (RX4, TX4, 6)) ⟨kw_203, kw_193, hd_X4_unpack, Nat.le_of_ble_eq_true rfl, Nat.le_of_ble_eq_true rfl⟩ rfl kw_204 kw_205 kw_206 (by decide +kernel)) (fun _ => ⟨_, rfl⟩) rfl rfl) <|
  o_ac (rx_sd_cl (M := m_X4_judge) (rx_lk_SN gok (host := "SeedBench") (mid := 116) ⟨kw_34, kw_35, hd_X9_turnTable, Nat.le_of_ble_eq_true rfl, Nat.le_of_ble_eq_true rfl⟩ (List.mem_of_getElem? (i := 13) rfl) kw_36 (by decide +kernel)) (fun h => nomatch h) rfl rfl) <|
  o_ac (rx_sd_cl (M := m_X4_judge) (rx_lk_V gok (mid := 34) (ci := 4) (C := (RX4, TX4, 6)) ⟨kw_192, kw_193, hd_X4_isWild, Nat.le_of_ble_eq_true rfl, Nat.le_of_ble_eq_true rfl⟩ rfl kw_194 kw_195 kw_196 (by decide +kernel)) (fun _ => ⟨_, rfl⟩) rfl rfl) <|
  o_ac (rx_sd_cl (M := m_X4_judge) (rx_lk_V gok (mid := 37) (ci := 4) (C := (RX4, TX4, 6)) ⟨kw_207, kw_193, hd_X4_tracePath, Nat.le_of_ble_eq_true rfl, Nat.le_of_ble_eq_true rfl⟩ rfl kw_208 kw_209 kw_210 (by decide +kernel)) (fun _ => ⟨_, rfl⟩) rfl rfl) <|
  o_ac (rx_sd_cl (M := m_X4_judge) (rx_lk_V gok (mid := 36) (ci := 4) (C := (RX4, TX4, 6)) ⟨kw_198, kw_193, hd_X4_pack, Nat.le_of_ble_eq_true rfl, Nat.le_of_ble_eq_true rfl⟩ rfl kw_199 kw_200 kw_201 (by decide +kernel)) (fun _ => ⟨_, rfl⟩) rfl rfl) <|
  o_ac (rx_sd_cl (M := m_X4_judge) (rx_lk_V gok (mid := 18) (ci := 1) (C := (RX1, TX1, 6)) ⟨kw_162, kw_103, hd_X1_find, Nat.le_of_ble_eq_true rfl, Nat.le_of_ble_eq_true rfl⟩ rfl kw_211 kw_164 kw_165 (by decide +kernel)) (fun _ => ⟨_, rfl⟩) rfl rfl) <|
  o_ac (rx_sd_cl (M := m_X4_judge) (rx_lk_V gok (mid := 17) (ci := 1) (C := (RX1, TX1, 6)) ⟨kw_184, kw_103, hd_X1_enter, Nat.le_of_ble_eq_true rfl, Nat.le_of_ble_eq_true rfl⟩ rfl kw_202 kw_186 kw_187 (by decide +kernel)) (fun _ => ⟨_, rfl⟩) rfl rfl) <|
  o_an
set_option maxRecDepth 100000 in
set_option maxHeartbeats 4000000 in
theorem s_X4_pack {l : Launch} {D : va_G} {cy : Nat → ClassId} {σ : Nat → Int32} : ∀ q ∈ p_X4_pack, rx_Sd (gG l D cy σ) mt m_X4_pack q.1 q.2 :=
  ck_all (H := h_X4_pack) (P := o_X4_pack) rfl rfl rfl rfl rfl rfl (by decide +kernel) <|
  o_an
set_option maxRecDepth 100000 in
set_option maxHeartbeats 4000000 in
theorem s_X4_tracePath {l : Launch} {D : va_G} {cy : Nat → ClassId} {σ : Nat → Int32} : ∀ q ∈ p_X4_tracePath, rx_Sd (gG l D cy σ) mt m_X4_tracePath q.1 q.2 :=
  ck_all (H := h_X4_tracePath) (P := o_X4_tracePath) rfl rfl rfl rfl rfl rfl (by decide +kernel) <|
  o_an
set_option maxRecDepth 100000 in
set_option maxHeartbeats 4000000 in
theorem s_X4_unpack {l : Launch} {D : va_G} {cy : Nat → ClassId} {σ : Nat → Int32} : ∀ q ∈ p_X4_unpack, rx_Sd (gG l D cy σ) mt m_X4_unpack q.1 q.2 :=
  ck_all (H := h_X4_unpack) (P := o_X4_unpack) rfl rfl rfl rfl rfl rfl (by decide +kernel) <|
  o_an
set_option maxRecDepth 100000 in
set_option maxHeartbeats 4000000 in
theorem s_X5_addAll {l : Launch} {D : va_G} {cy : Nat → ClassId} {σ : Nat → Int32} : ∀ q ∈ p_X5_addAll, rx_Sd (gG l D cy σ) mt m_X5_addAll q.1 q.2 :=
  ck_all (H := h_X5_addAll) (P := o_X5_addAll) rfl rfl rfl rfl rfl rfl (by decide +kernel) <|
  o_ac (rx_sd_cpI (M := m_X5_addAll) ⟨rfl, rfl, rfl⟩ kw_212 kw_14 kw_15 kw_16 (Nat.le_of_ble_eq_true rfl) (by decide +kernel)) <|
  o_ac (rx_sd_cl (M := m_X5_addAll) (rx_lk_V gok (mid := 73) (ci := 8) (C := (RX8, TX8, 4)) ⟨kw_213, kw_71, hd_X8_add, Nat.le_of_ble_eq_true rfl, Nat.le_of_ble_eq_true rfl⟩ rfl kw_214 kw_215 kw_216 (by decide +kernel)) (fun _ => ⟨_, rfl⟩) rfl rfl) <|
  o_an
set_option maxRecDepth 100000 in
set_option maxHeartbeats 4000000 in
theorem s_X5_beginProduct {l : Launch} {D : va_G} {cy : Nat → ClassId} {σ : Nat → Int32} : ∀ q ∈ p_X5_beginProduct, rx_Sd (gG l D cy σ) mt m_X5_beginProduct q.1 q.2 :=
  ck_all (H := h_X5_beginProduct) (P := o_X5_beginProduct) rfl rfl rfl rfl rfl rfl (by decide +kernel) <|
  o_ac (rx_sd_cl (M := m_X5_beginProduct) (rx_lk_S gok (mid := 1) ⟨kw_98, kw_99, hd_J7_fill_53178, Nat.le_of_ble_eq_true rfl, Nat.le_of_ble_eq_true rfl⟩ kw_217 kw_101 (by decide +kernel)) (fun h => nomatch h) rfl rfl) <|
  o_ac (rx_sd_cl (M := m_X5_beginProduct) (rx_lk_S gok (mid := 44) ⟨kw_218, kw_30, hd_X5_multiplied, Nat.le_of_ble_eq_true rfl, Nat.le_of_ble_eq_true rfl⟩ kw_219 kw_220 (by decide +kernel)) (fun h => nomatch h) rfl rfl) <|
  o_ac (rx_sd_cl (M := m_X5_beginProduct) (rx_lk_V gok (mid := 75) (ci := 8) (C := (RX8, TX8, 4)) ⟨kw_221, kw_71, hd_X8_clear, Nat.le_of_ble_eq_true rfl, Nat.le_of_ble_eq_true rfl⟩ rfl kw_222 kw_223 kw_224 (by decide +kernel)) (fun _ => ⟨_, rfl⟩) rfl rfl) <|
  o_ac (rx_sd_cl (M := m_X5_beginProduct) (rx_lk_V gok (mid := 73) (ci := 8) (C := (RX8, TX8, 4)) ⟨kw_213, kw_71, hd_X8_add, Nat.le_of_ble_eq_true rfl, Nat.le_of_ble_eq_true rfl⟩ rfl kw_214 kw_215 kw_216 (by decide +kernel)) (fun _ => ⟨_, rfl⟩) rfl rfl) <|
  o_an
set_option maxRecDepth 100000 in
set_option maxHeartbeats 4000000 in
theorem s_X5_divide {l : Launch} {D : va_G} {cy : Nat → ClassId} {σ : Nat → Int32} : ∀ q ∈ p_X5_divide, rx_Sd (gG l D cy σ) mt m_X5_divide q.1 q.2 :=
  ck_all (H := h_X5_divide) (P := o_X5_divide) rfl rfl rfl rfl rfl rfl (by decide +kernel) <|
  o_ac (rx_sd_cl (M := m_X5_divide) (rx_lk_V gok (mid := 75) (ci := 8) (C := (RX8, TX8, 4)) ⟨kw_221, kw_71, hd_X8_clear, Nat.le_of_ble_eq_true rfl, Nat.le_of_ble_eq_true rfl⟩ rfl kw_222 kw_223 kw_224 (by decide +kernel)) (fun _ => ⟨_, rfl⟩) rfl rfl) <|
  o_ac (rx_sd_cl (M := m_X5_divide) (rx_lk_V gok (mid := 73) (ci := 8) (C := (RX8, TX8, 4)) ⟨kw_213, kw_71, hd_X8_add, Nat.le_of_ble_eq_true rfl, Nat.le_of_ble_eq_true rfl⟩ rfl kw_214 kw_215 kw_216 (by decide +kernel)) (fun _ => ⟨_, rfl⟩) rfl rfl) <|
  o_ac (rx_sd_cl (M := m_X5_divide) (rx_lk_V gok (mid := 48) (ci := 5) (C := (RX5, TX5, 7)) ⟨kw_225, kw_30, hd_X5_takeAway, Nat.le_of_ble_eq_true rfl, Nat.le_of_ble_eq_true rfl⟩ rfl kw_226 kw_227 kw_228 (by decide +kernel)) (fun _ => ⟨_, rfl⟩) rfl rfl) <|
  o_an
set_option maxRecDepth 100000 in
set_option maxHeartbeats 4000000 in
theorem s_X5_exchange {l : Launch} {D : va_G} {cy : Nat → ClassId} {σ : Nat → Int32} : ∀ q ∈ p_X5_exchange, rx_Sd (gG l D cy σ) mt m_X5_exchange q.1 q.2 :=
  ck_all (H := h_X5_exchange) (P := o_X5_exchange) rfl rfl rfl rfl rfl rfl (by decide +kernel) <|
  o_ac (rx_sd_cl (M := m_X5_exchange) (rx_lk_SN gok (host := "SeedBench") (mid := 98) ⟨kw_229, kw_35, hd_X9_isTableTurnable, Nat.le_of_ble_eq_true rfl, Nat.le_of_ble_eq_true rfl⟩ (List.mem_of_getElem? (i := 10) rfl) kw_230 (by decide +kernel)) (fun h => nomatch h) rfl rfl) <|
  o_ac (rx_sd_cl (M := m_X5_exchange) (rx_lk_V gok (mid := 46) (ci := 5) (C := (RX5, TX5, 7)) ⟨kw_231, kw_30, hd_X5_product, Nat.le_of_ble_eq_true rfl, Nat.le_of_ble_eq_true rfl⟩ rfl kw_232 kw_233 kw_234 (by decide +kernel)) (fun _ => ⟨_, rfl⟩) rfl rfl) <|
  o_ac (rx_sd_cl (M := m_X5_exchange) (rx_lk_V gok (mid := 46) (ci := 5) (C := (RX5, TX5, 7)) ⟨kw_231, kw_30, hd_X5_product, Nat.le_of_ble_eq_true rfl, Nat.le_of_ble_eq_true rfl⟩ rfl kw_232 kw_233 kw_234 (by decide +kernel)) (fun _ => ⟨_, rfl⟩) rfl rfl) <|
  o_ac (rx_sd_cl (M := m_X5_exchange) (rx_lk_V gok (mid := 39) (ci := 5) (C := (RX5, TX5, 7)) ⟨kw_235, kw_30, hd_X5_addAll, Nat.le_of_ble_eq_true rfl, Nat.le_of_ble_eq_true rfl⟩ rfl kw_236 kw_237 kw_238 (by decide +kernel)) (fun _ => ⟨_, rfl⟩) rfl rfl) <|
  o_ac (rx_sd_cl (M := m_X5_exchange) (rx_lk_V gok (mid := 41) (ci := 5) (C := (RX5, TX5, 7)) ⟨kw_239, kw_30, hd_X5_divide, Nat.le_of_ble_eq_true rfl, Nat.le_of_ble_eq_true rfl⟩ rfl kw_240 kw_241 kw_242 (by decide +kernel)) (fun _ => ⟨_, rfl⟩) rfl rfl) <|
  o_an
set_option maxRecDepth 100000 in
set_option maxHeartbeats 4000000 in
theorem s_X5_init {l : Launch} {D : va_G} {cy : Nat → ClassId} {σ : Nat → Int32} : ∀ q ∈ p_X5_init, rx_Sd (gG l D cy σ) mt m_X5_init q.1 q.2 :=
  rx_ac (rx_sd_aload_n dX5_init_0 rfl) <|
  rx_ac (rx_sd_obj (M := m_X5_init) kw_243 kw_46 kw_objcode (Nat.le_of_ble_eq_true rfl) dX5_init_1) <|
  rx_ac (rx_sd_aload_n dX5_init_4 rfl) <|
  rx_ac (rx_sd_new (M := m_X5_init) (C := RX8) (T := TX8) (N := 4) (ty := tyX8) in_X8 tyX8_ok rfl kw_244 kw_70 kw_71 df_X8 rfl (cs_X8 σ) dX5_init_5) <|
  rx_ac (rx_sd_dup dX5_init_8) <|
  rx_ac (rx_sd_cl (M := m_X5_init) (rx_lk_IN gok (host := "SeedBench") (mid := 79) (ci := 8) (C := (RX8, TX8, 4)) ⟨kw_72, kw_71, hd_X8_init, Nat.le_of_ble_eq_true rfl, Nat.le_of_ble_eq_true rfl⟩ rfl rfl (List.mem_of_getElem? (i := 3) rfl) kw_73 rfl dX5_init_9) (fun _ => ⟨_, rfl⟩) rfl rfl) <|
  rx_ac (rx_sd_putf (C := RX5) (T := TX5) (N := 7) (ty0 := tyX5) in_X5 tyX5_ok nmX5 rfl (by decide) kw_245 (Or.inl rfl) rfl dX5_init_12) <|
  rx_ac (rx_sd_aload_n dX5_init_15 rfl) <|
  rx_ac (rx_sd_new (M := m_X5_init) (C := RX8) (T := TX8) (N := 4) (ty := tyX8) in_X8 tyX8_ok rfl kw_244 kw_70 kw_71 df_X8 rfl (cs_X8 σ) dX5_init_16) <|
  rx_ac (rx_sd_dup dX5_init_19) <|
  rx_ac (rx_sd_cl (M := m_X5_init) (rx_lk_IN gok (host := "SeedBench") (mid := 79) (ci := 8) (C := (RX8, TX8, 4)) ⟨kw_72, kw_71, hd_X8_init, Nat.le_of_ble_eq_true rfl, Nat.le_of_ble_eq_true rfl⟩ rfl rfl (List.mem_of_getElem? (i := 3) rfl) kw_73 rfl dX5_init_20) (fun _ => ⟨_, rfl⟩) rfl rfl) <|
  rx_ac (rx_sd_putf (C := RX5) (T := TX5) (N := 7) (ty0 := tyX5) in_X5 tyX5_ok nmX5 rfl (by decide) kw_246 (Or.inr ⟨rfl, rfl, rfl⟩) rfl dX5_init_23) <|
  rx_ac (rx_sd_aload_n dX5_init_26 rfl) <|
  rx_ac (rx_sd_new (M := m_X5_init) (C := RX8) (T := TX8) (N := 4) (ty := tyX8) in_X8 tyX8_ok rfl kw_244 kw_70 kw_71 df_X8 rfl (cs_X8 σ) dX5_init_27) <|
  rx_ac (rx_sd_dup dX5_init_30) <|
  rx_ac (rx_sd_cl (M := m_X5_init) (rx_lk_IN gok (host := "SeedBench") (mid := 79) (ci := 8) (C := (RX8, TX8, 4)) ⟨kw_72, kw_71, hd_X8_init, Nat.le_of_ble_eq_true rfl, Nat.le_of_ble_eq_true rfl⟩ rfl rfl (List.mem_of_getElem? (i := 3) rfl) kw_73 rfl dX5_init_31) (fun _ => ⟨_, rfl⟩) rfl rfl) <|
  rx_ac (rx_sd_putf (C := RX5) (T := TX5) (N := 7) (ty0 := tyX5) in_X5 tyX5_ok nmX5 rfl (by decide) kw_247 (Or.inr ⟨rfl, rfl, rfl⟩) rfl dX5_init_34) <|
  rx_ac (rx_sd_aload_n dX5_init_37 rfl) <|
  rx_ac (rx_sd_new (M := m_X5_init) (C := RX8) (T := TX8) (N := 4) (ty := tyX8) in_X8 tyX8_ok rfl kw_244 kw_70 kw_71 df_X8 rfl (cs_X8 σ) dX5_init_38) <|
  rx_ac (rx_sd_dup dX5_init_41) <|
  rx_ac (rx_sd_cl (M := m_X5_init) (rx_lk_IN gok (host := "SeedBench") (mid := 79) (ci := 8) (C := (RX8, TX8, 4)) ⟨kw_72, kw_71, hd_X8_init, Nat.le_of_ble_eq_true rfl, Nat.le_of_ble_eq_true rfl⟩ rfl rfl (List.mem_of_getElem? (i := 3) rfl) kw_73 rfl dX5_init_42) (fun _ => ⟨_, rfl⟩) rfl rfl) <|
  rx_ac (rx_sd_putf (C := RX5) (T := TX5) (N := 7) (ty0 := tyX5) in_X5 tyX5_ok nmX5 rfl (by decide) kw_248 (Or.inr ⟨rfl, rfl, rfl⟩) rfl dX5_init_45) <|
  rx_ac (rx_sd_aload_n dX5_init_48 rfl) <|
  rx_ac (rx_sd_new (M := m_X5_init) (C := RX8) (T := TX8) (N := 4) (ty := tyX8) in_X8 tyX8_ok rfl kw_244 kw_70 kw_71 df_X8 rfl (cs_X8 σ) dX5_init_49) <|
  rx_ac (rx_sd_dup dX5_init_52) <|
  rx_ac (rx_sd_cl (M := m_X5_init) (rx_lk_IN gok (host := "SeedBench") (mid := 79) (ci := 8) (C := (RX8, TX8, 4)) ⟨kw_72, kw_71, hd_X8_init, Nat.le_of_ble_eq_true rfl, Nat.le_of_ble_eq_true rfl⟩ rfl rfl (List.mem_of_getElem? (i := 3) rfl) kw_73 rfl dX5_init_53) (fun _ => ⟨_, rfl⟩) rfl rfl) <|
  rx_ac (rx_sd_putf (C := RX5) (T := TX5) (N := 7) (ty0 := tyX5) in_X5 tyX5_ok nmX5 rfl (by decide) kw_249 (Or.inr ⟨rfl, rfl, rfl⟩) rfl dX5_init_56) <|
  rx_ac (rx_sd_aload_n dX5_init_59 rfl) <|
  rx_ac (rx_sd_bipush dX5_init_60 (by decide)) <|
  rx_ac (rx_sd_newI (M := m_X5_init) ⟨rfl, rfl, rfl⟩ kw_49 rfl dX5_init_62) <|
  rx_ac (rx_sd_putf (C := RX5) (T := TX5) (N := 7) (ty0 := tyX5) in_X5 tyX5_ok nmX5 rfl (by decide) kw_250 (Or.inr ⟨rfl, rfl, rfl⟩) rfl dX5_init_64) <|
  rx_ac (rx_sd_aload_n dX5_init_67 rfl) <|
  rx_ac (rx_sd_bipush dX5_init_68 (by decide)) <|
  rx_ac (rx_sd_newI (M := m_X5_init) ⟨rfl, rfl, rfl⟩ kw_49 rfl dX5_init_70) <|
  rx_ac (rx_sd_putf (C := RX5) (T := TX5) (N := 7) (ty0 := tyX5) in_X5 tyX5_ok nmX5 rfl (by decide) kw_251 (Or.inr ⟨rfl, rfl, rfl⟩) rfl dX5_init_72) <|
  rx_ac (rx_sd_ret0 (M := m_X5_init) rfl dX5_init_75) <|
  rx_an
