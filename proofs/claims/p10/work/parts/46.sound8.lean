set_option maxRecDepth 100000 in
set_option maxHeartbeats 4000000 in
theorem s_X10_what {l : Launch} {D : va_G} {cy : Nat → ClassId} {σ : Nat → Int32} : ∀ q ∈ p_X10_what, rx_Sd (gG l D cy σ) mt m_X10_what q.1 q.2 :=
  ck_all (H := h_X10_what) (P := o_X10_what) rfl rfl rfl rfl rfl rfl (by decide +kernel) <|
  o_an
set_option maxRecDepth 100000 in
set_option maxHeartbeats 4000000 in
theorem s_X10_without {l : Launch} {D : va_G} {cy : Nat → ClassId} {σ : Nat → Int32} : ∀ q ∈ p_X10_without, rx_Sd (gG l D cy σ) mt m_X10_without q.1 q.2 :=
  ck_all (H := h_X10_without) (P := o_X10_without) rfl rfl rfl rfl rfl rfl (by decide +kernel) <|
  o_an
