theorem mt_all {l : Launch} {D : va_G} {cy : Nat → ClassId} {σ : Nat → Int32} {Y : rx_Y} (hY : rx_YOk Y σ) : rx_All (gG l D cy σ) (mt Y) := by sorry
/-- what a run of known values says of the real machine -/
theorem ev_met {l : Launch} {D : va_G} {cy : Nat → ClassId} {σ : Nat → Int32} {Y : rx_Y} (hY : rx_YOk Y σ) {n mid : Nat} {a : List Value} {W0 : rx_W} {v : Option Value} (h : (rx_call (mt Y) n mid a W0).map Prod.fst = some v) : ∃ ws' : rx_W, ∀ (ρ : List Nat) (cws : va_W) (sz : Nat) (ca : List Value), rx_w ρ σ cy W0 cws → rx_l ρ σ a ca →
    Met l (mt Y mid).1 (rx_ws (gG l D cy σ) (mt Y mid)) (mt Y mid).2.2.2.2.1 (rx_Pc (gG l D cy σ) ca cws sz) (rx_Q (gG l D cy σ) ρ (v, ws') (va_A cws sz)) (mt Y mid).2.2.2.2.1.cells (mt Y mid).2.2.2.2.1.slots (va_A cws sz) := by
  obtain ⟨⟨v', ws'⟩, h1, h2⟩ := Option.map_eq_some_iff.mp h
  cases h2
  exact ⟨ws', fun ρ cws sz ca hw ha => (rx_sound (mt_all hY) n).1 mid a W0 _ h1 ρ cws sz ca hw ha⟩
