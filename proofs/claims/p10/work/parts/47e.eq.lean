/-! equal worlds, worked out -/
def rx_beqE (a b : rx_E) : Bool := match a, b with
  | .inl (c, fs), .inl (c', fs') => Nat.beq c c' && decide (fs = fs')
  | .inr (t, n, u, d), .inr (t', n', u', d') => Nat.beq t t' && (Nat.beq n n' && (decide (u = u') && decide (d = d')))
  | _, _ => false
theorem rx_beqE_ok {a b : rx_E} (h : rx_beqE a b = true) : a = b := by
  match a, b, h with
  | .inl (c, fs), .inl (c', fs'), h =>
    simp only [rx_beqE, Bool.and_eq_true, decide_eq_true_eq] at h
    rw [Nat.eq_of_beq_eq_true h.1, h.2]
  | .inr (t, n, u, d), .inr (t', n', u', d'), h =>
    simp only [rx_beqE, Bool.and_eq_true, decide_eq_true_eq] at h
    rw [Nat.eq_of_beq_eq_true h.1, Nat.eq_of_beq_eq_true h.2.1, h.2.2.1, h.2.2.2]
  | .inl _, .inr _, h => cases h
  | .inr _, .inl _, h => cases h
def rx_beqW : rx_W → rx_W → Bool
  | [], [] => true
  | a :: s, b :: t => rx_beqE a b && rx_beqW s t
  | _, _ => false
theorem rx_beqW_ok : ∀ {a b : rx_W}, rx_beqW a b = true → a = b
  | [], [], _ => rfl
  | a :: s, b :: t, h => by
    simp only [rx_beqW, Bool.and_eq_true] at h
    rw [rx_beqE_ok h.1, rx_beqW_ok h.2]
  | [], _ :: _, h => by cases h
  | _ :: _, [], h => by cases h
def rx_isN (o : Option rx_R) (w : rx_W) : Bool := match o with
  | some (none, w') => rx_beqW w' w
  | _ => false
theorem rx_isN_ok {o : Option rx_R} {w : rx_W} (h : rx_isN o w = true) : o = some (none, w) := by
  unfold rx_isN at h
  split at h
  · rw [rx_beqW_ok h]
  · cases h
def rx_isV (o : Option rx_R) (v : Value) : Bool := match o with
  | some (some v', _) => decide (v' = v)
  | _ => false
theorem rx_isV_ok {o : Option rx_R} {v : Value} (h : rx_isV o v = true) : o.map Prod.fst = some (some v) := by
  unfold rx_isV at h
  split at h
  · rw [← of_decide_eq_true h]; rfl
  · cases h
