/-! Mill.takeAway: it writes into the sum's numbers alone -/
theorem srt_takeAway : pm_srt o_X5_takeAway = true := by decide +kernel
theorem pp_bi_r (x y : Int) : -2147483648 ≤ pp_bi 0 x y ∧ pp_bi 0 x y ≤ 2147483647 := by
  show -2147483648 ≤ w32 (x + y) ∧ w32 (x + y) ≤ 2147483647
  unfold w32; omega
theorem pp_bi_s (x y : Int) : -2147483648 ≤ pp_bi 1 x y ∧ pp_bi 1 x y ≤ 2147483647 := by
  show -2147483648 ≤ w32 (x - y) ∧ w32 (x - y) ≤ 2147483647
  unfold w32; omega
theorem pp_lb_s (x y : Int) : -9223372036854775808 ≤ pp_lb 1 x y ∧ pp_lb 1 x y ≤ 9223372036854775807 := by
  show -9223372036854775808 ≤ w64 (x - y) ∧ w64 (x - y) ≤ 9223372036854775807
  unfold w64; omega
def tk_M : List Nat := [10014, 10018]
/-- of the arrays of numbers n alone may have changed -/
def k14 (A B : pm_A) (n : Int) : Prop := ∀ q j : Int, wX.2 q = 14 → ¬ q = n → B q j = A q j
def tk_I (A B : pm_A) (s : Int) : Prop := gH wX B ∧ gFr wX tk_M A B ∧ k14 A B (A s 2)
def tk_post (A : pm_A) (s : Int) (r : pm_R) : Prop := ∃ x, r.1 = some (0, x) ∧ 0 ≤ x ∧ x ≤ 1 ∧ tk_I A r.2 s
def tk_H (m s d l n w : Int) : Prop := (0 ≤ m ∧ wX.2 m = 4) ∧ (0 ≤ s ∧ wX.2 s = 2) ∧ (0 ≤ d ∧ wX.2 d = 2) ∧ (0 ≤ l ∧ l ≤ 199) ∧ r64 n ∧ (0 ≤ w ∧ w ≤ 12)
def tk_L (m s d l n w f t : Int) (v : pm_V) : List pm_V := [(2, m), (2, s), (0, l), (2, d), (1, n), (9, 0), (0, w), (0, f), (0, t), v]
theorem tk_s2 {A B : pm_A} {s : Int} (hI : tk_I A B s) (hs0 : 0 ≤ s) (hsk : wX.2 s = 2) : B s 2 = A s 2 := hI.2.1 s 2 hs0 (by omega) (by unfold mcode; rw [shX_2 hsk]; show ¬ 802 ∈ tk_M; decide)
theorem mul_lt {t w v : Int} (ht0 : 0 ≤ t) (ht : t ≤ 199) (hw0 : 0 ≤ w) (hw : w ≤ 12) (hv0 : 0 ≤ v) (hv : v < w) : 0 ≤ t * w ∧ t * w ≤ 2388 ∧ t * w + v < 2400 := by
  have h1 : t * w ≤ 199 * 12 := Int.mul_le_mul ht hw hw0 (by omega)
  have h0 : 0 ≤ t * w := Int.mul_nonneg ht0 hw0
  omega
theorem tk_24 {A : pm_A} {m s d l n w f t : Int} (hh : tk_H m s d l n w) (ht0 : 0 ≤ t) (ht : t ≤ 199) (H : ∀ C v, tk_I A C s → Tm pmt (an_sh wX) o_X5_takeAway 65 ([(2, m), (2, s), (0, l), (2, d), (1, n), (9, 0), (0, w), (0, f), (0, t), v], [], C) (tk_post A s)) : ∀ (k : Nat) (v : Int) (B : pm_A), (w - v).toNat < k → 0 ≤ v → v ≤ w → tk_I A B s → Tm pmt (an_sh wX) o_X5_takeAway 24 ([(2, m), (2, s), (0, l), (2, d), (1, n), (9, 0), (0, w), (0, f), (0, t), (0, v)], [], B) (tk_post A s) := by
  obtain ⟨⟨m0, mk⟩, ⟨s0, sk⟩, ⟨d0, dk⟩, hl, hn, hw⟩ := hh
  intro k
  induction k with
  | zero => intro v B h; omega
  | succ k ih =>
    intro v B hk hv0 hv1 hI
    have hI0 := hI
    obtain ⟨h1, h2, h3⟩ := hI
    have y0 := fX_4_5 h1 m0 mk
    have g0 := fX_4_6 h1 m0 mk
    have p0 := fX_2_3 h1 d0 dk
    refine wq_ok srt_takeAway (fr := [57]) (cuts := [24, 65]) (J := fun pc st => (pc = 65 ∧ st = ([(2, m), (2, s), (0, l), (2, d), (1, n), (9, 0), (0, w), (0, f), (0, t), (0, v)], [], B)) ∨ (pc = 24 ∧ v < w ∧ st = ([(2, m), (2, s), (0, l), (2, d), (1, n), (9, 0), (0, w), (0, f), (0, t), (0, v + 1)], [], pm_upd B (B m 5) v (pp_bi 0 (B (B m 6) v) (B (B d 3) (t * w + v)))))) ?_ 30 24 _ ?_
    · rintro pc st (⟨rfl, rfl⟩ | ⟨rfl, hv, rfl⟩)
      · exact H B _ hI0
      · refine ih (v + 1) _ (by omega) (by omega) (by omega) ⟨uX_18 h1 y0.2 (pp_bi_r _ _).1 (pp_bi_r _ _).2, gFr_upd h2 (mX_18 y0.2 rfl), fun q j hq hne => ?_⟩
        rw [upd_ne (fun e => by rw [e, y0.2] at hq; exact absurd hq (by decide))]
        exact h3 q j hq hne
    · refine ⟨fun h => Or.inl ⟨rfl, rfl⟩, fun h => ?_⟩
      obtain ⟨q0, q1, q2⟩ := mul_lt ht0 ht hw.1 hw.2 hv0 h
      refine ⟨oX_4 m0 mk 5 rfl, ?_⟩
      refine ⟨oX_4 m0 mk 6 rfl, ?_⟩
      refine ⟨aX_18 g0.1 g0.2 hv0 (by omega), ?_⟩
      refine ⟨oX_2 d0 dk 3 rfl, ?_⟩
      refine ⟨⟨by omega, by omega⟩, ?_⟩
      refine ⟨⟨by omega, by omega⟩, ?_⟩
      refine ⟨aX_15 p0.1 p0.2 (by omega) (by omega), ?_⟩
      refine ⟨tX_18 y0.1 y0.2 hv0 (by omega) rfl, ?_⟩
      refine ⟨⟨by omega, by omega⟩, ?_⟩
      exact Or.inr ⟨rfl, h, rfl⟩
theorem tk_84 {A B : pm_A} {m s d l n w f t x : Int} (hh : tk_H m s d l n w) (ht0 : 0 ≤ t) (ht : t ≤ 199) (hx0 : 0 ≤ x) (hx : x ≤ 199) (hI : tk_I A B s) (H : ∀ C v, tk_I A C s → Tm pmt (an_sh wX) o_X5_takeAway 12 ([(2, m), (2, s), (0, l), (2, d), (1, n), (9, 0), (0, w), (0, x + 1), (0, t + 1), v], [], C) (tk_post A s)) : Tm pmt (an_sh wX) o_X5_takeAway 84 ([(2, m), (2, s), (0, l), (2, d), (1, n), (9, 0), (0, w), (0, f), (0, t), (0, x)], [], B) (tk_post A s) := by
  obtain ⟨⟨m0, mk⟩, ⟨s0, sk⟩, ⟨d0, dk⟩, hl, hn, hw⟩ := hh
  have es := tk_s2 hI s0 sk
  obtain ⟨h1, h2, h3⟩ := hI
  have n0 := fX_2_2 h1 s0 sk
  have n1 := fX_2_2 h1 d0 dk
  refine wq_ok srt_takeAway (fr := [101, 102]) (cuts := [12]) (J := fun pc st => pc = 12 ∧ st = ([(2, m), (2, s), (0, l), (2, d), (1, n), (9, 0), (0, w), (0, x + 1), (0, t + 1), (0, x)], [], pm_upd B (B s 2) x (pp_lb 1 (B (B s 2) x) (pp_lb 2 n (B (B d 2) t))))) ?_ 30 84 _ ?_
  · rintro pc st ⟨rfl, rfl⟩
    refine H _ _ ⟨uX_14 h1 n0.2 (pp_lb_s _ _).1 (pp_lb_s _ _).2, gFr_upd h2 (mX_14 n0.2 rfl), fun q j hq hne => ?_⟩
    rw [upd_ne (by rw [es]; exact hne)]
    exact h3 q j hq hne
  · refine ⟨oX_2 s0 sk 2 rfl, ?_⟩
    refine ⟨aX_14 n0.1 n0.2 hx0 (by omega), ?_⟩
    refine ⟨oX_2 d0 dk 2 rfl, ?_⟩
    refine ⟨aX_14 n1.1 n1.2 ht0 (by omega), ?_⟩
    refine ⟨tX_14 n0.1 n0.2 hx0 (by omega) rfl, ?_⟩
    refine ⟨⟨by omega, by omega⟩, ?_⟩
    refine ⟨⟨by omega, by omega⟩, ?_⟩
    exact ⟨rfl, rfl⟩
theorem tk_65 {A B : pm_A} {m s d l n w f t : Int} {v : pm_V} (hh : tk_H m s d l n w) (ht0 : 0 ≤ t) (ht : t ≤ 199) (hf0 : 0 ≤ f) (hf : f ≤ 200) (hI : tk_I A B s) (H : ∀ C v x, 0 ≤ x → x ≤ 199 → tk_I A C s → Tm pmt (an_sh wX) o_X5_takeAway 12 ([(2, m), (2, s), (0, l), (2, d), (1, n), (9, 0), (0, w), (0, x + 1), (0, t + 1), v], [], C) (tk_post A s)) : Tm pmt (an_sh wX) o_X5_takeAway 65 ([(2, m), (2, s), (0, l), (2, d), (1, n), (9, 0), (0, w), (0, f), (0, t), v], [], B) (tk_post A s) := by
  have hh0 := hh
  have hI0 := hI
  obtain ⟨⟨m0, mk⟩, ⟨s0, sk⟩, ⟨d0, dk⟩, hl, hn, hw⟩ := hh
  obtain ⟨h1, h2, h3⟩ := hI
  have y0 := fX_4_5 h1 m0 mk
  have l0 := fX_2_1 h1 s0 sk
  refine wq_ok srt_takeAway (fr := []) (cuts := [84]) (J := fun pc st => pc = 84 ∧ ∃ x : Int, (0 ≤ x ∧ x ≤ 199) ∧ st = ([(2, m), (2, s), (0, l), (2, d), (1, n), (9, 0), (0, w), (0, f), (0, t), (0, x)], [], B)) ?_ 30 65 _ ?_
  · rintro pc st ⟨rfl, x, hx, rfl⟩
    exact tk_84 hh0 ht0 ht hx.1 hx.2 hI0 (fun C v hC => H C v x hx.1 hx.2 hC)
  · refine ⟨oX_4 m0 mk 5 rfl, ?_⟩
    refine ⟨rX_2 s0 sk, ?_⟩
    refine (find_ct h1 s0 sk y0.1 y0.2 hf0 hf).imp ?_
    rintro r ⟨x, rfl, x1, x2⟩
    refine ⟨fun h => ?_, fun h => ?_⟩
    · exact ⟨rfl, x, ⟨h, by have := (x1 h).2; omega⟩, rfl⟩
    · exact ⟨rfl, 0, rfl, by omega, by omega, hI0⟩
theorem tk_12 {A : pm_A} {m s d l n w : Int} (hh : tk_H m s d l n w) : ∀ (k : Nat) (t f : Int) (v : pm_V) (B : pm_A), (200 - t).toNat < k → 0 ≤ t → t ≤ 200 → 0 ≤ f → f ≤ 200 → tk_I A B s → Tm pmt (an_sh wX) o_X5_takeAway 12 ([(2, m), (2, s), (0, l), (2, d), (1, n), (9, 0), (0, w), (0, f), (0, t), v], [], B) (tk_post A s) := by
  intro k
  induction k with
  | zero => intro t f v B h; omega
  | succ k ih =>
    intro t f v B hk ht0 ht1 hf0 hf1 hI
    have hh0 := hh
    have hI0 := hI
    obtain ⟨⟨m0, mk⟩, ⟨s0, sk⟩, ⟨d0, dk⟩, hl, hn, hw⟩ := hh
    obtain ⟨h1, h2, h3⟩ := hI
    have l0 := fX_2_1 h1 d0 dk
    have n0 := fX_2_2 h1 s0 sk
    refine wq_ok srt_takeAway (fr := []) (cuts := [24]) (J := fun pc st => pc = 24 ∧ t < B d 1 ∧ st = ([(2, m), (2, s), (0, l), (2, d), (1, n), (9, 0), (0, w), (0, f), (0, t), (0, 0)], [], B)) ?_ 30 12 _ ?_
    · rintro pc st ⟨rfl, ht, rfl⟩
      refine tk_24 hh0 ht0 (by omega) (fun C v hC => ?_) _ 0 B (Nat.lt_succ_self _) (by omega) hw.1 hI0
      refine tk_65 hh0 ht0 (by omega) hf0 hf1 hC (fun D v x x0 x1 hD => ?_)
      exact ih (t + 1) (x + 1) v D (by omega) (by omega) (by omega) (by omega) (by omega) hD
    · refine ⟨oX_2 d0 dk 1 rfl, ?_⟩
      refine ⟨fun h => ?_, fun h => ?_⟩
      · refine ⟨oX_2 s0 sk 2 rfl, ?_⟩
        refine ⟨aX_14 n0.1 n0.2 hl.1 (by omega), ?_⟩
        refine ⟨fun _ => ?_, fun _ => ?_, fun _ => ?_⟩
        · refine ⟨fun _ => ?_, fun q => absurd q (by decide)⟩
          exact ⟨rfl, 0, rfl, by omega, by omega, hI0⟩
        · refine ⟨fun q => absurd rfl q, fun _ => ?_⟩
          exact ⟨rfl, 1, rfl, by omega, by omega, hI0⟩
        · refine ⟨fun _ => ?_, fun q => absurd q (by decide)⟩
          exact ⟨rfl, 0, rfl, by omega, by omega, hI0⟩
      · exact ⟨rfl, h, rfl⟩
theorem take_ct {A : pm_A} {m s d l n : Int} (hA : gH wX A) (hm : 0 ≤ m ∧ wX.2 m = 4) (hs : 0 ≤ s ∧ wX.2 s = 2) (hd : 0 ≤ d ∧ wX.2 d = 2) (hl : 0 ≤ l ∧ l ≤ 199) (hn : r64 n) : Cl pmt (an_sh wX) 48 [(2, m), (2, s), (0, l), (2, d), (1, n)] A (tk_post A s) := by
  have w0 := fX_2_0 hA hs.1 hs.2
  refine Cl.of (Nat.le_of_ble_eq_true rfl) ?_
  refine wq_ok (full := o_X5_takeAway) srt_takeAway (fr := []) (cuts := [12]) (J := fun pc st => pc = 12 ∧ ∃ v, st = ([(2, m), (2, s), (0, l), (2, d), (1, n), (9, 0), (0, A s 0), (0, l), (0, 0), v], [], A)) ?_ 20 0 _ ?_
  · rintro pc st ⟨rfl, v, rfl⟩
    exact tk_12 ⟨hm, hs, hd, hl, hn, w0⟩ _ 0 l v A (Nat.lt_succ_self _) (by omega) (by omega) hl.1 (by omega) ⟨hA, fun _ _ _ _ _ => rfl, fun _ _ _ _ => rfl⟩
  · refine ⟨oX_2 hs.1 hs.2 0 rfl, ?_⟩
    exact ⟨rfl, _, rfl⟩
