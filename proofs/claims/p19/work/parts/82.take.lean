section
/-! Mill.takeAway: it writes into the sum's numbers alone -/
theorem srt_takeAway : pm_srt o_X5_takeAway = true := by decide +kernel
theorem pp_bi_r (x y : Int) : -2147483648 ≤ pp_bi 0 x y ∧ pp_bi 0 x y ≤ 2147483647 := by
  show -2147483648 ≤ w32 (x + y) ∧ w32 (x + y) ≤ 2147483647
  unfold w32; omega
theorem pp_bi_s (x y : Int) : -2147483648 ≤ pp_bi 1 x y ∧ pp_bi 1 x y ≤ 2147483647 := by
  show -2147483648 ≤ w32 (x - y) ∧ w32 (x - y) ≤ 2147483647
  unfold w32; omega
theorem pp_lb_s (x y : Int) : -9223372036854775808 ≤ pp_lb 1 x y ∧ pp_lb 1 x y ≤ 9223372036854775807 := by
  show -9223372036854775808 ≤ w64 (x - y) ∧ w64 (x - y) ≤ 9223372036854775807
  unfold w64; omega
def tk_M : List Nat := [10014, 10018]
/-- of the arrays of numbers n alone may have changed -/
def k14 (A B : pm_A) (n : Int) : Prop := ∀ q j : Int, wX.2 q = 14 → ¬ q = n → B q j = A q j
def tk_I (A B : pm_A) (s : Int) : Prop := gH wX B ∧ gFr wX tk_M A B ∧ k14 A B (A s 2)
def tk_post (A : pm_A) (s : Int) (r : pm_R) : Prop := ∃ x, r.1 = some (0, x) ∧ 0 ≤ x ∧ x ≤ 1 ∧ tk_I A r.2 s
def tk_H (m s d l n w : Int) : Prop := (0 ≤ m ∧ wX.2 m = 4) ∧ (0 ≤ s ∧ wX.2 s = 2) ∧ (0 ≤ d ∧ wX.2 d = 2) ∧ (0 ≤ l ∧ l ≤ 199) ∧ r64 n ∧ (0 ≤ w ∧ w ≤ 12)
def tk_L (m s d l n w f t : Int) (v : pm_V) : List pm_V := [(2, m), (2, s), (0, l), (2, d), (1, n), (9, 0), (0, w), (0, f), (0, t), v]
theorem tk_s2 {A B : pm_A} {s : Int} (hI : tk_I A B s) (hs0 : 0 ≤ s) (hsk : wX.2 s = 2) : B s 2 = A s 2 := hI.2.1 s 2 hs0 (by omega) (by unfold mcode; rw [shX_2 hsk]; show ¬ 802 ∈ tk_M; decide)
theorem mul_lt {t w v : Int} (ht0 : 0 ≤ t) (ht : t ≤ 199) (hw0 : 0 ≤ w) (hw : w ≤ 12) (hv0 : 0 ≤ v) (hv : v < w) : 0 ≤ t * w ∧ t * w ≤ 2388 ∧ t * w + v < 2400 := by
  have h1 : t * w ≤ 199 * 12 := Int.mul_le_mul ht hw hw0 (by omega)
  have h0 : 0 ≤ t * w := Int.mul_nonneg ht0 hw0
  omega
theorem tk_24 {A : pm_A} {m s d l n w f t : Int} (hh : tk_H m s d l n w) (ht0 : 0 ≤ t) (ht : t ≤ 199) (H : ∀ C v, tk_I A C s → Tm pmt (an_sh wX) o_X5_takeAway 65 ([(2, m), (2, s), (0, l), (2, d), (1, n), (9, 0), (0, w), (0, f), (0, t), v], [], C) (tk_post A s)) : ∀ (k : Nat) (v : Int) (B : pm_A), (w - v).toNat < k → 0 ≤ v → v ≤ w → tk_I A B s → Tm pmt (an_sh wX) o_X5_takeAway 24 ([(2, m), (2, s), (0, l), (2, d), (1, n), (9, 0), (0, w), (0, f), (0, t), (0, v)], [], B) (tk_post A s) := by
  obtain ⟨⟨m0, mk⟩, ⟨s0, sk⟩, ⟨d0, dk⟩, hl, hn, hw⟩ := hh
  intro k
  induction k with
  | zero => intro v B h; omega
  | succ k ih =>
    intro v B hk hv0 hv1 hI
    have hI0 := hI
    obtain ⟨h1, h2, h3⟩ := hI
    have y0 := fX_4_5 h1 m0 mk
    have g0 := fX_4_6 h1 m0 mk
    have p0 := fX_2_3 h1 d0 dk
    refine wq_ok srt_takeAway (fr := [57]) (cuts := [24, 65]) (J := fun pc st => (pc = 65 ∧ st = ([(2, m), (2, s), (0, l), (2, d), (1, n), (9, 0), (0, w), (0, f), (0, t), (0, v)], [], B)) ∨ (pc = 24 ∧ v < w ∧ st = ([(2, m), (2, s), (0, l), (2, d), (1, n), (9, 0), (0, w), (0, f), (0, t), (0, v + 1)], [], pm_upd B (B m 5) v (pp_bi 0 (B (B m 6) v) (B (B d 3) (t * w + v)))))) ?_ 30 24 _ ?_
    · rintro pc st (⟨rfl, rfl⟩ | ⟨rfl, hv, rfl⟩)
      · exact H B _ hI0
      · refine ih (v + 1) _ (by omega) (by omega) (by omega) ⟨uX_18 h1 y0.2 (pp_bi_r _ _).1 (pp_bi_r _ _).2, gFr_upd h2 (mX_18 y0.2 rfl), fun q j hq hne => ?_⟩
        rw [upd_ne (fun e => by rw [e, y0.2] at hq; exact absurd hq (by decide))]
        exact h3 q j hq hne
    · refine ⟨fun h => Or.inl ⟨rfl, rfl⟩, fun h => ?_⟩
      obtain ⟨q0, q1, q2⟩ := mul_lt ht0 ht hw.1 hw.2 hv0 h
      refine ⟨oX_4 m0 mk 5 rfl, ?_⟩
      refine ⟨oX_4 m0 mk 6 rfl, ?_⟩
      refine ⟨aX_18 g0.1 g0.2 hv0 (by omega), ?_⟩
      refine ⟨oX_2 d0 dk 3 rfl, ?_⟩
      refine ⟨⟨by omega, by omega⟩, ?_⟩
      refine ⟨⟨by omega, by omega⟩, ?_⟩
      refine ⟨aX_15 p0.1 p0.2 (by omega) (by omega), ?_⟩
      refine ⟨tX_18 y0.1 y0.2 hv0 (by omega) rfl, ?_⟩
      refine ⟨⟨by omega, by omega⟩, ?_⟩
      exact Or.inr ⟨rfl, h, rfl⟩
theorem tk_84 {A B : pm_A} {m s d l n w f t x : Int} (hh : tk_H m s d l n w) (ht0 : 0 ≤ t) (ht : t ≤ 199) (hx0 : 0 ≤ x) (hx : x ≤ 199) (hI : tk_I A B s) (H : ∀ C v, tk_I A C s → Tm pmt (an_sh wX) o_X5_takeAway 12 ([(2, m), (2, s), (0, l), (2, d), (1, n), (9, 0), (0, w), (0, x + 1), (0, t + 1), v], [], C) (tk_post A s)) : Tm pmt (an_sh wX) o_X5_takeAway 84 ([(2, m), (2, s), (0, l), (2, d), (1, n), (9, 0), (0, w), (0, f), (0, t), (0, x)], [], B) (tk_post A s) := by
  obtain ⟨⟨m0, mk⟩, ⟨s0, sk⟩, ⟨d0, dk⟩, hl, hn, hw⟩ := hh
  have es := tk_s2 hI s0 sk
  obtain ⟨h1, h2, h3⟩ := hI
  have n0 := fX_2_2 h1 s0 sk
  have n1 := fX_2_2 h1 d0 dk
  refine wq_ok srt_takeAway (fr := [101, 102]) (cuts := [12]) (J := fun pc st => pc = 12 ∧ st = ([(2, m), (2, s), (0, l), (2, d), (1, n), (9, 0), (0, w), (0, x + 1), (0, t + 1), (0, x)], [], pm_upd B (B s 2) x (pp_lb 1 (B (B s 2) x) (pp_lb 2 n (B (B d 2) t))))) ?_ 30 84 _ ?_
  · rintro pc st ⟨rfl, rfl⟩
    refine H _ _ ⟨uX_14 h1 n0.2 (pp_lb_s _ _).1 (pp_lb_s _ _).2, gFr_upd h2 (mX_14 n0.2 rfl), fun q j hq hne => ?_⟩
    rw [upd_ne (by rw [es]; exact hne)]
    exact h3 q j hq hne
  · refine ⟨oX_2 s0 sk 2 rfl, ?_⟩
    refine ⟨aX_14 n0.1 n0.2 hx0 (by omega), ?_⟩
    refine ⟨oX_2 d0 dk 2 rfl, ?_⟩
    refine ⟨aX_14 n1.1 n1.2 ht0 (by omega), ?_⟩
    refine ⟨tX_14 n0.1 n0.2 hx0 (by omega) rfl, ?_⟩
    refine ⟨⟨by omega, by omega⟩, ?_⟩
    refine ⟨⟨by omega, by omega⟩, ?_⟩
    exact ⟨rfl, rfl⟩
theorem tk_65 {A B : pm_A} {m s d l n w f t : Int} {v : pm_V} (hh : tk_H m s d l n w) (ht0 : 0 ≤ t) (ht : t ≤ 199) (hf0 : 0 ≤ f) (hf : f ≤ 200) (hI : tk_I A B s) (H : ∀ C v x, 0 ≤ x → x ≤ 199 → tk_I A C s → Tm pmt (an_sh wX) o_X5_takeAway 12 ([(2, m), (2, s), (0, l), (2, d), (1, n), (9, 0), (0, w), (0, x + 1), (0, t + 1), v], [], C) (tk_post A s)) : Tm pmt (an_sh wX) o_X5_takeAway 65 ([(2, m), (2, s), (0, l), (2, d), (1, n), (9, 0), (0, w), (0, f), (0, t), v], [], B) (tk_post A s) := by
  have hh0 := hh
  have hI0 := hI
  obtain ⟨⟨m0, mk⟩, ⟨s0, sk⟩, ⟨d0, dk⟩, hl, hn, hw⟩ := hh
  obtain ⟨h1, h2, h3⟩ := hI
  have y0 := fX_4_5 h1 m0 mk
  have l0 := fX_2_1 h1 s0 sk
  refine wq_ok srt_takeAway (fr := []) (cuts := [84]) (J := fun pc st => pc = 84 ∧ ∃ x : Int, (0 ≤ x ∧ x ≤ 199) ∧ st = ([(2, m), (2, s), (0, l), (2, d), (1, n), (9, 0), (0, w), (0, f), (0, t), (0, x)], [], B)) ?_ 30 65 _ ?_
  · rintro pc st ⟨rfl, x, hx, rfl⟩
    exact tk_84 hh0 ht0 ht hx.1 hx.2 hI0 (fun C v hC => H C v x hx.1 hx.2 hC)
  · refine ⟨oX_4 m0 mk 5 rfl, ?_⟩
    refine ⟨rX_2 s0 sk, ?_⟩
    refine (find_ct h1 s0 sk y0.1 y0.2 hf0 hf).imp ?_
    rintro r ⟨x, rfl, x1, x2⟩
    refine ⟨fun h => ?_, fun h => ?_⟩
    · exact ⟨rfl, x, ⟨h, by have := (x1 h).2; omega⟩, rfl⟩
    · exact ⟨rfl, 0, rfl, by omega, by omega, hI0⟩
theorem tk_12 {A : pm_A} {m s d l n w : Int} (hh : tk_H m s d l n w) : ∀ (k : Nat) (t f : Int) (v : pm_V) (B : pm_A), (200 - t).toNat < k → 0 ≤ t → t ≤ 200 → 0 ≤ f → f ≤ 200 → tk_I A B s → Tm pmt (an_sh wX) o_X5_takeAway 12 ([(2, m), (2, s), (0, l), (2, d), (1, n), (9, 0), (0, w), (0, f), (0, t), v], [], B) (tk_post A s) := by
  intro k
  induction k with
  | zero => intro t f v B h; omega
  | succ k ih =>
    intro t f v B hk ht0 ht1 hf0 hf1 hI
    have hh0 := hh
    have hI0 := hI
    obtain ⟨⟨m0, mk⟩, ⟨s0, sk⟩, ⟨d0, dk⟩, hl, hn, hw⟩ := hh
    obtain ⟨h1, h2, h3⟩ := hI
    have l0 := fX_2_1 h1 d0 dk
    have n0 := fX_2_2 h1 s0 sk
    refine wq_ok srt_takeAway (fr := []) (cuts := [24]) (J := fun pc st => pc = 24 ∧ t < B d 1 ∧ st = ([(2, m), (2, s), (0, l), (2, d), (1, n), (9, 0), (0, w), (0, f), (0, t), (0, 0)], [], B)) ?_ 30 12 _ ?_
    · rintro pc st ⟨rfl, ht, rfl⟩
      refine tk_24 hh0 ht0 (by omega) (fun C v hC => ?_) _ 0 B (Nat.lt_succ_self _) (by omega) hw.1 hI0
      refine tk_65 hh0 ht0 (by omega) hf0 hf1 hC (fun D v x x0 x1 hD => ?_)
      exact ih (t + 1) (x + 1) v D (by omega) (by omega) (by omega) (by omega) (by omega) hD
    · refine ⟨oX_2 d0 dk 1 rfl, ?_⟩
      refine ⟨fun h => ?_, fun h => ?_⟩
      · refine ⟨oX_2 s0 sk 2 rfl, ?_⟩
        refine ⟨aX_14 n0.1 n0.2 hl.1 (by omega), ?_⟩
        refine ⟨fun _ => ?_, fun _ => ?_, fun _ => ?_⟩
        · refine ⟨fun _ => ?_, fun q => absurd q (by decide)⟩
          exact ⟨rfl, 0, rfl, by omega, by omega, hI0⟩
        · refine ⟨fun q => absurd rfl q, fun _ => ?_⟩
          exact ⟨rfl, 1, rfl, by omega, by omega, hI0⟩
        · refine ⟨fun _ => ?_, fun q => absurd q (by decide)⟩
          exact ⟨rfl, 0, rfl, by omega, by omega, hI0⟩
      · exact ⟨rfl, h, rfl⟩
theorem take_ct {A : pm_A} {m s d l n : Int} (hA : gH wX A) (hm : 0 ≤ m ∧ wX.2 m = 4) (hs : 0 ≤ s ∧ wX.2 s = 2) (hd : 0 ≤ d ∧ wX.2 d = 2) (hl : 0 ≤ l ∧ l ≤ 199) (hn : r64 n) : Cl pmt (an_sh wX) 48 [(2, m), (2, s), (0, l), (2, d), (1, n)] A (tk_post A s) := by
  have w0 := fX_2_0 hA hs.1 hs.2
  refine Cl.of (Nat.le_of_ble_eq_true rfl) ?_
  refine wq_ok (full := o_X5_takeAway) srt_takeAway (fr := []) (cuts := [12]) (J := fun pc st => pc = 12 ∧ ∃ v, st = ([(2, m), (2, s), (0, l), (2, d), (1, n), (9, 0), (0, A s 0), (0, l), (0, 0), v], [], A)) ?_ 20 0 _ ?_
  · rintro pc st ⟨rfl, v, rfl⟩
    exact tk_12 ⟨hm, hs, hd, hl, hn, w0⟩ _ 0 l v A (Nat.lt_succ_self _) (by omega) (by omega) hl.1 (by omega) ⟨hA, fun _ _ _ _ _ => rfl, fun _ _ _ _ => rfl⟩
  · refine ⟨oX_2 hs.1 hs.2 0 rfl, ?_⟩
    exact ⟨rfl, _, rfl⟩
end

section
/-! Mill.divide -/
theorem srt_divide : pm_srt o_X5_divide = true := by decide +kernel
def dv_M : List Nat := [800, 801, 10014, 10015, 10018]
def dv_post (A : pm_A) (r : pm_R) : Prop := ∃ x, r.1 = some (0, x) ∧ 0 ≤ x ∧ x ≤ 1 ∧ gH wX r.2 ∧ gFr wX dv_M A r.2
def dv_H (A : pm_A) (m s d w : Int) : Prop := gH wX A ∧ (0 ≤ m ∧ wX.2 m = 4) ∧ (0 ≤ s ∧ wX.2 s = 2) ∧ (0 ≤ d ∧ wX.2 d = 2) ∧ (0 ≤ w ∧ w ≤ 12) ∧ ¬ A (A m 0) 2 = A d 2 ∧ ¬ A s 2 = A d 2
def dv_I (A B : pm_A) (d : Int) : Prop := gH wX B ∧ gFr wX dv_M A B ∧ 1 ≤ B (A d 2) 0
theorem dv_sub {ms : List Nat} (h : ms.all (fun x => dv_M.contains x) = true) : ∀ x ∈ ms, x ∈ dv_M := fun x hx => List.contains_iff_mem.mp (List.all_eq_true.mp h x hx)
theorem dv_same {A B : pm_A} {m s d w : Int} (hh : dv_H A m s d w) (hF : gFr wX dv_M A B) : B m 0 = A m 0 ∧ B (A m 0) 2 = A (A m 0) 2 ∧ B s 2 = A s 2 ∧ B d 2 = A d 2 := by
  obtain ⟨hA, ⟨m0, mk⟩, ⟨s0, sk⟩, ⟨d0, dk⟩, _⟩ := hh
  have f0 := fX_4_0 hA m0 mk
  refine ⟨hF m 0 m0 (by omega) ?_, hF _ 2 f0.1 (by omega) ?_, hF s 2 s0 (by omega) ?_, hF d 2 d0 (by omega) ?_⟩
  · unfold mcode; rw [shX_4 mk]; show ¬ 500 ∈ dv_M; decide
  · unfold mcode; rw [shX_2 f0.2]; show ¬ 802 ∈ dv_M; decide
  · unfold mcode; rw [shX_2 sk]; show ¬ 802 ∈ dv_M; decide
  · unfold mcode; rw [shX_2 dk]; show ¬ 802 ∈ dv_M; decide
theorem dv_138 {A B : pm_A} {m s d w l n x : Int} {v6 : pm_V} (hh : dv_H A m s d w) (hI : dv_I A B d) (hl0 : 0 ≤ l) (hl1 : l ≤ 199) (hn : r64 n) (H : ∀ C v5 v6, dv_I A C d → Tm pmt (an_sh wX) o_X5_divide 36 ([(2, m), (2, s), (2, d), (0, w), (0, l + 1), v5, v6], [], C) (dv_post A)) : Tm pmt (an_sh wX) o_X5_divide 138 ([(2, m), (2, s), (2, d), (0, w), (0, l), (1, n), v6], [(0, x)], B) (dv_post A) := by
  have hh0 := hh
  obtain ⟨hA, ⟨m0, mk⟩, ⟨s0, sk⟩, ⟨d0, dk⟩, hw, ne1, ne2⟩ := hh
  obtain ⟨h1, h2, h3⟩ := hI
  obtain ⟨em, ef, es, ed⟩ := dv_same hh0 h2
  have n0 := fX_2_2 hA d0 dk
  refine wq_ok srt_divide (fr := []) (cuts := [36]) (J := fun pc st => pc = 36 ∧ ∃ C, dv_I A C d ∧ st = ([(2, m), (2, s), (2, d), (0, w), (0, l + 1), (1, n), v6], [], C)) ?_ 30 138 _ ?_
  · rintro pc st ⟨rfl, C, hC, rfl⟩
    exact H C _ _ hC
  · refine ⟨fun h => ?_, fun h => ?_⟩
    · exact ⟨rfl, 0, rfl, by omega, by omega, h1, h2⟩
    · refine ⟨rX_4 m0 mk, ?_⟩
      refine (take_ct h1 ⟨m0, mk⟩ ⟨s0, sk⟩ ⟨d0, dk⟩ ⟨hl0, hl1⟩ hn).imp ?_
      rintro ⟨r1, C⟩ ⟨y, e, y0, y1, c1, c2, c3⟩
      simp only at e c1 c2 c3
      subst e
      have hF := gFr_tr h2 c2 (dv_sub rfl)
      refine ⟨fun h => ?_, fun h => ?_⟩
      · refine ⟨⟨by omega, by omega⟩, ?_⟩
        refine ⟨rfl, C, ⟨c1, hF, ?_⟩, rfl⟩
        rw [c3 (A d 2) 0 n0.2 (by rw [es]; exact fun q => ne2 q.symm)]
        exact h3
      · exact ⟨rfl, 0, rfl, by omega, by omega, c1, hF⟩
theorem dv_102 {A B : pm_A} {m s d w l : Int} {v5 v6 : pm_V} (hh : dv_H A m s d w) (hI : dv_I A B d) (hl0 : 0 ≤ l) (hl1 : l ≤ 199) (H : ∀ C v5 v6, dv_I A C d → Tm pmt (an_sh wX) o_X5_divide 36 ([(2, m), (2, s), (2, d), (0, w), (0, l + 1), v5, v6], [], C) (dv_post A)) : Tm pmt (an_sh wX) o_X5_divide 102 ([(2, m), (2, s), (2, d), (0, w), (0, l), v5, v6], [], B) (dv_post A) := by
  have hh0 := hh
  have hI0 := hI
  obtain ⟨hA, ⟨m0, mk⟩, ⟨s0, sk⟩, ⟨d0, dk⟩, hw, ne1, ne2⟩ := hh
  obtain ⟨h1, h2, h3⟩ := hI
  obtain ⟨em, ef, es, ed⟩ := dv_same hh0 h2
  have f0 := fX_4_0 h1 m0 mk
  have g0 := fX_4_6 h1 m0 mk
  have n0 := fX_2_2 h1 s0 sk
  have n1 := fX_2_2 h1 d0 dk
  have fl := fX_2_1 h1 f0.1 f0.2
  have v0 := eX_14 h1 n0.1 n0.2 hl0 (show l < 200 by omega)
  have v1 := eX_14 h1 n1.1 n1.2 (show (0 : Int) ≤ 0 by omega) (show (0 : Int) < 200 by omega)
  have hp : 1 ≤ B (B d 2) 0 := by rw [ed]; exact h3
  have hq := (i64_quo (x := B (B s 2) l) (y := B (B d 2) 0) v0 v1 (by omega) (fun _ => by omega)).1
  refine wq_ok srt_divide (fr := []) (cuts := [138]) (J := fun pc st => pc = 138 ∧ ∃ x C, dv_I A C d ∧ st = ([(2, m), (2, s), (2, d), (0, w), (0, l), (1, (B (B s 2) l).tdiv (B (B d 2) 0)), (9, 0)], [(0, x)], C)) ?_ 30 102 _ ?_
  · rintro pc st ⟨rfl, x, C, hC, rfl⟩
    exact dv_138 hh0 hC hl0 hl1 hq H
  · refine ⟨oX_2 s0 sk 2 rfl, ?_⟩
    refine ⟨aX_14 n0.1 n0.2 hl0 (by omega), ?_⟩
    refine ⟨oX_2 d0 dk 2 rfl, ?_⟩
    refine ⟨aX_14 n1.1 n1.2 (by omega) (by omega), ?_⟩
    refine ⟨⟨by omega, v0, v1, fun _ => by omega⟩, ?_⟩
    refine ⟨oX_4 m0 mk 0 rfl, ?_⟩
    refine ⟨oX_4 m0 mk 6 rfl, ?_⟩
    refine ⟨oX_4 m0 mk 0 rfl, ?_⟩
    refine ⟨oX_2 f0.1 f0.2 1 rfl, ?_⟩
    refine ⟨rX_2 f0.1 f0.2, ?_⟩
    refine (add_ct h1 (s := B m 0) (c := B m 6) (f := B (B m 0) 1) (n := (B (B s 2) l).tdiv (B (B d 2) 0)) f0.1 f0.2 g0.1 g0.2 hq fl.1 (by omega)).imp ?_
    rintro ⟨r1, C⟩ ⟨x, e, x0, x1, c1, c2, c3, c4⟩
    simp only at e c1 c2 c4
    subst e
    refine ⟨rfl, x, C, ⟨c1, gFr_tr h2 c2 (dv_sub rfl), ?_⟩, rfl⟩
    have nA := fX_2_2 hA d0 dk
    have p0 := fX_2_3 h1 f0.1 f0.2
    rw [c4 (A d 2) 0 (fun q => by rw [q, f0.2] at nA; exact absurd nA.2 (by decide)) (by rw [em, ef]; exact fun q => ne1 q.symm) (fun q => by rw [q, p0.2] at nA; exact absurd nA.2 (by decide))]
    exact h3
theorem dv_63 {A : pm_A} {m s d w l : Int} (hh : dv_H A m s d w) (hl0 : 0 ≤ l) (hl1 : l ≤ 199) (H : ∀ C v5 v6, dv_I A C d → Tm pmt (an_sh wX) o_X5_divide 36 ([(2, m), (2, s), (2, d), (0, w), (0, l + 1), v5, v6], [], C) (dv_post A)) : ∀ (k : Nat) (v : Int) (v6 : pm_V) (B : pm_A), (w - v).toNat < k → 0 ≤ v → v ≤ w → dv_I A B d → Tm pmt (an_sh wX) o_X5_divide 63 ([(2, m), (2, s), (2, d), (0, w), (0, l), (0, v), v6], [], B) (dv_post A) := by
  have hh0 := hh
  obtain ⟨hA, ⟨m0, mk⟩, ⟨s0, sk⟩, ⟨d0, dk⟩, hw, ne1, ne2⟩ := hh
  have nA := fX_2_2 hA d0 dk
  intro k
  induction k with
  | zero => intro v v6 B h; omega
  | succ k ih =>
    intro v v6 B hk hv0 hv1 hI
    have hI0 := hI
    obtain ⟨h1, h2, h3⟩ := hI
    have g0 := fX_4_6 h1 m0 mk
    have p0 := fX_2_3 h1 s0 sk
    have p1 := fX_2_3 h1 d0 dk
    refine wq_ok srt_divide (fr := [94]) (cuts := [63, 102]) (J := fun pc st => (pc = 102 ∧ st = ([(2, m), (2, s), (2, d), (0, w), (0, l), (0, v), v6], [], B)) ∨ (pc = 63 ∧ v < w ∧ st = ([(2, m), (2, s), (2, d), (0, w), (0, l), (0, v + 1), v6], [], pm_upd B (B m 6) v (pp_bi 1 (B (B s 3) (l * w + v)) (B (B d 3) v))))) ?_ 30 63 _ ?_
    · rintro pc st (⟨rfl, rfl⟩ | ⟨rfl, hv, rfl⟩)
      · exact dv_102 hh0 hI0 hl0 hl1 H
      · refine ih (v + 1) v6 _ (by omega) (by omega) (by omega) ⟨uX_18 h1 g0.2 (pp_bi_s _ _).1 (pp_bi_s _ _).2, gFr_upd h2 (mX_18 g0.2 rfl), ?_⟩
        rw [upd_ne (fun e => by rw [e, g0.2] at nA; exact absurd nA.2 (by decide))]
        exact h3
    · refine ⟨fun h => Or.inl ⟨rfl, rfl⟩, fun h => ?_⟩
      obtain ⟨q0, q1, q2⟩ := mul_lt hl0 hl1 hw.1 hw.2 hv0 h
      refine ⟨oX_4 m0 mk 6 rfl, ?_⟩
      refine ⟨oX_2 s0 sk 3 rfl, ?_⟩
      refine ⟨⟨by omega, by omega⟩, ?_⟩
      refine ⟨⟨by omega, by omega⟩, ?_⟩
      refine ⟨aX_15 p0.1 p0.2 (by omega) (by omega), ?_⟩
      refine ⟨oX_2 d0 dk 3 rfl, ?_⟩
      refine ⟨aX_15 p1.1 p1.2 hv0 (by omega), ?_⟩
      refine ⟨tX_18 g0.1 g0.2 hv0 (by omega) rfl, ?_⟩
      refine ⟨⟨by omega, by omega⟩, ?_⟩
      exact Or.inr ⟨rfl, h, rfl⟩
theorem dv_36 {A : pm_A} {m s d w : Int} (hh : dv_H A m s d w) : ∀ (k : Nat) (l : Int) (v5 v6 : pm_V) (B : pm_A), (200 - l).toNat < k → 0 ≤ l → l ≤ 200 → dv_I A B d → Tm pmt (an_sh wX) o_X5_divide 36 ([(2, m), (2, s), (2, d), (0, w), (0, l), v5, v6], [], B) (dv_post A) := by
  have hh0 := hh
  obtain ⟨hA, ⟨m0, mk⟩, ⟨s0, sk⟩, ⟨d0, dk⟩, hw, ne1, ne2⟩ := hh
  intro k
  induction k with
  | zero => intro l v5 v6 B h; omega
  | succ k ih =>
    intro l v5 v6 B hk hl0 hl1 hI
    have hI0 := hI
    obtain ⟨h1, h2, h3⟩ := hI
    have l0 := fX_2_1 h1 s0 sk
    have n0 := fX_2_2 h1 s0 sk
    refine wq_ok srt_divide (fr := []) (cuts := [36, 63]) (J := fun pc st => l < B s 1 ∧ ((pc = 36 ∧ st = ([(2, m), (2, s), (2, d), (0, w), (0, l + 1), v5, v6], [], B)) ∨ (pc = 63 ∧ st = ([(2, m), (2, s), (2, d), (0, w), (0, l), (0, 0), v6], [], B)))) ?_ 30 36 _ ?_
    · rintro pc st ⟨hl, ⟨rfl, rfl⟩ | ⟨rfl, rfl⟩⟩
      · exact ih (l + 1) v5 v6 B (by omega) (by omega) (by omega) hI0
      · exact dv_63 hh0 hl0 (by omega) (fun C v5 v6 hC => ih (l + 1) v5 v6 C (by omega) (by omega) (by omega) hC) _ 0 v6 B (Nat.lt_succ_self _) (by omega) hw.1 hI0
    · refine ⟨oX_2 s0 sk 1 rfl, ?_⟩
      refine ⟨fun h => ?_, fun h => ?_⟩
      · exact ⟨rfl, 1, rfl, by omega, by omega, h1, h2⟩
      · have hl : l < B s 1 := h
        refine ⟨oX_2 s0 sk 2 rfl, ?_⟩
        refine ⟨aX_14 n0.1 n0.2 hl0 (by omega), ?_⟩
        refine ⟨fun _ => ?_, fun _ => ?_, fun _ => ?_⟩
        · refine ⟨fun _ => ?_, fun q => absurd q (by decide)⟩
          exact ⟨hl, Or.inr ⟨rfl, rfl⟩⟩
        · refine ⟨fun q => absurd rfl q, fun _ => ?_⟩
          refine ⟨⟨by omega, by omega⟩, ?_⟩
          exact ⟨hl, Or.inl ⟨rfl, rfl⟩⟩
        · refine ⟨fun _ => ?_, fun q => absurd q (by decide)⟩
          exact ⟨hl, Or.inr ⟨rfl, rfl⟩⟩
theorem dv_13 {A B : pm_A} {m s d w : Int} {v4 v5 v6 : pm_V} (hh : dv_H A m s d w) (h1 : gH wX B) (h2 : gFr wX dv_M A B) : Tm pmt (an_sh wX) o_X5_divide 13 ([(2, m), (2, s), (2, d), (0, w), v4, v5, v6], [], B) (dv_post A) := by
  have hh0 := hh
  obtain ⟨hA, ⟨m0, mk⟩, ⟨s0, sk⟩, ⟨d0, dk⟩, hw, ne1, ne2⟩ := hh
  obtain ⟨em, ef, es, ed⟩ := dv_same hh0 h2
  have n1 := fX_2_2 h1 d0 dk
  refine wq_ok srt_divide (fr := []) (cuts := [36]) (J := fun pc st => pc = 36 ∧ 0 < B (B d 2) 0 ∧ st = ([(2, m), (2, s), (2, d), (0, w), (0, 0), v5, v6], [], B)) ?_ 30 13 _ ?_
  · rintro pc st ⟨rfl, hp, rfl⟩
    refine dv_36 hh0 _ 0 v5 v6 B (Nat.lt_succ_self _) (by omega) (by omega) ⟨h1, h2, ?_⟩
    rw [← ed]; omega
  · refine ⟨oX_2 d0 dk 1 rfl, ?_⟩
    refine ⟨fun h => ?_, fun h => ?_⟩
    · exact ⟨rfl, 0, rfl, by omega, by omega, h1, h2⟩
    · refine ⟨oX_2 d0 dk 2 rfl, ?_⟩
      refine ⟨aX_14 n1.1 n1.2 (by omega) (by omega), ?_⟩
      refine ⟨fun q => ?_, fun _ => ?_, fun _ => ?_⟩
      · refine ⟨fun _ => ?_, fun q => absurd q (by decide)⟩
        exact ⟨rfl, q, rfl⟩
      · refine ⟨fun q => absurd q (by decide), fun _ => ?_⟩
        exact ⟨rfl, 0, rfl, by omega, by omega, h1, h2⟩
      · refine ⟨fun q => absurd q (by decide), fun _ => ?_⟩
        exact ⟨rfl, 0, rfl, by omega, by omega, h1, h2⟩
theorem divide_ct {A : pm_A} {m s d : Int} (hA : gH wX A) (hm : 0 ≤ m ∧ wX.2 m = 4) (hs : 0 ≤ s ∧ wX.2 s = 2) (hd : 0 ≤ d ∧ wX.2 d = 2) (ne1 : ¬ A (A m 0) 2 = A d 2) (ne2 : ¬ A s 2 = A d 2) : Cl pmt (an_sh wX) 41 [(2, m), (2, s), (2, d)] A (dv_post A) := by
  have w0 := fX_2_0 hA hs.1 hs.2
  have f0 := fX_4_0 hA hm.1 hm.2
  refine Cl.of (Nat.le_of_ble_eq_true rfl) ?_
  refine wq_ok (full := o_X5_divide) srt_divide (fr := []) (cuts := [13]) (J := fun pc st => pc = 13 ∧ ∃ C v4 v5 v6, gH wX C ∧ gFr wX dv_M A C ∧ st = ([(2, m), (2, s), (2, d), (0, A s 0), v4, v5, v6], [], C)) ?_ 20 0 _ ?_
  · rintro pc st ⟨rfl, C, v4, v5, v6, c1, c2, rfl⟩
    exact dv_13 ⟨hA, hm, hs, hd, w0, ne1, ne2⟩ c1 c2
  · refine ⟨oX_2 hs.1 hs.2 0 rfl, ?_⟩
    refine ⟨oX_4 hm.1 hm.2 0 rfl, ?_⟩
    refine ⟨rX_2 f0.1 f0.2, ?_⟩
    refine Cl.gct q_X8_clear_0 (A := A) (a := [(2, A m 0), (0, A s 0)]) ⟨gv_ref f0.1 f0.2, ⟨rfl, w0.1, w0.2⟩, trivial⟩ hA ?_
    rintro ⟨r1, C⟩ g1 g2 g3
    simp only at g1 g2 g3
    cases r1 with
    | some v => exact absurd g1 (by intro q; cases q)
    | none => exact ⟨rfl, C, _, _, _, g2, gFr_tr (fun _ _ _ _ _ => rfl) g3 (dv_sub rfl), rfl⟩
end

section
/-! Mill.product: what it returns is one of the two shares given -/
theorem srt_product : pm_srt o_X5_product = true := by decide +kernel
theorem srt_exchange : pm_srt o_X5_exchange = true := by decide +kernel
theorem pp_bi_m (x y : Int) : -2147483648 ≤ pp_bi 2 x y ∧ pp_bi 2 x y ≤ 2147483647 := by
  show -2147483648 ≤ w32 (x * y) ∧ w32 (x * y) ≤ 2147483647
  unfold w32; omega
def pr_H (m s k g b o : Int) : Prop := (0 ≤ m ∧ wX.2 m = 4) ∧ (0 ≤ s ∧ wX.2 s = 1) ∧ (0 ≤ k ∧ k ≤ 5) ∧ (-1 ≤ g ∧ g ≤ 1) ∧ (0 ≤ b ∧ wX.2 b = 2) ∧ (0 ≤ o ∧ wX.2 o = 2)
def pr_post (A : pm_A) (b o : Int) (r : pm_R) : Prop := ∃ x, r.1 = some (2, x) ∧ (x = -1 ∨ x = b ∨ x = o) ∧ gH wX r.2 ∧ gFr wX dv_M A r.2
def pr_I (A B : pm_A) (b o u v : Int) : Prop := gH wX B ∧ gFr wX dv_M A B ∧ ((u = b ∧ v = o) ∨ (u = o ∧ v = b))
theorem pr_71 {A : pm_A} {m s k g b o i T : Int} (hh : pr_H m s k g b o) (hi0 : 0 ≤ i) (hi1 : i ≤ 5) (hT : T ≤ 2147483647) (H : ∀ C u v w9 w10 w11, pr_I A C b o u v → Tm pmt (an_sh wX) o_X5_product 116 ([(2, m), (2, s), (0, k), (0, g), (2, b), (2, o), (2, u), (2, v), (0, i), w9, w10, w11], [], C) (pr_post A b o)) : ∀ (n : Nat) (d u v : Int) (w11 : pm_V) (B : pm_A), (T - d).toNat < n → 0 ≤ d → pr_I A B b o u v → Tm pmt (an_sh wX) o_X5_product 71 ([(2, m), (2, s), (0, k), (0, g), (2, b), (2, o), (2, u), (2, v), (0, i), (0, T), (0, d), w11], [], B) (pr_post A b o) := by
  obtain ⟨⟨m0, mk⟩, ⟨s0, sk⟩, hk, hg, ⟨b0, bk⟩, ⟨o0, ok⟩⟩ := hh
  intro n
  induction n with
  | zero => intro d u v w11 B h; omega
  | succ n ih =>
    intro d u v w11 B hn hd0 hI
    have hI0 := hI
    obtain ⟨h1, h2, h3⟩ := hI
    have hu : 0 ≤ u ∧ wX.2 u = 2 := by rcases h3 with ⟨e, _⟩ | ⟨e, _⟩ <;> rw [e] <;> constructor <;> assumption
    have hv : 0 ≤ v ∧ wX.2 v = 2 := by rcases h3 with ⟨_, e⟩ | ⟨_, e⟩ <;> rw [e] <;> constructor <;> assumption
    have l0 := fX_1_4 h1 s0 sk
    have e0 := eX_12 h1 l0.1 l0.2 hi0 (show i < 6 by omega)
    refine wq_ok srt_product (fr := []) (cuts := [71, 116]) (J := fun pc st => (pc = 116 ∧ st = ([(2, m), (2, s), (0, k), (0, g), (2, b), (2, o), (2, u), (2, v), (0, i), (0, T), (0, d), w11], [], B)) ∨ (pc = 71 ∧ d < T ∧ ∃ C, gH wX C ∧ gFr wX dv_M A C ∧ st = ([(2, m), (2, s), (0, k), (0, g), (2, b), (2, o), (2, v), (2, u), (0, i), (0, T), (0, d + 1), (2, v)], [], C))) ?_ 40 71 _ ?_
    · rintro pc st (⟨rfl, rfl⟩ | ⟨rfl, hd, C, c1, c2, rfl⟩)
      · exact H B u v _ _ _ hI0
      · exact ih (d + 1) v u _ C (by omega) (by omega) ⟨c1, c2, by rcases h3 with ⟨e1, e2⟩ | ⟨e1, e2⟩; exact Or.inr ⟨e2, e1⟩; exact Or.inl ⟨e2, e1⟩⟩
    · refine ⟨fun h => Or.inl ⟨rfl, rfl⟩, fun h => ?_⟩
      refine ⟨oX_1 s0 sk 4 rfl, ?_⟩
      refine ⟨aX_12 l0.1 l0.2 hi0 (by omega), ?_⟩
      refine ⟨rX_4 m0 mk, ?_⟩
      refine Cl.gct q_X5_multiply_0 (A := B) (a := [(2, m), (2, u), (2, B (B s 4) i), (2, v)]) ⟨gv_ref m0 mk, gv_ref hu.1 hu.2, gv_ref e0.1 e0.2, gv_ref hv.1 hv.2, trivial⟩ h1 ?_
      rintro ⟨r1, C⟩ g1 g2 g3
      simp only at g1 g2 g3
      have hF := gFr_tr h2 g3 (dv_sub rfl)
      match r1, g1 with
      | some (0, x), _ =>
        refine ⟨fun _ => ?_, fun _ => ?_⟩
        · refine ⟨⟨by omega, by omega⟩, ?_⟩
          exact Or.inr ⟨rfl, h, C, g2, hF, rfl⟩
        · exact ⟨rfl, -1, rfl, Or.inl rfl, g2, hF⟩
      | some (n + 1, x), ⟨⟨q, _⟩, _⟩ => exact absurd q (by intro q; cases q)
      | none, q => exact absurd q (by intro q; cases q)
theorem pr_25 {A : pm_A} {m s k g b o : Int} (hh : pr_H m s k g b o) : ∀ (n : Nat) (i u v : Int) (w9 w10 w11 : pm_V) (B : pm_A), (6 - i).toNat < n → 0 ≤ i → i ≤ 6 → pr_I A B b o u v → Tm pmt (an_sh wX) o_X5_product 25 ([(2, m), (2, s), (0, k), (0, g), (2, b), (2, o), (2, u), (2, v), (0, i), w9, w10, w11], [], B) (pr_post A b o) := by
  intro n
  induction n with
  | zero => intro i u v w9 w10 w11 B h; omega
  | succ n ih =>
    intro i u v w9 w10 w11 B hn hi0 hi1 hI
    have hh0 := hh
    have hI0 := hI
    obtain ⟨⟨m0, mk⟩, ⟨s0, sk⟩, hk, hg, ⟨b0, bk⟩, ⟨o0, ok⟩⟩ := hh
    obtain ⟨h1, h2, h3⟩ := hI
    have p6 := fX_1_0 h1 s0 sk
    have l0 := fX_1_4 h1 s0 sk
    have t0 := fX_1_2 h1 s0 sk
    refine wq_ok srt_product (fr := [61]) (cuts := [71]) (J := fun pc st => pc = 71 ∧ i < B s 0 ∧ ∃ T : Int, T ≤ 2147483647 ∧ st = ([(2, m), (2, s), (0, k), (0, g), (2, b), (2, o), (2, u), (2, v), (0, i), (0, T), (0, 0), w11], [], B)) ?_ 40 25 _ ?_
    · rintro pc st ⟨rfl, hi, T, hT, rfl⟩
      refine pr_71 hh0 hi0 (by omega) hT (fun C u v w9 w10 w11 hC => ?_) _ 0 u v w11 B (Nat.lt_succ_self _) (by omega) hI0
      refine wq_ok srt_product (fr := []) (cuts := [25]) (J := fun pc st => pc = 25 ∧ st = ([(2, m), (2, s), (0, k), (0, g), (2, b), (2, o), (2, u), (2, v), (0, i + 1), w9, w10, w11], [], C)) ?_ 40 116 _ ?_
      · rintro pc st ⟨rfl, rfl⟩
        exact ih (i + 1) u v w9 w10 w11 C (by omega) (by omega) (by omega) hC
      · refine ⟨⟨by omega, by omega⟩, ?_⟩
        exact ⟨rfl, rfl⟩
    · refine ⟨oX_1 s0 sk 0 rfl, ?_⟩
      refine ⟨fun h => ?_, fun h => ?_⟩
      · refine ⟨rfl, u, rfl, ?_, h1, h2⟩
        rcases h3 with ⟨e, _⟩ | ⟨e, _⟩
        · exact Or.inr (Or.inl e)
        · exact Or.inr (Or.inr e)
      · have hi : i < B s 0 := h
        have e0 := eX_12 h1 l0.1 l0.2 hi0 (show i < 6 by omega)
        refine ⟨oX_1 s0 sk 4 rfl, ?_⟩
        refine ⟨aX_12 l0.1 l0.2 hi0 (by omega), ?_⟩
        refine ⟨oX_2 e0.1 e0.2 1 rfl, ?_⟩
        refine ⟨fun _ => ?_, fun _ => ?_⟩
        · exact ⟨rfl, hi, 0, by omega, rfl⟩
        · refine ⟨oX_1 s0 sk 2 rfl, ?_⟩
          refine ⟨⟨by omega, by omega⟩, ?_⟩
          refine ⟨⟨by omega, by omega⟩, ?_⟩
          refine ⟨aX_10 t0.1 t0.2 (by omega) (by omega), ?_⟩
          exact ⟨rfl, hi, pp_bi 2 g (B (B s 2) (i * 6 + k)), (pp_bi_m _ _).2, rfl⟩
theorem product_ct {A : pm_A} {m s k g b o : Int} (hA : gH wX A) (hh : pr_H m s k g b o) : Cl pmt (an_sh wX) 46 [(2, m), (2, s), (0, k), (0, g), (2, b), (2, o)] A (pr_post A b o) := by
  have hh0 := hh
  obtain ⟨⟨m0, mk⟩, ⟨s0, sk⟩, hk, hg, ⟨b0, bk⟩, ⟨o0, ok⟩⟩ := hh
  refine Cl.of (Nat.le_of_ble_eq_true rfl) ?_
  show Tm pmt (an_sh wX) o_X5_product 0 ([(2, m), (2, s), (0, k), (0, g), (2, b), (2, o), (9, 0), (9, 0), (9, 0), (9, 0), (9, 0), (9, 0)], [], A) _
  refine wq_ok (full := o_X5_product) srt_product (fr := []) (cuts := [25]) (J := fun pc st => pc = 25 ∧ ∃ C w9 w10 w11, gH wX C ∧ gFr wX dv_M A C ∧ st = ([(2, m), (2, s), (0, k), (0, g), (2, b), (2, o), (2, b), (2, o), (0, 0), w9, w10, w11], [], C)) ?_ 40 0 _ ?_
  · rintro pc st ⟨rfl, C, w9, w10, w11, c1, c2, rfl⟩
    exact pr_25 hh0 _ 0 b o w9 w10 w11 C (Nat.lt_succ_self _) (by omega) (by omega) ⟨c1, c2, Or.inl ⟨rfl, rfl⟩⟩
  · refine ⟨rX_4 m0 mk, ?_⟩
    refine Cl.gct q_X5_beginProduct_0 (A := A) (a := [(2, m), (2, s), (0, k), (0, g), (2, b)]) ⟨gv_ref m0 mk, gv_ref s0 sk, ⟨rfl, hk.1, hk.2⟩, ⟨rfl, hg.1, hg.2⟩, gv_ref b0 bk, trivial⟩ hA ?_
    rintro ⟨r1, C⟩ g1 g2 g3
    simp only at g1 g2 g3
    have hF : gFr wX dv_M A C := gFr_tr (fun _ _ _ _ _ => rfl) g3 (dv_sub rfl)
    match r1, g1 with
    | some (0, x), _ =>
      refine ⟨fun _ => ?_, fun _ => ?_⟩
      · exact ⟨rfl, C, _, _, _, g2, hF, rfl⟩
      · exact ⟨rfl, -1, rfl, Or.inl rfl, g2, hF⟩
    | some (n + 1, x), ⟨⟨q, _⟩, _⟩ => exact absurd q (by intro q; cases q)
    | none, q => exact absurd q (by intro q; cases q)
end

section
/-! Mill.exchange -/
def ex_H (A : pm_A) (m s k : Int) : Prop := gH wX A ∧ (0 ≤ m ∧ wX.2 m = 4) ∧ (0 ≤ s ∧ wX.2 s = 1) ∧ (0 ≤ k ∧ k ≤ 5) ∧ ∀ j, 0 ≤ j → j ≤ 2 → ¬ A (A m j) 2 = A (A (A s 4) k) 2
theorem ex_same {A B : pm_A} {m s k : Int} (hh : ex_H A m s k) (hF : gFr wX dv_M A B) : (∀ j, 0 ≤ j → j ≤ 99 → B m j = A m j) ∧ (∀ j, 0 ≤ j → j ≤ 99 → B s j = A s j) ∧ B (A s 4) k = A (A s 4) k ∧ ∀ q, 0 ≤ q → wX.2 q = 2 → B q 2 = A q 2 := by
  obtain ⟨hA, ⟨m0, mk⟩, ⟨s0, sk⟩, hk, _⟩ := hh
  have l0 := fX_1_4 hA s0 sk
  have big : ∀ x : Nat, (500 ≤ x ∧ x ≤ 799) → ¬ x ∈ dv_M := fun x hx q => by
    have h : ∀ y ∈ dv_M, 800 ≤ y := by decide
    have := h x q
    omega
  refine ⟨fun j j0 j1 => hF m j m0 j0 ?_, fun j j0 j1 => hF s j s0 j0 ?_, hF _ k l0.1 hk.1 ?_, fun q q0 qk => hF q 2 q0 (by omega) ?_⟩
  · unfold mcode; rw [shX_4 mk]; show ¬ (100 * 5 + j.toNat) ∈ dv_M; exact big _ (by omega)
  · unfold mcode; rw [shX_1 sk]; show ¬ (100 * 7 + j.toNat) ∈ dv_M; exact big _ (by omega)
  · unfold mcode; rw [shX_12 l0.2]; show ¬ (10000 + wX.2 (A s 4) : Nat) ∈ dv_M; rw [l0.2]; decide
  · unfold mcode; rw [shX_2 qk]; show ¬ 802 ∈ dv_M; decide
theorem ex_80 {A B : pm_A} {m s k x : Int} {v4 : pm_V} (hh : ex_H A m s k) (h1 : gH wX B) (h2 : gFr wX dv_M A B) (hx : x = A m 1 ∨ x = A m 2) : Tm pmt (an_sh wX) o_X5_exchange 80 ([(2, m), (2, s), (0, k), (2, x), v4], [], B) (dv_post A) := by
  obtain ⟨em, es, el, e2⟩ := ex_same hh h2
  obtain ⟨hA, ⟨m0, mk⟩, ⟨s0, sk⟩, hk, hne⟩ := hh
  have l0 := fX_1_4 h1 s0 sk
  have e0 := eX_12 h1 l0.1 l0.2 hk.1 (show k < 6 by omega)
  have f0 := fX_4_0 hA m0 mk
  have o1 := fX_4_1 hA m0 mk
  have o2 := fX_4_2 hA m0 mk
  have lA := fX_1_4 hA s0 sk
  have eA := eX_12 hA lA.1 lA.2 hk.1 (show k < 6 by omega)
  have xk : 0 ≤ x ∧ wX.2 x = 2 := by rcases hx with e | e <;> rw [e] <;> assumption
  have hel : B (B s 4) k = A (A s 4) k := by rw [es 4 (by omega) (by omega)]; exact el
  refine wq_ok srt_exchange (fr := []) (cuts := []) (J := fun pc st => False) (fun _ _ h => h.elim) 20 80 _ ?_
  refine ⟨oX_1 s0 sk 4 rfl, ?_⟩
  refine ⟨aX_12 l0.1 l0.2 hk.1 (by omega), ?_⟩
  refine ⟨rX_4 m0 mk, ?_⟩
  refine (divide_ct (A := B) (m := m) (s := x) (d := B (B s 4) k) h1 ⟨m0, mk⟩ xk e0 ?_ ?_).imp ?_
  · rw [hel, em 0 (by omega) (by omega), e2 _ f0.1 f0.2, e2 _ eA.1 eA.2]
    exact hne 0 (by omega) (by omega)
  · rw [hel, e2 _ xk.1 xk.2, e2 _ eA.1 eA.2]
    rcases hx with e | e
    · rw [e]; exact hne 1 (by omega) (by omega)
    · rw [e]; exact hne 2 (by omega) (by omega)
  · rintro ⟨r1, C⟩ ⟨y, e, y0, y1, c1, c2⟩
    simp only at e c1 c2
    subst e
    have hy : y = 0 ∨ y = 1 := by omega
    rcases hy with rfl | rfl
    · exact ⟨rfl, 0, rfl, y0, y1, c1, gFr_tr h2 c2 (fun _ hx => hx)⟩
    · exact ⟨rfl, 1, rfl, y0, y1, c1, gFr_tr h2 c2 (fun _ hx => hx)⟩
theorem ex_59 {A B : pm_A} {m s k x y : Int} (hh : ex_H A m s k) (h1 : gH wX B) (h2 : gFr wX dv_M A B) (hx : x = -1 ∨ x = A m 1 ∨ x = A m 2) (hy : y = -1 ∨ y = A m 3 ∨ y = A m 4) : Tm pmt (an_sh wX) o_X5_exchange 59 ([(2, m), (2, s), (0, k), (2, x), (2, y)], [], B) (dv_post A) := by
  have hh0 := hh
  obtain ⟨hA, ⟨m0, mk⟩, ⟨s0, sk⟩, hk, hne⟩ := hh
  have o1 := fX_4_1 hA m0 mk
  have o2 := fX_4_2 hA m0 mk
  have o3 := fX_4_3 hA m0 mk
  have o4 := fX_4_4 hA m0 mk
  refine wq_ok srt_exchange (fr := []) (cuts := [80]) (J := fun pc st => pc = 80 ∧ 0 ≤ x ∧ ∃ C, gH wX C ∧ gFr wX dv_M A C ∧ st = ([(2, m), (2, s), (0, k), (2, x), (2, y)], [], C)) ?_ 20 59 _ ?_
  · rintro pc st ⟨rfl, x0, C, c1, c2, rfl⟩
    exact ex_80 hh0 c1 c2 (by rcases hx with e | e; omega; exact e)
  · refine ⟨fun _ => ?_, fun x0 => ?_⟩
    · exact ⟨rfl, 0, rfl, by omega, by omega, h1, h2⟩
    · refine ⟨fun _ => ?_, fun y0 => ?_⟩
      · exact ⟨rfl, 0, rfl, by omega, by omega, h1, h2⟩
      · have xk : wX.2 x = 2 := by
          rcases hx with e | e | e
          · omega
          · rw [e]; exact o1.2
          · rw [e]; exact o2.2
        have yk : wX.2 y = 2 := by
          rcases hy with e | e | e
          · omega
          · rw [e]; exact o3.2
          · rw [e]; exact o4.2
        refine ⟨rX_4 m0 mk, ?_⟩
        refine Cl.gct q_X5_addAll_0 (A := B) (a := [(2, m), (2, x), (2, y)]) ⟨gv_ref m0 mk, gv_ref x0 xk, gv_ref y0 yk, trivial⟩ h1 ?_
        rintro ⟨r1, C⟩ g1 g2 g3
        simp only at g1 g2 g3
        have hF := gFr_tr h2 g3 (dv_sub rfl)
        match r1, g1 with
        | some (0, z), _ =>
          refine ⟨fun _ => ?_, fun _ => ?_⟩
          · exact ⟨rfl, x0, C, g2, hF, rfl⟩
          · exact ⟨rfl, 0, rfl, by omega, by omega, g2, hF⟩
        | some (n + 1, x), ⟨⟨q, _⟩, _⟩ => exact absurd q (by intro q; cases q)
        | none, q => exact absurd q (by intro q; cases q)
theorem ex_42 {A B : pm_A} {m s k x : Int} {v4 : pm_V} (hh : ex_H A m s k) (h1 : gH wX B) (h2 : gFr wX dv_M A B) (hx : x = -1 ∨ x = A m 1 ∨ x = A m 2) : Tm pmt (an_sh wX) o_X5_exchange 42 ([(2, m), (2, s), (0, k), (2, x), v4], [], B) (dv_post A) := by
  have hh0 := hh
  obtain ⟨em, es, el, e2⟩ := ex_same hh h2
  obtain ⟨hA, ⟨m0, mk⟩, ⟨s0, sk⟩, hk, hne⟩ := hh
  have o3 := fX_4_3 h1 m0 mk
  have o4 := fX_4_4 h1 m0 mk
  refine wq_ok srt_exchange (fr := []) (cuts := [59]) (J := fun pc st => pc = 59 ∧ ∃ y C, gH wX C ∧ gFr wX dv_M A C ∧ (y = -1 ∨ y = A m 3 ∨ y = A m 4) ∧ st = ([(2, m), (2, s), (0, k), (2, x), (2, y)], [], C)) ?_ 20 42 _ ?_
  · rintro pc st ⟨rfl, y, C, c1, c2, hy, rfl⟩
    exact ex_59 hh0 c1 c2 hx hy
  · refine ⟨oX_4 m0 mk 3 rfl, ?_⟩
    refine ⟨oX_4 m0 mk 4 rfl, ?_⟩
    refine ⟨rX_4 m0 mk, ?_⟩
    refine (product_ct h1 (m := m) (s := s) (k := k) (g := -1) (b := B m 3) (o := B m 4) ⟨⟨m0, mk⟩, ⟨s0, sk⟩, hk, ⟨by omega, by omega⟩, o3, o4⟩).imp ?_
    rintro ⟨r1, C⟩ ⟨y, e, hy, c1, c2⟩
    simp only at e c1 c2
    subst e
    rw [em 3 (by omega) (by omega), em 4 (by omega) (by omega)] at hy
    exact ⟨rfl, y, C, c1, gFr_tr h2 c2 (fun _ hx => hx), hy, rfl⟩
theorem ex_26 {A B : pm_A} {m s k : Int} {v3 v4 : pm_V} (hh : ex_H A m s k) (h1 : gH wX B) (h2 : gFr wX dv_M A B) : Tm pmt (an_sh wX) o_X5_exchange 26 ([(2, m), (2, s), (0, k), v3, v4], [], B) (dv_post A) := by
  have hh0 := hh
  obtain ⟨em, es, el, e2⟩ := ex_same hh h2
  obtain ⟨hA, ⟨m0, mk⟩, ⟨s0, sk⟩, hk, hne⟩ := hh
  have o1 := fX_4_1 h1 m0 mk
  have o2 := fX_4_2 h1 m0 mk
  refine wq_ok srt_exchange (fr := []) (cuts := [42]) (J := fun pc st => pc = 42 ∧ ∃ y C, gH wX C ∧ gFr wX dv_M A C ∧ (y = -1 ∨ y = A m 1 ∨ y = A m 2) ∧ st = ([(2, m), (2, s), (0, k), (2, y), v4], [], C)) ?_ 20 26 _ ?_
  · rintro pc st ⟨rfl, y, C, c1, c2, hy, rfl⟩
    exact ex_42 hh0 c1 c2 hy
  · refine ⟨oX_4 m0 mk 1 rfl, ?_⟩
    refine ⟨oX_4 m0 mk 2 rfl, ?_⟩
    refine ⟨rX_4 m0 mk, ?_⟩
    refine (product_ct h1 (m := m) (s := s) (k := k) (g := 1) (b := B m 1) (o := B m 2) ⟨⟨m0, mk⟩, ⟨s0, sk⟩, hk, ⟨by omega, by omega⟩, o1, o2⟩).imp ?_
    rintro ⟨r1, C⟩ ⟨y, e, hy, c1, c2⟩
    simp only at e c1 c2
    subst e
    rw [em 1 (by omega) (by omega), em 2 (by omega) (by omega)] at hy
    exact ⟨rfl, y, C, c1, gFr_tr h2 c2 (fun _ hx => hx), hy, rfl⟩
theorem exchange_ct {A : pm_A} {m s k : Int} (hh : ex_H A m s k) : Cl pmt (an_sh wX) 42 [(2, m), (2, s), (0, k)] A (dv_post A) := by
  have hh0 := hh
  obtain ⟨hA, ⟨m0, mk⟩, ⟨s0, sk⟩, hk, hne⟩ := hh
  have t0 := fX_1_2 hA s0 sk
  have p0 := fX_1_0 hA s0 sk
  have q0 := fX_1_1 hA s0 sk
  refine Cl.of (Nat.le_of_ble_eq_true rfl) ?_
  refine wq_ok (full := o_X5_exchange) srt_exchange (fr := []) (cuts := [26]) (J := fun pc st => pc = 26 ∧ ∃ C v3 v4, gH wX C ∧ gFr wX dv_M A C ∧ st = ([(2, m), (2, s), (0, k), v3, v4], [], C)) ?_ 20 0 _ ?_
  · rintro pc st ⟨rfl, C, v3, v4, c1, c2, rfl⟩
    exact ex_26 hh0 c1 c2
  · refine ⟨oX_1 s0 sk 2 rfl, ?_⟩
    refine ⟨oX_1 s0 sk 0 rfl, ?_⟩
    refine ⟨oX_1 s0 sk 1 rfl, ?_⟩
    refine ⟨⟨by omega, by omega⟩, ?_⟩
    refine ⟨oX_1 s0 sk 0 rfl, ?_⟩
    refine ⟨rfl, ?_⟩
    refine Cl.gct q_X9_isTableTurnable_0 (A := A) (a := [(2, A s 2), (0, A s 0 + A s 1), (0, A s 0), (0, k)]) ⟨gv_ref t0.1 t0.2, ⟨rfl, by simp only; omega, by simp only; omega⟩, ⟨rfl, p0.1, p0.2⟩, ⟨rfl, hk.1, hk.2⟩, trivial⟩ hA ?_
    rintro ⟨r1, C⟩ g1 g2 g3
    simp only at g1 g2 g3
    have hF : gFr wX dv_M A C := gFr_tr (fun _ _ _ _ _ => rfl) g3 (dv_sub rfl)
    match r1, g1 with
    | some (0, z), _ =>
      refine ⟨fun _ => ?_, fun _ => ?_⟩
      · exact ⟨rfl, C, _, _, g2, hF, rfl⟩
      · exact ⟨rfl, 0, rfl, by omega, by omega, g2, hF⟩
    | some (n + 1, x), ⟨⟨q, _⟩, _⟩ => exact absurd q (by intro q; cases q)
    | none, q => exact absurd q (by intro q; cases q)
end

section
/-! which shares are which: the bench is cell 0, the mill 28, the seed 1, the walker 49, the atlas 72, its seed 79 -/
theorem srt_settle : pm_srt o_X5_settle = true := by decide +kernel
/-- the shares that seed, walker and mill have among them -/
def pc (A : pm_A) (i : Int) : Int := if i < 6 then A 4 i else if i < 12 then A 52 (i - 6) else A 28 0
def pool (A : pm_A) : Prop := (∀ i, 0 ≤ i → i ≤ 12 → pc A i < 72 ∧ ¬ pc A i = 32 ∧ ¬ pc A i = 35) ∧ ∀ i j, 0 ≤ i → i ≤ 12 → 0 ≤ j → j ≤ 12 → ¬ i = j → ¬ pc A i = pc A j
def AL (A : pm_A) : Prop := (A 0 0 = 1 ∧ A 0 2 = 28 ∧ A 0 8 = 49 ∧ A 0 9 = 72 ∧ A 1 4 = 4 ∧ A 49 4 = 52 ∧ A 72 8 = 79 ∧ A 72 0 = 73 ∧ A 79 4 = 82 ∧ A 28 1 = 32 ∧ A 28 2 = 35) ∧ (∀ q, 0 ≤ q → wX.2 q = 2 → A q 2 = q + 1) ∧ (∀ x, 0 ≤ x → x < 100 → 72 < A 73 x) ∧ (∀ i, 0 ≤ i → i < 6 → 72 < A 82 i) ∧ pool A
def al_C : List Nat := [0, 8, 500, 501, 502, 704, 802, 900, 902, 908, 909, 10012, 10022]
theorem al_nm {ms : List Nat} (hm : ms.all (fun x => !al_C.contains x) = true) {c : Nat} (hc : al_C.contains c = true) : ¬ c ∈ ms := fun q => by
  have := List.all_eq_true.mp hm c q
  rw [hc] at this
  cases this
theorem kk0 : wX.2 0 = 0 := by decide
theorem kk1 : wX.2 1 = 1 := by decide
theorem kk4 : wX.2 4 = 12 := by decide
theorem kk28 : wX.2 28 = 4 := by decide
theorem kk49 : wX.2 49 = 1 := by decide
theorem kk52 : wX.2 52 = 12 := by decide
theorem kk72 : wX.2 72 = 5 := by decide
theorem kk73 : wX.2 73 = 22 := by decide
theorem kk79 : wX.2 79 = 1 := by decide
theorem kk82 : wX.2 82 = 12 := by decide
theorem pool_eq {A C : pm_A} (h : ∀ i, 0 ≤ i → i ≤ 12 → pc C i = pc A i) (hp : pool A) : pool C := by
  refine ⟨fun i i0 i1 => ?_, fun i j i0 i1 j0 j1 hij => ?_⟩
  · rw [h i i0 i1]; exact hp.1 i i0 i1
  · rw [h i i0 i1, h j j0 j1]; exact hp.2 i j i0 i1 j0 j1 hij
theorem al_keep {A C : pm_A} {ms : List Nat} (hF : gFr wX ms A C) (hm : ms.all (fun x => !al_C.contains x) = true) (h : AL A) : AL C := by
  obtain ⟨⟨a1, a2, a3, a4, a5, a6, a7, a8, a9, a10, a11⟩, b, c, d, e⟩ := h
  have c0 : ∀ j : Int, 0 ≤ j → al_C.contains (100 * 9 + j.toNat) = true → C 0 j = A 0 j := fun j j0 hj => hF 0 j (by omega) j0 (by unfold mcode; rw [shX_0 kk0]; exact al_nm hm hj)
  have c7 : ∀ r : Int, 0 ≤ r → wX.2 r = 1 → C r 4 = A r 4 := fun r r0 hk => hF r 4 r0 (by omega) (by unfold mcode; rw [shX_1 hk]; exact al_nm hm (c := 704) rfl)
  have c12 : ∀ r i : Int, 0 ≤ r → wX.2 r = 12 → 0 ≤ i → C r i = A r i := fun r i r0 hk i0 => hF r i r0 i0 (by unfold mcode; rw [shX_12 hk]; show ¬ (10000 + wX.2 r : Nat) ∈ ms; rw [hk]; exact al_nm hm rfl)
  have c28 : ∀ j : Int, 0 ≤ j → al_C.contains (100 * 5 + j.toNat) = true → C 28 j = A 28 j := fun j j0 hj => hF 28 j (by omega) j0 (by unfold mcode; rw [shX_4 kk28]; exact al_nm hm hj)
  have c72 : ∀ j : Int, 0 ≤ j → al_C.contains (100 * 0 + j.toNat) = true → C 72 j = A 72 j := fun j j0 hj => hF 72 j (by omega) j0 (by unfold mcode; rw [shX_5 kk72]; exact al_nm hm hj)
  refine ⟨⟨?_, ?_, ?_, ?_, ?_, ?_, ?_, ?_, ?_, ?_, ?_⟩, fun q q0 qk => ?_, fun x x0 x1 => ?_, fun i i0 i1 => ?_, pool_eq (fun i i0 i1 => ?_) e⟩
  · rw [c0 0 (by omega) rfl]; exact a1
  · rw [c0 2 (by omega) rfl]; exact a2
  · rw [c0 8 (by omega) rfl]; exact a3
  · rw [c0 9 (by omega) rfl]; exact a4
  · rw [c7 1 (by omega) kk1]; exact a5
  · rw [c7 49 (by omega) kk49]; exact a6
  · rw [c72 8 (by omega) rfl]; exact a7
  · rw [c72 0 (by omega) rfl]; exact a8
  · rw [c7 79 (by omega) kk79]; exact a9
  · rw [c28 1 (by omega) rfl]; exact a10
  · rw [c28 2 (by omega) rfl]; exact a11
  · rw [hF q 2 q0 (by omega) (by unfold mcode; rw [shX_2 qk]; exact al_nm hm (c := 802) rfl)]; exact b q q0 qk
  · rw [hF 73 x (by omega) x0 (by unfold mcode; rw [shX_22 kk73]; show ¬ (10000 + wX.2 73 : Nat) ∈ ms; rw [kk73]; exact al_nm hm rfl)]; exact c x x0 x1
  · rw [c12 82 i (by omega) kk82 i0]; exact d i i0 i1
  · unfold pc
    by_cases h6 : i < 6
    · rw [if_pos h6, if_pos h6]; exact c12 4 i (by omega) kk4 i0
    · rw [if_neg h6, if_neg h6]
      by_cases h12 : i < 12
      · rw [if_pos h12, if_pos h12]; exact c12 52 _ (by omega) kk52 (by omega)
      · rw [if_neg h12, if_neg h12]; exact c28 0 (by omega) rfl
/-- seed and walker: s with its row of letters, whose shares begin at o in pc -/
def own (s L o : Int) : Prop := (s = 1 ∧ L = 4 ∧ o = 0) ∨ (s = 49 ∧ L = 52 ∧ o = 6)
theorem own_k {s L o : Int} (h : own s L o) : (0 ≤ s ∧ wX.2 s = 1) ∧ (0 ≤ L ∧ wX.2 L = 12) ∧ (0 ≤ o ∧ o ≤ 6) := by
  rcases h with ⟨rfl, rfl, rfl⟩ | ⟨rfl, rfl, rfl⟩
  · exact ⟨⟨by omega, kk1⟩, ⟨by omega, kk4⟩, by omega, by omega⟩
  · exact ⟨⟨by omega, kk49⟩, ⟨by omega, kk52⟩, by omega, by omega⟩
theorem own_L {A : pm_A} {s L o : Int} (h : own s L o) (hA : AL A) : A s 4 = L := by
  obtain ⟨⟨a1, a2, a3, a4, a5, a6, _⟩, _⟩ := hA
  rcases h with ⟨rfl, rfl, rfl⟩ | ⟨rfl, rfl, rfl⟩
  · exact a5
  · exact a6
theorem own_pc {A : pm_A} {s L o k : Int} (h : own s L o) (k0 : 0 ≤ k) (k1 : k ≤ 5) : pc A (o + k) = A L k := by
  unfold pc
  rcases h with ⟨rfl, rfl, rfl⟩ | ⟨rfl, rfl, rfl⟩
  · rw [if_pos (by omega), Int.zero_add]
  · rw [if_neg (by omega), if_pos (by omega)]
    have : (6 + k - 6 : Int) = k := by omega
    rw [this]
theorem pc_12 (A : pm_A) : pc A 12 = A 28 0 := by
  unfold pc; rw [if_neg (by omega), if_neg (by omega)]
/-- what exchange wants -/
theorem al_ex {A : pm_A} {s L o k : Int} (hA : gH wX A) (h : AL A) (ho : own s L o) (k0 : 0 ≤ k) (k1 : k ≤ 5) : ex_H A 28 s k := by
  have ok := own_k ho
  have eL := own_L ho h
  have eA := eX_12 hA ok.2.1.1 ok.2.1.2 k0 (show k < 6 by omega)
  have f0 := fX_4_0 hA (by omega) kk28
  obtain ⟨⟨a1, a2, a3, a4, a5, a6, a7, a8, a9, a10, a11⟩, b, c, d, e⟩ := h
  have o1 := fX_4_1 hA (r := 28) (by omega) kk28
  have o2 := fX_4_2 hA (r := 28) (by omega) kk28
  have p1 := e.1 (o + k) (by omega) (by omega)
  have p2 := e.2 (o + k) 12 (by omega) (by omega) (by omega) (by omega) (by omega)
  rw [own_pc ho k0 k1] at p1 p2
  rw [pc_12] at p2
  refine ⟨hA, ⟨by omega, kk28⟩, ok.1, ⟨k0, k1⟩, fun j j0 j1 => ?_⟩
  rw [eL, b _ eA.1 eA.2]
  have : j = 0 ∨ j = 1 ∨ j = 2 := by omega
  rcases this with rfl | rfl | rfl
  · rw [b _ f0.1 f0.2]; omega
  · rw [b _ o1.1 o1.2, a10]; omega
  · rw [b _ o2.1 o2.2, a11]; omega
/-- for the atlas's seed -/
theorem al_ex2 {A : pm_A} {k : Int} (hA : gH wX A) (h : AL A) (k0 : 0 ≤ k) (k1 : k ≤ 5) : ex_H A 28 79 k := by
  have eA := eX_12 hA (r := 82) (by omega) kk82 k0 (show k < 6 by omega)
  have f0 := fX_4_0 hA (r := 28) (by omega) kk28
  obtain ⟨⟨a1, a2, a3, a4, a5, a6, a7, a8, a9, a10, a11⟩, b, c, d, e⟩ := h
  have o1 := fX_4_1 hA (r := 28) (by omega) kk28
  have o2 := fX_4_2 hA (r := 28) (by omega) kk28
  have p1 := e.1 12 (by omega) (by omega)
  rw [pc_12] at p1
  have d0 := d k k0 (by omega)
  refine ⟨hA, ⟨by omega, kk28⟩, ⟨by omega, kk79⟩, ⟨k0, k1⟩, fun j j0 j1 => ?_⟩
  rw [a9, b _ eA.1 eA.2]
  have : j = 0 ∨ j = 1 ∨ j = 2 := by omega
  rcases this with rfl | rfl | rfl
  · rw [b _ f0.1 f0.2]; omega
  · rw [b _ o1.1 o1.2, a10]; omega
  · rw [b _ o2.1 o2.2, a11]; omega
end

section
/-! Mill.settle, and the turns -/
def sw (o k i : Int) : Int := if i = o + k then 12 else if i = 12 then o + k else i
theorem sw_a {o k i : Int} (h : i = o + k) : sw o k i = 12 := by unfold sw; rw [if_pos h]
theorem sw_b {o k i : Int} (h : ¬ i = o + k) (h2 : i = 12) : sw o k i = o + k := by unfold sw; rw [if_neg h, if_pos h2]
theorem sw_c {o k i : Int} (h : ¬ i = o + k) (h2 : ¬ i = 12) : sw o k i = i := by unfold sw; rw [if_neg h, if_neg h2]
theorem sw_3 (o k i : Int) : (i = o + k ∧ sw o k i = 12) ∨ (¬ i = o + k ∧ i = 12 ∧ sw o k i = o + k) ∨ (¬ i = o + k ∧ ¬ i = 12 ∧ sw o k i = i) := by
  by_cases h : i = o + k
  · exact Or.inl ⟨h, sw_a h⟩
  · by_cases h2 : i = 12
    · exact Or.inr (Or.inl ⟨h, h2, sw_b h h2⟩)
    · exact Or.inr (Or.inr ⟨h, h2, sw_c h h2⟩)
def swp (A : pm_A) (L k : Int) : pm_A := pm_upd (pm_upd A L k (A 28 0)) 28 0 (A L k)
theorem sw_pc {A : pm_A} {s L o k i : Int} (ho : own s L o) (k0 : 0 ≤ k) (k1 : k ≤ 5) (i0 : 0 ≤ i) (i1 : i ≤ 12) : pc (swp A L k) i = pc A (sw o k i) := by
  have nL : ¬ L = 28 := by rcases ho with ⟨_, e, _⟩ | ⟨_, e, _⟩ <;> omega
  rcases sw_3 o k i with ⟨e, q⟩ | ⟨e, e2, q⟩ | ⟨e, e2, q⟩
  · rw [q, e, own_pc ho k0 k1, pc_12]
    unfold swp
    rw [upd_ne nL, upd_at]
  · rw [q, e2, own_pc ho k0 k1, pc_12]
    unfold swp
    rw [upd_at]
  · rw [q]
    unfold pc swp
    by_cases h6 : i < 6
    · rw [if_pos h6, if_pos h6, upd_ne (by omega)]
      rcases ho with ⟨_, rfl, rfl⟩ | ⟨_, rfl, rfl⟩
      · rw [upd_n2 (by omega)]
      · rw [upd_ne (by omega)]
    · rw [if_neg h6, if_neg h6]
      by_cases h12 : i < 12
      · rw [if_pos h12, if_pos h12, upd_ne (by omega)]
        rcases ho with ⟨_, rfl, rfl⟩ | ⟨_, rfl, rfl⟩
        · rw [upd_ne (by omega)]
        · rw [upd_n2 (by omega)]
      · omega
theorem sw_AL {A : pm_A} {s L o k : Int} (h : AL A) (ho : own s L o) (k0 : 0 ≤ k) (k1 : k ≤ 5) : AL (swp A L k) := by
  have ok := own_k ho
  have nL : L = 4 ∨ L = 52 := by rcases ho with ⟨_, e, _⟩ | ⟨_, e, _⟩ <;> omega
  obtain ⟨⟨a1, a2, a3, a4, a5, a6, a7, a8, a9, a10, a11⟩, b, c, d, e⟩ := h
  have far : ∀ r j : Int, ¬ r = 28 → ¬ r = L → swp A L k r j = A r j := fun r j h1 h2 => by unfold swp; rw [upd_ne h1, upd_ne h2]
  refine ⟨⟨?_, ?_, ?_, ?_, ?_, ?_, ?_, ?_, ?_, ?_, ?_⟩, fun q q0 qk => ?_, fun x x0 x1 => ?_, fun i i0 i1 => ?_, fun i i0 i1 => ?_, fun i j i0 i1 j0 j1 hij => ?_⟩
  · rw [far 0 0 (by omega) (by omega)]; exact a1
  · rw [far 0 2 (by omega) (by omega)]; exact a2
  · rw [far 0 8 (by omega) (by omega)]; exact a3
  · rw [far 0 9 (by omega) (by omega)]; exact a4
  · rw [far 1 4 (by omega) (by omega)]; exact a5
  · rw [far 49 4 (by omega) (by omega)]; exact a6
  · rw [far 72 8 (by omega) (by omega)]; exact a7
  · rw [far 72 0 (by omega) (by omega)]; exact a8
  · rw [far 79 4 (by omega) (by omega)]; exact a9
  · unfold swp; rw [upd_n2 (by omega), upd_ne (by omega)]; exact a10
  · unfold swp; rw [upd_n2 (by omega), upd_ne (by omega)]; exact a11
  · rw [far q 2 (fun w => by rw [w, kk28] at qk; exact absurd qk (by decide)) (fun w => by rw [w, ok.2.1.2] at qk; exact absurd qk (by decide))]
    exact b q q0 qk
  · rw [far 73 x (by omega) (by omega)]; exact c x x0 x1
  · rw [far 82 i (by omega) (by omega)]; exact d i i0 i1
  · rw [sw_pc ho k0 k1 i0 i1]
    refine e.1 _ ?_ ?_
    · rcases sw_3 o k i with ⟨_, q⟩ | ⟨_, _, q⟩ | ⟨_, _, q⟩ <;> omega
    · rcases sw_3 o k i with ⟨_, q⟩ | ⟨_, _, q⟩ | ⟨_, _, q⟩ <;> omega
  · rw [sw_pc ho k0 k1 i0 i1, sw_pc ho k0 k1 j0 j1]
    refine e.2 _ _ ?_ ?_ ?_ ?_ ?_
    · rcases sw_3 o k i with ⟨_, q⟩ | ⟨_, _, q⟩ | ⟨_, _, q⟩ <;> omega
    · rcases sw_3 o k i with ⟨_, q⟩ | ⟨_, _, q⟩ | ⟨_, _, q⟩ <;> omega
    · rcases sw_3 o k j with ⟨_, q⟩ | ⟨_, _, q⟩ | ⟨_, _, q⟩ <;> omega
    · rcases sw_3 o k j with ⟨_, q⟩ | ⟨_, _, q⟩ | ⟨_, _, q⟩ <;> omega
    · rcases sw_3 o k i with ⟨_, q⟩ | ⟨_, _, q⟩ | ⟨_, _, q⟩ <;> rcases sw_3 o k j with ⟨_, w⟩ | ⟨_, _, w⟩ | ⟨_, _, w⟩ <;> omega
def se_M : List Nat := [500, 10010, 10012]
def se_post (A : pm_A) (r : pm_R) : Prop := r.1 = none ∧ gH wX r.2 ∧ AL r.2 ∧ gFr wX se_M A r.2
theorem sw_gH {A : pm_A} {s L o k : Int} (hA : gH wX A) (ho : own s L o) (k0 : 0 ≤ k) (k1 : k ≤ 5) : gH wX (swp A L k) ∧ gFr wX se_M A (swp A L k) := by
  have ok := own_k ho
  have f0 := fX_4_0 hA (r := 28) (by omega) kk28
  have eA := eX_12 hA ok.2.1.1 ok.2.1.2 k0 (show k < 6 by omega)
  refine ⟨?_, ?_⟩
  · refine gH_upd (gH_upd hA (k := (1, 5, 6, [(2, 2, 0)])) (by rw [ok.2.1.2]; rfl) (fun q => by cases q) (fun _ a ha => ?_)) (k := (0, 5, 7, [(2, 2, 0), (2, 2, 0), (2, 2, 0), (2, 2, 0), (2, 2, 0), (2, 18, 0), (2, 18, 0)])) (by rw [kk28]; rfl) (fun _ j a hj ej => ?_) (fun q => by cases q)
    · cases ha
      exact gv_ref f0.1 f0.2
    · have : j = 0 := by omega
      subst this
      cases hj
      exact gv_ref eA.1 eA.2
  · refine gFr_upd (gFr_upd (fun _ _ _ _ _ => rfl) ?_) ?_
    · unfold mcode; rw [shX_12 ok.2.1.2]; show (10000 + wX.2 L : Nat) ∈ se_M; rw [ok.2.1.2]; decide
    · unfold mcode; rw [shX_4 kk28]; show 500 ∈ se_M; decide
theorem se_22 {A B : pm_A} {s k : Int} {v3 : pm_V} (hs : 0 ≤ s ∧ wX.2 s = 1) (k0 : 0 ≤ k) (k1 : k ≤ 5) (h1 : gH wX B) (h2 : AL B) (h3 : gFr wX se_M A B) : Tm pmt (an_sh wX) o_X5_settle 22 ([(2, 28), (2, s), (0, k), v3], [], B) (se_post A) := by
  have t0 := fX_1_2 h1 hs.1 hs.2
  have p0 := fX_1_0 h1 hs.1 hs.2
  have q0 := fX_1_1 h1 hs.1 hs.2
  refine wq_ok srt_settle (fr := []) (cuts := []) (J := fun pc st => False) (fun _ _ h => h.elim) 20 22 _ ?_
  refine ⟨oX_1 hs.1 hs.2 2 rfl, ?_⟩
  refine ⟨oX_1 hs.1 hs.2 0 rfl, ?_⟩
  refine ⟨oX_1 hs.1 hs.2 1 rfl, ?_⟩
  refine ⟨⟨by omega, by omega⟩, ?_⟩
  refine ⟨oX_1 hs.1 hs.2 0 rfl, ?_⟩
  refine ⟨rfl, ?_⟩
  refine Cl.gct q_X9_turnTable_0 (A := B) (a := [(2, B s 2), (0, B s 0 + B s 1), (0, B s 0), (0, k)]) ⟨gv_ref t0.1 t0.2, ⟨rfl, by simp only; omega, by simp only; omega⟩, ⟨rfl, p0.1, p0.2⟩, ⟨rfl, k0, k1⟩, trivial⟩ h1 ?_
  rintro ⟨r1, C⟩ g1 g2 g3
  simp only at g1 g2 g3
  cases r1 with
  | some v => exact absurd g1 (by intro q; cases q)
  | none => exact ⟨rfl, g2, al_keep g3 rfl h2, gFr_tr h3 g3 (fun x hx => by
      cases hx with
      | head => exact List.Mem.tail _ (List.Mem.head _)
      | tail _ q => cases q)⟩
theorem settle_ct {A : pm_A} {s L o k : Int} (hA : gH wX A) (h : AL A) (ho : own s L o) (k0 : 0 ≤ k) (k1 : k ≤ 5) : Cl pmt (an_sh wX) 47 [(2, 28), (2, s), (0, k)] A (se_post A) := by
  have ok := own_k ho
  have eL := own_L ho h
  have f0 := fX_4_0 hA (r := 28) (by omega) kk28
  have sg := sw_gH hA ho k0 k1
  have sA := sw_AL h ho k0 k1
  have s12 := shX_12 ok.2.1.2
  have s2 := shX_2 f0.2
  refine Cl.of (Nat.le_of_ble_eq_true rfl) ?_
  refine wq_ok (full := o_X5_settle) srt_settle (fr := []) (cuts := [22]) (J := fun pc st => pc = 22 ∧ ∃ v3, st = ([(2, 28), (2, s), (0, k), v3], [], pm_upd (pm_upd A (A s 4) k (A 28 0)) 28 0 (A (A s 4) k))) ?_ 20 0 _ ?_
  · rintro pc st ⟨rfl, v3, rfl⟩
    rw [eL]
    exact se_22 ok.1 k0 k1 sg.1 sA sg.2
  · refine ⟨oX_1 ok.1.1 ok.1.2 4 rfl, ?_⟩
    refine ⟨aX_12 (by rw [eL]; exact ok.2.1.1) (by rw [eL]; exact ok.2.1.2) k0 (by omega), ?_⟩
    refine ⟨oX_1 ok.1.1 ok.1.2 4 rfl, ?_⟩
    refine ⟨oX_4 (by omega) kk28 0 rfl, ?_⟩
    refine ⟨⟨by rw [eL]; exact ok.2.1.1, by rw [eL, s12], by rw [eL, s12], k0, by rw [eL, s12]; simp only; omega, f0.1, by rw [s2], by rw [s2]⟩, ?_⟩
    refine ⟨oX_4 (by omega) kk28 0 rfl, ?_⟩
    exact ⟨rfl, _, rfl⟩
end

section
/-! turn, back, walkRow -/
theorem srt_turn : pm_srt o_X9_turn = true := by decide +kernel
theorem srt_back : pm_srt o_X9_back = true := by decide +kernel
theorem srt_walkRow : pm_srt o_X9_walkRow = true := by decide +kernel
def St (A : pm_A) : Prop := gH wX A ∧ AL A
def st_post (lo hi : Int) (r : pm_R) : Prop := ∃ x, r.1 = some (0, x) ∧ (lo ≤ x ∧ x ≤ hi) ∧ St r.2
theorem St.keep {A C : pm_A} {ms : List Nat} (h : St A) (hC : gH wX C) (hF : gFr wX ms A C) (hm : ms.all (fun x => !al_C.contains x) = true) : St C := ⟨hC, al_keep hF hm h.2⟩
theorem place_ct {A : pm_A} {k : Int} (hA : St A) (hk : r32 k) : Cl pmt (an_sh wX) 96 [(2, 0), (0, k)] A (fun r => ∃ x, r.1 = some (0, x) ∧ St r.2 ∧ gFr wX [] A r.2 ∧ (¬ x = 0 → 0 ≤ k ∧ k ≤ 5)) := by
  have key : ∀ (lo hi c : Int), c = 0 ∨ (0 ≤ lo ∧ hi ≤ 5) → gCt wX pmt 96 ([(2, 0, 0), (0, lo, hi)], some (0, 0, c), []) → lo ≤ k → k ≤ hi → Cl pmt (an_sh wX) 96 [(2, 0), (0, k)] A (fun r => ∃ x, r.1 = some (0, x) ∧ St r.2 ∧ gFr wX [] A r.2 ∧ (¬ x = 0 → 0 ≤ k ∧ k ≤ 5)) := by
    intro lo hi c hc hq h1 h2
    refine Cl.gct hq (A := A) (a := [(2, 0), (0, k)]) ⟨gv_ref (by omega) kk0, ⟨rfl, h1, h2⟩, trivial⟩ hA.1 ?_
    rintro ⟨r1, C⟩ g1 g2 g3
    simp only at g1 g2 g3
    match r1, g1 with
    | some (0, x), ⟨⟨_, q1, q2⟩, _⟩ =>
      simp only at q1 q2
      exact ⟨x, rfl, hA.keep g2 g3 rfl, g3, fun q => by omega⟩
    | some (n + 1, x), ⟨⟨q, _⟩, _⟩ => exact absurd q (by intro q; cases q)
    | none, q => exact absurd q (by intro q; cases q)
  unfold r32 at hk
  by_cases h1 : k < 0
  · exact key _ _ _ (Or.inl rfl) q_X9_isPlace_0 hk.1 (by omega)
  · by_cases h2 : k ≤ 5
    · exact key _ _ _ (Or.inr ⟨by omega, by omega⟩) q_X9_isPlace_1 (by omega) h2
    · exact key _ _ _ (Or.inl rfl) q_X9_isPlace_2 (by omega) hk.2
theorem exch_ct {A : pm_A} {s L o k : Int} (hA : St A) (ho : own s L o) (k0 : 0 ≤ k) (k1 : k ≤ 5) : Cl pmt (an_sh wX) 42 [(2, 28), (2, s), (0, k)] A (fun r => ∃ x, r.1 = some (0, x) ∧ (0 ≤ x ∧ x ≤ 1) ∧ St r.2 ∧ gFr wX dv_M A r.2) := by
  refine (exchange_ct (al_ex hA.1 hA.2 ho k0 k1)).imp ?_
  rintro ⟨r1, C⟩ ⟨x, e, x0, x1, c1, c2⟩
  simp only at e c1 c2
  subst e
  exact ⟨x, rfl, ⟨x0, x1⟩, hA.keep c1 c2 rfl, c2⟩
theorem put_turns {B : pm_A} {t : Int} (hB : St B) (t0 : 0 ≤ t) (t1 : t ≤ 100) : St (pm_upd B 0 4 t) := by
  refine hB.keep (ms := [904]) ?_ (gFr_upd (fun _ _ _ _ _ => rfl) ?_) rfl
  · refine gH_upd hB.1 (k := (0, 9, 15, [(2, 1, 0), (2, 3, 0), (2, 4, 0), (2, 19, 0), (0, 0, 100), (2, 20, 0), (2, 21, 0), (0, 0, 12), (2, 1, 0), (2, 5, 0), (0, (-2147483648), 2147483647), (2, 6, 0), (2, 7, 0), (2, 34, 0), (2, 8, 0)])) (by rw [kk0]; rfl) (fun _ j a hj ej => ?_) (fun q => by cases q)
    have : j = 4 := by omega
    subst this
    cases hj
    exact ⟨rfl, t0, t1⟩
  · unfold mcode; rw [shX_0 kk0]; show 904 ∈ [904]; decide
theorem own1 : own 1 4 0 := Or.inl ⟨rfl, rfl, rfl⟩
theorem own49 : own 49 52 6 := Or.inr ⟨rfl, rfl, rfl⟩
theorem z0 : (0 : Int) ≤ 0 := by omega
theorem tu_72 {B : pm_A} {k : Int} (hB : St B) (k0 : 0 ≤ k) (k1 : k ≤ 5) : Tm pmt (an_sh wX) o_X9_turn 72 ([(2, 0), (0, k)], [], B) (st_post (-3) 200) := by
  have s0 := fX_0_0 hB.1 z0 kk0
  have l0 := fX_1_4 hB.1 s0.1 s0.2
  have e0 := eX_12 hB.1 l0.1 l0.2 k0 (show k < 6 by omega)
  have n0 := fX_2_1 hB.1 e0.1 e0.2
  refine wq_ok srt_turn (fr := []) (cuts := []) (J := fun pc st => False) (fun _ _ h => h.elim) 20 72 _ ?_
  refine ⟨oX_0 z0 kk0 0 rfl, ?_⟩
  refine ⟨oX_1 s0.1 s0.2 4 rfl, ?_⟩
  refine ⟨aX_12 l0.1 l0.2 k0 (by omega), ?_⟩
  refine ⟨oX_2 e0.1 e0.2 1 rfl, ?_⟩
  exact ⟨rfl, _, rfl, ⟨by omega, n0.2⟩, hB⟩
theorem tu_62 {B : pm_A} {k : Int} (hB : St B) (k0 : 0 ≤ k) (k1 : k ≤ 5) (ht : B 0 4 < 100) : Tm pmt (an_sh wX) o_X9_turn 62 ([(2, 0), (0, k)], [], B) (st_post (-3) 200) := by
  have t0 := fX_0_4 hB.1 z0 kk0
  refine wq_ok srt_turn (fr := []) (cuts := [72]) (J := fun pc st => pc = 72 ∧ st = ([(2, 0), (0, k)], [], pm_upd B 0 4 (B 0 4 + 1))) ?_ 20 62 _ ?_
  · rintro pc st ⟨rfl, rfl⟩
    exact tu_72 (put_turns hB (by omega) (by omega)) k0 k1
  · refine ⟨oX_0 z0 kk0 4 rfl, ?_⟩
    refine ⟨⟨by omega, by omega⟩, ?_⟩
    refine ⟨oX_0 z0 kk0 4 rfl, ?_⟩
    exact ⟨rfl, rfl⟩
theorem tu_52 {B : pm_A} {k : Int} (hB : St B) (k0 : 0 ≤ k) (k1 : k ≤ 5) (ht : B 0 4 < 100) : Tm pmt (an_sh wX) o_X9_turn 52 ([(2, 0), (0, k)], [], B) (st_post (-3) 200) := by
  have t0 := fX_0_4 hB.1 z0 kk0
  have r0 := fX_0_3 hB.1 z0 kk0
  have ne : ¬ (0 : Int) = B 0 3 := fun q => by rw [← q, kk0] at r0; exact absurd r0.2 (by decide)
  refine wq_ok srt_turn (fr := []) (cuts := [62]) (J := fun pc st => pc = 62 ∧ st = ([(2, 0), (0, k)], [], pm_upd B (B 0 3) (B 0 4) k)) ?_ 20 52 _ ?_
  · rintro pc st ⟨rfl, rfl⟩
    exact tu_62 (hB.keep (ms := [10019]) (uX_19 hB.1 r0.2 (by omega) (by omega)) (gFr_upd (fun _ _ _ _ _ => rfl) (mX_19 r0.2 rfl)) rfl) k0 k1 (by rw [upd_ne ne]; exact ht)
  · refine ⟨oX_0 z0 kk0 3 rfl, ?_⟩
    refine ⟨oX_0 z0 kk0 4 rfl, ?_⟩
    refine ⟨tX_19 r0.1 r0.2 t0.1 ht rfl, ?_⟩
    exact ⟨rfl, rfl⟩
theorem tu_40 {B : pm_A} {k : Int} (hB : St B) (k0 : 0 ≤ k) (k1 : k ≤ 5) (ht : B 0 4 < 100) : Tm pmt (an_sh wX) o_X9_turn 40 ([(2, 0), (0, k)], [], B) (st_post (-3) 200) := by
  have a2 := hB.2.1.2.1
  have a1 := hB.2.1.1
  refine wq_ok srt_turn (fr := []) (cuts := [52]) (J := fun pc st => pc = 52 ∧ ∃ C, St C ∧ C 0 4 < 100 ∧ st = ([(2, 0), (0, k)], [], C)) ?_ 20 40 _ ?_
  · rintro pc st ⟨rfl, C, hC, hC2, rfl⟩
    exact tu_52 hC k0 k1 hC2
  · refine ⟨oX_0 z0 kk0 2 rfl, ?_⟩
    refine ⟨oX_0 z0 kk0 0 rfl, ?_⟩
    refine ⟨rX_4 (r := B 0 2) (by rw [a2]; omega) (by rw [a2]; exact kk28), ?_⟩
    show Cl pmt (an_sh wX) 47 [(2, B 0 2), (2, B 0 0), (0, k)] B _
    rw [a1, a2]
    refine (settle_ct hB.1 hB.2 own1 k0 k1).imp ?_
    rintro ⟨r1, C⟩ ⟨q1, q2, q3, q4⟩
    simp only at q1 q2 q3 q4
    subst q1
    refine ⟨rfl, C, ⟨q2, q3⟩, ?_, rfl⟩
    rw [q4 0 4 z0 (by omega) (by unfold mcode; rw [shX_0 kk0]; show ¬ 904 ∈ se_M; decide)]
    exact ht
theorem tu_10 {B : pm_A} {k : Int} (hB : St B) (k0 : 0 ≤ k) (k1 : k ≤ 5) : Tm pmt (an_sh wX) o_X9_turn 10 ([(2, 0), (0, k)], [], B) (st_post (-3) 200) := by
  have a2 := hB.2.1.2.1
  have a1 := hB.2.1.1
  refine wq_ok srt_turn (fr := []) (cuts := [28]) (J := fun pc st => pc = 28 ∧ ∃ C, St C ∧ st = ([(2, 0), (0, k)], [], C)) ?_ 20 10 _ ?_
  · rintro pc st ⟨rfl, C, hC, rfl⟩
    refine wq_ok srt_turn (fr := []) (cuts := [40]) (J := fun pc st => pc = 40 ∧ C 0 4 < 100 ∧ st = ([(2, 0), (0, k)], [], C)) ?_ 20 28 _ ?_
    · rintro pc st ⟨rfl, ht, rfl⟩
      exact tu_40 hC k0 k1 ht
    · refine ⟨oX_0 z0 kk0 4 rfl, ?_⟩
      refine ⟨fun h => ⟨rfl, h, rfl⟩, fun h => ?_⟩
      exact ⟨rfl, -3, rfl, ⟨by omega, by omega⟩, hC⟩
  · refine ⟨oX_0 z0 kk0 2 rfl, ?_⟩
    refine ⟨oX_0 z0 kk0 0 rfl, ?_⟩
    refine ⟨rX_4 (r := B 0 2) (by rw [a2]; omega) (by rw [a2]; exact kk28), ?_⟩
    show Cl pmt (an_sh wX) 42 [(2, B 0 2), (2, B 0 0), (0, k)] B _
    rw [a1, a2]
    refine (exch_ct hB own1 k0 k1).imp ?_
    rintro ⟨r1, C⟩ ⟨x, e, hx, hC, _⟩
    simp only at e hC
    subst e
    refine ⟨fun h => ?_, fun h => ?_⟩
    · exact ⟨rfl, C, hC, rfl⟩
    · exact ⟨rfl, -2, rfl, ⟨by omega, by omega⟩, hC⟩
theorem turn_ct {A : pm_A} {k : Int} (hA : St A) (hk : r32 k) : Cl pmt (an_sh wX) 115 [(2, 0), (0, k)] A (st_post (-3) 200) := by
  refine Cl.of (Nat.le_of_ble_eq_true rfl) ?_
  refine wq_ok (full := o_X9_turn) srt_turn (fr := []) (cuts := [10]) (J := fun pc st => pc = 10 ∧ (0 ≤ k ∧ k ≤ 5) ∧ ∃ C, St C ∧ st = ([(2, 0), (0, k)], [], C)) ?_ 20 0 _ ?_
  · rintro pc st ⟨rfl, hk, C, hC, rfl⟩
    exact tu_10 hC hk.1 hk.2
  · refine ⟨rX_0 z0 kk0, ?_⟩
    refine (place_ct hA hk).imp ?_
    rintro ⟨r1, C⟩ ⟨x, e, hC, _, hx⟩
    simp only at e hC
    subst e
    refine ⟨fun h => ?_, fun h => ?_⟩
    · exact ⟨rfl, hx h, C, hC, rfl⟩
    · exact ⟨rfl, -1, rfl, ⟨by omega, by omega⟩, hC⟩
theorem ba_56 {B : pm_A} {k : Int} (hB : St B) (k0 : 0 ≤ k) (k1 : k ≤ 5) (ht : 1 ≤ B 0 4) : Tm pmt (an_sh wX) o_X9_back 56 ([(2, 0), (0, k)], [], B) (st_post 0 1) := by
  have a2 := hB.2.1.2.1
  have a1 := hB.2.1.1
  refine wq_ok srt_back (fr := []) (cuts := [68]) (J := fun pc st => pc = 68 ∧ ∃ C, St C ∧ 1 ≤ C 0 4 ∧ st = ([(2, 0), (0, k)], [], C)) ?_ 20 56 _ ?_
  · rintro pc st ⟨rfl, C, hC, hC2, rfl⟩
    have t0 := fX_0_4 hC.1 z0 kk0
    refine wq_ok srt_back (fr := []) (cuts := []) (J := fun pc st => False) (fun _ _ h => h.elim) 20 68 _ ?_
    refine ⟨oX_0 z0 kk0 4 rfl, ?_⟩
    refine ⟨⟨by omega, by omega⟩, ?_⟩
    refine ⟨oX_0 z0 kk0 4 rfl, ?_⟩
    exact ⟨rfl, 1, rfl, ⟨by omega, by omega⟩, put_turns hC (by omega) (by omega)⟩
  · refine ⟨oX_0 z0 kk0 2 rfl, ?_⟩
    refine ⟨oX_0 z0 kk0 0 rfl, ?_⟩
    refine ⟨rX_4 (r := B 0 2) (by rw [a2]; omega) (by rw [a2]; exact kk28), ?_⟩
    show Cl pmt (an_sh wX) 47 [(2, B 0 2), (2, B 0 0), (0, k)] B _
    rw [a1, a2]
    refine (settle_ct hB.1 hB.2 own1 k0 k1).imp ?_
    rintro ⟨r1, C⟩ ⟨q1, q2, q3, q4⟩
    simp only at q1 q2 q3 q4
    subst q1
    refine ⟨rfl, C, ⟨q2, q3⟩, ?_, rfl⟩
    rw [q4 0 4 z0 (by omega) (by unfold mcode; rw [shX_0 kk0]; show ¬ 904 ∈ se_M; decide)]
    exact ht
theorem ba_39 {B : pm_A} {k : Int} (hB : St B) (k0 : 0 ≤ k) (k1 : k ≤ 5) (ht : 1 ≤ B 0 4) : Tm pmt (an_sh wX) o_X9_back 39 ([(2, 0), (0, k)], [], B) (st_post 0 1) := by
  have a2 := hB.2.1.2.1
  have a1 := hB.2.1.1
  refine wq_ok srt_back (fr := []) (cuts := [56]) (J := fun pc st => pc = 56 ∧ ∃ C, St C ∧ 1 ≤ C 0 4 ∧ st = ([(2, 0), (0, k)], [], C)) ?_ 20 39 _ ?_
  · rintro pc st ⟨rfl, C, hC, hC2, rfl⟩
    exact ba_56 hC k0 k1 hC2
  · refine ⟨oX_0 z0 kk0 2 rfl, ?_⟩
    refine ⟨oX_0 z0 kk0 0 rfl, ?_⟩
    refine ⟨rX_4 (r := B 0 2) (by rw [a2]; omega) (by rw [a2]; exact kk28), ?_⟩
    show Cl pmt (an_sh wX) 42 [(2, B 0 2), (2, B 0 0), (0, k)] B _
    rw [a1, a2]
    refine (exch_ct hB own1 k0 k1).imp ?_
    rintro ⟨r1, C⟩ ⟨x, e, hx, hC, hF⟩
    simp only at e hC hF
    subst e
    refine ⟨fun h => ?_, fun h => ?_⟩
    · refine ⟨rfl, C, hC, ?_, rfl⟩
      rw [hF 0 4 z0 (by omega) (by unfold mcode; rw [shX_0 kk0]; show ¬ 904 ∈ dv_M; decide)]
      exact ht
    · exact ⟨rfl, 0, rfl, ⟨by omega, by omega⟩, hC⟩
theorem back_ct {A : pm_A} (hA : St A) : Cl pmt (an_sh wX) 86 [(2, 0)] A (st_post 0 1) := by
  have t0 := fX_0_4 hA.1 z0 kk0
  have r0 := fX_0_3 hA.1 z0 kk0
  refine Cl.of (Nat.le_of_ble_eq_true rfl) ?_
  refine wq_ok (full := o_X9_back) srt_back (fr := []) (cuts := [31]) (J := fun pc st => pc = 31 ∧ 1 ≤ A 0 4 ∧ A 0 4 ≤ 100 ∧ st = ([(2, 0), (0, A (A 0 3) (A 0 4 - 1))], [], A)) ?_ 20 0 _ ?_
  · rintro pc st ⟨rfl, h1, h2, rfl⟩
    have e0 := eX_19 hA.1 r0.1 r0.2 (j := A 0 4 - 1) (by omega) (by omega)
    generalize A (A 0 3) (A 0 4 - 1) = k at e0
    refine wq_ok srt_back (fr := []) (cuts := [39]) (J := fun pc st => pc = 39 ∧ (0 ≤ k ∧ k ≤ 5) ∧ ∃ C, St C ∧ 1 ≤ C 0 4 ∧ st = ([(2, 0), (0, k)], [], C)) ?_ 20 31 _ ?_
    · rintro pc st ⟨rfl, hk, C, hC, hC2, rfl⟩
      exact ba_39 hC hk.1 hk.2 hC2
    · refine ⟨rX_0 z0 kk0, ?_⟩
      refine (place_ct hA e0).imp ?_
      rintro ⟨r1, C⟩ ⟨x, e, hC, hF, hx⟩
      simp only at e hC hF
      subst e
      refine ⟨fun h => ?_, fun h => ?_⟩
      · exact ⟨rfl, 0, rfl, ⟨by omega, by omega⟩, hC⟩
      · exact ⟨rfl, hx h, C, hC, by rw [hF 0 4 z0 (by omega) (fun q => by cases q)]; exact h1, rfl⟩
  · refine ⟨oX_0 z0 kk0 4 rfl, ?_⟩
    refine ⟨fun h => ?_, fun h => ?_⟩
    · exact ⟨rfl, 0, rfl, ⟨by omega, by omega⟩, hA⟩
    · refine ⟨oX_0 z0 kk0 4 rfl, ?_⟩
      refine ⟨fun h2 => ?_, fun h2 => ?_⟩
      · refine ⟨oX_0 z0 kk0 3 rfl, ?_⟩
        refine ⟨oX_0 z0 kk0 4 rfl, ?_⟩
        refine ⟨⟨by omega, by omega⟩, ?_⟩
        refine ⟨aX_19 r0.1 r0.2 (by omega) (by omega), ?_⟩
        exact ⟨rfl, h, h2, rfl⟩
      · exact ⟨rfl, 0, rfl, ⟨by omega, by omega⟩, hA⟩
end

section
/-! walkRow, order -/
theorem srt_order : pm_srt o_X9_order = true := by decide +kernel
theorem wr_32 {B : pm_A} {i : Int} (hB : St B) (i0 : 0 ≤ i) (i1 : i ≤ 11) (H : ∀ C, St C → Tm pmt (an_sh wX) o_X9_walkRow 2 ([(2, 0), (0, i + 1)], [], C) (st_post 0 1)) : Tm pmt (an_sh wX) o_X9_walkRow 32 ([(2, 0), (0, i)], [], B) (st_post 0 1) := by
  have a2 := hB.2.1.2.1
  have a8 := hB.2.1.2.2.1
  have r0 := fX_0_6 hB.1 z0 kk0
  have e0 := eX_21 hB.1 r0.1 r0.2 i0 (show i < 12 by omega)
  refine wq_ok srt_walkRow (fr := []) (cuts := [2]) (J := fun pc st => pc = 2 ∧ ∃ C, St C ∧ st = ([(2, 0), (0, i + 1)], [], C)) ?_ 20 32 _ ?_
  · rintro pc st ⟨rfl, C, hC, rfl⟩
    exact H C hC
  · refine ⟨oX_0 z0 kk0 2 rfl, ?_⟩
    refine ⟨oX_0 z0 kk0 8 rfl, ?_⟩
    refine ⟨oX_0 z0 kk0 6 rfl, ?_⟩
    refine ⟨aX_21 r0.1 r0.2 i0 (by omega), ?_⟩
    refine ⟨rX_4 (r := B 0 2) (by rw [a2]; omega) (by rw [a2]; exact kk28), ?_⟩
    show Cl pmt (an_sh wX) 47 [(2, B 0 2), (2, B 0 8), (0, B (B 0 6) i)] B _
    rw [a8, a2]
    refine (settle_ct hB.1 hB.2 own49 e0.1 e0.2).imp ?_
    rintro ⟨r1, C⟩ ⟨q1, q2, q3, q4⟩
    simp only at q1 q2 q3 q4
    subst q1
    refine ⟨⟨by omega, by omega⟩, ?_⟩
    exact ⟨rfl, C, ⟨q2, q3⟩, rfl⟩
theorem wr_2 : ∀ (n : Nat) (i : Int) (B : pm_A), (12 - i).toNat < n → 0 ≤ i → i ≤ 12 → St B → Tm pmt (an_sh wX) o_X9_walkRow 2 ([(2, 0), (0, i)], [], B) (st_post 0 1) := by
  intro n
  induction n with
  | zero => intro i B h; omega
  | succ n ih =>
    intro i B hn i0 i1 hB
    have a2 := hB.2.1.2.1
    have a8 := hB.2.1.2.2.1
    have r0 := fX_0_6 hB.1 z0 kk0
    have n0 := fX_0_7 hB.1 z0 kk0
    refine wq_ok srt_walkRow (fr := []) (cuts := [32]) (J := fun pc st => pc = 32 ∧ i < 12 ∧ ∃ C, St C ∧ st = ([(2, 0), (0, i)], [], C)) ?_ 20 2 _ ?_
    · rintro pc st ⟨rfl, hi, C, hC, rfl⟩
      exact wr_32 hC i0 (by omega) (fun D hD => ih (i + 1) D (by omega) (by omega) (by omega) hD)
    · refine ⟨oX_0 z0 kk0 7 rfl, ?_⟩
      refine ⟨fun h => ?_, fun h => ?_⟩
      · exact ⟨rfl, 1, rfl, ⟨by omega, by omega⟩, hB⟩
      · have hi : i < 12 := by omega
        have e0 := eX_21 hB.1 r0.1 r0.2 i0 hi
        refine ⟨oX_0 z0 kk0 2 rfl, ?_⟩
        refine ⟨oX_0 z0 kk0 8 rfl, ?_⟩
        refine ⟨oX_0 z0 kk0 6 rfl, ?_⟩
        refine ⟨aX_21 r0.1 r0.2 i0 hi, ?_⟩
        refine ⟨rX_4 (r := B 0 2) (by rw [a2]; omega) (by rw [a2]; exact kk28), ?_⟩
        show Cl pmt (an_sh wX) 42 [(2, B 0 2), (2, B 0 8), (0, B (B 0 6) i)] B _
        rw [a8, a2]
        refine (exch_ct hB own49 e0.1 e0.2).imp ?_
        rintro ⟨r1, C⟩ ⟨x, e, hx, hC, _⟩
        simp only at e hC
        subst e
        refine ⟨fun h => ?_, fun h => ?_⟩
        · exact ⟨rfl, hi, C, hC, rfl⟩
        · exact ⟨rfl, 0, rfl, ⟨by omega, by omega⟩, hC⟩
theorem walkRow_ct {A : pm_A} (hA : St A) : Cl pmt (an_sh wX) 118 [(2, 0)] A (st_post 0 1) := by
  refine Cl.of (Nat.le_of_ble_eq_true rfl) ?_
  refine wq_ok (full := o_X9_walkRow) srt_walkRow (fr := []) (cuts := [2]) (J := fun pc st => pc = 2 ∧ st = ([(2, 0), (0, 0)], [], A)) ?_ 20 0 _ ?_
  · rintro pc st ⟨rfl, rfl⟩
    exact wr_2 _ 0 A (Nat.lt_succ_self _) (by omega) (by omega) hA
  · exact ⟨rfl, rfl⟩
theorem or_53 : ∀ (n : Nat) (t : Int) (B : pm_A), (41 - t).toNat < n → 1 ≤ t → t ≤ 41 → St B → Tm pmt (an_sh wX) o_X9_order 53 ([(2, 0), (0, t)], [], B) (st_post (-2) 40) := by
  intro n
  induction n with
  | zero => intro t B h; omega
  | succ n ih =>
    intro t B hn t0 t1 hB
    refine wq_ok srt_order (fr := []) (cuts := [69]) (J := fun pc st => pc = 69 ∧ t ≤ 40 ∧ ∃ C, St C ∧ st = ([(2, 0), (0, t)], [], C)) ?_ 20 53 _ ?_
    · rintro pc st ⟨rfl, ht, C, hC, rfl⟩
      have s0 := fX_0_0 hC.1 z0 kk0
      have w0 := fX_0_8 hC.1 z0 kk0
      refine wq_ok srt_order (fr := []) (cuts := [53]) (J := fun pc st => pc = 53 ∧ ∃ D, St D ∧ st = ([(2, 0), (0, t + 1)], [], D)) ?_ 20 69 _ ?_
      · rintro pc st ⟨rfl, D, hD, rfl⟩
        exact ih (t + 1) D (by omega) (by omega) (by omega) hD
      · refine ⟨oX_0 z0 kk0 8 rfl, ?_⟩
        refine ⟨oX_0 z0 kk0 0 rfl, ?_⟩
        refine ⟨rX_1 w0.1 w0.2, ?_⟩
        refine Cl.gct q_X7_isSameAs_0 (A := C) (a := [(2, C 0 8), (2, C 0 0)]) ⟨gv_ref w0.1 w0.2, gv_ref s0.1 s0.2, trivial⟩ hC.1 ?_
        rintro ⟨r1, D⟩ g1 g2 g3
        simp only at g1 g2 g3
        have hD := hC.keep g2 g3 rfl
        match r1, g1 with
        | some (0, x), _ =>
          refine ⟨fun _ => ?_, fun _ => ?_⟩
          · refine ⟨⟨by omega, by omega⟩, ?_⟩
            exact ⟨rfl, D, hD, rfl⟩
          · exact ⟨rfl, t, rfl, ⟨by omega, ht⟩, hD⟩
        | some (n + 1, x), ⟨⟨q, _⟩, _⟩ => exact absurd q (by intro q; cases q)
        | none, q => exact absurd q (by intro q; cases q)
    · refine ⟨fun h => ?_, fun h => ?_⟩
      · exact ⟨rfl, -2, rfl, ⟨by omega, by omega⟩, hB⟩
      · refine ⟨rX_0 z0 kk0, ?_⟩
        refine (walkRow_ct hB).imp ?_
        rintro ⟨r1, C⟩ ⟨x, e, hx, hC⟩
        simp only at e hC
        subst e
        refine ⟨fun _ => ?_, fun _ => ?_⟩
        · exact ⟨rfl, h, C, hC, rfl⟩
        · exact ⟨rfl, -2, rfl, ⟨by omega, by omega⟩, hC⟩
theorem or_40 {B : pm_A} {i : Int} (hB : St B) : Tm pmt (an_sh wX) o_X9_order 40 ([(2, 0), (0, i)], [], B) (st_post (-2) 40) := by
  have s0 := fX_0_0 hB.1 z0 kk0
  have w0 := fX_0_8 hB.1 z0 kk0
  refine wq_ok srt_order (fr := []) (cuts := [53]) (J := fun pc st => pc = 53 ∧ ∃ D, St D ∧ st = ([(2, 0), (0, 1)], [], D)) ?_ 20 40 _ ?_
  · rintro pc st ⟨rfl, D, hD, rfl⟩
    exact or_53 _ 1 D (Nat.lt_succ_self _) (by omega) (by omega) hD
  · refine ⟨oX_0 z0 kk0 8 rfl, ?_⟩
    refine ⟨oX_0 z0 kk0 0 rfl, ?_⟩
    refine ⟨rX_1 w0.1 w0.2, ?_⟩
    refine Cl.gct q_X7_copyFrom_0 (A := B) (a := [(2, B 0 8), (2, B 0 0)]) ⟨gv_ref w0.1 w0.2, gv_ref s0.1 s0.2, trivial⟩ hB.1 ?_
    rintro ⟨r1, D⟩ g1 g2 g3
    simp only at g1 g2 g3
    cases r1 with
    | some v => exact absurd g1 (by intro q; cases q)
    | none => exact ⟨rfl, D, hB.keep g2 g3 rfl, rfl⟩
theorem or_11 : ∀ (n : Nat) (i : Int) (B : pm_A), (12 - i).toNat < n → 0 ≤ i → i ≤ 12 → St B → Tm pmt (an_sh wX) o_X9_order 11 ([(2, 0), (0, i)], [], B) (st_post (-2) 40) := by
  intro n
  induction n with
  | zero => intro i B h; omega
  | succ n ih =>
    intro i B hn i0 i1 hB
    have r0 := fX_0_6 hB.1 z0 kk0
    have n0 := fX_0_7 hB.1 z0 kk0
    refine wq_ok srt_order (fr := []) (cuts := [11, 40]) (J := fun pc st => (pc = 40 ∧ st = ([(2, 0), (0, i)], [], B)) ∨ (pc = 11 ∧ i < 12 ∧ ∃ C, St C ∧ st = ([(2, 0), (0, i + 1)], [], C))) ?_ 20 11 _ ?_
    · rintro pc st (⟨rfl, rfl⟩ | ⟨rfl, hi, C, hC, rfl⟩)
      · exact or_40 hB
      · exact ih (i + 1) C (by omega) (by omega) (by omega) hC
    · refine ⟨oX_0 z0 kk0 7 rfl, ?_⟩
      refine ⟨fun h => Or.inl ⟨rfl, rfl⟩, fun h => ?_⟩
      have hi : i < 12 := by omega
      have e0 := eX_21 hB.1 r0.1 r0.2 i0 hi
      refine ⟨oX_0 z0 kk0 6 rfl, ?_⟩
      refine ⟨aX_21 r0.1 r0.2 i0 hi, ?_⟩
      refine ⟨rX_0 z0 kk0, ?_⟩
      refine (place_ct hB (k := B (B 0 6) i) ⟨by omega, by omega⟩).imp ?_
      rintro ⟨r1, C⟩ ⟨x, e, hC, _, hx⟩
      simp only at e hC
      subst e
      refine ⟨fun _ => ?_, fun _ => ?_⟩
      · refine ⟨⟨by omega, by omega⟩, ?_⟩
        exact Or.inr ⟨rfl, hi, C, hC, rfl⟩
      · exact ⟨rfl, -1, rfl, ⟨by omega, by omega⟩, hC⟩
theorem order_ct {A : pm_A} (hA : St A) : Cl pmt (an_sh wX) 102 [(2, 0)] A (st_post (-2) 40) := by
  refine Cl.of (Nat.le_of_ble_eq_true rfl) ?_
  refine wq_ok (full := o_X9_order) srt_order (fr := []) (cuts := [11]) (J := fun pc st => pc = 11 ∧ st = ([(2, 0), (0, 0)], [], A)) ?_ 20 0 _ ?_
  · rintro pc st ⟨rfl, rfl⟩
    exact or_11 _ 0 A (Nat.lt_succ_self _) (by omega) (by omega) hA
  · refine ⟨oX_0 z0 kk0 7 rfl, ?_⟩
    refine ⟨fun h => ?_, fun h => ?_⟩
    · exact ⟨rfl, rfl⟩
    · exact ⟨rfl, -1, rfl, ⟨by omega, by omega⟩, hA⟩
end

section
/-! Atlas.load -/
theorem srt_load : pm_srt o_X0_load = true := by decide +kernel
theorem z72 : (0 : Int) ≤ 72 := by omega
theorem z79 : (0 : Int) ≤ 79 := by omega
theorem al_82 {A : pm_A} {i q : Int} (h : AL A) (hq : 72 < q) : AL (pm_upd A 82 i q) := by
  obtain ⟨⟨a1, a2, a3, a4, a5, a6, a7, a8, a9, a10, a11⟩, b, c, d, e⟩ := h
  have far : ∀ r j : Int, ¬ r = 82 → pm_upd A 82 i q r j = A r j := fun r j h1 => upd_ne h1
  refine ⟨⟨?_, ?_, ?_, ?_, ?_, ?_, ?_, ?_, ?_, ?_, ?_⟩, fun x x0 xk => ?_, fun x x0 x1 => ?_, fun j j0 j1 => ?_, pool_eq (fun j j0 j1 => ?_) e⟩
  · rw [far 0 0 (by omega)]; exact a1
  · rw [far 0 2 (by omega)]; exact a2
  · rw [far 0 8 (by omega)]; exact a3
  · rw [far 0 9 (by omega)]; exact a4
  · rw [far 1 4 (by omega)]; exact a5
  · rw [far 49 4 (by omega)]; exact a6
  · rw [far 72 8 (by omega)]; exact a7
  · rw [far 72 0 (by omega)]; exact a8
  · rw [far 79 4 (by omega)]; exact a9
  · rw [far 28 1 (by omega)]; exact a10
  · rw [far 28 2 (by omega)]; exact a11
  · rw [far x 2 (fun w => by rw [w, kk82] at xk; exact absurd xk (by decide))]; exact b x x0 xk
  · rw [far 73 x (by omega)]; exact c x x0 x1
  · by_cases w : j = i
    · rw [w, upd_at]; exact hq
    · rw [upd_n2 w]; exact d j j0 j1
  · unfold pc
    rw [far 4 j (by omega), far 52 (j - 6) (by omega), far 28 0 (by omega)]
/-- the first i seats at hand are numbers of letters -/
def satn (A : pm_A) (i : Int) : Prop := ∀ j, 0 ≤ j → j < i → 0 ≤ A (A 72 9) j
def ld_post (r : pm_R) : Prop := r.1 = none ∧ St r.2 ∧ sat r.2 72
theorem ld_51 {B : pm_A} {r i : Int} (hB : St B) (i0 : 0 ≤ i) (i1 : i ≤ 5) (hs : satn B (i + 1)) (H : ∀ C, St C → satn C (i + 1) → Tm pmt (an_sh wX) o_X0_load 23 ([(2, 72), (0, r), (0, i + 1)], [], C) ld_post) : Tm pmt (an_sh wX) o_X0_load 51 ([(2, 72), (0, r), (0, i)], [], B) ld_post := by
  obtain ⟨⟨a1, a2, a3, a4, a5, a6, a7, a8, a9, a10, a11⟩, b, c, d, e⟩ := hB.2
  have s0 := fX_5_9 hB.1 z72 kk72
  have v0 := eX_27 hB.1 s0.1 s0.2 i0 (show i < 6 by omega)
  have v1 := hs i i0 (by omega)
  have x0 := eX_22 hB.1 (r := 73) (by omega) kk73 v1 (show B (B 72 9) i < 100 by omega)
  have s12 := shX_12 kk82
  have s2 := shX_2 x0.2
  have n9 : ¬ B 72 9 = 82 := fun q => by rw [q, kk82] at s0; exact absurd s0.2 (by decide)
  refine wq_ok srt_load (fr := []) (cuts := [23]) (J := fun pc st => pc = 23 ∧ st = ([(2, 72), (0, r), (0, i + 1)], [], pm_upd B (B (B 72 8) 4) i (B (B 72 0) (B (B 72 9) i)))) ?_ 30 51 _ ?_
  · rintro pc st ⟨rfl, rfl⟩
    rw [a7, a9, a8]
    refine H _ ⟨?_, al_82 hB.2 (c _ v1 (by omega))⟩ (fun j j0 j1 => ?_)
    · exact gH_upd hB.1 (k := (1, 5, 6, [(2, 2, 0)])) (by rw [kk82]; rfl) (fun q => by cases q) (fun _ a ha => by cases ha; exact gv_ref x0.1 x0.2)
    · have e9 : ∀ q, pm_upd B 82 i q 72 9 = B 72 9 := fun q => upd_ne (by omega)
      rw [e9, upd_ne n9]; exact hs j j0 j1
  · refine ⟨oX_5 z72 kk72 8 rfl, ?_⟩
    refine ⟨oX_1 (r := B 72 8) (by rw [a7]; omega) (by rw [a7]; exact kk79) 4 rfl, ?_⟩
    refine ⟨oX_5 z72 kk72 0 rfl, ?_⟩
    refine ⟨oX_5 z72 kk72 9 rfl, ?_⟩
    refine ⟨aX_27 s0.1 s0.2 i0 (by omega), ?_⟩
    refine ⟨aX_22 (r := B 72 0) (by rw [a8]; omega) (by rw [a8]; exact kk73) v1 (by omega), ?_⟩
    refine ⟨⟨by rw [a7, a9]; omega, by rw [a7, a9, s12], by rw [a7, a9, s12], i0, by rw [a7, a9, s12]; simp only; omega, by rw [a8]; exact x0.1, by rw [a8, s2], by rw [a8, s2]⟩, ?_⟩
    refine ⟨⟨by omega, by omega⟩, ?_⟩
    exact ⟨rfl, rfl⟩
theorem ld_23 {r : Int} (r0 : 0 ≤ r) (r1 : r ≤ 149) : ∀ (n : Nat) (i : Int) (B : pm_A), (6 - i).toNat < n → 0 ≤ i → i ≤ 6 → St B → satn B i → Tm pmt (an_sh wX) o_X0_load 23 ([(2, 72), (0, r), (0, i)], [], B) ld_post := by
  intro n
  induction n with
  | zero => intro i B h; omega
  | succ n ih =>
    intro i B hn i0 i1 hB hs
    have t0 := fX_5_8 hB.1 z72 kk72
    have p0 := fX_1_0 hB.1 t0.1 t0.2
    have s0 := fX_5_9 hB.1 z72 kk72
    have q0 := fX_5_2 hB.1 z72 kk72
    have ne : ¬ (72 : Int) = B 72 9 := fun q => by rw [← q, kk72] at s0; exact absurd s0.2 (by decide)
    refine wq_ok srt_load (fr := []) (cuts := [51]) (J := fun pc st => pc = 51 ∧ i < B (B 72 8) 0 ∧ st = ([(2, 72), (0, r), (0, i)], [], pm_upd B (B 72 9) i (B (B 72 2) (r * 6 + i)))) ?_ 30 23 _ ?_
    · rintro pc st ⟨rfl, hi, rfl⟩
      have v0 := eX_23 hB.1 q0.1 q0.2 (j := r * 6 + i) (by omega) (by omega)
      refine ld_51 (hB.keep (ms := [10027]) (uX_27 hB.1 s0.2 (by omega) v0.2) (gFr_upd (fun _ _ _ _ _ => rfl) (mX_27 s0.2 rfl)) rfl) i0 (by omega) (fun j j0 j1 => ?_) (fun C hC hC2 => ih (i + 1) C (by omega) (by omega) (by omega) hC hC2)
      rw [upd_ne ne]
      by_cases w : j = i
      · rw [w, upd_at]; exact v0.1
      · rw [upd_n2 w]; exact hs j j0 (by omega)
    · refine ⟨oX_5 z72 kk72 8 rfl, ?_⟩
      refine ⟨oX_1 t0.1 t0.2 0 rfl, ?_⟩
      refine ⟨fun h => ?_, fun h => ?_⟩
      · exact ⟨rfl, hB, fun j j0 j1 => hs j j0 (by have h1 : B (B 72 8) 0 ≤ i := h; have h2 : j < B (B 72 8) 0 := j1; omega)⟩
      · have hi : i < B (B 72 8) 0 := h
        refine ⟨oX_5 z72 kk72 9 rfl, ?_⟩
        refine ⟨oX_5 z72 kk72 2 rfl, ?_⟩
        refine ⟨⟨by omega, by omega⟩, ?_⟩
        refine ⟨⟨by omega, by omega⟩, ?_⟩
        refine ⟨aX_23 q0.1 q0.2 (by omega) (by omega), ?_⟩
        refine ⟨tX_27 s0.1 s0.2 i0 (by omega) rfl, ?_⟩
        exact ⟨rfl, hi, rfl⟩
theorem load_ct {A : pm_A} {r : Int} (hA : St A) (r0 : 0 ≤ r) (r1 : r ≤ 149) : Cl pmt (an_sh wX) 10 [(2, 72), (0, r)] A ld_post := by
  have t0 := fX_5_8 hA.1 z72 kk72
  have u0 := fX_1_2 hA.1 t0.1 t0.2
  have o0 := fX_5_4 hA.1 z72 kk72
  have e1 := shX_10 u0.2
  have e2 := shX_25 o0.2
  refine Cl.of (Nat.le_of_ble_eq_true rfl) ?_
  refine wq_ok (full := o_X0_load) srt_load (fr := []) (cuts := [23]) (J := fun pc st => pc = 23 ∧ st = ([(2, 72), (0, r), (0, 0)], [], pm_cpy A (A 72 4) (r * 72) (A (A 72 8) 2) 0 72)) ?_ 30 0 _ ?_
  · rintro pc st ⟨rfl, rfl⟩
    refine ld_23 r0 r1 _ 0 _ (Nat.lt_succ_self _) (by omega) (by omega) (hA.keep (ms := [10010]) (gH_cpy hA.1 (ka := (1, 0, 10800, [(0, -2147483648, 2147483647)])) (kb := (1, 0, 72, [(0, -2147483648, 2147483647)])) o0.1 (by rw [o0.2]; rfl) (by rw [u0.2]; rfl) rfl rfl rfl rfl rfl rfl (by omega) (by omega) (by simp only; omega)) (gFr_cpy (fun _ _ _ _ _ => rfl) (fun j => mX_10 u0.2 rfl)) rfl) (fun j j0 j1 => by omega)
  · refine ⟨oX_5 z72 kk72 4 rfl, ?_⟩
    refine ⟨⟨by omega, by omega⟩, ?_⟩
    refine ⟨oX_5 z72 kk72 8 rfl, ?_⟩
    refine ⟨oX_1 t0.1 t0.2 2 rfl, ?_⟩
    refine ⟨⟨o0.1, u0.1, by rw [e2], by rw [e2], by rw [e1], by rw [e1], by omega, by omega, by omega, by rw [e2]; simp only; omega, by rw [e1]; simp only; omega⟩, ?_⟩
    exact ⟨rfl, rfl⟩
end

section
/-! Atlas.enterFirst, Atlas.explore, all -/
theorem srt_enterFirst : pm_srt o_X0_enterFirst = true := by decide +kernel
theorem srt_explore : pm_srt o_X0_explore = true := by decide +kernel
theorem srt_all : pm_srt o_X9_all = true := by decide +kernel
theorem z1 : (0 : Int) ≤ 1 := by omega
theorem z28 : (0 : Int) ≤ 28 := by omega
theorem put5 {B : pm_A} {t : Int} (hB : St B) (t0 : 0 ≤ t) (t1 : t ≤ 100) : St (pm_upd B 72 1 t) ∧ St (pm_upd B 72 7 t) := by
  refine ⟨hB.keep (ms := [1]) ?_ (gFr_upd (fun _ _ _ _ _ => rfl) ?_) rfl, hB.keep (ms := [7]) ?_ (gFr_upd (fun _ _ _ _ _ => rfl) ?_) rfl⟩
  · refine gH_upd hB.1 (k := (0, 0, 18, [(2, 22, 0), (0, 0, 100), (2, 23, 0), (2, 24, 0), (2, 25, 0), (2, 26, 0), (2, 26, 0), (0, 0, 150), (2, 1, 0), (2, 27, 0), (1, (-9223372036854775808), 9223372036854775807), (1, (-9223372036854775808), 9223372036854775807), (2, 17, 0), (0, (-1), 100), (0, 0, 12), (2, 19, 0), (2, 28, 0), (2, 29, 0)])) (by rw [kk72]; rfl) (fun _ j v hj ej => ?_) (fun q => by cases q)
    have : j = 1 := by omega
    subst this
    cases hj
    exact ⟨rfl, t0, t1⟩
  · unfold mcode; rw [shX_5 kk72]; show 1 ∈ [1]; decide
  · refine gH_upd hB.1 (k := (0, 0, 18, [(2, 22, 0), (0, 0, 100), (2, 23, 0), (2, 24, 0), (2, 25, 0), (2, 26, 0), (2, 26, 0), (0, 0, 150), (2, 1, 0), (2, 27, 0), (1, (-9223372036854775808), 9223372036854775807), (1, (-9223372036854775808), 9223372036854775807), (2, 17, 0), (0, (-1), 100), (0, 0, 12), (2, 19, 0), (2, 28, 0), (2, 29, 0)])) (by rw [kk72]; rfl) (fun _ j v hj ej => ?_) (fun q => by cases q)
    have : j = 7 := by omega
    subst this
    cases hj
    exact ⟨rfl, t0, by simp only; omega⟩
  · unfold mcode; rw [shX_5 kk72]; show 7 ∈ [7]; decide
theorem put79 {B : pm_A} {t : Int} (hB : St B) (t0 : 0 ≤ t) (t1 : t ≤ 6) : St (pm_upd B 79 0 t) ∧ St (pm_upd B 79 1 t) := by
  refine ⟨hB.keep (ms := [700]) ?_ (gFr_upd (fun _ _ _ _ _ => rfl) ?_) rfl, hB.keep (ms := [701]) ?_ (gFr_upd (fun _ _ _ _ _ => rfl) ?_) rfl⟩
  · refine gH_upd hB.1 (k := (0, 7, 6, [(0, 0, 6), (0, 0, 6), (2, 10, 0), (2, 11, 0), (2, 12, 0), (2, 13, 0)])) (by rw [kk79]; rfl) (fun _ j v hj ej => ?_) (fun q => by cases q)
    have : j = 0 := by omega
    subst this
    cases hj
    exact ⟨rfl, t0, t1⟩
  · unfold mcode; rw [shX_1 kk79]; show 700 ∈ [700]; decide
  · refine gH_upd hB.1 (k := (0, 7, 6, [(0, 0, 6), (0, 0, 6), (2, 10, 0), (2, 11, 0), (2, 12, 0), (2, 13, 0)])) (by rw [kk79]; rfl) (fun _ j v hj ej => ?_) (fun q => by cases q)
    have : j = 1 := by omega
    subst this
    cases hj
    exact ⟨rfl, t0, t1⟩
  · unfold mcode; rw [shX_1 kk79]; show 701 ∈ [701]; decide
/-- a number of a letter -/
theorem numb_ct {A : pm_A} {q : Int} (hA : St A) (hq : 0 ≤ q ∧ wX.2 q = 2) : Cl pmt (an_sh wX) 11 [(2, 72), (2, q)] A (fun r => ∃ x, r.1 = some (0, x) ∧ (-1 ≤ x ∧ x ≤ 99) ∧ St r.2 ∧ gFr wX [1, 800, 801, 10014, 10015] A r.2) := by
  refine Cl.gct q_X0_numberOf_0 (A := A) (a := [(2, 72), (2, q)]) ⟨gv_ref z72 kk72, gv_ref hq.1 hq.2, trivial⟩ hA.1 ?_
  rintro ⟨r1, C⟩ g1 g2 g3
  simp only at g1 g2 g3
  match r1, g1 with
  | some (0, x), ⟨⟨_, q1, q2⟩, _⟩ => exact ⟨x, rfl, ⟨q1, q2⟩, hA.keep g2 g3 rfl, g3⟩
  | some (n + 1, x), ⟨⟨q, _⟩, _⟩ => exact absurd q (by intro q; cases q)
  | none, q => exact absurd q (by intro q; cases q)
theorem ef_94 {B : pm_A} {i : Int} (hB : St B) (hs : sat B 72) : Tm pmt (an_sh wX) o_X0_enterFirst 94 ([(2, 72), (2, 1), (0, i)], [], B) (st_post 0 1) := by
  refine wq_ok srt_enterFirst (fr := []) (cuts := [98]) (J := fun pc st => pc = 98 ∧ ∃ C, St C ∧ sat C 72 ∧ st = ([(2, 72), (2, 1), (0, i)], [], C)) ?_ 30 94 _ ?_
  · rintro pc st ⟨rfl, C, hC, hC2, rfl⟩
    refine wq_ok srt_enterFirst (fr := []) (cuts := []) (J := fun pc st => False) (fun _ _ h => h.elim) 20 98 _ ?_
    refine ⟨rX_5 z72 kk72, ?_⟩
    refine (enter_ct hC.1 z72 kk72 hC2).imp ?_
    rintro ⟨r1, D⟩ ⟨x, e, x0, x1, d1, d2, d3⟩
    simp only at e d1 d2
    subst e
    have hD := hC.keep d1 d2 rfl
    have hx : x = 0 ∨ x = 1 := by omega
    rcases hx with rfl | rfl
    · exact ⟨rfl, 0, rfl, ⟨by omega, by omega⟩, hD⟩
    · exact ⟨rfl, 1, rfl, ⟨by omega, by omega⟩, hD⟩
  · refine ⟨rX_5 z72 kk72, ?_⟩
    refine Cl.gct q_X0_gatherLetters_0 (A := B) (a := [(2, 72)]) ⟨gv_ref z72 kk72, trivial⟩ hB.1 ?_
    rintro ⟨r1, C⟩ g1 g2 g3
    simp only at g1 g2 g3
    cases r1 with
    | some v => exact absurd g1 (by intro q; cases q)
    | none => exact ⟨rfl, C, hB.keep g2 g3 rfl, ar_keep hB.1 z72 kk72 g3 rfl hs, rfl⟩
theorem ef_52 : ∀ (n : Nat) (i : Int) (B : pm_A), (6 - i).toNat < n → 0 ≤ i → i ≤ 6 → St B → satn B i → B 79 0 = B 1 0 → Tm pmt (an_sh wX) o_X0_enterFirst 52 ([(2, 72), (2, 1), (0, i)], [], B) (st_post 0 1) := by
  intro n
  induction n with
  | zero => intro i B h; omega
  | succ n ih =>
    intro i B hn i0 i1 hB hs hp
    have p0 := fX_1_0 hB.1 z1 kk1
    have l0 := fX_1_4 hB.1 z1 kk1
    have s0 := fX_5_9 hB.1 z72 kk72
    have a7 : B 72 8 = 79 := hB.2.1.2.2.2.2.2.2.1
    refine wq_ok srt_enterFirst (fr := []) (cuts := [75, 94]) (J := fun pc st => (pc = 94 ∧ B 1 0 ≤ i ∧ st = ([(2, 72), (2, 1), (0, i)], [], B)) ∨ (pc = 75 ∧ i < B 1 0 ∧ ∃ x C, (-1 ≤ x ∧ x ≤ 99) ∧ St C ∧ gFr wX [1, 800, 801, 10014, 10015] B C ∧ st = ([(2, 72), (2, 1), (0, i)], [(0, x), (0, i), (2, B 72 9)], C))) ?_ 30 52 _ ?_
    · rintro pc st (⟨rfl, hi, rfl⟩ | ⟨rfl, hi, x, C, hx, hC, hF, rfl⟩)
      · refine ef_94 hB (fun j j0 j1 => hs j j0 ?_)
        rw [a7, hp] at j1
        omega
      · have e9 : C 72 9 = B 72 9 := hF 72 9 z72 (by omega) (by unfold mcode; rw [shX_5 kk72]; show ¬ 9 ∈ [1, 800, 801, 10014, 10015]; decide)
        have e1 : C 1 0 = B 1 0 := hF 1 0 z1 (by omega) (by unfold mcode; rw [shX_1 kk1]; show ¬ 700 ∈ [1, 800, 801, 10014, 10015]; decide)
        have e2 : C 79 0 = B 79 0 := hF 79 0 z79 (by omega) (by unfold mcode; rw [shX_1 kk79]; show ¬ 700 ∈ [1, 800, 801, 10014, 10015]; decide)
        have es : ∀ j, 0 ≤ j → C (B 72 9) j = B (B 72 9) j := fun j j0 => hF _ j s0.1 j0 (by unfold mcode; rw [shX_27 s0.2]; show ¬ (10000 + wX.2 (B 72 9) : Nat) ∈ [1, 800, 801, 10014, 10015]; rw [s0.2]; decide)
        have n72 : ¬ (72 : Int) = B 72 9 := fun q => by rw [← q, kk72] at s0; exact absurd s0.2 (by decide)
        have n1 : ¬ (1 : Int) = B 72 9 := fun q => by rw [← q, kk1] at s0; exact absurd s0.2 (by decide)
        have n79 : ¬ (79 : Int) = B 72 9 := fun q => by rw [← q, kk79] at s0; exact absurd s0.2 (by decide)
        have hD : St (pm_upd C (B 72 9) i x) := hC.keep (ms := [10027]) (uX_27 hC.1 s0.2 hx.1 hx.2) (gFr_upd (fun _ _ _ _ _ => rfl) (mX_27 s0.2 rfl)) rfl
        have d9 : pm_upd C (B 72 9) i x 72 9 = B 72 9 := by rw [upd_ne n72]; exact e9
        refine wq_ok srt_enterFirst (fr := []) (cuts := [52]) (J := fun pc st => pc = 52 ∧ ¬ x = -1 ∧ st = ([(2, 72), (2, 1), (0, i + 1)], [], pm_upd C (B 72 9) i x)) ?_ 30 75 _ ?_
        · rintro pc st ⟨rfl, hx1, rfl⟩
          refine ih (i + 1) _ (by omega) (by omega) (by omega) hD (fun j j0 j1 => ?_) (by rw [upd_ne n79, upd_ne n1, e1, e2]; exact hp)
          rw [d9]
          by_cases w : j = i
          · rw [w, upd_at]; omega
          · rw [upd_n2 w, es j j0]; exact hs j j0 (by omega)
        · refine ⟨tX_27 s0.1 s0.2 i0 (by omega) rfl, ?_⟩
          refine ⟨oX_5 z72 kk72 9 rfl, ?_⟩
          refine ⟨aX_27 (r := pm_upd C (B 72 9) i x 72 9) (by rw [d9]; exact s0.1) (by rw [d9]; exact s0.2) i0 (by omega), ?_⟩
          refine ⟨fun q => ?_, fun q => ?_⟩
          · refine ⟨⟨by omega, by omega⟩, ?_⟩
            have q2 : ¬ pm_upd C (B 72 9) i x (pm_upd C (B 72 9) i x 72 9) i = -1 := q
            rw [d9, upd_at] at q2
            exact ⟨rfl, q2, rfl⟩
          · exact ⟨rfl, 0, rfl, ⟨by omega, by omega⟩, hD⟩
    · refine ⟨oX_1 z1 kk1 0 rfl, ?_⟩
      refine ⟨fun h => Or.inl ⟨rfl, h, rfl⟩, fun h => ?_⟩
      have hi : i < B 1 0 := h
      have x0 := eX_12 hB.1 l0.1 l0.2 i0 (show i < 6 by omega)
      refine ⟨oX_5 z72 kk72 9 rfl, ?_⟩
      refine ⟨oX_1 z1 kk1 4 rfl, ?_⟩
      refine ⟨aX_12 l0.1 l0.2 i0 (by omega), ?_⟩
      refine ⟨rX_5 z72 kk72, ?_⟩
      refine (numb_ct hB x0).imp ?_
      rintro ⟨r1, C⟩ ⟨x, e, hx, hC, hF⟩
      simp only at e hC hF
      subst e
      exact Or.inr ⟨rfl, hi, x, C, hx, hC, hF, rfl⟩
end

section
/-! Atlas.enterFirst from its start, Atlas.explore, all -/
theorem ef_32 {B : pm_A} {v : pm_V} (hB : St B) (hp : B 79 0 = B 1 0) : Tm pmt (an_sh wX) o_X0_enterFirst 32 ([(2, 72), (2, 1), v], [], B) (st_post 0 1) := by
  have a7 : B 72 8 = 79 := hB.2.1.2.2.2.2.2.2.1
  have u0 := fX_1_2 hB.1 z1 kk1
  have w0 := fX_1_2 hB.1 z79 kk79
  have e1 := shX_10 u0.2
  have e2 := shX_10 w0.2
  have n79 : ¬ (79 : Int) = B 79 2 := fun q => by rw [← q, kk79] at w0; exact absurd w0.2 (by decide)
  have n1 : ¬ (1 : Int) = B 79 2 := fun q => by rw [← q, kk1] at w0; exact absurd w0.2 (by decide)
  refine wq_ok srt_enterFirst (fr := []) (cuts := [52]) (J := fun pc st => pc = 52 ∧ st = ([(2, 72), (2, 1), (0, 0)], [], pm_cpy B (B 1 2) 0 (B (B 72 8) 2) 0 72)) ?_ 30 32 _ ?_
  · rintro pc st ⟨rfl, rfl⟩
    rw [a7]
    refine ef_52 _ 0 _ (Nat.lt_succ_self _) (by omega) (by omega) (hB.keep (ms := [10010]) (gH_cpy hB.1 (ka := (1, 0, 72, [(0, -2147483648, 2147483647)])) (kb := (1, 0, 72, [(0, -2147483648, 2147483647)])) u0.1 (by rw [u0.2]; rfl) (by rw [w0.2]; rfl) rfl rfl rfl rfl rfl rfl (by omega) (by omega) (by simp only; omega)) (gFr_cpy (fun _ _ _ _ _ => rfl) (fun j => mX_10 w0.2 rfl)) rfl) (fun j j0 j1 => by omega) ?_
    rw [cpy_ne n79, cpy_ne n1]; exact hp
  · refine ⟨oX_1 z1 kk1 2 rfl, ?_⟩
    refine ⟨oX_5 z72 kk72 8 rfl, ?_⟩
    refine ⟨oX_1 (r := B 72 8) (by rw [a7]; omega) (by rw [a7]; exact kk79) 2 rfl, ?_⟩
    refine ⟨⟨u0.1, by rw [a7]; exact w0.1, by rw [e1], by rw [e1], by rw [a7, e2], by rw [a7, e2], by omega, by omega, by omega, by rw [e1]; simp only; omega, by rw [a7, e2]; simp only; omega⟩, ?_⟩
    exact ⟨rfl, rfl⟩
theorem ef_21 {B : pm_A} {v : pm_V} (hB : St B) (hp : B 79 0 = B 1 0) : Tm pmt (an_sh wX) o_X0_enterFirst 21 ([(2, 72), (2, 1), v], [], B) (st_post 0 1) := by
  have a7 : B 72 8 = 79 := hB.2.1.2.2.2.2.2.2.1
  have q0 := fX_1_1 hB.1 z1 kk1
  refine wq_ok srt_enterFirst (fr := []) (cuts := [32]) (J := fun pc st => pc = 32 ∧ st = ([(2, 72), (2, 1), v], [], pm_upd B (B 72 8) 1 (B 1 1))) ?_ 30 21 _ ?_
  · rintro pc st ⟨rfl, rfl⟩
    rw [a7]
    exact ef_32 (put79 hB q0.1 q0.2).2 (by rw [upd_n2 (by omega), upd_n2 (by omega)]; exact hp)
  · refine ⟨oX_5 z72 kk72 8 rfl, ?_⟩
    refine ⟨oX_1 z1 kk1 1 rfl, ?_⟩
    refine ⟨oX_1 (r := B 72 8) (by rw [a7]; omega) (by rw [a7]; exact kk79) 1 rfl, ?_⟩
    exact ⟨rfl, rfl⟩
theorem ef_10 {B : pm_A} {v : pm_V} (hB : St B) : Tm pmt (an_sh wX) o_X0_enterFirst 10 ([(2, 72), (2, 1), v], [], B) (st_post 0 1) := by
  have a7 : B 72 8 = 79 := hB.2.1.2.2.2.2.2.2.1
  have q0 := fX_1_0 hB.1 z1 kk1
  refine wq_ok srt_enterFirst (fr := []) (cuts := [21]) (J := fun pc st => pc = 21 ∧ st = ([(2, 72), (2, 1), v], [], pm_upd B (B 72 8) 0 (B 1 0))) ?_ 30 10 _ ?_
  · rintro pc st ⟨rfl, rfl⟩
    rw [a7]
    exact ef_21 (put79 hB q0.1 q0.2).1 (by rw [upd_at, upd_ne (by omega)])
  · refine ⟨oX_5 z72 kk72 8 rfl, ?_⟩
    refine ⟨oX_1 z1 kk1 0 rfl, ?_⟩
    refine ⟨oX_1 (r := B 72 8) (by rw [a7]; omega) (by rw [a7]; exact kk79) 0 rfl, ?_⟩
    exact ⟨rfl, rfl⟩
theorem enterFirst_ct {A : pm_A} (hA : St A) : Cl pmt (an_sh wX) 6 [(2, 72), (2, 1)] A (st_post 0 1) := by
  refine Cl.of (Nat.le_of_ble_eq_true rfl) ?_
  refine wq_ok (full := o_X0_enterFirst) srt_enterFirst (fr := []) (cuts := [10]) (J := fun pc st => pc = 10 ∧ ∃ v, st = ([(2, 72), (2, 1), v], [], pm_upd (pm_upd A 72 1 0) 72 7 0)) ?_ 30 0 _ ?_
  · rintro pc st ⟨rfl, v, rfl⟩
    exact ef_10 (put5 (put5 hA (by omega) (by omega)).1 (by omega) (by omega)).2
  · refine ⟨oX_5 z72 kk72 1 rfl, ?_⟩
    refine ⟨oX_5 z72 kk72 7 rfl, ?_⟩
    exact ⟨rfl, _, rfl⟩
def xp_post : pm_R → Prop := st_post (-2147483648) 2147483647
theorem xp_130 {C : pm_A} {r k x : Int} (hC : St C) (hs : sat C 72) (hx : -1 ≤ x ∧ x ≤ 99) (k0 : 0 ≤ k) (k1 : k ≤ 5) (H : ∀ D, St D → Tm pmt (an_sh wX) o_X0_explore 154 ([(2, 72), (2, 1), (2, 28), (0, r), (0, k)], [], D) xp_post) : Tm pmt (an_sh wX) o_X0_explore 130 ([(2, 72), (2, 1), (2, 28), (0, r), (0, k)], [(0, x), (0, k), (2, C 72 9)], C) xp_post := by
  have s0 := fX_5_9 hC.1 z72 kk72
  have t0 := fX_5_8 hC.1 z72 kk72
  have n72 : ¬ (72 : Int) = C 72 9 := fun q => by rw [← q, kk72] at s0; exact absurd s0.2 (by decide)
  have n8 : ¬ C 72 8 = C 72 9 := fun q => by rw [← q, t0.2] at s0; exact absurd s0.2 (by decide)
  have hD : St (pm_upd C (C 72 9) k x) := hC.keep (ms := [10027]) (uX_27 hC.1 s0.2 hx.1 hx.2) (gFr_upd (fun _ _ _ _ _ => rfl) (mX_27 s0.2 rfl)) rfl
  have d9 : pm_upd C (C 72 9) k x 72 9 = C 72 9 := upd_ne n72
  have d8 : pm_upd C (C 72 9) k x 72 8 = C 72 8 := upd_ne n72
  refine wq_ok srt_explore (fr := []) (cuts := [154]) (J := fun pc st => pc = 154 ∧ ∃ D, St D ∧ st = ([(2, 72), (2, 1), (2, 28), (0, r), (0, k)], [], D)) ?_ 30 130 _ ?_
  · rintro pc st ⟨rfl, D, hD, rfl⟩
    exact H D hD
  · refine ⟨tX_27 s0.1 s0.2 k0 (by omega) rfl, ?_⟩
    refine ⟨oX_5 z72 kk72 9 rfl, ?_⟩
    refine ⟨aX_27 (r := pm_upd C (C 72 9) k x 72 9) (by rw [d9]; exact s0.1) (by rw [d9]; exact s0.2) k0 (by omega), ?_⟩
    refine ⟨fun q => ?_, fun q => ?_⟩
    · exact ⟨rfl, -2, rfl, ⟨by omega, by omega⟩, hD⟩
    · have q2 : ¬ pm_upd C (C 72 9) k x (pm_upd C (C 72 9) k x 72 9) k = -1 := q
      rw [d9, upd_at] at q2
      refine ⟨rX_5 z72 kk72, ?_⟩
      refine (arrive_ct hD.1 z72 kk72 k0 k1 (fun j j0 j1 => ?_)).imp ?_
      · rw [d9]
        by_cases w : j = k
        · rw [w, upd_at]; omega
        · rw [upd_n2 w]
          rw [d8, upd_ne n8] at j1
          exact hs j j0 j1
      · rintro ⟨r1, E⟩ ⟨y, e, y0, y1, c1, c2⟩
        simp only at e c1 c2
        subst e
        have hE := hD.keep c1 c2 rfl
        refine ⟨fun _ => ?_, fun _ => ?_⟩
        · exact ⟨rfl, E, hE, rfl⟩
        · exact ⟨rfl, -2, rfl, ⟨by omega, by omega⟩, hE⟩
theorem xp_116 {B : pm_A} {r k : Int} (hB : St B) (hs : sat B 72) (k0 : 0 ≤ k) (k1 : k ≤ 5) (H : ∀ D, St D → Tm pmt (an_sh wX) o_X0_explore 154 ([(2, 72), (2, 1), (2, 28), (0, r), (0, k)], [], D) xp_post) : Tm pmt (an_sh wX) o_X0_explore 116 ([(2, 72), (2, 1), (2, 28), (0, r), (0, k)], [], B) xp_post := by
  have f0 := fX_4_0 hB.1 z28 kk28
  refine wq_ok srt_explore (fr := []) (cuts := [130]) (J := fun pc st => pc = 130 ∧ ∃ x C, (-1 ≤ x ∧ x ≤ 99) ∧ St C ∧ sat C 72 ∧ C 72 9 = B 72 9 ∧ st = ([(2, 72), (2, 1), (2, 28), (0, r), (0, k)], [(0, x), (0, k), (2, B 72 9)], C)) ?_ 30 116 _ ?_
  · rintro pc st ⟨rfl, x, C, hx, hC, hC2, e9, rfl⟩
    rw [← e9]
    exact xp_130 hC hC2 hx k0 k1 H
  · refine ⟨oX_5 z72 kk72 9 rfl, ?_⟩
    refine ⟨oX_4 z28 kk28 0 rfl, ?_⟩
    refine ⟨rX_5 z72 kk72, ?_⟩
    refine (numb_ct hB f0).imp ?_
    rintro ⟨r1, C⟩ ⟨x, e, hx, hC, hF⟩
    simp only at e hC hF
    subst e
    exact ⟨rfl, x, C, hx, hC, ar_keep hB.1 z72 kk72 hF rfl hs, hF 72 9 z72 (by omega) (by unfold mcode; rw [shX_5 kk72]; show ¬ 9 ∈ [1, 800, 801, 10014, 10015]; decide), rfl⟩
theorem xp_82 {B : pm_A} {r k : Int} (hB : St B) (hs : sat B 72) (k0 : 0 ≤ k) (k1 : k ≤ 5) (H : ∀ D, St D → Tm pmt (an_sh wX) o_X0_explore 154 ([(2, 72), (2, 1), (2, 28), (0, r), (0, k)], [], D) xp_post) : Tm pmt (an_sh wX) o_X0_explore 82 ([(2, 72), (2, 1), (2, 28), (0, r), (0, k)], [], B) xp_post := by
  have t0 := fX_5_8 hB.1 z72 kk72
  have u0 := fX_1_2 hB.1 t0.1 t0.2
  have p0 := fX_1_0 hB.1 t0.1 t0.2
  have q0 := fX_1_1 hB.1 t0.1 t0.2
  refine wq_ok srt_explore (fr := []) (cuts := [116]) (J := fun pc st => pc = 116 ∧ ∃ C, St C ∧ sat C 72 ∧ st = ([(2, 72), (2, 1), (2, 28), (0, r), (0, k)], [], C)) ?_ 30 82 _ ?_
  · rintro pc st ⟨rfl, C, hC, hC2, rfl⟩
    exact xp_116 hC hC2 k0 k1 H
  · refine ⟨oX_5 z72 kk72 8 rfl, ?_⟩
    refine ⟨oX_1 t0.1 t0.2 2 rfl, ?_⟩
    refine ⟨oX_5 z72 kk72 8 rfl, ?_⟩
    refine ⟨oX_1 t0.1 t0.2 0 rfl, ?_⟩
    refine ⟨oX_5 z72 kk72 8 rfl, ?_⟩
    refine ⟨oX_1 t0.1 t0.2 1 rfl, ?_⟩
    refine ⟨⟨by omega, by omega⟩, ?_⟩
    refine ⟨oX_5 z72 kk72 8 rfl, ?_⟩
    refine ⟨oX_1 t0.1 t0.2 0 rfl, ?_⟩
    refine ⟨rfl, ?_⟩
    refine Cl.gct q_X9_turnTable_0 (A := B) (a := [(2, B (B 72 8) 2), (0, B (B 72 8) 0 + B (B 72 8) 1), (0, B (B 72 8) 0), (0, k)]) ⟨gv_ref u0.1 u0.2, ⟨rfl, by simp only; omega, by simp only; omega⟩, ⟨rfl, p0.1, p0.2⟩, ⟨rfl, k0, k1⟩, trivial⟩ hB.1 ?_
    rintro ⟨r1, C⟩ g1 g2 g3
    simp only at g1 g2 g3
    cases r1 with
    | some v => exact absurd g1 (by intro q; cases q)
    | none => exact ⟨rfl, C, hB.keep g2 g3 rfl, ar_keep hB.1 z72 kk72 g3 rfl hs, rfl⟩
theorem xp_66 {B : pm_A} {r k : Int} (hB : St B) (hs : sat B 72) (k0 : 0 ≤ k) (k1 : k ≤ 5) (H : ∀ D, St D → Tm pmt (an_sh wX) o_X0_explore 154 ([(2, 72), (2, 1), (2, 28), (0, r), (0, k)], [], D) xp_post) : Tm pmt (an_sh wX) o_X0_explore 66 ([(2, 72), (2, 1), (2, 28), (0, r), (0, k)], [], B) xp_post := by
  have a7 : B 72 8 = 79 := hB.2.1.2.2.2.2.2.2.1
  refine wq_ok srt_explore (fr := []) (cuts := [82]) (J := fun pc st => pc = 82 ∧ ∃ C, St C ∧ sat C 72 ∧ st = ([(2, 72), (2, 1), (2, 28), (0, r), (0, k)], [], C)) ?_ 30 66 _ ?_
  · rintro pc st ⟨rfl, C, hC, hC2, rfl⟩
    exact xp_82 hC hC2 k0 k1 H
  · refine ⟨oX_5 z72 kk72 8 rfl, ?_⟩
    refine ⟨rX_4 z28 kk28, ?_⟩
    show Cl pmt (an_sh wX) 42 [(2, 28), (2, B 72 8), (0, k)] B _
    rw [a7]
    refine (exchange_ct (al_ex2 hB.1 hB.2 k0 k1)).imp ?_
    rintro ⟨r1, C⟩ ⟨x, e, x0, x1, c1, c2⟩
    simp only at e c1 c2
    subst e
    have hC := hB.keep c1 c2 rfl
    refine ⟨fun _ => ?_, fun _ => ?_⟩
    · exact ⟨rfl, C, hC, ar_keep hB.1 z72 kk72 c2 rfl hs, rfl⟩
    · exact ⟨rfl, -2, rfl, ⟨by omega, by omega⟩, hC⟩
theorem xp_31 {r : Int} (r0 : 0 ≤ r) (r1 : r ≤ 149) (H : ∀ D v, St D → Tm pmt (an_sh wX) o_X0_explore 160 ([(2, 72), (2, 1), (2, 28), (0, r), v], [], D) xp_post) : ∀ (n : Nat) (k : Int) (B : pm_A), (6 - k).toNat < n → 0 ≤ k → k ≤ 6 → St B → Tm pmt (an_sh wX) o_X0_explore 31 ([(2, 72), (2, 1), (2, 28), (0, r), (0, k)], [], B) xp_post := by
  intro n
  induction n with
  | zero => intro k B h; omega
  | succ n ih =>
    intro k B hn k0 k1 hB
    have t0 := fX_5_8 hB.1 z72 kk72
    have p0 := fX_1_0 hB.1 t0.1 t0.2
    have x0 := fX_5_3 hB.1 z72 kk72
    have step : k < 6 → ∀ D, St D → Tm pmt (an_sh wX) o_X0_explore 154 ([(2, 72), (2, 1), (2, 28), (0, r), (0, k)], [], D) xp_post := fun hk D hD => by
      refine wq_ok srt_explore (fr := []) (cuts := [31]) (J := fun pc st => pc = 31 ∧ st = ([(2, 72), (2, 1), (2, 28), (0, r), (0, k + 1)], [], D)) ?_ 30 154 _ ?_
      · rintro pc st ⟨rfl, rfl⟩
        exact ih (k + 1) D (by omega) (by omega) (by omega) hD
      · refine ⟨⟨by omega, by omega⟩, ?_⟩
        exact ⟨rfl, rfl⟩
    refine wq_ok srt_explore (fr := []) (cuts := [66, 154, 160]) (J := fun pc st => (pc = 160 ∧ st = ([(2, 72), (2, 1), (2, 28), (0, r), (0, k)], [], B)) ∨ (pc = 154 ∧ k < 6 ∧ st = ([(2, 72), (2, 1), (2, 28), (0, r), (0, k)], [], B)) ∨ (pc = 66 ∧ k < 6 ∧ ∃ C, St C ∧ sat C 72 ∧ st = ([(2, 72), (2, 1), (2, 28), (0, r), (0, k)], [], C))) ?_ 30 31 _ ?_
    · rintro pc st (⟨rfl, rfl⟩ | ⟨rfl, hk, rfl⟩ | ⟨rfl, hk, C, hC, hC2, rfl⟩)
      · exact H B _ hB
      · exact step hk B hB
      · exact xp_66 hC hC2 k0 (by omega) (step hk)
    · refine ⟨oX_5 z72 kk72 8 rfl, ?_⟩
      refine ⟨oX_1 t0.1 t0.2 0 rfl, ?_⟩
      refine ⟨fun h => Or.inl ⟨rfl, rfl⟩, fun h => ?_⟩
      have hk : k < 6 := by omega
      refine ⟨oX_5 z72 kk72 3 rfl, ?_⟩
      refine ⟨⟨by omega, by omega⟩, ?_⟩
      refine ⟨⟨by omega, by omega⟩, ?_⟩
      refine ⟨aX_24 x0.1 x0.2 (by omega) (by omega), ?_⟩
      refine ⟨fun _ => ?_, fun _ => ?_⟩
      · refine ⟨rX_5 z72 kk72, ?_⟩
        refine (load_ct hB r0 r1).imp ?_
        rintro ⟨q1, C⟩ ⟨e, hC, hC2⟩
        simp only at e hC hC2
        subst e
        exact Or.inr (Or.inr ⟨rfl, hk, C, hC, hC2, rfl⟩)
      · exact Or.inr (Or.inl ⟨rfl, hk, rfl⟩)
theorem xp_13 : ∀ (n : Nat) (r : Int) (v : pm_V) (B : pm_A), (150 - r).toNat < n → 0 ≤ r → r ≤ 150 → St B → Tm pmt (an_sh wX) o_X0_explore 13 ([(2, 72), (2, 1), (2, 28), (0, r), v], [], B) xp_post := by
  intro n
  induction n with
  | zero => intro r v B h; omega
  | succ n ih =>
    intro r v B hn r0 r1 hB
    have fin : Tm pmt (an_sh wX) o_X0_explore 166 ([(2, 72), (2, 1), (2, 28), (0, r), v], [], B) xp_post := by
      refine wq_ok srt_explore (fr := []) (cuts := []) (J := fun pc st => False) (fun _ _ h => h.elim) 20 166 _ ?_
      refine ⟨rX_5 z72 kk72, ?_⟩
      refine Cl.gct q_X0_remember_0 (A := B) (a := [(2, 72)]) ⟨gv_ref z72 kk72, trivial⟩ hB.1 ?_
      rintro ⟨q1, C⟩ g1 g2 g3
      simp only at g1 g2 g3
      cases q1 with
      | some v => exact absurd g1 (by intro q; cases q)
      | none =>
        have w0 := fX_5_7 g2 z72 kk72
        refine ⟨oX_5 z72 kk72 7 rfl, ?_⟩
        exact ⟨rfl, C 72 7, rfl, ⟨by omega, by omega⟩, hB.keep g2 g3 rfl⟩
    refine wq_ok srt_explore (fr := []) (cuts := [31, 166]) (J := fun pc st => (pc = 166 ∧ st = ([(2, 72), (2, 1), (2, 28), (0, r), v], [], B)) ∨ (pc = 31 ∧ r < 150 ∧ st = ([(2, 72), (2, 1), (2, 28), (0, r), (0, 0)], [], B))) ?_ 30 13 _ ?_
    · rintro pc st (⟨rfl, rfl⟩ | ⟨rfl, hr, rfl⟩)
      · exact fin
      · refine xp_31 r0 (by omega) (fun D v hD => ?_) _ 0 B (Nat.lt_succ_self _) (by omega) (by omega) hB
        refine wq_ok srt_explore (fr := []) (cuts := [13]) (J := fun pc st => pc = 13 ∧ st = ([(2, 72), (2, 1), (2, 28), (0, r + 1), v], [], D)) ?_ 30 160 _ ?_
        · rintro pc st ⟨rfl, rfl⟩
          exact ih (r + 1) v D (by omega) (by omega) (by omega) hD
        · refine ⟨⟨by omega, by omega⟩, ?_⟩
          exact ⟨rfl, rfl⟩
    · refine ⟨oX_5 z72 kk72 7 rfl, ?_⟩
      refine ⟨fun h => Or.inl ⟨rfl, rfl⟩, fun h => ?_⟩
      refine ⟨fun h2 => Or.inl ⟨rfl, rfl⟩, fun h2 => ?_⟩
      exact Or.inr ⟨rfl, h2, rfl⟩
theorem explore_ct {A : pm_A} (hA : St A) : Cl pmt (an_sh wX) 7 [(2, 72), (2, 1), (2, 28)] A xp_post := by
  refine Cl.of (Nat.le_of_ble_eq_true rfl) ?_
  refine wq_ok (full := o_X0_explore) srt_explore (fr := []) (cuts := [13]) (J := fun pc st => pc = 13 ∧ ∃ C v, St C ∧ st = ([(2, 72), (2, 1), (2, 28), (0, 0), v], [], C)) ?_ 30 0 _ ?_
  · rintro pc st ⟨rfl, C, v, hC, rfl⟩
    exact xp_13 _ 0 v C (Nat.lt_succ_self _) (by omega) (by omega) hC
  · refine ⟨rX_5 z72 kk72, ?_⟩
    refine (enterFirst_ct hA).imp ?_
    rintro ⟨r1, C⟩ ⟨x, e, hx, hC⟩
    simp only at e hC
    subst e
    refine ⟨fun _ => ?_, fun _ => ?_⟩
    · exact ⟨rfl, C, _, hC, rfl⟩
    · exact ⟨rfl, -2, rfl, ⟨by omega, by omega⟩, hC⟩
theorem put_all {B : pm_A} {t : Int} (hB : St B) (t0 : -2147483648 ≤ t) (t1 : t ≤ 2147483647) : St (pm_upd B 0 10 t) := by
  refine hB.keep (ms := [910]) ?_ (gFr_upd (fun _ _ _ _ _ => rfl) ?_) rfl
  · refine gH_upd hB.1 (k := (0, 9, 15, [(2, 1, 0), (2, 3, 0), (2, 4, 0), (2, 19, 0), (0, 0, 100), (2, 20, 0), (2, 21, 0), (0, 0, 12), (2, 1, 0), (2, 5, 0), (0, (-2147483648), 2147483647), (2, 6, 0), (2, 7, 0), (2, 34, 0), (2, 8, 0)])) (by rw [kk0]; rfl) (fun _ j a hj ej => ?_) (fun q => by cases q)
    have : j = 10 := by omega
    subst this
    cases hj
    exact ⟨rfl, t0, t1⟩
  · unfold mcode; rw [shX_0 kk0]; show 910 ∈ [910]; decide
theorem all_ct {A : pm_A} (hA : St A) : Cl pmt (an_sh wX) 83 [(2, 0)] A xp_post := by
  have a1 := hA.2.1.1
  have a2 := hA.2.1.2.1
  have a4 := hA.2.1.2.2.2.1
  refine Cl.of (Nat.le_of_ble_eq_true rfl) ?_
  refine wq_ok (full := o_X9_all) srt_all (fr := []) (cuts := [15]) (J := fun pc st => pc = 15 ∧ ∃ x C v, (-2147483648 ≤ x ∧ x ≤ 2147483647) ∧ St C ∧ st = ([(2, 0), v], [(0, x)], C)) ?_ 30 0 _ ?_
  · rintro pc st ⟨rfl, x, C, v, hx, hC, rfl⟩
    refine wq_ok srt_all (fr := []) (cuts := []) (J := fun pc st => False) (fun _ _ h => h.elim) 20 15 _ ?_
    refine ⟨oX_0 z0 kk0 10 rfl, ?_⟩
    exact ⟨rfl, x, rfl, hx, put_all (t := max x 0) hC (by omega) (by omega)⟩
  · refine ⟨oX_0 z0 kk0 9 rfl, ?_⟩
    refine ⟨oX_0 z0 kk0 0 rfl, ?_⟩
    refine ⟨oX_0 z0 kk0 2 rfl, ?_⟩
    refine ⟨rX_5 (r := A 0 9) (by rw [a4]; omega) (by rw [a4]; exact kk72), ?_⟩
    show Cl pmt (an_sh wX) 7 [(2, A 0 9), (2, A 0 0), (2, A 0 2)] A _
    rw [a1, a2, a4]
    refine (explore_ct hA).imp ?_
    rintro ⟨r1, C⟩ ⟨x, e, hx, hC⟩
    simp only at e hC
    subst e
    exact ⟨rfl, x, C, _, hx, hC, rfl⟩
end

section
/-! The reference: placeIn -/
theorem srt_placeIn : pm_srt o_X10_placeIn = true := by decide +kernel
theorem km0 : wM.2 0 = 0 := by decide
theorem km1 : wM.2 1 = 1 := by decide
def pi_post (A : pm_A) (r : pm_R) : Prop := ∃ x, r.1 = some (0, x) ∧ (0 ≤ x ∧ x ≤ 200) ∧ gH wM r.2 ∧ gFr wM [] A r.2
theorem pi_9 {A : pm_A} {p : Int} (p0 : 0 ≤ p) (p1 : p ≤ 151) : ∀ (n : Nat) (lo hi : Int) (v4 : pm_V) (B : pm_A), (hi - lo).toNat < n → 0 ≤ lo → lo ≤ 200 → hi ≤ 200 → gH wM B → gFr wM [] A B → Tm pmt (an_sh wM) o_X10_placeIn 9 ([(2, 0), (0, p), (0, lo), (0, hi), v4], [], B) (pi_post A) := by
  intro n
  induction n with
  | zero => intro lo hi v4 B h; omega
  | succ n ih =>
    intro lo hi v4 B hn l0 l1 h1 hB hF
    refine wq_ok srt_placeIn (fr := []) (cuts := [28]) (J := fun pc st => pc = 28 ∧ lo < hi ∧ ∃ x C, gH wM C ∧ gFr wM [] A C ∧ st = ([(2, 0), (0, p), (0, lo), (0, hi), (0, (lo + hi) / 2)], [(0, x)], C)) ?_ 30 9 _ ?_
    · rintro pc st ⟨rfl, hl, x, C, hC, hC2, rfl⟩
      refine wq_ok srt_placeIn (fr := []) (cuts := [9]) (J := fun pc st => pc = 9 ∧ ((st = ([(2, 0), (0, p), (0, lo), (0, (lo + hi) / 2), (0, (lo + hi) / 2)], [], C)) ∨ (st = ([(2, 0), (0, p), (0, (lo + hi) / 2 + 1), (0, hi), (0, (lo + hi) / 2)], [], C)))) ?_ 30 28 _ ?_
      · rintro pc st ⟨rfl, rfl | rfl⟩
        · exact ih lo ((lo + hi) / 2) _ C (by omega) (by omega) (by omega) (by omega) hC hC2
        · exact ih ((lo + hi) / 2 + 1) hi _ C (by omega) (by omega) (by omega) (by omega) hC hC2
      · refine ⟨fun _ => ?_, fun _ => ?_⟩
        · exact ⟨rfl, Or.inl rfl⟩
        · refine ⟨⟨by omega, by omega⟩, ?_⟩
          exact ⟨rfl, Or.inr rfl⟩
    · refine ⟨fun h => ?_, fun h => ?_⟩
      · exact ⟨rfl, lo, rfl, ⟨l0, l1⟩, hB, hF⟩
      · refine ⟨⟨by omega, by omega⟩, ?_⟩
        refine ⟨⟨by omega, by omega, by omega, by omega⟩, ?_⟩
        refine ⟨rM_0 (by omega) km0, ?_⟩
        refine Cl.gct q_X10_against_0 (A := B) (a := [(2, 0), (0, p), (0, (lo + hi) / 2)]) ⟨gv_ref (by omega) km0, ⟨rfl, p0, p1⟩, ⟨rfl, by simp only; omega, by simp only; omega⟩, trivial⟩ hB ?_
        rintro ⟨r1, C⟩ g1 g2 g3
        simp only at g1 g2 g3
        match r1, g1 with
        | some (0, x), _ => exact ⟨rfl, h, x, C, g2, gFr_tr hF g3 (fun _ hx => hx), rfl⟩
        | some (n + 1, x), ⟨⟨q, _⟩, _⟩ => exact absurd q (by intro q; cases q)
        | none, q => exact absurd q (by intro q; cases q)
theorem placeIn_ct {A : pm_A} {p : Int} (hA : gH wM A) (p0 : 0 ≤ p) (p1 : p ≤ 151) : Cl pmt (an_sh wM) 173 [(2, 0), (0, p)] A (pi_post A) := by
  have a1 := pM_1 hA
  have m0 := eM_1 hA (r := A 0 1) (by rw [a1]; omega) (by rw [a1]; exact km1) p0 (show p < 152 by omega)
  refine Cl.of (Nat.le_of_ble_eq_true rfl) ?_
  refine wq_ok (full := o_X10_placeIn) srt_placeIn (fr := []) (cuts := [9]) (J := fun pc st => pc = 9 ∧ ∃ v4, st = ([(2, 0), (0, p), (0, 0), (0, A (A 0 1) p), v4], [], A)) ?_ 30 0 _ ?_
  · rintro pc st ⟨rfl, v4, rfl⟩
    exact pi_9 p0 p1 _ 0 _ v4 A (Nat.lt_succ_self _) (by omega) (by omega) m0.2 hA (fun _ _ _ _ _ => rfl)
  · refine ⟨oM_0 (by omega) km0 1 rfl, ?_⟩
    refine ⟨aM_1 (r := A 0 1) (by rw [a1]; omega) (by rw [a1]; exact km1) p0 (by omega), ?_⟩
    exact ⟨rfl, _, rfl⟩
end

section
/-! The reference: isThere -/
theorem srt_isThere : pm_srt o_X10_isThere = true := by decide +kernel
theorem km5 : wM.2 5 = 5 := by decide
theorem km16 : wM.2 16 = 16 := by decide
theorem km17 : wM.2 17 = 17 := by decide
theorem km18 : wM.2 18 = 18 := by decide
theorem km23 : wM.2 23 = 23 := by decide
def it_I (A B : pm_A) : Prop := gH wM B ∧ gFr wM [10016] A B
def it_post (A : pm_A) (r : pm_R) : Prop := ∃ x, r.1 = some (0, x) ∧ (0 ≤ x ∧ x ≤ 1) ∧ it_I A r.2
theorem it_0 {A B : pm_A} (h : it_I A B) {j : Int} (j0 : 0 ≤ j) (j1 : j ≤ 99) : B 0 j = A 0 j := h.2 0 j (by omega) j0 (by
  unfold mcode; rw [shM_0 km0]; show ¬ (100 * 10 + j.toNat) ∈ [10016]; intro q
  have := List.mem_singleton.mp q
  omega)
/-- the first n of the order are places -/
def ordn (B : pm_A) (n : Int) : Prop := ∀ j, 0 ≤ j → j < n → 0 ≤ B 16 j
theorem it_put {A B : pm_A} {k x : Int} (h : it_I A B) (x0 : -1 ≤ x) (x1 : x ≤ 5) : it_I A (pm_upd B 16 k x) := ⟨uM_16 h.1 km16 x0 x1, gFr_upd h.2 (mM_16 km16 rfl)⟩
theorem it_144 {A B : pm_A} {i k r : Int} (hB : it_I A B) (i0 : 0 ≤ i) (i1 : i ≤ 149) (k0 : 0 ≤ k) (k1 : k ≤ 11) (r0 : 0 ≤ r) (r1 : r ≤ 11) (H : ∀ lk j, (lk = 0 ∨ lk = 1) → (¬ lk = 0 → ordn B (A 0 7)) → Tm pmt (an_sh wM) o_X10_isThere 207 ([(2, 0), (0, i), (0, lk), (0, k), (0, r), (0, j)], [], B) (it_post A)) : ∀ (n : Nat) (lk j : Int), (6 - j).toNat < n → 0 ≤ j → j ≤ 6 → (lk = 0 ∨ lk = 1) → (¬ lk = 0 → ordn B (A 0 7)) → Tm pmt (an_sh wM) o_X10_isThere 144 ([(2, 0), (0, i), (0, lk), (0, k), (0, r), (0, j)], [], B) (it_post A) := by
  have p7 := it_0 hB (j := 7) (by omega) (by omega)
  have p6 := fM_0_7 hB.1 (by omega) km0
  have c9 := pM_9 hB.1
  have c28 := pM_28 hB.1
  have c23 := pM_23 hB.1
  intro n
  induction n with
  | zero => intro lk j h; omega
  | succ n ih =>
    intro lk j hn j0 j1 hl ho
    refine wq_ok srt_isThere (fr := []) (cuts := [144, 207]) (J := fun pc st => (pc = 207 ∧ st = ([(2, 0), (0, i), (0, lk), (0, k), (0, r), (0, j)], [], B)) ∨ (pc = 144 ∧ j < 6 ∧ ∃ l2, (l2 = 0 ∨ l2 = 1) ∧ (¬ l2 = 0 → ¬ lk = 0) ∧ st = ([(2, 0), (0, i), (0, l2), (0, k), (0, r), (0, j + 1)], [], B))) ?_ 60 144 _ ?_
    · rintro pc st (⟨rfl, rfl⟩ | ⟨rfl, hj, l2, h2, h3, rfl⟩)
      · exact H lk j hl ho
      · exact ih l2 (j + 1) (by omega) (by omega) (by omega) h2 (fun q => ho (h3 q))
    · refine ⟨oM_0 (by omega) km0 7 rfl, ?_⟩
      refine ⟨fun h => Or.inl ⟨rfl, rfl⟩, fun h => ?_⟩
      have hj : j < B 0 7 := h
      refine ⟨fun q => ?_, fun q => ?_⟩
      · refine ⟨⟨by omega, by omega⟩, ?_⟩
        exact Or.inr ⟨rfl, by omega, 0, Or.inl rfl, fun w => absurd rfl w, rfl⟩
      · have oj := ho q j j0 (by omega)
        have oj2 := eM_16 hB.1 (r := 16) (by omega) km16 j0 (show j < 6 by omega)
        have e23 : B (B 0 23) j = B 16 j := by rw [c23]
        refine ⟨oM_0 (by omega) km0 9 rfl, ?_⟩
        refine ⟨⟨by omega, by omega⟩, ?_⟩
        refine ⟨⟨by omega, by omega⟩, ?_⟩
        refine ⟨aM_5 (r := B 0 9) (by rw [c9]; omega) (by rw [c9]; exact km5) (by omega) (by omega), ?_⟩
        refine ⟨oM_0 (by omega) km0 28 rfl, ?_⟩
        refine ⟨⟨by omega, by omega⟩, ?_⟩
        refine ⟨⟨by omega, by omega⟩, ?_⟩
        refine ⟨⟨by omega, by omega⟩, ?_⟩
        refine ⟨oM_0 (by omega) km0 23 rfl, ?_⟩
        refine ⟨aM_16 (r := B 0 23) (by rw [c23]; omega) (by rw [c23]; exact km16) j0 (by omega), ?_⟩
        refine ⟨by show r32 (72 * i + 6 * r + B (B 0 23) j); rw [e23]; exact ⟨by omega, by omega⟩, ?_⟩
        refine ⟨aM_18 (r := B 0 28) (by rw [c28]; omega) (by rw [c28]; exact km18) (by show 0 ≤ 72 * i + 6 * r + B (B 0 23) j; rw [e23]; omega) (by show 72 * i + 6 * r + B (B 0 23) j < 10800; rw [e23]; omega), ?_⟩
        refine ⟨fun _ => ?_, fun _ => ?_⟩
        · refine ⟨⟨by omega, by omega⟩, ?_⟩
          exact Or.inr ⟨rfl, by omega, 0, Or.inl rfl, fun w => absurd rfl w, rfl⟩
        · refine ⟨⟨by omega, by omega⟩, ?_⟩
          exact Or.inr ⟨rfl, by omega, 1, Or.inr rfl, fun _ => q, rfl⟩
end

section
/-! The reference: isThere, the rest -/
theorem it_104 {A : pm_A} {i : Int} (i0 : 0 ≤ i) (i1 : i ≤ 149) (H : ∀ B v2 v3 v4 v5, it_I A B → Tm pmt (an_sh wM) o_X10_isThere 219 ([(2, 0), (0, i), v2, v3, v4, v5], [], B) (it_post A)) : ∀ (n : Nat) (lk k : Int) (v4 v5 : pm_V) (B : pm_A), (12 - k).toNat < n → 0 ≤ k → k ≤ 12 → (lk = 0 ∨ lk = 1) → it_I A B → (¬ lk = 0 → ordn B (A 0 7)) → Tm pmt (an_sh wM) o_X10_isThere 104 ([(2, 0), (0, i), (0, lk), (0, k), v4, v5], [], B) (it_post A) := by
  intro n
  induction n with
  | zero => intro lk k v4 v5 B h; omega
  | succ n ih =>
    intro lk k v4 v5 B hn k0 k1 hl hB ho
    have p7 := it_0 hB (j := 7) (by omega) (by omega)
    have p6 := fM_0_7 hB.1 (by omega) km0
    have h6 := fM_0_8 hB.1 (by omega) km0
    have c23 := pM_23 hB.1
    have fin : Tm pmt (an_sh wM) o_X10_isThere 213 ([(2, 0), (0, i), (0, lk), (0, k), v4, v5], [], B) (it_post A) := by
      refine wq_ok srt_isThere (fr := []) (cuts := [219]) (J := fun pc st => pc = 219 ∧ st = ([(2, 0), (0, i), (0, lk), (0, k), v4, v5], [], B)) ?_ 20 213 _ ?_
      · rintro pc st ⟨rfl, rfl⟩
        exact H B _ _ _ _ hB
      · refine ⟨fun _ => ⟨rfl, rfl⟩, fun _ => ?_⟩
        exact ⟨rfl, 1, rfl, ⟨by omega, by omega⟩, hB⟩
    refine wq_ok srt_isThere (fr := []) (cuts := [144, 213]) (J := fun pc st => (pc = 213 ∧ st = ([(2, 0), (0, i), (0, lk), (0, k), v4, v5], [], B)) ∨ (pc = 144 ∧ k < 12 ∧ ∃ r : Int, (0 ≤ r ∧ r ≤ 11) ∧ st = ([(2, 0), (0, i), (0, lk), (0, k), (0, r), (0, 0)], [], B))) ?_ 40 104 _ ?_
    · rintro pc st (⟨rfl, rfl⟩ | ⟨rfl, hk, r, hr, rfl⟩)
      · exact fin
      · refine it_144 hB i0 i1 k0 (by omega) hr.1 hr.2 (fun l2 j h2 h3 => ?_) _ lk 0 (Nat.lt_succ_self _) (by omega) (by omega) hl ho
        refine wq_ok srt_isThere (fr := []) (cuts := [104]) (J := fun pc st => pc = 104 ∧ st = ([(2, 0), (0, i), (0, l2), (0, k + 1), (0, r), (0, j)], [], B)) ?_ 20 207 _ ?_
        · rintro pc st ⟨rfl, rfl⟩
          exact ih l2 (k + 1) _ _ B (by omega) (by omega) (by omega) h2 hB h3
        · refine ⟨⟨by omega, by omega⟩, ?_⟩
          exact ⟨rfl, rfl⟩
    · refine ⟨oM_0 (by omega) km0 7 rfl, ?_⟩
      refine ⟨oM_0 (by omega) km0 8 rfl, ?_⟩
      refine ⟨⟨by omega, by omega⟩, ?_⟩
      refine ⟨fun h => Or.inl ⟨rfl, rfl⟩, fun h => ?_⟩
      refine ⟨fun q => Or.inl ⟨rfl, rfl⟩, fun q => ?_⟩
      have hk : k < 12 := by omega
      refine ⟨oM_0 (by omega) km0 7 rfl, ?_⟩
      refine ⟨fun h2 => ?_, fun h2 => ?_⟩
      · exact Or.inr ⟨rfl, hk, k, ⟨k0, by omega⟩, rfl⟩
      · have hk2 : k < B 0 7 := h2
        have oj := ho q k k0 (by omega)
        have oj2 := eM_16 hB.1 (r := 16) (by omega) km16 k0 (show k < 6 by omega)
        have e23 : B (B 0 23) k = B 16 k := by rw [c23]
        refine ⟨oM_0 (by omega) km0 23 rfl, ?_⟩
        refine ⟨aM_16 (r := B 0 23) (by rw [c23]; omega) (by rw [c23]; exact km16) k0 (by omega), ?_⟩
        exact Or.inr ⟨rfl, hk, B (B 0 23) k, ⟨by rw [e23]; omega, by rw [e23]; omega⟩, rfl⟩
end

section
/-! The reference: isThere, its first half and the whole -/
theorem ord_put {B : pm_A} {k x : Int} (h : ordn B k) : ordn (pm_upd B 16 k x) k := fun j j0 j1 => by rw [upd_n2 (by omega)]; exact h j j0 j1
theorem it_36 {A : pm_A} {i k lk : Int} {v5 : pm_V} (i0 : 0 ≤ i) (i1 : i ≤ 149) (k0 : 0 ≤ k) (k1 : k ≤ 5) (H : ∀ B v4, it_I A B → ordn B k → Tm pmt (an_sh wM) o_X10_isThere 80 ([(2, 0), (0, i), (0, lk), (0, k), v4, v5], [], B) (it_post A)) : ∀ (n : Nat) (l : Int) (B : pm_A), (6 - l).toNat < n → 0 ≤ l → l ≤ 6 → it_I A B → ordn B k → Tm pmt (an_sh wM) o_X10_isThere 36 ([(2, 0), (0, i), (0, lk), (0, k), (0, l), v5], [], B) (it_post A) := by
  intro n
  induction n with
  | zero => intro l B h; omega
  | succ n ih =>
    intro l B hn l0 l1 hB ho
    have p6 := fM_0_7 hB.1 (by omega) km0
    have c23 := pM_23 hB.1
    have c27 := pM_27 hB.1
    have c35 := pM_35 hB.1
    refine wq_ok srt_isThere (fr := []) (cuts := [36, 80]) (J := fun pc st => (pc = 80 ∧ st = ([(2, 0), (0, i), (0, lk), (0, k), (0, l), v5], [], B)) ∨ (pc = 36 ∧ l < 6 ∧ (st = ([(2, 0), (0, i), (0, lk), (0, k), (0, l + 1), v5], [], B) ∨ st = ([(2, 0), (0, i), (0, lk), (0, k), (0, l + 1), v5], [], pm_upd B (B 0 23) k l)))) ?_ 40 36 _ ?_
    · rintro pc st (⟨rfl, rfl⟩ | ⟨rfl, hl, rfl | rfl⟩)
      · exact H B _ hB ho
      · exact ih (l + 1) B (by omega) (by omega) (by omega) hB ho
      · rw [c23]
        exact ih (l + 1) _ (by omega) (by omega) (by omega) (it_put hB (by omega) (by omega)) (ord_put ho)
    · refine ⟨oM_0 (by omega) km0 7 rfl, ?_⟩
      refine ⟨fun h => Or.inl ⟨rfl, rfl⟩, fun h => ?_⟩
      have hl : l < 6 := by omega
      refine ⟨oM_0 (by omega) km0 27 rfl, ?_⟩
      refine ⟨⟨by omega, by omega⟩, ?_⟩
      refine ⟨⟨by omega, by omega⟩, ?_⟩
      refine ⟨aM_17 (r := B 0 27) (by rw [c27]; omega) (by rw [c27]; exact km17) (by omega) (by omega), ?_⟩
      refine ⟨oM_0 (by omega) km0 35 rfl, ?_⟩
      refine ⟨aM_23 (r := B 0 35) (by rw [c35]; omega) (by rw [c35]; exact km23) k0 (by omega), ?_⟩
      refine ⟨fun _ => ?_, fun _ => ?_⟩
      · refine ⟨⟨by omega, by omega⟩, ?_⟩
        exact Or.inr ⟨rfl, hl, Or.inl rfl⟩
      · refine ⟨oM_0 (by omega) km0 23 rfl, ?_⟩
        refine ⟨tM_16 (r := B 0 23) (by rw [c23]; omega) (by rw [c23]; exact km16) k0 (by omega) rfl, ?_⟩
        refine ⟨⟨by omega, by omega⟩, ?_⟩
        exact Or.inr ⟨rfl, hl, Or.inr rfl⟩
theorem it_14 {A : pm_A} {i : Int} (i0 : 0 ≤ i) (i1 : i ≤ 149) (H : ∀ B v2 v3 v4 v5, it_I A B → Tm pmt (an_sh wM) o_X10_isThere 219 ([(2, 0), (0, i), v2, v3, v4, v5], [], B) (it_post A)) : ∀ (n : Nat) (lk k : Int) (v4 v5 : pm_V) (B : pm_A), (6 - k).toNat < n → 0 ≤ k → k ≤ 6 → (lk = 0 ∨ lk = 1) → it_I A B → (¬ lk = 0 → ordn B k) → Tm pmt (an_sh wM) o_X10_isThere 14 ([(2, 0), (0, i), (0, lk), (0, k), v4, v5], [], B) (it_post A) := by
  intro n
  induction n with
  | zero => intro lk k v4 v5 B h; omega
  | succ n ih =>
    intro lk k v4 v5 B hn k0 k1 hl hB ho
    have p7 := it_0 hB (j := 7) (by omega) (by omega)
    have p6 := fM_0_7 hB.1 (by omega) km0
    have c23 := pM_23 hB.1
    refine wq_ok srt_isThere (fr := []) (cuts := [36, 104]) (J := fun pc st => (pc = 104 ∧ (¬ lk = 0 → B 0 7 ≤ k) ∧ st = ([(2, 0), (0, i), (0, lk), (0, 0), v4, v5], [], B)) ∨ (pc = 36 ∧ k < 6 ∧ ¬ lk = 0 ∧ st = ([(2, 0), (0, i), (0, lk), (0, k), (0, 0), v5], [], pm_upd B (B 0 23) k (-1)))) ?_ 40 14 _ ?_
    · rintro pc st (⟨rfl, hq, rfl⟩ | ⟨rfl, hk, hq, rfl⟩)
      · exact it_104 i0 i1 H _ lk 0 v4 v5 B (Nat.lt_succ_self _) (by omega) (by omega) hl hB (fun q j j0 j1 => ho q j j0 (by have := hq q; omega))
      · rw [c23]
        refine it_36 i0 i1 k0 (by omega) (fun C w4 hC hC2 => ?_) _ 0 _ (Nat.lt_succ_self _) (by omega) (by omega) (it_put hB (by omega) (by omega)) (ord_put (ho hq))
        have d23 := pM_23 hC.1
        have e1 := eM_16 hC.1 (r := 16) (by omega) km16 k0 (show k < 6 by omega)
        refine wq_ok srt_isThere (fr := []) (cuts := [14]) (J := fun pc st => pc = 14 ∧ ∃ l2, (l2 = 0 ∨ l2 = 1) ∧ (¬ l2 = 0 → ¬ C (C 0 23) k = -1) ∧ st = ([(2, 0), (0, i), (0, l2), (0, k + 1), w4, v5], [], C)) ?_ 30 80 _ ?_
        · rintro pc st ⟨rfl, l2, h2, h3, rfl⟩
          rw [d23] at h3
          refine ih l2 (k + 1) w4 v5 C (by omega) (by omega) (by omega) h2 hC (fun q j j0 j1 => ?_)
          by_cases w : j = k
          · rw [w]; have := h3 q; omega
          · exact hC2 j j0 (by omega)
        · refine ⟨oM_0 (by omega) km0 23 rfl, ?_⟩
          refine ⟨aM_16 (r := C 0 23) (by rw [d23]; omega) (by rw [d23]; exact km16) k0 (by omega), ?_⟩
          refine ⟨fun q => ?_, fun q => ?_⟩
          · refine ⟨⟨by omega, by omega⟩, ?_⟩
            exact ⟨rfl, 0, Or.inl rfl, fun w => absurd rfl w, rfl⟩
          · refine ⟨⟨by omega, by omega⟩, ?_⟩
            exact ⟨rfl, 1, Or.inr rfl, fun _ => q, rfl⟩
    · refine ⟨oM_0 (by omega) km0 7 rfl, ?_⟩
      refine ⟨fun h => Or.inl ⟨rfl, fun _ => h, rfl⟩, fun h => ?_⟩
      refine ⟨fun q => Or.inl ⟨rfl, fun w => absurd q w, rfl⟩, fun q => ?_⟩
      have hk : k < 6 := by omega
      refine ⟨oM_0 (by omega) km0 23 rfl, ?_⟩
      refine ⟨tM_16 (r := B 0 23) (by rw [c23]; omega) (by rw [c23]; exact km16) k0 (by omega) rfl, ?_⟩
      exact Or.inr ⟨rfl, hk, q, rfl⟩
theorem it_2 {A : pm_A} : ∀ (n : Nat) (i : Int) (v2 v3 v4 v5 : pm_V) (B : pm_A), (150 - i).toNat < n → 0 ≤ i → i ≤ 150 → it_I A B → Tm pmt (an_sh wM) o_X10_isThere 2 ([(2, 0), (0, i), v2, v3, v4, v5], [], B) (it_post A) := by
  intro n
  induction n with
  | zero => intro i v2 v3 v4 v5 B h; omega
  | succ n ih =>
    intro i v2 v3 v4 v5 B hn i0 i1 hB
    have s0 := fM_0_24 hB.1 (by omega) km0
    refine wq_ok srt_isThere (fr := []) (cuts := [14]) (J := fun pc st => pc = 14 ∧ i < 150 ∧ st = ([(2, 0), (0, i), (0, 1), (0, 0), v4, v5], [], B)) ?_ 30 2 _ ?_
    · rintro pc st ⟨rfl, hi, rfl⟩
      refine it_14 i0 (by omega) (fun C w2 w3 w4 w5 hC => ?_) _ 1 0 v4 v5 B (Nat.lt_succ_self _) (by omega) (by omega) (Or.inr rfl) hB (fun _ j j0 j1 => by omega)
      refine wq_ok srt_isThere (fr := []) (cuts := [2]) (J := fun pc st => pc = 2 ∧ st = ([(2, 0), (0, i + 1), w2, w3, w4, w5], [], C)) ?_ 30 219 _ ?_
      · rintro pc st ⟨rfl, rfl⟩
        exact ih (i + 1) w2 w3 w4 w5 C (by omega) (by omega) (by omega) hC
      · refine ⟨⟨by omega, by omega⟩, ?_⟩
        exact ⟨rfl, rfl⟩
    · refine ⟨oM_0 (by omega) km0 24 rfl, ?_⟩
      refine ⟨fun h => ?_, fun h => ?_⟩
      · exact ⟨rfl, 0, rfl, ⟨by omega, by omega⟩, hB⟩
      · exact ⟨rfl, by omega, rfl⟩
theorem isThere_ct {A : pm_A} (hA : gH wM A) : Cl pmt (an_sh wM) 158 [(2, 0)] A (it_post A) := by
  refine Cl.of (Nat.le_of_ble_eq_true rfl) ?_
  refine wq_ok (full := o_X10_isThere) srt_isThere (fr := []) (cuts := [2]) (J := fun pc st => pc = 2 ∧ ∃ v2 v3 v4 v5, st = ([(2, 0), (0, 0), v2, v3, v4, v5], [], A)) ?_ 30 0 _ ?_
  · rintro pc st ⟨rfl, v2, v3, v4, v5, rfl⟩
    exact it_2 _ 0 v2 v3 v4 v5 A (Nat.lt_succ_self _) (by omega) (by omega) ⟨hA, fun _ _ _ _ _ => rfl⟩
  · exact ⟨rfl, _, _, _, _, rfl⟩
end
