/-! the i-th fence of a ring of the class (as draft w2 has it) -/
theorem cnt_sh (G : Int → Int) (a : Nat) : ∀ k : Nat, cntF G (a + k) = cntF G a + cntF (fun q => G ((a : Int) + q)) k
  | 0 => by show cntF G a = cntF G a + 0; omega
  | k + 1 => by
    rw [show a + (k + 1) = (a + k) + 1 from rfl, cntF_s, cntF_s, cnt_sh G a k]
    have e : iz G ((a + k : Nat) : Int) = iz (fun q => G ((a : Int) + q)) (k : Int) := by
      unfold iz
      rw [show ((a + k : Nat) : Int) = (a : Int) + (k : Int) by omega]
    rw [e]; omega
theorem cnt_skip {G : Int → Int} {x y : Nat} (h : x ≤ y) (hz : ∀ f : Int, (x : Int) ≤ f → f < y → G f = 0) : cntF G x = cntF G y := by
  have e := cnt_sh G x (y - x)
  rw [show x + (y - x) = y by omega, cntF_zero (F := fun q => G ((x : Int) + q)) (y - x) (fun f f0 f1 => hz _ (by omega) (by omega))] at e
  omega
theorem nofence {n : Int} {F : Int → Int} (hS : rgS n F) {p q : Int} (p0 : 0 ≤ p) (p9 : p ≤ 9) (q0 : 0 ≤ q) (q9 : q ≤ 9) (h : q ≤ p ∨ n ≤ q) : F (10 * p + q) = 0 := by
  refine (hS.2.1 _ (by omega) (by omega)).resolve_right (fun e => ?_)
  have := (hS.2.2 _ (by omega) (by omega) e).1
  omega
def nthF (F : Int → Int) (i f : Int) : Prop := 0 ≤ f ∧ f < 100 ∧ F f = 1 ∧ cntF F f.toNat = i
theorem nthF_uniq {F : Int → Int} {i f g : Int} (hf : nthF F i f) (hg : nthF F i g) : f = g := by
  obtain ⟨f0, f1, f2, f3⟩ := hf
  obtain ⟨g0, g1, g2, g3⟩ := hg
  rcases Int.lt_trichotomy f g with e | e | e
  · have := cntF_lt F (n := f.toNat) (m := g.toNat) (by omega) (by rw [show ((f.toNat : Nat) : Int) = f by omega, f2]; omega)
    omega
  · exact e
  · have := cntF_lt F (n := g.toNat) (m := f.toNat) (by omega) (by rw [show ((g.toNat : Nat) : Int) = g by omega, g2]; omega)
    omega
theorem nthF_b {F : Int → Int} {i f : Int} (hf : nthF F i f) : 0 ≤ i ∧ i < cntF F 100 := by
  obtain ⟨f0, f1, f2, f3⟩ := hf
  have := cntF_lt F (n := f.toNat) (m := 100) (by omega) (by rw [show ((f.toNat : Nat) : Int) = f by omega, f2]; omega)
  have := cntF_b F f.toNat
  omega
theorem cnt_most {n : Int} {F : Int → Int} (h : rgS n F) : cntF F 100 ≤ n - 3 := by
  have h1 := h.1
  have z : F (10 * 0 + (n - 1)) = 0 := by
    refine (h.2.1 _ (by omega) (by omega)).resolve_right (fun e => ?_)
    obtain ⟨⟨v1, v2, v3⟩, _⟩ := h.2.2 _ (by omega) (by omega) e
    exact v3 (Or.inr (Or.inr (Or.inl ⟨by omega, by omega⟩)))
  have e : eI F 0 (n - 1) = cntF F 100 := by
    refine cntF_congr 100 (fun f f0 f1 => ?_)
    unfold gIn
    rcases h.2.1 f f0 (by omega) with e | e
    · rw [e]; simp
    · obtain ⟨⟨v1, v2, v3⟩, _⟩ := h.2.2 f f0 (by omega) e
      rw [e, if_pos ⟨by omega, by omega, by omega⟩]
  have e2 : iz F (10 * 0 + (n - 1)) = 0 := by unfold iz; rw [if_pos z]
  have e3 := (eI_le h _ 0 (n - 1) (Nat.lt_succ_self _) (by omega) (by omega) (by omega)).2 (by omega)
  omega
theorem srt_XfenceAt : pm_srt o_X6_fenceAt = true := by decide +kernel
def fatP (A : pm_A) (F : Int → Int) (i : Int) (q : pm_R) : Prop := q.2 = A ∧ ∃ z, q.1 = some (0, z) ∧ ((∃ f, nthF F i f ∧ z = 100 * (f / 10) + f % 10) ∨ ((∀ f, ¬ nthF F i f) ∧ z = -1))
theorem xfa_17 {A : pm_A} {r n a i : Int} {F : Int → Int} (r0 : 0 ≤ r) (rk : wX.2 r = 9) (h : rgX A r n F) (hS : rgS n F) (a0 : 0 ≤ a) (a1 : a < n) (H : (∀ f : Int, 0 ≤ f → f < 10 * a + 10 → ¬ nthF F i f) → ∀ w4, Tm pmt (an_sh wX) o_X6_fenceAt 58 ([(2, r), (0, i), (0, cntF F (10 * a + 10).toNat), (0, a), w4], [], A) (fatP A F i)) : ∀ (m : Nat) (b : Int), (10 - b).toNat < m → a < b → b ≤ n → (∀ f : Int, 0 ≤ f → f < 10 * a + b → ¬ nthF F i f) → Tm pmt (an_sh wX) o_X6_fenceAt 17 ([(2, r), (0, i), (0, cntF F (10 * a + b).toNat), (0, a), (0, b)], [], A) (fatP A F i) := by
  have e0 := h.1
  have hn := hS.1
  intro m
  induction m with
  | zero => intro b h; omega
  | succ m ih =>
    intro b hm b0 b1 hb
    have hc := cntF_b F (10 * a + b).toNat
    have st : b < n → cntF F (10 * a + (b + 1)).toNat = cntF F (10 * a + b).toNat + (if F (10 * a + b) = 0 then 0 else 1) := fun _ => by
      rw [show (10 * a + (b + 1)).toNat = (10 * a + b).toNat + 1 by omega, cntF, show (((10 * a + b).toNat : Nat) : Int) = 10 * a + b by omega]
    have fe : fcd a b = 10 * a + b := by unfold fcd; omega
    have nx : b < n → ¬ nthF F i (10 * a + b) → ∀ f : Int, 0 ≤ f → f < 10 * a + (b + 1) → ¬ nthF F i f := fun _ k f f0 f1 => by
      by_cases e : f = 10 * a + b
      · rw [e]; exact k
      · exact hb f f0 (by omega)
    have fin : n ≤ b → ∀ w4, Tm pmt (an_sh wX) o_X6_fenceAt 58 ([(2, r), (0, i), (0, cntF F (10 * a + b).toNat), (0, a), w4], [], A) (fatP A F i) := fun k w4 => by
      have hz : ∀ f : Int, 10 * a + b ≤ f → f < 10 * a + 10 → F f = 0 := fun f f0 f1 => by
        have z := nofence hS (p := a) (q := f - 10 * a) (by omega) (by omega) (by omega) (by omega) (Or.inr (by omega))
        rw [show 10 * a + (f - 10 * a) = f by omega] at z
        exact z
      rw [cnt_skip (G := F) (x := (10 * a + b).toNat) (y := (10 * a + 10).toNat) (by omega) (fun f f0 f1 => hz f (by omega) (by omega))]
      refine H (fun f f0 f1 => ?_) w4
      by_cases e : f < 10 * a + b
      · exact hb f f0 e
      · intro k2
        have := hz f (by omega) f1
        have := k2.2.2.1
        omega
    refine wq_ok srt_XfenceAt (fr := []) (cuts := [33, 58]) (J := fun pc st => (pc = 58 ∧ ((A r 0) ≤ b) ∧ st = ([(2, r), (0, i), (0, cntF F (10 * a + b).toNat), (0, a), (0, b)], [], A)) ∨ (pc = 33 ∧ (b < (A r 0)) ∧ ∃ x : Int, ((x = 1 ∧ hsP F a b) ∨ (x = 0 ∧ ¬ hsP F a b)) ∧ st = ([(2, r), (0, i), (0, cntF F (10 * a + b).toNat), (0, a), (0, b)], [(0, x)], A))) ?_ 12 17 _ ?_
    · rintro pc st (⟨rfl, h0, rfl⟩ | ⟨rfl, h0, x, hx, rfl⟩)
      · rw [e0] at h0
        exact fin h0 _
      · have g0 : b < n := by rw [← e0]; assumption
        refine wq_ok srt_XfenceAt (fr := []) (cuts := [17]) (J := fun pc st => (pc = 17 ∧ (x = 0) ∧ st = ([(2, r), (0, i), (0, cntF F (10 * a + b).toNat), (0, a), (0, b + 1)], [], A)) ∨ (pc = 17 ∧ (¬ x = 0) ∧ (¬ (cntF F (10 * a + b).toNat) = i) ∧ st = ([(2, r), (0, i), (0, (cntF F (10 * a + b).toNat) + 1), (0, a), (0, b + 1)], [], A))) ?_ 14 33 _ ?_
        · rintro pc st (⟨rfl, h0, rfl⟩ | ⟨rfl, h0, h1, rfl⟩)
          · have k : ¬ hsP F a b := (by rcases hx with ⟨e, _⟩ | ⟨_, e⟩; omega; exact e)
            have z : F (10 * a + b) = 0 := (hS.2.1 _ (by omega) (by omega)).resolve_right (fun q => k ⟨by omega, by rw [fe]; exact q⟩)
            have s2 := st g0
            rw [if_pos z, Int.add_zero] at s2
            rw [← s2]
            exact ih (b + 1) (by omega) (by omega) (by omega) (nx g0 (fun q => by have := q.2.2.1; omega))
          · have k : hsP F a b := (by rcases hx with ⟨_, e⟩ | ⟨e, _⟩; exact e; omega)
            have z : F (10 * a + b) = 1 := by rw [← fe]; exact k.2
            have s2 := st g0
            rw [if_neg (by omega)] at s2
            rw [← s2]
            exact ih (b + 1) (by omega) (by omega) (by omega) (nx g0 (fun q => by have := q.2.2.2; omega))
        · refine ⟨fun h0 => ?_, fun h0 => ?_⟩
          · refine ⟨⟨by omega, by omega⟩, ?_⟩
            exact Or.inl (⟨rfl, h0, rfl⟩)
          · refine ⟨fun h1 => ?_, fun h1 => ?_⟩
            · refine ⟨⟨by omega, by omega⟩, ?_⟩
              refine ⟨⟨by omega, by omega⟩, ?_⟩
              exact Or.inr (⟨rfl, h0, h1, rfl⟩)
            · refine ⟨⟨by omega, by omega⟩, ?_⟩
              refine ⟨⟨by omega, by omega⟩, ?_⟩
              exact ⟨rfl, rfl, 100 * a + b, rfl, Or.inl ⟨10 * a + b, ⟨by omega, by omega, (by have k : hsP F a b := (by rcases hx with ⟨_, e⟩ | ⟨e, _⟩; exact e; omega); rw [← fe]; exact k.2), by omega⟩, by omega⟩⟩
    · refine ⟨oX_9 r0 rk 0 rfl, ?_⟩
      refine ⟨fun h0 => ?_, fun h0 => ?_⟩
      · exact Or.inl (⟨rfl, h0, rfl⟩)
      · refine ⟨rX_9 r0 rk, ?_⟩
        have g0 : b < n := by rw [← e0]; assumption
        refine (xhas_ex r0 rk h (a := a) (b := b) (by omega) (by omega) (by omega) (by omega)).imp ?_
        rintro ⟨r1, C⟩ ⟨q1, x, q2, hx⟩
        simp only at q1 q2
        subst q1
        subst q2
        exact Or.inr (⟨rfl, h0, x, hx, rfl⟩)
theorem xfa_4 {A : pm_A} {r n i : Int} {F : Int → Int} (r0 : 0 ≤ r) (rk : wX.2 r = 9) (h : rgX A r n F) (hS : rgS n F) : ∀ (m : Nat) (a : Int) (w4 : pm_V), (10 - a).toNat < m → 0 ≤ a → a ≤ n → (∀ f : Int, 0 ≤ f → f < 10 * a → ¬ nthF F i f) → Tm pmt (an_sh wX) o_X6_fenceAt 4 ([(2, r), (0, i), (0, cntF F (10 * a).toNat), (0, a), w4], [], A) (fatP A F i) := by
  have e0 := h.1
  have hn := hS.1
  intro m
  induction m with
  | zero => intro a w4 h; omega
  | succ m ih =>
    intro a w4 hm a0 a1 ha
    have hz : a < n → ∀ f : Int, 10 * a ≤ f → f ≤ 10 * a + a → F f = 0 := fun _ f f0 f1 => by
      have z := nofence hS (p := a) (q := f - 10 * a) (by omega) (by omega) (by omega) (by omega) (Or.inl (by omega))
      rw [show 10 * a + (f - 10 * a) = f by omega] at z
      exact z
    have none : n ≤ a → ∀ f, ¬ nthF F i f := fun k f hf => by
      by_cases e : f < 10 * a
      · exact ha f hf.1 e hf
      · have := (hS.2.2 f hf.1 hf.2.1 hf.2.2.1).1
        have := hf.2.1
        omega
    have h58 : a < n → (∀ f : Int, 0 ≤ f → f < 10 * a + 10 → ¬ nthF F i f) → ∀ w4, Tm pmt (an_sh wX) o_X6_fenceAt 58 ([(2, r), (0, i), (0, cntF F (10 * a + 10).toNat), (0, a), w4], [], A) (fatP A F i) := fun hc hd w4 => by
      refine wq_ok srt_XfenceAt (fr := []) (cuts := [4]) (J := fun pc st => (pc = 4 ∧ st = ([(2, r), (0, i), (0, cntF F (10 * a + 10).toNat), (0, a + 1), w4], [], A))) ?_ 7 58 _ ?_
      · rintro pc st (⟨rfl, rfl⟩)
        rw [show 10 * a + 10 = 10 * (a + 1) by omega] at hd ⊢
        exact ih (a + 1) _ (by omega) (by omega) (by omega) hd
      · refine ⟨⟨by omega, by omega⟩, ?_⟩
        exact ⟨rfl, rfl⟩
    refine wq_ok srt_XfenceAt (fr := []) (cuts := [17]) (J := fun pc st => (pc = 17 ∧ (a < (A r 0)) ∧ st = ([(2, r), (0, i), (0, cntF F (10 * a).toNat), (0, a), (0, a + 1)], [], A))) ?_ 13 4 _ ?_
    · rintro pc st (⟨rfl, h0, rfl⟩)
      have g0 : a < n := by rw [← e0]; assumption
      rw [cnt_skip (G := F) (x := (10 * a).toNat) (y := (10 * a + (a + 1)).toNat) (by omega) (fun f f0 f1 => hz g0 f (by omega) (by omega))]
      refine xfa_17 r0 rk h hS a0 g0 (h58 g0) _ (a + 1) (Nat.lt_succ_self _) (by omega) (by omega) (fun f f0 f1 => ?_)
      by_cases e : f < 10 * a
      · exact ha f f0 e
      · intro k2
        have := hz g0 f (by omega) (by omega)
        have := k2.2.2.1
        omega
    · refine ⟨oX_9 r0 rk 0 rfl, ?_⟩
      refine ⟨fun h0 => ?_, fun h0 => ?_⟩
      · exact ⟨rfl, rfl, -1, rfl, Or.inr ⟨none (by rw [e0] at h0; exact h0), rfl⟩⟩
      · refine ⟨⟨by omega, by omega⟩, ?_⟩
        exact ⟨rfl, h0, rfl⟩
theorem xfenceAt_ex {A : pm_A} {r n i : Int} {F : Int → Int} (r0 : 0 ≤ r) (rk : wX.2 r = 9) (h : rgX A r n F) (hS : rgS n F) : Cl pmt (an_sh wX) 52 [(2, r), (0, i)] A (fatP A F i) := by
  refine Cl.of (Nat.le_of_ble_eq_true rfl) ?_
  refine wq_ok (full := o_X6_fenceAt) srt_XfenceAt (fr := []) (cuts := [4]) (J := fun pc st => (pc = 4 ∧ st = ([(2, r), (0, i), (0, 0), (0, 0), (9, 0)], [], A))) ?_ 9 0 _ ?_
  · rintro pc st (⟨rfl, rfl⟩)
    exact xfa_4 r0 rk h hS _ 0 _ (Nat.lt_succ_self _) (by omega) (by have := hS.1; omega) (fun f f0 f1 => by omega)
  · exact ⟨rfl, rfl⟩
