/-! The reference, exactly: cells, rows of terms -/
theorem kn1 : wM.2 1 = 1 := by decide
theorem kn2 : wM.2 2 = 2 := by decide
theorem kn3 : wM.2 3 = 3 := by decide
theorem kn4 : wM.2 4 = 4 := by decide
theorem kn5 : wM.2 5 = 5 := by decide
theorem kn6 : wM.2 6 = 6 := by decide
theorem kn7 : wM.2 7 = 7 := by decide
theorem kn8 : wM.2 8 = 8 := by decide
theorem kn9 : wM.2 9 = 9 := by decide
theorem kn10 : wM.2 10 = 10 := by decide
theorem kn11 : wM.2 11 = 11 := by decide
theorem kn12 : wM.2 12 = 12 := by decide
theorem kn13 : wM.2 13 = 13 := by decide
theorem kn14 : wM.2 14 = 14 := by decide
theorem kn15 : wM.2 15 = 15 := by decide
theorem kn16 : wM.2 16 = 16 := by decide
theorem kn17 : wM.2 17 = 17 := by decide
theorem kn18 : wM.2 18 = 18 := by decide
theorem kn19 : wM.2 19 = 19 := by decide
theorem kn20 : wM.2 20 = 20 := by decide
theorem kn21 : wM.2 21 = 21 := by decide
theorem kn22 : wM.2 22 = 22 := by decide
theorem kn23 : wM.2 23 = 23 := by decide
theorem kn24 : wM.2 24 = 24 := by decide
theorem kn25 : wM.2 25 = 25 := by decide
theorem kn26 : wM.2 26 = 26 := by decide
theorem kn27 : wM.2 27 = 27 := by decide
theorem kn28 : wM.2 28 = 28 := by decide
theorem kn29 : wM.2 29 = 29 := by decide
theorem kn30 : wM.2 30 = 30 := by decide
theorem kn31 : wM.2 31 = 31 := by decide
theorem kn32 : wM.2 32 = 32 := by decide
theorem kn33 : wM.2 33 = 33 := by decide
theorem kn34 : wM.2 34 = 34 := by decide
theorem kn35 : wM.2 35 = 35 := by decide
theorem kn36 : wM.2 36 = 36 := by decide
theorem kn37 : wM.2 37 = 37 := by decide
theorem kn38 : wM.2 38 = 38 := by decide
def xe (A : pm_A) (p q : Int) : cr_Xp 12 := fun v => A 3 (12 * (200 * p + q) + (v.1 : Int))
def xp (A : pm_A) : cr_Xp 12 := fun v => A 4 (v.1 : Int)
def LSm (A : pm_A) (p : Int) : cr_Pl_ 12 := (List.range (A 1 p).toNat).map (fun q : Nat => (A 2 (200 * p + (q : Int)), xe A p (q : Int)))
theorem srt_against : pm_srt o_X10_against = true := by decide +kernel
def ag_post (A : pm_A) (p q : Int) (r : pm_R) : Prop := r.2 = A ∧ ∃ z, r.1 = some (0, z) ∧ ((z = 1 ∧ cr_Gt (xe A p q) (xp A)) ∨ (z = 0 ∧ xe A p q = xp A) ∨ (z = -1 ∧ cr_Gt (xp A) (xe A p q)))
theorem ag_2 {A : pm_A} {p q : Int} (hA : gH wM A) (p0 : 0 ≤ p) (p1 : p ≤ 151) (q0 : 0 ≤ q) (q1 : q ≤ 199) : ∀ (n : Nat) (v : Int) (w4 : pm_V), (12 - v).toNat < n → 0 ≤ v → v ≤ 12 → (∀ u : Fin 12, (u.1 : Int) < v → xe A p q u = xp A u) → Tm pmt (an_sh wM) o_X10_against 2 ([(2, 0), (0, p), (0, q), (0, v), w4], [], A) (ag_post A p q) := by
  have c3 := pM_3 hA
  have c6 := pM_6 hA
  intro n
  induction n with
  | zero => intro v w4 h; omega
  | succ n ih =>
    intro v w4 hn v0 v1 hv
    refine wq_ok srt_against (fr := []) (cuts := [2]) (J := fun pc st => (pc = 2 ∧ (v < 12) ∧ ((A (A 0 3) ((12 * ((200 * p) + q)) + v)) = (A (A 0 6) v)) ∧ st = ([(2, 0), (0, p), (0, q), (0, v + 1), (0, A (A 0 3) ((12 * ((200 * p) + q)) + v))], [], A))) ?_ 35 2 _ ?_
    · rintro pc st (⟨rfl, h0, h1, rfl⟩)
      refine ih (v + 1) _ (by omega) (by omega) (by omega) (fun u hu => ?_)
      by_cases hc : (u.1 : Int) < v
      · exact hv u hc
      · have hu2 : (u.1 : Int) = v := by omega
        show A 3 (12 * (200 * p + q) + (u.1 : Int)) = A 4 (u.1 : Int)
        rw [hu2, ← c3, ← c6]; rw [c3, c6]; rw [c3, c6] at h1; exact h1
    · refine ⟨fun h0 => ?_, fun h0 => ?_⟩
      · exact ⟨rfl, rfl, 0, rfl, Or.inr (Or.inl ⟨rfl, funext fun u => hv u (by have := u.2; omega)⟩)⟩
      · refine ⟨oM_0 (by omega) km0 3 rfl, ?_⟩
        refine ⟨⟨by omega, by omega⟩, ?_⟩
        refine ⟨⟨by omega, by omega⟩, ?_⟩
        refine ⟨⟨by omega, by omega⟩, ?_⟩
        refine ⟨⟨by omega, by omega⟩, ?_⟩
        refine ⟨aM_3 (r := A 0 3) (by rw [c3]; omega) (by rw [c3]; exact kn3) (by omega) (by omega), ?_⟩
        have e1 : A (A 0 3) ((12 * ((200 * p) + q)) + v) = A 3 ((12 * ((200 * p) + q)) + v) := by rw [c3]
        refine ⟨oM_0 (by omega) km0 6 rfl, ?_⟩
        refine ⟨aM_4 (r := A 0 6) (by rw [c6]; omega) (by rw [c6]; exact kn4) (by omega) (by omega), ?_⟩
        have e2 : A (A 0 6) v = A 4 v := by rw [c6]
        refine ⟨fun h1 => ?_, fun h1 => ?_⟩
        · refine ⟨⟨by omega, by omega⟩, ?_⟩
          exact ⟨rfl, h0, h1, rfl⟩
        · refine ⟨oM_0 (by omega) km0 6 rfl, ?_⟩
          refine ⟨aM_4 (r := A 0 6) (by rw [c6]; omega) (by rw [c6]; exact kn4) (by omega) (by omega), ?_⟩
          have e3 : A (A 0 6) v = A 4 v := by rw [c6]
          refine ⟨fun h2 => ?_, fun h2 => ?_⟩
          · exact ⟨rfl, rfl, -1, rfl, Or.inr (Or.inr ⟨rfl, ⟨v.toNat, by omega⟩, fun j hj => (hv j (by have : j.1 < v.toNat := hj; omega)).symm, by show A 3 (12 * (200 * p + q) + ((v.toNat : Nat) : Int)) < A 4 ((v.toNat : Nat) : Int); rw [Int.toNat_of_nonneg v0]; omega⟩)⟩
          · exact ⟨rfl, rfl, 1, rfl, Or.inl ⟨rfl, ⟨v.toNat, by omega⟩, fun j hj => hv j (by have : j.1 < v.toNat := hj; omega), by show A 4 ((v.toNat : Nat) : Int) < A 3 (12 * (200 * p + q) + ((v.toNat : Nat) : Int)); rw [Int.toNat_of_nonneg v0]; omega⟩⟩
theorem against_ex {A : pm_A} {p q : Int} (hA : gH wM A) (p0 : 0 ≤ p) (p1 : p ≤ 151) (q0 : 0 ≤ q) (q1 : q ≤ 199) : Cl pmt (an_sh wM) 122 [(2, 0), (0, p), (0, q)] A (ag_post A p q) := by
  refine Cl.of (Nat.le_of_ble_eq_true rfl) ?_
  refine wq_ok (full := o_X10_against) srt_against (fr := []) (cuts := [2]) (J := fun pc st => pc = 2 ∧ st = ([(2, 0), (0, p), (0, q), (0, 0), (9, 0)], [], A)) ?_ 5 0 _ ?_
  · rintro pc st ⟨rfl, rfl⟩
    exact ag_2 hA p0 p1 q0 q1 _ 0 _ (Nat.lt_succ_self _) (by omega) (by omega) (fun u hu => by omega)
  · exact ⟨rfl, rfl⟩
def srtd (A : pm_A) (p : Int) : Prop := ∀ q q' : Int, 0 ≤ q → q < q' → q' < A 1 p → cr_Gt (xe A p q) (xe A p q')
def pe_post (A : pm_A) (p : Int) (r : pm_R) : Prop := r.2 = A ∧ ∃ z, r.1 = some (0, z) ∧ (0 ≤ z ∧ z ≤ A 1 p) ∧ (∀ q, 0 ≤ q → q < z → cr_Gt (xe A p q) (xp A)) ∧ ∀ q, z ≤ q → q < A 1 p → ¬ cr_Gt (xe A p q) (xp A)
theorem pe_9 {A : pm_A} {p : Int} (hA : gH wM A) (p0 : 0 ≤ p) (p1 : p ≤ 151) (hs : srtd A p) : ∀ (n : Nat) (lo hi : Int) (v4 : pm_V), (hi - lo).toNat < n → 0 ≤ lo → lo ≤ hi → hi ≤ A 1 p → (∀ q, 0 ≤ q → q < lo → cr_Gt (xe A p q) (xp A)) → (∀ q, hi ≤ q → q < A 1 p → ¬ cr_Gt (xe A p q) (xp A)) → Tm pmt (an_sh wM) o_X10_placeIn 9 ([(2, 0), (0, p), (0, lo), (0, hi), v4], [], A) (pe_post A p) := by
  have m1 := eM_1 hA (r := 1) (by omega) kn1 p0 (show p < 152 by omega)
  intro n
  induction n with
  | zero => intro lo hi v4 h; omega
  | succ n ih =>
    intro lo hi v4 hn l0 l1 h1 H1 H2
    refine wq_ok srt_placeIn (fr := []) (cuts := [28]) (J := fun pc st => (pc = 28 ∧ lo < hi ∧ ∃ z, ((z = 1 ∧ cr_Gt (xe A p ((lo + hi) / 2)) (xp A)) ∨ (z = 0 ∧ xe A p ((lo + hi) / 2) = xp A) ∨ (z = -1 ∧ cr_Gt (xp A) (xe A p ((lo + hi) / 2)))) ∧ st = ([(2, 0), (0, p), (0, lo), (0, hi), (0, (lo + hi) / 2)], [(0, z)], A))) ?_ 17 9 _ ?_
    · rintro pc st (⟨rfl, hl, z, hz, rfl⟩)
      refine wq_ok srt_placeIn (fr := []) (cuts := [9]) (J := fun pc st => (pc = 9 ∧ (z ≤ 0) ∧ st = ([(2, 0), (0, p), (0, lo), (0, (lo + hi) / 2), (0, (lo + hi) / 2)], [], A)) ∨ (pc = 9 ∧ (0 < z) ∧ st = ([(2, 0), (0, p), (0, ((lo + hi) / 2) + 1), (0, hi), (0, (lo + hi) / 2)], [], A))) ?_ 12 28 _ ?_
      · rintro pc st (⟨rfl, h0, rfl⟩ | ⟨rfl, h0, rfl⟩)
        · refine ih lo ((lo + hi) / 2) _ (by omega) (by omega) (by omega) (by omega) H1 (fun q hq hq2 hg => ?_)
          have hm : ¬ cr_Gt (xe A p ((lo + hi) / 2)) (xp A) := by
            rcases hz with ⟨e, _⟩ | ⟨_, e⟩ | ⟨_, e⟩
            · omega
            · rw [e]; exact cr_Gt.irrefl _
            · exact e.asymm
          by_cases e : q = (lo + hi) / 2
          · rw [e] at hg; exact hm hg
          · exact hm ((hs ((lo + hi) / 2) q (by omega) (by omega) hq2).trans hg)
        · refine ih ((lo + hi) / 2 + 1) hi _ (by omega) (by omega) (by omega) (by omega) (fun q hq hq2 => ?_) H2
          have hm : cr_Gt (xe A p ((lo + hi) / 2)) (xp A) := by
            rcases hz with ⟨_, e⟩ | ⟨e, _⟩ | ⟨e, _⟩
            · exact e
            · omega
            · omega
          by_cases e : q = (lo + hi) / 2
          · rw [e]; exact hm
          · exact (hs q ((lo + hi) / 2) hq (by omega) (by omega)).trans hm
      · refine ⟨fun h0 => ?_, fun h0 => ?_⟩
        · exact Or.inl (⟨rfl, h0, rfl⟩)
        · refine ⟨⟨by omega, by omega⟩, ?_⟩
          exact Or.inr (⟨rfl, h0, rfl⟩)
    · refine ⟨fun h0 => ?_, fun h0 => ?_⟩
      · exact ⟨rfl, rfl, lo, rfl, ⟨l0, by omega⟩, H1, fun q hq hq2 => H2 q (by omega) hq2⟩
      · refine ⟨⟨by omega, by omega⟩, ?_⟩
        refine ⟨⟨by omega, by omega, by omega, by omega⟩, ?_⟩
        refine ⟨rM_0 (by omega) km0, ?_⟩
        refine (against_ex (q := (lo + hi) / 2) hA p0 p1 (by omega) (by omega)).imp ?_
        rintro ⟨r1, C⟩ ⟨rfl, z, hz1, hz2⟩
        simp only at hz1 hz2
        subst hz1
        exact ⟨rfl, h0, z, hz2, rfl⟩
theorem placeIn_ex {A : pm_A} {p : Int} (hA : gH wM A) (p0 : 0 ≤ p) (p1 : p ≤ 151) (hs : srtd A p) : Cl pmt (an_sh wM) 173 [(2, 0), (0, p)] A (pe_post A p) := by
  have c1 := pM_1 hA
  have m1 := eM_1 hA (r := 1) (by omega) kn1 p0 (show p < 152 by omega)
  refine Cl.of (Nat.le_of_ble_eq_true rfl) ?_
  refine wq_ok (full := o_X10_placeIn) srt_placeIn (fr := []) (cuts := [9]) (J := fun pc st => (pc = 9 ∧ st = ([(2, 0), (0, p), (0, 0), (0, A (A 0 1) p), (9, 0)], [], A))) ?_ 12 0 _ ?_
  · rintro pc st (⟨rfl, rfl⟩)
    rw [c1]
    exact pe_9 hA p0 p1 hs _ 0 _ _ (Nat.lt_succ_self _) (by omega) (by omega) (by omega) (fun q h1 h2 => by omega) (fun q h1 h2 => by omega)
  · refine ⟨oM_0 (by omega) km0 1 rfl, ?_⟩
    refine ⟨aM_1 (r := A 0 1) (by rw [c1]; omega) (by rw [c1]; exact kn1) (by omega) (by omega), ?_⟩
    have e1 : A (A 0 1) p = A 1 p := by rw [c1]
    exact ⟨rfl, rfl⟩
