/-! turnsArrows -/
theorem srt_without : pm_srt o_X10_without = true := by decide +kernel
theorem without_ex {A : pm_A} {a : Int} (h0 : -9999 ≤ a) (h1 : a ≤ 9999) : Cl pmt (an_sh wM) 204 [(0, a)] A (fun r => r.2 = A ∧ r.1 = some (0, if a < 0 then -a else a)) := by
  refine Cl.of (Nat.le_of_ble_eq_true rfl) ?_
  refine wq_ok (full := o_X10_without) srt_without (fr := []) (cuts := []) (J := fun _ _ => False) ?_ 10 0 _ ?_
  · intro pc st h; exact h.elim
  · refine ⟨fun h0 => ?_, fun h0 => ?_⟩
    · exact ⟨rfl, rfl, by rw [if_neg (by omega)]⟩
    · refine ⟨⟨by omega, by omega⟩, ?_⟩
      exact ⟨rfl, rfl, by rw [if_pos (by omega)]⟩
theorem okt2 {g : Int} (h : g = 0 ∨ g = 1) : pm_okt 2 (0, g) = true := by rcases h with rfl | rfl <;> rfl
theorem srt_turnsArrows : pm_srt o_X10_turnsArrows = true := by decide +kernel
def tv (A : pm_A) (k i j : Int) : Int := if i = k ∨ j = k then - A 5 (6 * i + j) else if (0 < A 5 (6 * i + k) ∧ 0 < A 5 (6 * k + j)) ∨ (A 5 (6 * i + k) < 0 ∧ A 5 (6 * k + j) < 0) then A 5 (6 * i + j) + (if A 5 (6 * i + k) < 0 then - A 5 (6 * i + k) else A 5 (6 * i + k)) * A 5 (6 * k + j) else A 5 (6 * i + j)
def arB (A : pm_A) : Prop := ∀ i j : Int, 0 ≤ i → i < A 0 7 + A 0 8 → 0 ≤ j → j < A 0 7 → -9999 ≤ A 5 (6 * i + j) ∧ A 5 (6 * i + j) ≤ 9999
def taF (A B : pm_A) : Prop := gH wM B ∧ ∀ r j, r ≠ 12 → B r j = A r j
def mta_post (A : pm_A) (k : Int) (r : pm_R) : Prop := taF A r.2 ∧ ∃ g, r.1 = some (0, g) ∧ (g = 0 ∨ (g = 1 ∧ ∀ i j : Int, 0 ≤ i → i < A 0 7 + A 0 8 → 0 ≤ j → j < A 0 7 → -9999 ≤ tv A k i j ∧ tv A k i j ≤ 9999)) ∧ ∀ i j : Int, 0 ≤ i → i < A 0 7 + A 0 8 → 0 ≤ j → j < A 0 7 → r.2 12 (6 * i + j) = tv A k i j
def taI (A B : pm_A) (k g i : Int) : Prop := taF A B ∧ (g = 0 ∨ (g = 1 ∧ ∀ i' j : Int, 0 ≤ i' → i' < i → 0 ≤ j → j < A 0 7 → -9999 ≤ tv A k i' j ∧ tv A k i' j ≤ 9999)) ∧ ∀ i' j : Int, 0 ≤ i' → i' < i → 0 ≤ j → j < A 0 7 → B 12 (6 * i' + j) = tv A k i' j
def taJ (A B : pm_A) (k g i u : Int) : Prop := taF A B ∧ (g = 0 ∨ (g = 1 ∧ (∀ i' j : Int, 0 ≤ i' → i' < i → 0 ≤ j → j < A 0 7 → -9999 ≤ tv A k i' j ∧ tv A k i' j ≤ 9999) ∧ ∀ j : Int, 0 ≤ j → j < u → -9999 ≤ tv A k i j ∧ tv A k i j ≤ 9999)) ∧ (∀ i' j : Int, 0 ≤ i' → i' < i → 0 ≤ j → j < A 0 7 → B 12 (6 * i' + j) = tv A k i' j) ∧ ∀ j : Int, 0 ≤ j → j < u → B 12 (6 * i + j) = tv A k i j
theorem mul_bd {x y : Int} (hx : -9999 ≤ x ∧ x ≤ 9999) (hy : -9999 ≤ y ∧ y ≤ 9999) : -99980001 ≤ x * y ∧ x * y ≤ 99980001 := by
  by_cases h : 0 ≤ x
  · have h1 := to_mul h hy
    have h2 := Int.mul_le_mul_of_nonneg_right hx.2 (show (0 : Int) ≤ 9999 by omega)
    omega
  · have h1 := to_mul (n := -x) (by omega) hy
    have h2 := Int.mul_le_mul_of_nonneg_right (show -x ≤ 9999 by omega) (show (0 : Int) ≤ 9999 by omega)
    have e : -x * y = -(x * y) := Int.neg_mul _ _
    rw [e] at h1
    omega
theorem ta_122 {A B : pm_A} {k g i j v : Int} {w6 w7 : pm_V} (i0 : 0 ≤ i) (i1 : i < A 0 7 + A 0 8) (hw : A 0 7 + A 0 8 ≤ 12 ∧ A 0 7 ≤ 6) (j0 : 0 ≤ j) (j1 : j < A 0 7) (hv : v = tv A k i j) (hr : r32 v) (hJ : taJ A B k g i j) {z : pm_R → Prop} (H : ∀ g' w5 C, taJ A C k g' i (j + 1) → Tm pmt (an_sh wM) o_X10_turnsArrows 20 ([(2, 0), (0, k), (0, g'), (0, i), (0, j + 1), w5, w6, w7], [], C) z) : Tm pmt (an_sh wM) o_X10_turnsArrows 122 ([(2, 0), (0, k), (0, g), (0, i), (0, j), (0, v), w6, w7], [], B) z := by
  obtain ⟨hF, hg, h3, h4⟩ := hJ
  have c19 := pM_19 hF.1
  have hstep : ∀ g', (g' = 0 ∨ (g' = 1 ∧ g ≠ 0 ∧ -9999 ≤ v ∧ v ≤ 9999)) → taJ A (pm_upd B 12 (6 * i + j) v) k g' i (j + 1) := fun g' hg' => by
    refine ⟨⟨uM_12 hF.1 kn12 hr.1 hr.2, fun r q hq => by rw [upd_o (by omega)]; exact hF.2 r q hq⟩, ?_, fun i' j' a0 a1 b0 b1 => ?_, fun j' b0 b1 => ?_⟩
    · rcases hg' with e | ⟨e, e2, e3, e4⟩
      · exact Or.inl e
      · refine Or.inr ⟨e, ?_⟩
        rcases hg with h | ⟨h, h5, h6⟩
        · exact absurd h e2
        · refine ⟨h5, fun j' b0 b1 => ?_⟩
          by_cases hj : j' = j
          · rw [hj, ← hv]; exact ⟨e3, e4⟩
          · exact h6 j' b0 (by omega)
    · rw [upd_o (by omega)]; exact h3 i' j' a0 a1 b0 b1
    · by_cases hj : j' = j
      · rw [hj, upd_at]; exact hv
      · rw [upd_o (by omega)]; exact h4 j' b0 (by omega)
  refine wq_ok srt_turnsArrows (fr := []) (cuts := [20]) (J := fun pc st => (pc = 20 ∧ (g = 0) ∧ st = ([(2, 0), (0, k), (0, 0), (0, i), (0, j + 1), (0, v), w6, w7], [], pm_upd B (B 0 19) ((6 * i) + j) v)) ∨ (pc = 20 ∧ (¬ g = 0) ∧ (v < ((-9999))) ∧ st = ([(2, 0), (0, k), (0, 0), (0, i), (0, j + 1), (0, v), w6, w7], [], pm_upd B (B 0 19) ((6 * i) + j) v)) ∨ (pc = 20 ∧ (¬ g = 0) ∧ (((-9999)) ≤ v) ∧ (9999 < v) ∧ st = ([(2, 0), (0, k), (0, 0), (0, i), (0, j + 1), (0, v), w6, w7], [], pm_upd B (B 0 19) ((6 * i) + j) v)) ∨ (pc = 20 ∧ (¬ g = 0) ∧ (((-9999)) ≤ v) ∧ (v ≤ 9999) ∧ st = ([(2, 0), (0, k), (0, 1), (0, i), (0, j + 1), (0, v), w6, w7], [], pm_upd B (B 0 19) ((6 * i) + j) v))) ?_ 27 122 _ ?_
  · rintro pc st (⟨rfl, h0, rfl⟩ | ⟨rfl, h0, h1, rfl⟩ | ⟨rfl, h0, h1, h2, rfl⟩ | ⟨rfl, h0, h1, h2, rfl⟩)
    · rw [c19]
      exact H _ _ _ (hstep _ (Or.inl rfl))
    · rw [c19]
      exact H _ _ _ (hstep _ (Or.inl rfl))
    · rw [c19]
      exact H _ _ _ (hstep _ (Or.inl rfl))
    · rw [c19]
      exact H _ _ _ (hstep _ (Or.inr ⟨rfl, h0, by omega, by omega⟩))
  · refine ⟨oM_0 (by omega) km0 19 rfl, ?_⟩
    refine ⟨⟨by omega, by omega⟩, ?_⟩
    refine ⟨⟨by omega, by omega⟩, ?_⟩
    refine ⟨tM_12 (r := B 0 19) (by rw [c19]; omega) (by rw [c19]; exact kn12) (by omega) (by omega) rfl, ?_⟩
    refine ⟨fun h0 => ?_, fun h0 => ?_⟩
    · refine ⟨⟨by omega, by omega⟩, ?_⟩
      exact Or.inl (⟨rfl, h0, rfl⟩)
    · refine ⟨fun h1 => ?_, fun h1 => ?_⟩
      · refine ⟨⟨by omega, by omega⟩, ?_⟩
        exact Or.inr (Or.inl (⟨rfl, h0, h1, rfl⟩))
      · refine ⟨fun h2 => ?_, fun h2 => ?_⟩
        · refine ⟨⟨by omega, by omega⟩, ?_⟩
          exact Or.inr (Or.inr (Or.inl (⟨rfl, h0, h1, h2, rfl⟩)))
        · refine ⟨⟨by omega, by omega⟩, ?_⟩
          exact Or.inr (Or.inr (Or.inr (⟨rfl, h0, h1, h2, rfl⟩)))
theorem ta_20 {A : pm_A} {k i : Int} (hA : gH wM A) (hB : arB A) (k0 : 0 ≤ k) (k1 : k < A 0 7) (i0 : 0 ≤ i) (i1 : i < A 0 7 + A 0 8) {z : pm_R → Prop} (H : ∀ g w4 w5 w6 w7 C, taI A C k g (i + 1) → Tm pmt (an_sh wM) o_X10_turnsArrows 4 ([(2, 0), (0, k), (0, g), (0, i + 1), w4, w5, w6, w7], [], C) z) : ∀ (m : Nat) (g j : Int) (w5 w6 w7 : pm_V) (B : pm_A), (6 - j).toNat < m → 0 ≤ j → j ≤ A 0 7 → taJ A B k g i j → Tm pmt (an_sh wM) o_X10_turnsArrows 20 ([(2, 0), (0, k), (0, g), (0, i), (0, j), w5, w6, w7], [], B) z := by
  have p7 := fM_0_7 hA (r := 0) (by omega) km0
  have p8 := fM_0_8 hA (r := 0) (by omega) km0
  intro m
  induction m with
  | zero => intro g j w5 w6 w7 B h; omega
  | succ m ih =>
    intro g j w5 w6 w7 B hm j0 j1 hJ
    have hJ0 := hJ
    obtain ⟨hF, hg, h3, h4⟩ := hJ
    have c9 := pM_9 hF.1
    have e7 : B 0 7 = A 0 7 := hF.2 0 7 (by omega)
    have e5 : ∀ q : Int, B 5 q = A 5 q := fun q => hF.2 5 q (by omega)
    have a1 : j < A 0 7 → -9999 ≤ A 5 (6 * i + j) ∧ A 5 (6 * i + j) ≤ 9999 := fun h => hB i j i0 i1 j0 h
    have a2 := hB i k i0 i1 k0 k1
    have a3 : j < A 0 7 → -9999 ≤ A 5 (6 * k + j) ∧ A 5 (6 * k + j) ≤ 9999 := fun h => hB k j k0 (by omega) j0 h
    have f1 := e5 (6 * i + j)
    have f2 := e5 (6 * i + k)
    have f3 := e5 (6 * k + j)
    have hfin : ∀ v w6 w7, j < A 0 7 → v = tv A k i j → r32 v → Tm pmt (an_sh wM) o_X10_turnsArrows 122 ([(2, 0), (0, k), (0, g), (0, i), (0, j), (0, v), w6, w7], [], B) z := fun v w6 w7 hj hv hr => ta_122 i0 i1 ⟨by omega, by omega⟩ j0 hj hv hr hJ0 (fun g' w5 C hC => ih g' (j + 1) w5 w6 w7 C (by omega) (by omega) (by omega) hC)
    refine wq_ok srt_turnsArrows (fr := []) (cuts := [4, 116, 122]) (J := fun pc st => (pc = 4 ∧ ((B 0 7) ≤ j) ∧ st = ([(2, 0), (0, k), (0, g), (0, i + 1), (0, j), w5, w6, w7], [], B)) ∨ (pc = 122 ∧ (j < (B 0 7)) ∧ (i = k) ∧ st = ([(2, 0), (0, k), (0, g), (0, i), (0, j), (0, -(B (B 0 9) ((6 * i) + j))), (0, B (B 0 9) ((6 * i) + k)), (0, B (B 0 9) ((6 * k) + j))], [], B)) ∨ (pc = 122 ∧ (j < (B 0 7)) ∧ (¬ i = k) ∧ (¬ j = k) ∧ ((B (B 0 9) ((6 * i) + k)) ≤ 0) ∧ (0 ≤ (B (B 0 9) ((6 * i) + k))) ∧ st = ([(2, 0), (0, k), (0, g), (0, i), (0, j), (0, B (B 0 9) ((6 * i) + j)), (0, B (B 0 9) ((6 * i) + k)), (0, B (B 0 9) ((6 * k) + j))], [], B)) ∨ (pc = 122 ∧ (j < (B 0 7)) ∧ (¬ i = k) ∧ (¬ j = k) ∧ ((B (B 0 9) ((6 * i) + k)) ≤ 0) ∧ ((B (B 0 9) ((6 * i) + k)) < 0) ∧ (0 ≤ (B (B 0 9) ((6 * k) + j))) ∧ st = ([(2, 0), (0, k), (0, g), (0, i), (0, j), (0, B (B 0 9) ((6 * i) + j)), (0, B (B 0 9) ((6 * i) + k)), (0, B (B 0 9) ((6 * k) + j))], [], B)) ∨ (pc = 116 ∧ (j < (B 0 7)) ∧ (¬ i = k) ∧ (¬ j = k) ∧ ((B (B 0 9) ((6 * i) + k)) ≤ 0) ∧ ((B (B 0 9) ((6 * i) + k)) < 0) ∧ ((B (B 0 9) ((6 * k) + j)) < 0) ∧ st = ([(2, 0), (0, k), (0, g), (0, i), (0, j), (0, B (B 0 9) ((6 * i) + j)), (0, B (B 0 9) ((6 * i) + k)), (0, B (B 0 9) ((6 * k) + j))], [(0, if B (B 0 9) ((6 * i) + k) < 0 then -B (B 0 9) ((6 * i) + k) else B (B 0 9) ((6 * i) + k)), (0, B (B 0 9) ((6 * i) + j))], B)) ∨ (pc = 116 ∧ (j < (B 0 7)) ∧ (¬ i = k) ∧ (¬ j = k) ∧ (0 < (B (B 0 9) ((6 * i) + k))) ∧ (0 < (B (B 0 9) ((6 * k) + j))) ∧ st = ([(2, 0), (0, k), (0, g), (0, i), (0, j), (0, B (B 0 9) ((6 * i) + j)), (0, B (B 0 9) ((6 * i) + k)), (0, B (B 0 9) ((6 * k) + j))], [(0, if B (B 0 9) ((6 * i) + k) < 0 then -B (B 0 9) ((6 * i) + k) else B (B 0 9) ((6 * i) + k)), (0, B (B 0 9) ((6 * i) + j))], B)) ∨ (pc = 122 ∧ (j < (B 0 7)) ∧ (¬ i = k) ∧ (¬ j = k) ∧ (0 < (B (B 0 9) ((6 * i) + k))) ∧ ((B (B 0 9) ((6 * k) + j)) ≤ 0) ∧ (0 ≤ (B (B 0 9) ((6 * i) + k))) ∧ st = ([(2, 0), (0, k), (0, g), (0, i), (0, j), (0, B (B 0 9) ((6 * i) + j)), (0, B (B 0 9) ((6 * i) + k)), (0, B (B 0 9) ((6 * k) + j))], [], B)) ∨ (pc = 122 ∧ (j < (B 0 7)) ∧ (¬ i = k) ∧ (¬ j = k) ∧ (0 < (B (B 0 9) ((6 * i) + k))) ∧ ((B (B 0 9) ((6 * k) + j)) ≤ 0) ∧ ((B (B 0 9) ((6 * i) + k)) < 0) ∧ (0 ≤ (B (B 0 9) ((6 * k) + j))) ∧ st = ([(2, 0), (0, k), (0, g), (0, i), (0, j), (0, B (B 0 9) ((6 * i) + j)), (0, B (B 0 9) ((6 * i) + k)), (0, B (B 0 9) ((6 * k) + j))], [], B)) ∨ (pc = 116 ∧ (j < (B 0 7)) ∧ (¬ i = k) ∧ (¬ j = k) ∧ (0 < (B (B 0 9) ((6 * i) + k))) ∧ ((B (B 0 9) ((6 * k) + j)) ≤ 0) ∧ ((B (B 0 9) ((6 * i) + k)) < 0) ∧ ((B (B 0 9) ((6 * k) + j)) < 0) ∧ st = ([(2, 0), (0, k), (0, g), (0, i), (0, j), (0, B (B 0 9) ((6 * i) + j)), (0, B (B 0 9) ((6 * i) + k)), (0, B (B 0 9) ((6 * k) + j))], [(0, if B (B 0 9) ((6 * i) + k) < 0 then -B (B 0 9) ((6 * i) + k) else B (B 0 9) ((6 * i) + k)), (0, B (B 0 9) ((6 * i) + j))], B)) ∨ (pc = 122 ∧ (j < (B 0 7)) ∧ (¬ i = k) ∧ (j = k) ∧ st = ([(2, 0), (0, k), (0, g), (0, i), (0, j), (0, -(B (B 0 9) ((6 * i) + j))), (0, B (B 0 9) ((6 * i) + k)), (0, B (B 0 9) ((6 * k) + j))], [], B))) ?_ 52 20 _ ?_
    · rintro pc st (⟨rfl, h0, rfl⟩ | ⟨rfl, h0, h1, rfl⟩ | ⟨rfl, h0, h1, h2, h3, h4, rfl⟩ | ⟨rfl, h0, h1, h2, h3, h4, h5, rfl⟩ | ⟨rfl, h0, h1, h2, h3, h4, h5, rfl⟩ | ⟨rfl, h0, h1, h2, h3, h4, rfl⟩ | ⟨rfl, h0, h1, h2, h3, h4, h5, rfl⟩ | ⟨rfl, h0, h1, h2, h3, h4, h5, h6, rfl⟩ | ⟨rfl, h0, h1, h2, h3, h4, h5, h6, rfl⟩ | ⟨rfl, h0, h1, h2, rfl⟩)
      · rw [e7] at h0
        obtain ⟨t1, t2, t3, t4⟩ := hJ0
        have hj : j = A 0 7 := by omega
        refine H g _ _ _ _ B ⟨t1, ?_, fun i' j' x0 x1 y0 y1 => ?_⟩
        · rcases t2 with h | ⟨h, h5, h6⟩
          · exact Or.inl h
          · refine Or.inr ⟨h, fun i' j' x0 x1 y0 y1 => ?_⟩
            by_cases hi : i' = i
            · rw [hi]; exact h6 j' y0 (by omega)
            · exact h5 i' j' x0 (by omega) y0 y1
        · by_cases hi : i' = i
          · rw [hi]; exact t4 j' y0 (by omega)
          · exact t3 i' j' x0 (by omega) y0 y1
      · rw [e7] at h0
        have b1 := a1 h0
        have b3 := a3 h0
        rw [c9, f1]
        exact hfin _ _ _ h0 (by unfold tv; rw [if_pos (by omega)]) ⟨by omega, by omega⟩
      · rw [e7] at h0
        have b1 := a1 h0
        have b3 := a3 h0
        rw [c9, f1]
        rw [c9] at h3
        rw [c9] at h4
        exact hfin _ _ _ h0 (by unfold tv; rw [if_neg (by omega), if_neg (by omega)]) ⟨by omega, by omega⟩
      · rw [e7] at h0
        have b1 := a1 h0
        have b3 := a3 h0
        rw [c9, f1]
        rw [c9] at h3
        rw [c9] at h4
        rw [c9] at h5
        exact hfin _ _ _ h0 (by unfold tv; rw [if_neg (by omega), if_neg (by omega)]) ⟨by omega, by omega⟩
      · rw [e7] at h0
        have b1 := a1 h0
        have b3 := a3 h0
        rw [c9, f1, f2, f3]
        rw [c9] at h3
        rw [c9] at h4
        rw [c9] at h5
        have hpos : (0 < A 5 (6 * i + k) ∧ 0 < A 5 (6 * k + j)) ∨ (A 5 (6 * i + k) < 0 ∧ A 5 (6 * k + j) < 0) := by omega
        have hq : A 5 (6 * i + j) + (if A 5 (6 * i + k) < 0 then - A 5 (6 * i + k) else A 5 (6 * i + k)) * A 5 (6 * k + j) = tv A k i j := by unfold tv; rw [if_neg (show ¬ (i = k ∨ j = k) by omega), if_pos hpos]
        have hb : -9999 ≤ (if A 5 (6 * i + k) < 0 then - A 5 (6 * i + k) else A 5 (6 * i + k)) ∧ (if A 5 (6 * i + k) < 0 then - A 5 (6 * i + k) else A 5 (6 * i + k)) ≤ 9999 := by split <;> omega
        have hm2 := mul_bd hb b3
        have hqr : r32 (A 5 (6 * i + j) + (if A 5 (6 * i + k) < 0 then - A 5 (6 * i + k) else A 5 (6 * i + k)) * A 5 (6 * k + j)) := ⟨by omega, by omega⟩
        have hj := h0
        revert hq hqr hm2 hb b1 b3
        generalize (if A 5 (6 * i + k) < 0 then - A 5 (6 * i + k) else A 5 (6 * i + k)) = q
        generalize A 5 (6 * i + j) = x
        generalize A 5 (6 * k + j) = w
        generalize A 5 (6 * i + k) = y
        intro b1 b3 hq hb hm2 hqr
        refine wq_ok srt_turnsArrows (fr := []) (cuts := [122]) (J := fun pc st => (pc = 122 ∧ st = ([(2, 0), (0, k), (0, g), (0, i), (0, j), (0, x + (q * w)), (0, y), (0, w)], [], B))) ?_ 9 116 _ ?_
        · rintro pc st (⟨rfl, rfl⟩)
          exact hfin _ _ _ hj hq hqr
        · refine ⟨⟨by omega, by omega⟩, ?_⟩
          refine ⟨⟨by omega, by omega⟩, ?_⟩
          exact ⟨rfl, rfl⟩
      · rw [e7] at h0
        have b1 := a1 h0
        have b3 := a3 h0
        rw [c9, f1, f2, f3]
        rw [c9] at h3
        rw [c9] at h4
        have hpos : (0 < A 5 (6 * i + k) ∧ 0 < A 5 (6 * k + j)) ∨ (A 5 (6 * i + k) < 0 ∧ A 5 (6 * k + j) < 0) := by omega
        have hq : A 5 (6 * i + j) + (if A 5 (6 * i + k) < 0 then - A 5 (6 * i + k) else A 5 (6 * i + k)) * A 5 (6 * k + j) = tv A k i j := by unfold tv; rw [if_neg (show ¬ (i = k ∨ j = k) by omega), if_pos hpos]
        have hb : -9999 ≤ (if A 5 (6 * i + k) < 0 then - A 5 (6 * i + k) else A 5 (6 * i + k)) ∧ (if A 5 (6 * i + k) < 0 then - A 5 (6 * i + k) else A 5 (6 * i + k)) ≤ 9999 := by split <;> omega
        have hm2 := mul_bd hb b3
        have hqr : r32 (A 5 (6 * i + j) + (if A 5 (6 * i + k) < 0 then - A 5 (6 * i + k) else A 5 (6 * i + k)) * A 5 (6 * k + j)) := ⟨by omega, by omega⟩
        have hj := h0
        revert hq hqr hm2 hb b1 b3
        generalize (if A 5 (6 * i + k) < 0 then - A 5 (6 * i + k) else A 5 (6 * i + k)) = q
        generalize A 5 (6 * i + j) = x
        generalize A 5 (6 * k + j) = w
        generalize A 5 (6 * i + k) = y
        intro b1 b3 hq hb hm2 hqr
        refine wq_ok srt_turnsArrows (fr := []) (cuts := [122]) (J := fun pc st => (pc = 122 ∧ st = ([(2, 0), (0, k), (0, g), (0, i), (0, j), (0, x + (q * w)), (0, y), (0, w)], [], B))) ?_ 9 116 _ ?_
        · rintro pc st (⟨rfl, rfl⟩)
          exact hfin _ _ _ hj hq hqr
        · refine ⟨⟨by omega, by omega⟩, ?_⟩
          refine ⟨⟨by omega, by omega⟩, ?_⟩
          exact ⟨rfl, rfl⟩
      · rw [e7] at h0
        have b1 := a1 h0
        have b3 := a3 h0
        rw [c9, f1]
        rw [c9] at h3
        rw [c9] at h4
        rw [c9] at h5
        exact hfin _ _ _ h0 (by unfold tv; rw [if_neg (by omega), if_neg (by omega)]) ⟨by omega, by omega⟩
      · rw [e7] at h0
        have b1 := a1 h0
        have b3 := a3 h0
        rw [c9, f1]
        rw [c9] at h3
        rw [c9] at h4
        rw [c9] at h5
        rw [c9] at h6
        exact hfin _ _ _ h0 (by unfold tv; rw [if_neg (by omega), if_neg (by omega)]) ⟨by omega, by omega⟩
      · rw [e7] at h0
        have b1 := a1 h0
        have b3 := a3 h0
        rw [c9, f1, f2, f3]
        rw [c9] at h3
        rw [c9] at h4
        rw [c9] at h5
        rw [c9] at h6
        have hpos : (0 < A 5 (6 * i + k) ∧ 0 < A 5 (6 * k + j)) ∨ (A 5 (6 * i + k) < 0 ∧ A 5 (6 * k + j) < 0) := by omega
        have hq : A 5 (6 * i + j) + (if A 5 (6 * i + k) < 0 then - A 5 (6 * i + k) else A 5 (6 * i + k)) * A 5 (6 * k + j) = tv A k i j := by unfold tv; rw [if_neg (show ¬ (i = k ∨ j = k) by omega), if_pos hpos]
        have hb : -9999 ≤ (if A 5 (6 * i + k) < 0 then - A 5 (6 * i + k) else A 5 (6 * i + k)) ∧ (if A 5 (6 * i + k) < 0 then - A 5 (6 * i + k) else A 5 (6 * i + k)) ≤ 9999 := by split <;> omega
        have hm2 := mul_bd hb b3
        have hqr : r32 (A 5 (6 * i + j) + (if A 5 (6 * i + k) < 0 then - A 5 (6 * i + k) else A 5 (6 * i + k)) * A 5 (6 * k + j)) := ⟨by omega, by omega⟩
        have hj := h0
        revert hq hqr hm2 hb b1 b3
        generalize (if A 5 (6 * i + k) < 0 then - A 5 (6 * i + k) else A 5 (6 * i + k)) = q
        generalize A 5 (6 * i + j) = x
        generalize A 5 (6 * k + j) = w
        generalize A 5 (6 * i + k) = y
        intro b1 b3 hq hb hm2 hqr
        refine wq_ok srt_turnsArrows (fr := []) (cuts := [122]) (J := fun pc st => (pc = 122 ∧ st = ([(2, 0), (0, k), (0, g), (0, i), (0, j), (0, x + (q * w)), (0, y), (0, w)], [], B))) ?_ 9 116 _ ?_
        · rintro pc st (⟨rfl, rfl⟩)
          exact hfin _ _ _ hj hq hqr
        · refine ⟨⟨by omega, by omega⟩, ?_⟩
          refine ⟨⟨by omega, by omega⟩, ?_⟩
          exact ⟨rfl, rfl⟩
      · rw [e7] at h0
        have b1 := a1 h0
        have b3 := a3 h0
        rw [c9, f1]
        exact hfin _ _ _ h0 (by unfold tv; rw [if_pos (by omega)]) ⟨by omega, by omega⟩
    · refine ⟨oM_0 (by omega) km0 7 rfl, ?_⟩
      refine ⟨fun h0 => ?_, fun h0 => ?_⟩
      · refine ⟨⟨by omega, by omega⟩, ?_⟩
        exact Or.inl (⟨rfl, h0, rfl⟩)
      · refine ⟨oM_0 (by omega) km0 9 rfl, ?_⟩
        refine ⟨⟨by omega, by omega⟩, ?_⟩
        refine ⟨⟨by omega, by omega⟩, ?_⟩
        refine ⟨aM_5 (r := B 0 9) (by rw [c9]; omega) (by rw [c9]; exact kn5) (by omega) (by omega), ?_⟩
        have e1 : B (B 0 9) ((6 * i) + j) = B 5 ((6 * i) + j) := by rw [c9]
        refine ⟨oM_0 (by omega) km0 9 rfl, ?_⟩
        refine ⟨⟨by omega, by omega⟩, ?_⟩
        refine ⟨⟨by omega, by omega⟩, ?_⟩
        refine ⟨aM_5 (r := B 0 9) (by rw [c9]; omega) (by rw [c9]; exact kn5) (by omega) (by omega), ?_⟩
        have e2 : B (B 0 9) ((6 * i) + k) = B 5 ((6 * i) + k) := by rw [c9]
        refine ⟨oM_0 (by omega) km0 9 rfl, ?_⟩
        refine ⟨⟨by omega, by omega⟩, ?_⟩
        refine ⟨⟨by omega, by omega⟩, ?_⟩
        refine ⟨aM_5 (r := B 0 9) (by rw [c9]; omega) (by rw [c9]; exact kn5) (by omega) (by omega), ?_⟩
        have e3 : B (B 0 9) ((6 * k) + j) = B 5 ((6 * k) + j) := by rw [c9]
        refine ⟨fun h1 => ?_, fun h1 => ?_⟩
        · refine ⟨⟨by omega, by omega⟩, ?_⟩
          exact Or.inr (Or.inl (⟨rfl, h0, h1, rfl⟩))
        · refine ⟨fun h2 => ?_, fun h2 => ?_⟩
          · refine ⟨fun h3 => ?_, fun h3 => ?_⟩
            · refine ⟨fun h4 => ?_, fun h4 => ?_⟩
              · exact Or.inr (Or.inr (Or.inl (⟨rfl, h0, h1, h2, h3, h4, rfl⟩)))
              · refine ⟨fun h5 => ?_, fun h5 => ?_⟩
                · exact Or.inr (Or.inr (Or.inr (Or.inl (⟨rfl, h0, h1, h2, h3, h4, h5, rfl⟩))))
                · refine ⟨rfl, ?_⟩
                  refine (without_ex (a := B (B 0 9) ((6 * i) + k)) (by omega) (by omega)).imp ?_
                  rintro ⟨r1, C⟩ ⟨q1, q2⟩
                  simp only at q1 q2
                  subst q1 q2
                  exact Or.inr (Or.inr (Or.inr (Or.inr (Or.inl (⟨rfl, h0, h1, h2, h3, h4, h5, rfl⟩)))))
            · refine ⟨fun h4 => ?_, fun h4 => ?_⟩
              · refine ⟨rfl, ?_⟩
                refine (without_ex (a := B (B 0 9) ((6 * i) + k)) (by omega) (by omega)).imp ?_
                rintro ⟨r1, C⟩ ⟨q1, q2⟩
                simp only at q1 q2
                subst q1 q2
                exact Or.inr (Or.inr (Or.inr (Or.inr (Or.inr (Or.inl (⟨rfl, h0, h1, h2, h3, h4, rfl⟩))))))
              · refine ⟨fun h5 => ?_, fun h5 => ?_⟩
                · exact Or.inr (Or.inr (Or.inr (Or.inr (Or.inr (Or.inr (Or.inl (⟨rfl, h0, h1, h2, h3, h4, h5, rfl⟩)))))))
                · refine ⟨fun h6 => ?_, fun h6 => ?_⟩
                  · exact Or.inr (Or.inr (Or.inr (Or.inr (Or.inr (Or.inr (Or.inr (Or.inl (⟨rfl, h0, h1, h2, h3, h4, h5, h6, rfl⟩))))))))
                  · refine ⟨rfl, ?_⟩
                    refine (without_ex (a := B (B 0 9) ((6 * i) + k)) (by omega) (by omega)).imp ?_
                    rintro ⟨r1, C⟩ ⟨q1, q2⟩
                    simp only at q1 q2
                    subst q1 q2
                    exact Or.inr (Or.inr (Or.inr (Or.inr (Or.inr (Or.inr (Or.inr (Or.inr (Or.inl (⟨rfl, h0, h1, h2, h3, h4, h5, h6, rfl⟩)))))))))
          · refine ⟨⟨by omega, by omega⟩, ?_⟩
            exact Or.inr (Or.inr (Or.inr (Or.inr (Or.inr (Or.inr (Or.inr (Or.inr (Or.inr (⟨rfl, h0, h1, h2, rfl⟩)))))))))
theorem ta_4 {A : pm_A} {k : Int} (hA : gH wM A) (hB : arB A) (k0 : 0 ≤ k) (k1 : k < A 0 7) : ∀ (m : Nat) (g i : Int) (w4 w5 w6 w7 : pm_V) (B : pm_A), (12 - i).toNat < m → 0 ≤ i → i ≤ A 0 7 + A 0 8 → taI A B k g i → Tm pmt (an_sh wM) o_X10_turnsArrows 4 ([(2, 0), (0, k), (0, g), (0, i), w4, w5, w6, w7], [], B) (mta_post A k) := by
  have p7 := fM_0_7 hA (r := 0) (by omega) km0
  have p8 := fM_0_8 hA (r := 0) (by omega) km0
  intro m
  induction m with
  | zero => intro g i w4 w5 w6 w7 B h; omega
  | succ m ih =>
    intro g i w4 w5 w6 w7 B hm i0 i1 hI
    obtain ⟨hF, hg, h3⟩ := hI
    have e7 : B 0 7 = A 0 7 := hF.2 0 7 (by omega)
    have e8 : B 0 8 = A 0 8 := hF.2 0 8 (by omega)
    have hend : A 0 7 + A 0 8 ≤ i → mta_post A k (some (0, g), B) := fun h => ⟨hF, g, rfl, by
      rcases hg with h2 | ⟨h2, h5⟩
      · exact Or.inl h2
      · exact Or.inr ⟨h2, fun i' j x0 x1 y0 y1 => h5 i' j x0 (by omega) y0 y1⟩, fun i' j x0 x1 y0 y1 => h3 i' j x0 (by omega) y0 y1⟩
    refine wq_ok srt_turnsArrows (fr := []) (cuts := [20]) (J := fun pc st => (pc = 20 ∧ (i < ((B 0 7) + (B 0 8))) ∧ st = ([(2, 0), (0, k), (0, g), (0, i), (0, 0), w5, w6, w7], [], B))) ?_ 14 4 _ ?_
    · rintro pc st (⟨rfl, h0, rfl⟩)
      rw [e7, e8] at h0
      refine ta_20 hA hB k0 k1 i0 h0 (fun g w4 w5 w6 w7 C hC => ih g (i + 1) w4 w5 w6 w7 C (by omega) (by omega) (by omega) hC) _ g 0 _ _ _ B (Nat.lt_succ_self _) (by omega) (by omega) ⟨hF, ?_, h3, fun j y0 y1 => by omega⟩
      rcases hg with h2 | ⟨h2, h5⟩
      · exact Or.inl h2
      · exact Or.inr ⟨h2, h5, fun j y0 y1 => by omega⟩
    · refine ⟨oM_0 (by omega) km0 7 rfl, ?_⟩
      refine ⟨oM_0 (by omega) km0 8 rfl, ?_⟩
      refine ⟨⟨by omega, by omega⟩, ?_⟩
      refine ⟨fun h0 => ?_, fun h0 => ?_⟩
      · exact ⟨okt2 (by rcases hg with h | h; exact Or.inl h; exact Or.inr h.1), hend (by rw [e7, e8] at h0; exact h0)⟩
      · exact ⟨rfl, h0, rfl⟩
theorem turnsArrows_ex {A : pm_A} {k : Int} (hA : gH wM A) (hB : arB A) (k0 : 0 ≤ k) (k1 : k < A 0 7) : Cl pmt (an_sh wM) 201 [(2, 0), (0, k)] A (mta_post A k) := by
  have p7 := fM_0_7 hA (r := 0) (by omega) km0
  have p8 := fM_0_8 hA (r := 0) (by omega) km0
  refine Cl.of (Nat.le_of_ble_eq_true rfl) ?_
  refine wq_ok (full := o_X10_turnsArrows) srt_turnsArrows (fr := []) (cuts := [4]) (J := fun pc st => (pc = 4 ∧ st = ([(2, 0), (0, k), (0, 1), (0, 0), (9, 0), (9, 0), (9, 0), (9, 0)], [], A))) ?_ 9 0 _ ?_
  · rintro pc st (⟨rfl, rfl⟩)
    exact ta_4 hA hB k0 k1 _ 1 0 _ _ _ _ A (Nat.lt_succ_self _) (by omega) (by omega) ⟨⟨hA, fun _ _ _ => rfl⟩, Or.inr ⟨rfl, fun i' j x0 x1 y0 y1 => by omega⟩, fun i' j x0 x1 y0 y1 => by omega⟩
  · exact ⟨rfl, rfl⟩
