/-! hasSizes -/
theorem gpF.tr {A B C : pm_A} (h : gpF A B) (g : gpF B C) : gpF A C := ⟨g.1, fun r j h1 h2 h3 => by rw [g.2 r j h1 h2 h3]; exact h.2 r j h1 h2 h3⟩
def szd (B : pm_A) : Prop := ∀ i : Int, 0 ≤ i → i < B 0 12 → B 9 i = 1 ∧ (1 ≤ B 8 i ∧ B 8 i ≤ 531441) ∧ ∀ j : Int, 0 ≤ j → j < B 0 12 → B 8 i * B 7 (6 * i + j) = -(B 8 j) * B 7 (6 * j + i)
def hz_post (A : pm_A) (r : pm_R) : Prop := gpF A r.2 ∧ ∃ x, r.1 = some (0, x) ∧ (x = 0 ∨ szd r.2)
theorem srt_hasSizes : pm_srt o_X10_hasSizes = true := by decide +kernel
theorem mulb2 {x t : Int} (h1 : -531441 ≤ x) (h2 : x ≤ 531441) (h3 : -9 ≤ t) (h4 : t ≤ 9) : -9223372036854775808 ≤ x * t ∧ x * t ≤ 9223372036854775807 := by
  have a : (x * t).natAbs ≤ 531441 * 9 := by
    rw [Int.natAbs_mul]
    exact Nat.mul_le_mul (by omega) (by omega)
  omega
theorem hs_84 {A B : pm_A} {i : Int} (hT : tz A) (p6 : A 0 12 ≤ 6) (hF : gpF A B) (hz : ∀ k : Int, 0 ≤ k → k < A 0 12 → B 9 k = 1 ∧ 1 ≤ B 8 k ∧ B 8 k ≤ 531441) (i0 : 0 ≤ i) (i1 : i < A 0 12) (H : (∀ j : Int, 0 ≤ j → j < A 0 12 → B 8 i * B 7 (6 * i + j) = -(B 8 j) * B 7 (6 * j + i)) → ∀ w2, Tm pmt (an_sh wM) o_X10_hasSizes 74 ([(2, 0), (0, i + 1), w2], [], B) (hz_post A)) : ∀ (m : Nat) (j : Int), (6 - j).toNat < m → 0 ≤ j → j ≤ 6 → (∀ k : Int, 0 ≤ k → k < j → k < A 0 12 → B 8 i * B 7 (6 * i + k) = -(B 8 k) * B 7 (6 * k + i)) → Tm pmt (an_sh wM) o_X10_hasSizes 84 ([(2, 0), (0, i), (0, j)], [], B) (hz_post A) := by
  have e12 : B 0 12 = A 0 12 := hF.2 0 12 (by omega) (by omega) (by omega)
  have c14 := pM_14 hF.1
  have c15 := pM_15 hF.1
  have c16 := pM_16 hF.1
  have e7 : ∀ x, B 7 x = A 7 x := fun x => hF.2 7 _ (by omega) (by omega) (by omega)
  intro m
  induction m with
  | zero => intro j h; omega
  | succ m ih =>
    intro j hm j0 j1 hj
    have hm1 : j < A 0 12 → -9223372036854775808 ≤ B 8 i * B 7 (6 * i + j) ∧ B 8 i * B 7 (6 * i + j) ≤ 9223372036854775807 := fun h => by
      have a := hz i i0 i1
      have b := hT.1 (6 * i + j) (by omega) (by omega)
      rw [e7]
      exact mulb2 (by omega) (by omega) b.1 b.2
    have hm2 : j < A 0 12 → -9223372036854775808 ≤ -(B 8 j) * B 7 (6 * j + i) ∧ -(B 8 j) * B 7 (6 * j + i) ≤ 9223372036854775807 := fun h => by
      have a := hz j j0 h
      have b := hT.1 (6 * j + i) (by omega) (by omega)
      rw [e7]
      exact mulb2 (by omega) (by omega) b.1 b.2
    have hz1 := hz i i0 i1
    by_cases hb : j < A 0 12
    · have hz2 := hz j j0 hb
      have g1 := hm1 hb
      have g2 := hm2 hb
      refine wq_ok srt_hasSizes (fr := []) (cuts := [74, 84]) (J := fun pc st => (pc = 74 ∧ ((B 0 12) ≤ j) ∧ st = ([(2, 0), (0, i + 1), (0, j)], [], B)) ∨ (pc = 84 ∧ (j < (B 0 12)) ∧ ((((B (B 0 15) i) * (B (B 0 14) ((6 * i) + j))) * (B (B 0 16) j)) = (((-(B (B 0 15) j)) * (B (B 0 14) ((6 * j) + i))) * (B (B 0 16) i))) ∧ st = ([(2, 0), (0, i), (0, j + 1)], [], B))) ?_ 52 84 _ ?_
      · rintro pc st (⟨rfl, h0, rfl⟩ | ⟨rfl, h0, h1, rfl⟩)
        · exact absurd h0 (by omega)
        · rw [c15, c14, c16, hz2.1, hz1.1, Int.mul_one, Int.mul_one] at h1
          refine ih (j + 1) (by omega) (by omega) (by omega) (fun k k0 k1 k2 => ?_)
          by_cases e : k = j
          · subst e; exact h1
          · exact hj k k0 (by omega) k2
      · refine ⟨oM_0 (by omega) km0 12 rfl, ?_⟩
        refine ⟨fun h0 => ?_, fun h0 => ?_⟩
        · refine ⟨⟨by omega, by omega⟩, ?_⟩
          exact Or.inl (⟨rfl, h0, rfl⟩)
        · refine ⟨oM_0 (by omega) km0 15 rfl, ?_⟩
          refine ⟨aM_8 (r := B 0 15) (by rw [c15]; omega) (by rw [c15]; exact kn8) (by omega) (by omega), ?_⟩
          have e1 : B (B 0 15) i = B 8 i := by rw [c15]
          refine ⟨oM_0 (by omega) km0 14 rfl, ?_⟩
          refine ⟨⟨by omega, by omega⟩, ?_⟩
          refine ⟨⟨by omega, by omega⟩, ?_⟩
          refine ⟨aM_7 (r := B 0 14) (by rw [c14]; omega) (by rw [c14]; exact kn7) (by omega) (by omega), ?_⟩
          have e2 : B (B 0 14) ((6 * i) + j) = B 7 ((6 * i) + j) := by rw [c14]
          refine ⟨(by rw [c15, c14]; exact g1), ?_⟩
          refine ⟨oM_0 (by omega) km0 16 rfl, ?_⟩
          refine ⟨aM_9 (r := B 0 16) (by rw [c16]; omega) (by rw [c16]; exact kn9) (by omega) (by omega), ?_⟩
          have e3 : B (B 0 16) j = B 9 j := by rw [c16]
          refine ⟨(by rw [c15, c14, c16, hz2.1, Int.mul_one]; exact g1), ?_⟩
          refine ⟨oM_0 (by omega) km0 15 rfl, ?_⟩
          refine ⟨aM_8 (r := B 0 15) (by rw [c15]; omega) (by rw [c15]; exact kn8) (by omega) (by omega), ?_⟩
          have e4 : B (B 0 15) j = B 8 j := by rw [c15]
          refine ⟨(by rw [c15]; exact ⟨by omega, by omega⟩), ?_⟩
          refine ⟨oM_0 (by omega) km0 14 rfl, ?_⟩
          refine ⟨⟨by omega, by omega⟩, ?_⟩
          refine ⟨⟨by omega, by omega⟩, ?_⟩
          refine ⟨aM_7 (r := B 0 14) (by rw [c14]; omega) (by rw [c14]; exact kn7) (by omega) (by omega), ?_⟩
          have e5 : B (B 0 14) ((6 * j) + i) = B 7 ((6 * j) + i) := by rw [c14]
          refine ⟨(by rw [c15, c14]; exact g2), ?_⟩
          refine ⟨oM_0 (by omega) km0 16 rfl, ?_⟩
          refine ⟨aM_9 (r := B 0 16) (by rw [c16]; omega) (by rw [c16]; exact kn9) (by omega) (by omega), ?_⟩
          have e6 : B (B 0 16) i = B 9 i := by rw [c16]
          refine ⟨(by rw [c15, c14, c16, hz1.1, Int.mul_one]; exact g2), ?_⟩
          refine ⟨fun h1 => ?_, fun h1 => ?_, fun h1 => ?_⟩
          · refine ⟨fun hh => absurd hh (by decide), fun _ => ?_⟩
            exact ⟨rfl, hF, 0, rfl, Or.inl rfl⟩
          · refine ⟨fun _ => ?_, fun hh => absurd hh (by decide)⟩
            refine ⟨⟨by omega, by omega⟩, ?_⟩
            exact Or.inr (⟨rfl, h0, h1, rfl⟩)
          · refine ⟨fun hh => absurd hh (by decide), fun _ => ?_⟩
            exact ⟨rfl, hF, 0, rfl, Or.inl rfl⟩
    · have hz2 : (1 : Int) = 1 := rfl
      refine wq_ok srt_hasSizes (fr := []) (cuts := [74, 92]) (J := fun pc st => (pc = 74 ∧ ((B 0 12) ≤ j) ∧ st = ([(2, 0), (0, i + 1), (0, j)], [], B)) ∨ (pc = 92 ∧ (j < (B 0 12)) ∧ st = ([(2, 0), (0, i), (0, j)], [], B))) ?_ 11 84 _ ?_
      · rintro pc st (⟨rfl, h0, rfl⟩ | ⟨rfl, h0, rfl⟩)
        · exact H (fun k k0 k1 => hj k k0 (by omega) k1) _
        · exact absurd (show j < A 0 12 by omega) hb
      · refine ⟨oM_0 (by omega) km0 12 rfl, ?_⟩
        refine ⟨fun h0 => ?_, fun h0 => ?_⟩
        · refine ⟨⟨by omega, by omega⟩, ?_⟩
          exact Or.inl (⟨rfl, h0, rfl⟩)
        · exact Or.inr (⟨rfl, h0, rfl⟩)
theorem hs_74 {A B : pm_A} (hT : tz A) (p6 : A 0 12 ≤ 6) (hF : gpF A B) (hz : ∀ k : Int, 0 ≤ k → k < A 0 12 → B 9 k = 1 ∧ 1 ≤ B 8 k ∧ B 8 k ≤ 531441) : ∀ (m : Nat) (i : Int) (w2 : pm_V), (6 - i).toNat < m → 0 ≤ i → i ≤ 6 → (∀ k : Int, 0 ≤ k → k < i → k < A 0 12 → ∀ j : Int, 0 ≤ j → j < A 0 12 → B 8 k * B 7 (6 * k + j) = -(B 8 j) * B 7 (6 * j + k)) → Tm pmt (an_sh wM) o_X10_hasSizes 74 ([(2, 0), (0, i), w2], [], B) (hz_post A) := by
  have e12 : B 0 12 = A 0 12 := hF.2 0 12 (by omega) (by omega) (by omega)
  intro m
  induction m with
  | zero => intro i w2 h; omega
  | succ m ih =>
    intro i w2 hm i0 i1 hi
    have hsz : A 0 12 ≤ i → szd B := fun h k k0 k1 => by
      rw [e12] at k1
      rw [e12]
      have := hz k k0 k1
      exact ⟨this.1, this.2, hi k k0 (by omega) k1⟩
    have hfin : A 0 12 ≤ i → hz_post A (some (0, 1), B) := fun h => ⟨hF, 1, rfl, Or.inr (hsz h)⟩
    refine wq_ok srt_hasSizes (fr := []) (cuts := [84]) (J := fun pc st => (pc = 84 ∧ (i < (B 0 12)) ∧ st = ([(2, 0), (0, i), (0, 0)], [], B))) ?_ 11 74 _ ?_
    · rintro pc st (⟨rfl, h0, rfl⟩)
      refine hs_84 hT p6 hF hz i0 (by omega) (fun hj w2 => ih (i + 1) w2 (by omega) (by omega) (by omega) (fun k k0 k1 k2 => ?_)) _ 0 (Nat.lt_succ_self _) (by omega) (by omega) (fun k k0 k1 => by omega)
      by_cases e : k = i
      · subst e; exact hj
      · exact hi k k0 (by omega) k2
    · refine ⟨oM_0 (by omega) km0 12 rfl, ?_⟩
      refine ⟨fun h0 => ?_, fun h0 => ?_⟩
      · exact ⟨rfl, hfin (by omega)⟩
      · exact ⟨rfl, h0, rfl⟩
theorem hs_25 {A : pm_A} (hT : tz A) (p6 : A 0 12 ≤ 6) : ∀ (m : Nat) (i : Int) (w2 : pm_V) (B : pm_A), (6 - i).toNat < m → 0 ≤ i → i ≤ 6 → gpF A B → (∀ k : Int, 0 ≤ k → k ≤ 5 → Zs (A 0 12) B k) → (∀ k : Int, 0 ≤ k → k < i → k < A 0 12 → B 9 k ≠ 0) → Tm pmt (an_sh wM) o_X10_hasSizes 25 ([(2, 0), (0, i), w2], [], B) (hz_post A) := by
  intro m
  induction m with
  | zero => intro i w2 B h; omega
  | succ m ih =>
    intro i w2 B hm i0 i1 hF hZ hk
    have e12 : B 0 12 = A 0 12 := hF.2 0 12 (by omega) (by omega) (by omega)
    have c15 := pM_15 hF.1
    have c16a := pM_16 hF.1
    have hend : A 0 12 ≤ i → Tm pmt (an_sh wM) o_X10_hasSizes 74 ([(2, 0), (0, 0), w2], [], B) (hz_post A) := fun h => hs_74 hT p6 hF (fun k k0 k1 => by
      have a := hk k k0 (by omega) k1
      rcases hZ k k0 (by omega) with h | h | h
      · omega
      · exact absurd h a
      · exact h) _ 0 _ (Nat.lt_succ_self _) (by omega) (by omega) (fun k k0 k1 => by omega)
    have h66 : ∀ C w2, i < A 0 12 → gpF A C → (∀ k : Int, 0 ≤ k → k ≤ 5 → Zs (A 0 12) C k) → (∀ k : Int, 0 ≤ k → k < i + 1 → k < A 0 12 → C 9 k ≠ 0) → Tm pmt (an_sh wM) o_X10_hasSizes 66 ([(2, 0), (0, i), w2], [], C) (hz_post A) := fun C w2 hi hC hC1 hC2 => by
      refine wq_ok srt_hasSizes (fr := []) (cuts := [25]) (J := fun pc st => (pc = 25 ∧ st = ([(2, 0), (0, i + 1), w2], [], C))) ?_ 7 66 _ ?_
      · rintro pc st (⟨rfl, rfl⟩)
        exact ih (i + 1) _ C (by omega) (by omega) (by omega) hC hC1 hC2
      · refine ⟨⟨by omega, by omega⟩, ?_⟩
        exact ⟨rfl, rfl⟩
    have h61 : ∀ C, i < A 0 12 → C = pm_upd (pm_upd B 8 i 1) 9 i 1 → Tm pmt (an_sh wM) o_X10_hasSizes 61 ([(2, 0), (0, i), w2], [], C) (hz_post A) := fun C hi hC => by
      have hFC : gpF A C := by rw [hC]; exact gpF.u9 (hF.u8 (by omega) (by omega)) (by omega) (by omega)
      have f12 : C 0 12 = A 0 12 := hFC.2 0 12 (by omega) (by omega) (by omega)
      have f7 : ∀ x, C 7 x = A 7 x := fun x => hFC.2 7 _ (by omega) (by omega) (by omega)
      have hTC : tz C := ⟨fun j j0 j1 => by rw [f7]; exact hT.1 j j0 j1, fun a b a0 a1 b0 b1 => by rw [f7, f7]; rw [f12] at a1 b1; exact hT.2 a b a0 a1 b0 b1⟩
      have o9 : ∀ k, k ≠ i → C 9 k = B 9 k := fun k hk => by rw [hC, upd_o (by omega), upd_o (by omega)]
      have o8 : ∀ k, k ≠ i → C 8 k = B 8 k := fun k hk => by rw [hC, upd_o (by omega), upd_o (by omega)]
      have f9 : C 9 i = 1 := by rw [hC, upd_at]
      have f8 : C 8 i = 1 := by rw [hC, upd_o (by omega), upd_at]
      have hZC : ∀ k : Int, 0 ≤ k → k ≤ 5 → Zs (C 0 12) C k := fun k k0 k1 => by
        rw [f12]
        by_cases e : k = i
        · rw [e]; exact Or.inr (Or.inr ⟨f9, by omega, by omega⟩)
        · unfold Zs; rw [o9 k e, o8 k e]; exact hZ k k0 k1
      refine wq_ok srt_hasSizes (fr := []) (cuts := [66]) (J := fun pc st => (pc = 66 ∧ ∃ D, gpF C D ∧ (∀ k : Int, 0 ≤ k → k ≤ 5 → Zs (A 0 12) D k) ∧ kpz C D ∧ st = ([(2, 0), (0, i), w2], [], D))) ?_ 7 61 _ ?_
      · rintro pc st (⟨rfl, D, q2, q3, q4, rfl⟩)
        refine h66 D _ hi (hFC.tr q2) q3 (fun k k0 k1 k2 => q4 k ?_)
        by_cases e : k = i
        · rw [e, f9]; omega
        · rw [o9 k e]; exact hk k k0 (by omega) k2
      · refine ⟨rM_0 (by omega) km0, ?_⟩
        refine (group_ex hFC.1 hTC (by omega) i0 (by omega) hZC f9 f8).imp ?_
        rintro ⟨r1, D⟩ ⟨q1, q2, q3, q4⟩
        simp only at q1 q2 q3 q4
        subst q1
        rw [f12] at q3
        exact ⟨rfl, D, q2, q3, q4, rfl⟩
    have h47 : i < A 0 12 → Tm pmt (an_sh wM) o_X10_hasSizes 47 ([(2, 0), (0, i), w2], [], B) (hz_post A) := fun hi => by
      have c16 : pm_upd B (B 0 15) i 1 0 16 = 9 := by rw [c15, upd_o (by omega)]; exact c16a
      refine wq_ok srt_hasSizes (fr := []) (cuts := [61]) (J := fun pc st => (pc = 61 ∧ st = ([(2, 0), (0, i), w2], [], pm_upd (pm_upd B (B 0 15) i 1) ((pm_upd B (B 0 15) i 1) 0 16) i 1))) ?_ 15 47 _ ?_
      · rintro pc st (⟨rfl, rfl⟩)
        rw [c16, c15]
        exact h61 _ hi rfl
      · refine ⟨oM_0 (by omega) km0 15 rfl, ?_⟩
        refine ⟨tM_8 (r := B 0 15) (by rw [c15]; omega) (by rw [c15]; exact kn8) (by omega) (by omega) rfl, ?_⟩
        refine ⟨oM_0 (by omega) km0 16 rfl, ?_⟩
        refine ⟨tM_9 (r := (pm_upd B (B 0 15) i 1) 0 16) (by rw [c16]; omega) (by rw [c16]; exact kn9) (by omega) (by omega) rfl, ?_⟩
        exact ⟨rfl, rfl⟩
    have c16 := c16a
    refine wq_ok srt_hasSizes (fr := []) (cuts := [47, 66, 74]) (J := fun pc st => (pc = 74 ∧ ((B 0 12) ≤ i) ∧ st = ([(2, 0), (0, 0), w2], [], B)) ∨ (pc = 66 ∧ (i < (B 0 12)) ∧ (0 < (B (B 0 16) i)) ∧ st = ([(2, 0), (0, i), w2], [], B)) ∨ (pc = 47 ∧ (i < (B 0 12)) ∧ ((B (B 0 16) i) = 0) ∧ st = ([(2, 0), (0, i), w2], [], B)) ∨ (pc = 66 ∧ (i < (B 0 12)) ∧ ((B (B 0 16) i) < 0) ∧ st = ([(2, 0), (0, i), w2], [], B))) ?_ 17 25 _ ?_
    · rintro pc st (⟨rfl, h0, rfl⟩ | ⟨rfl, h0, h1, rfl⟩ | ⟨rfl, h0, h1, rfl⟩ | ⟨rfl, h0, h1, rfl⟩)
      · exact hend (by omega)
      · rw [c16] at h1
        refine h66 B _ (by omega) hF hZ (fun k k0 k1 k2 => ?_)
        by_cases e : k = i
        · subst e; omega
        · exact hk k k0 (by omega) k2
      · exact h47 (by omega)
      · rw [c16] at h1
        refine h66 B _ (by omega) hF hZ (fun k k0 k1 k2 => ?_)
        by_cases e : k = i
        · subst e; omega
        · exact hk k k0 (by omega) k2
    · refine ⟨oM_0 (by omega) km0 12 rfl, ?_⟩
      refine ⟨fun h0 => ?_, fun h0 => ?_⟩
      · exact Or.inl (⟨rfl, h0, rfl⟩)
      · refine ⟨oM_0 (by omega) km0 16 rfl, ?_⟩
        refine ⟨aM_9 (r := B 0 16) (by rw [c16]; omega) (by rw [c16]; exact kn9) (by omega) (by omega), ?_⟩
        have e1 : B (B 0 16) i = B 9 i := by rw [c16]
        refine ⟨fun h1 => ?_, fun h1 => ?_, fun h1 => ?_⟩
        · refine ⟨fun hh => absurd hh (by decide), fun _ => ?_⟩
          exact Or.inr (Or.inl (⟨rfl, h0, h1, rfl⟩))
        · refine ⟨fun _ => ?_, fun hh => absurd hh (by decide)⟩
          exact Or.inr (Or.inr (Or.inl (⟨rfl, h0, h1, rfl⟩)))
        · refine ⟨fun hh => absurd hh (by decide), fun _ => ?_⟩
          exact Or.inr (Or.inr (Or.inr (⟨rfl, h0, h1, rfl⟩)))
theorem hs_2 {A : pm_A} (hT : tz A) (p6 : A 0 12 ≤ 6) : ∀ (m : Nat) (i : Int) (w2 : pm_V) (B : pm_A), (6 - i).toNat < m → 0 ≤ i → i ≤ 6 → gpF A B → (∀ k : Int, 0 ≤ k → k < i → k < A 0 12 → B 9 k = 0) → Tm pmt (an_sh wM) o_X10_hasSizes 2 ([(2, 0), (0, i), w2], [], B) (hz_post A) := by
  intro m
  induction m with
  | zero => intro i w2 B h; omega
  | succ m ih =>
    intro i w2 B hm i0 i1 hF hk
    have e12 : B 0 12 = A 0 12 := hF.2 0 12 (by omega) (by omega) (by omega)
    have c16 := pM_16 hF.1
    refine wq_ok srt_hasSizes (fr := []) (cuts := [2, 25]) (J := fun pc st => (pc = 25 ∧ ((B 0 12) ≤ i) ∧ st = ([(2, 0), (0, 0), w2], [], B)) ∨ (pc = 2 ∧ (i < (B 0 12)) ∧ st = ([(2, 0), (0, i + 1), w2], [], pm_upd B (B 0 16) i 0))) ?_ 16 2 _ ?_
    · rintro pc st (⟨rfl, h0, rfl⟩ | ⟨rfl, h0, rfl⟩)
      · refine hs_25 hT p6 _ 0 _ B (Nat.lt_succ_self _) (by omega) (by omega) hF (fun k k0 k1 => ?_) (fun k k0 k1 => by omega)
        by_cases e : k < A 0 12
        · exact Or.inr (Or.inl (hk k k0 (by omega) e))
        · exact Or.inl (by omega)
      · rw [c16]
        refine ih (i + 1) _ _ (by omega) (by omega) (by omega) (hF.u9 (by omega) (by omega)) (fun k k0 k1 k2 => ?_)
        by_cases e : k = i
        · rw [e, upd_at]
        · rw [upd_o (by omega)]; exact hk k k0 (by omega) k2
    · refine ⟨oM_0 (by omega) km0 12 rfl, ?_⟩
      refine ⟨fun h0 => ?_, fun h0 => ?_⟩
      · exact Or.inl (⟨rfl, h0, rfl⟩)
      · refine ⟨oM_0 (by omega) km0 16 rfl, ?_⟩
        refine ⟨tM_9 (r := B 0 16) (by rw [c16]; omega) (by rw [c16]; exact kn9) (by omega) (by omega) rfl, ?_⟩
        refine ⟨⟨by omega, by omega⟩, ?_⟩
        exact Or.inr (⟨rfl, h0, rfl⟩)
theorem hasSizes_ex {A : pm_A} (hA : gH wM A) (hT : tz A) (p6 : A 0 12 ≤ 6) : Cl pmt (an_sh wM) 150 [(2, 0)] A (hz_post A) := by
  refine Cl.of (Nat.le_of_ble_eq_true rfl) ?_
  refine wq_ok (full := o_X10_hasSizes) srt_hasSizes (fr := []) (cuts := [2]) (J := fun pc st => (pc = 2 ∧ st = ([(2, 0), (0, 0), (9, 0)], [], A))) ?_ 7 0 _ ?_
  · rintro pc st (⟨rfl, rfl⟩)
    exact hs_2 hT p6 _ 0 _ A (Nat.lt_succ_self _) (by omega) (by omega) ⟨hA, fun _ _ _ _ _ => rfl⟩ (fun k k0 k1 => by omega)
  · exact ⟨rfl, rfl⟩
