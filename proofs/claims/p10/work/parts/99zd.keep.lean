/-! keep, same -/
theorem sm_67 {A : pm_A} {q i : Int} (q0 : 0 ≤ q) (q1 : q ≤ 3) (i0 : 0 ≤ i) (i1 : i < A 0 7) (p7 : A 0 7 ≤ 6) (H : ∀ C w3 w4, it_I A C → ordn C i → -1 ≤ C 16 i → Tm pmt (an_sh wM) o_X10_same 105 ([(2, 0), (0, q), (0, i), w3, w4], [], C) (sr_post A)) : ∀ (m : Nat) (j : Int) (w4 : pm_V) (B : pm_A), (6 - j).toNat < m → 0 ≤ j → j ≤ 6 → it_I A B → ordn B i → Tm pmt (an_sh wM) o_X10_same 67 ([(2, 0), (0, q), (0, i), (0, j), w4], [], B) (sr_post A) := by
  intro m
  induction m with
  | zero => intro j w4 B h; omega
  | succ m ih =>
    intro j w4 B hm j0 j1 hB ho
    have e7 := it_0 hB (j := 7) (by omega) (by omega)
    have c23 := pM_23 hB.1
    have b16 := eM_16 hB.1 (r := 16) (by omega) km16 i0 (show i < 6 by omega)
    refine wq_ok srt_sameR (fr := []) (cuts := [89, 105]) (J := fun pc st => (pc = 105 ∧ ((B 0 7) ≤ j) ∧ st = ([(2, 0), (0, q), (0, i), (0, j), w4], [], B)) ∨ (pc = 89 ∧ j < B 0 7 ∧ ∃ y : Int, st = ([(2, 0), (0, q), (0, i), (0, j), w4], [(0, y)], B))) ?_ 18 67 _ ?_
    · rintro pc st (⟨rfl, h0, rfl⟩ | ⟨rfl, hj, y, rfl⟩)
      · exact H B _ _ hB ho b16.1
      · refine wq_ok srt_sameR (fr := []) (cuts := [67]) (J := fun pc st => (pc = 67 ∧ (y = 0) ∧ st = ([(2, 0), (0, q), (0, i), (0, j + 1), w4], [], B)) ∨ (pc = 67 ∧ (¬ y = 0) ∧ st = ([(2, 0), (0, q), (0, i), (0, j + 1), w4], [], pm_upd B (B 0 23) i j))) ?_ 13 89 _ ?_
        · rintro pc st (⟨rfl, h0, rfl⟩ | ⟨rfl, h0, rfl⟩)
          · exact ih (j + 1) _ B (by omega) (by omega) (by omega) hB ho
          · rw [c23]
            exact ih (j + 1) _ _ (by omega) (by omega) (by omega) (it_put hB (by omega) (by omega)) (ord_put ho)
        · refine ⟨fun h0 => ?_, fun h0 => ?_⟩
          · refine ⟨⟨by omega, by omega⟩, ?_⟩
            exact Or.inl (⟨rfl, h0, rfl⟩)
          · refine ⟨oM_0 (by omega) km0 23 rfl, ?_⟩
            refine ⟨tM_16 (r := B 0 23) (by rw [c23]; omega) (by rw [c23]; exact kn16) (by omega) (by omega) rfl, ?_⟩
            refine ⟨⟨by omega, by omega⟩, ?_⟩
            exact Or.inr (⟨rfl, h0, rfl⟩)
    · refine ⟨oM_0 (by omega) km0 7 rfl, ?_⟩
      refine ⟨fun h0 => ?_, fun h0 => ?_⟩
      · exact Or.inl (⟨rfl, h0, rfl⟩)
      · refine ⟨⟨by omega, by omega⟩, ?_⟩
        refine ⟨⟨by omega, by omega⟩, ?_⟩
        refine ⟨⟨by omega, by omega⟩, ?_⟩
        refine ⟨rM_0 (by omega) km0, ?_⟩
        refine (areAlike_ex (a := i) (b := (6 + (6 * q)) + j) hB.1 (by omega) (by omega)).imp ?_
        rintro ⟨r1, C⟩ ⟨f1, f2⟩
        simp only at f1 f2
        subst f1
        rcases f2 with f2 | ⟨f2, _⟩
        · subst f2
          exact Or.inr (⟨rfl, h0, 0, rfl⟩)
        · subst f2
          exact Or.inr (⟨rfl, h0, 1, rfl⟩)
theorem sm_50 {A : pm_A} {q : Int} (hA : gH wM A) (q0 : 0 ≤ q) (q1 : q ≤ 3) : ∀ (m : Nat) (i : Int) (w3 w4 : pm_V) (B : pm_A), (6 - i).toNat < m → 0 ≤ i → i ≤ A 0 7 → it_I A B → ordn B i → Tm pmt (an_sh wM) o_X10_same 50 ([(2, 0), (0, q), (0, i), w3, w4], [], B) (sr_post A) := by
  have p7 := fM_0_7 hA (r := 0) (by omega) km0
  intro m
  induction m with
  | zero => intro i w3 w4 B h; omega
  | succ m ih =>
    intro i w3 w4 B hm i0 i1 hB ho
    have e7 := it_0 hB (j := 7) (by omega) (by omega)
    have c23 := pM_23 hB.1
    have h105 : i < A 0 7 → ∀ C w3 w4, it_I A C → ordn C i → -1 ≤ C 16 i → Tm pmt (an_sh wM) o_X10_same 105 ([(2, 0), (0, q), (0, i), w3, w4], [], C) (sr_post A) := fun hi C w3 w4 hC hoC hm1 => by
      have c23 := pM_23 hC.1
      refine wq_ok srt_sameR (fr := []) (cuts := [50]) (J := fun pc st => (pc = 50 ∧ (¬ (C (C 0 23) i) = ((-1))) ∧ st = ([(2, 0), (0, q), (0, i + 1), w3, w4], [], C))) ?_ 13 105 _ ?_
      · rintro pc st (⟨rfl, h0, rfl⟩)
        rw [c23] at h0
        refine ih (i + 1) _ _ C (by omega) (by omega) (by omega) hC (fun j j0 j1 => ?_)
        by_cases e : j = i
        · rw [e]; omega
        · exact hoC j j0 (by omega)
      · refine ⟨oM_0 (by omega) km0 23 rfl, ?_⟩
        refine ⟨aM_16 (r := C 0 23) (by rw [c23]; omega) (by rw [c23]; exact kn16) (by omega) (by omega), ?_⟩
        have e1 : C (C 0 23) i = C 16 i := by rw [c23]
        refine ⟨fun h0 => ?_, fun h0 => ?_⟩
        · refine ⟨⟨by omega, by omega⟩, ?_⟩
          exact ⟨rfl, h0, rfl⟩
        · exact ⟨rfl, 0, rfl, ⟨by omega, by omega⟩, hC⟩
    refine wq_ok srt_sameR (fr := []) (cuts := [67, 125]) (J := fun pc st => (pc = 125 ∧ ((B 0 7) ≤ i) ∧ st = ([(2, 0), (0, q), (0, 0), w3, w4], [], B)) ∨ (pc = 67 ∧ (i < (B 0 7)) ∧ st = ([(2, 0), (0, q), (0, i), (0, 0), w4], [], pm_upd B (B 0 23) i ((-1))))) ?_ 16 50 _ ?_
    · rintro pc st (⟨rfl, h0, rfl⟩ | ⟨rfl, h0, rfl⟩)
      · rw [e7] at h0
        have hi : i = A 0 7 := by omega
        rw [hi] at ho
        exact sr_125 hB ho q0 q1 _ 0 _ _ (Nat.lt_succ_self _) (by omega) (by omega)
      · rw [e7] at h0
        rw [c23]
        exact sm_67 q0 q1 i0 h0 p7.2 (h105 h0) _ 0 _ _ (Nat.lt_succ_self _) (by omega) (by omega) (it_put hB (by omega) (by omega)) (ord_put ho)
    · refine ⟨oM_0 (by omega) km0 7 rfl, ?_⟩
      refine ⟨fun h0 => ?_, fun h0 => ?_⟩
      · exact Or.inl (⟨rfl, h0, rfl⟩)
      · refine ⟨oM_0 (by omega) km0 23 rfl, ?_⟩
        refine ⟨tM_16 (r := B 0 23) (by rw [c23]; omega) (by rw [c23]; exact kn16) (by omega) (by omega) rfl, ?_⟩
        exact Or.inr (⟨rfl, h0, rfl⟩)
theorem msame_ex {A : pm_A} (hA : gH wM A) (k : Int) : Cl pmt (an_sh wM) 180 [(2, 0), (0, k)] A (sr_post A) := by
  have p7 := fM_0_7 hA (r := 0) (by omega) km0
  have c20 := pM_20 hA
  have c21 := pM_21 hA
  have hI : it_I A A := ⟨hA, fun _ _ _ _ _ => rfl⟩
  refine Cl.of (Nat.le_of_ble_eq_true rfl) ?_
  refine wq_ok (full := o_X10_same) srt_sameR (fr := []) (cuts := [50]) (J := fun pc st => (pc = 50 ∧ (0 ≤ k) ∧ (k ≤ 3) ∧ (¬ (A (A 0 20) k) = 0) ∧ ((A (A 0 20) k) = (A 0 7)) ∧ ((A (A 0 21) k) = (A 0 8)) ∧ st = ([(2, 0), (0, k), (0, 0), (9, 0), (9, 0)], [], A))) ?_ 31 0 _ ?_
  · rintro pc st (⟨rfl, h0, h1, h2, h3, h4, rfl⟩)
    exact sm_50 hA (by omega) (by omega) _ 0 _ _ A (Nat.lt_succ_self _) (by omega) (by omega) hI (fun j j0 j1 => by omega)
  · refine ⟨fun h0 => ?_, fun h0 => ?_⟩
    · exact ⟨rfl, -1, rfl, ⟨by omega, by omega⟩, hI⟩
    · refine ⟨fun h1 => ?_, fun h1 => ?_⟩
      · exact ⟨rfl, -1, rfl, ⟨by omega, by omega⟩, hI⟩
      · refine ⟨oM_0 (by omega) km0 20 rfl, ?_⟩
        refine ⟨aM_13 (r := A 0 20) (by rw [c20]; omega) (by rw [c20]; exact kn13) (by omega) (by omega), ?_⟩
        have e1 : A (A 0 20) k = A 13 k := by rw [c20]
        refine ⟨fun h2 => ?_, fun h2 => ?_⟩
        · refine ⟨oM_0 (by omega) km0 20 rfl, ?_⟩
          refine ⟨aM_13 (r := A 0 20) (by rw [c20]; omega) (by rw [c20]; exact kn13) (by omega) (by omega), ?_⟩
          have e2 : A (A 0 20) k = A 13 k := by rw [c20]
          refine ⟨oM_0 (by omega) km0 7 rfl, ?_⟩
          refine ⟨fun h3 => ?_, fun h3 => ?_⟩
          · exact ⟨rfl, 0, rfl, ⟨by omega, by omega⟩, hI⟩
          · refine ⟨oM_0 (by omega) km0 21 rfl, ?_⟩
            refine ⟨aM_14 (r := A 0 21) (by rw [c21]; omega) (by rw [c21]; exact kn14) (by omega) (by omega), ?_⟩
            have e3 : A (A 0 21) k = A 14 k := by rw [c21]
            refine ⟨oM_0 (by omega) km0 8 rfl, ?_⟩
            refine ⟨fun h4 => ?_, fun h4 => ?_⟩
            · exact ⟨rfl, h0, h1, h2, h3, h4, rfl⟩
            · exact ⟨rfl, 0, rfl, ⟨by omega, by omega⟩, hI⟩
        · exact ⟨rfl, -1, rfl, ⟨by omega, by omega⟩, hI⟩
theorem RI.copy {A C : pm_A} {p : Int} (h : RI A) (hC : gH wM C) (p0 : 6 ≤ p) (hf : ∀ q j, ¬ inS p q j → C q j = A q j) : RI C := by
  obtain ⟨⟨s, ks, hT⟩, ⟨b1, b2⟩, hRG⟩ := h
  have p7 := fM_0_7 hT.1 (r := 0) (by omega) km0
  refine ⟨⟨s, ks, hT.same hC (hf 0 7 (by unfold inS; omega)) (hf 0 8 (by unfold inS; omega)) (fun i _ _ => hf 5 i (by unfold inS; omega)) (fun t t0 t1 q i hq => hf q i (by unfold inS at *; omega))⟩, ⟨fun i i0 i1 => by rw [hf 7 i (by unfold inS; omega)]; exact b1 i i0 i1, fun d d0 d1 => ?_⟩, hRG.same (fun i => hf 31 i (by unfold inS; omega)) (fun i => hf 32 i (by unfold inS; omega))⟩
  rw [hf 6 d (by unfold inS; omega), hf 0 7 (by unfold inS; omega)]
  rw [hf 0 10 (by unfold inS; omega)] at d1
  exact b2 d d0 d1
theorem srt_Mkeep : pm_srt o_X10_keep = true := by decide +kernel
theorem kp_64 {k : Int} (k0 : 0 ≤ k) (k1 : k ≤ 3) : ∀ (m : Nat) (i : Int) (B : pm_A), (6 - i).toNat < m → 0 ≤ i → i ≤ 6 → RI B → Tm pmt (an_sh wM) o_X10_keep 64 ([(2, 0), (0, k), (0, i)], [], B) ri_post := by
  intro m
  induction m with
  | zero => intro i B h; omega
  | succ m ih =>
    intro i B hm i0 i1 hB
    have p7 := fM_0_7 hB.g (r := 0) (by omega) km0
    refine wq_ok srt_Mkeep (fr := []) (cuts := [86]) (J := fun pc st => (pc = 86 ∧ i < B 0 7 ∧ ∃ C, RI C ∧ st = ([(2, 0), (0, k), (0, i)], [], C))) ?_ 18 64 _ ?_
    · rintro pc st (⟨rfl, h0, C, hC, rfl⟩)
      refine wq_ok srt_Mkeep (fr := []) (cuts := [64]) (J := fun pc st => (pc = 64 ∧ st = ([(2, 0), (0, k), (0, i + 1)], [], C))) ?_ 7 86 _ ?_
      · rintro pc st (⟨rfl, rfl⟩)
        exact ih (i + 1) C (by omega) (by omega) (by omega) hC
      · refine ⟨⟨by omega, by omega⟩, ?_⟩
        exact ⟨rfl, rfl⟩
    · refine ⟨oM_0 (by omega) km0 7 rfl, ?_⟩
      refine ⟨fun h0 => ?_, fun h0 => ?_⟩
      · exact ⟨rfl, ⟨_, rfl⟩, hB⟩
      · refine ⟨⟨by omega, by omega⟩, ?_⟩
        refine ⟨⟨by omega, by omega⟩, ?_⟩
        refine ⟨⟨by omega, by omega⟩, ?_⟩
        refine ⟨rM_0 (by omega) km0, ?_⟩
        refine (copy_ex (to := (6 + (6 * k)) + i) (fr := i) hB.g (by omega) (by omega) (by omega) (by omega) (by omega)).imp ?_
        rintro ⟨r1, C⟩ ⟨q1, q2, q3, q4⟩
        simp only at q1 q2 q3 q4
        subst q1
        exact ⟨rfl, h0, C, hB.copy q2 (by omega) q3, rfl⟩
theorem kp_33 {k : Int} (k0 : 0 ≤ k) (k1 : k ≤ 3) : ∀ (m : Nat) (i : Int) (B : pm_A), (72 - i).toNat < m → 0 ≤ i → i ≤ 72 → RI B → Tm pmt (an_sh wM) o_X10_keep 33 ([(2, 0), (0, k), (0, i)], [], B) ri_post := by
  intro m
  induction m with
  | zero => intro i B h; omega
  | succ m ih =>
    intro i B hm i0 i1 hB
    have c22 := pM_22 hB.g
    have c9 := pM_9 hB.g
    have b5 : i < 72 → -2147483648 ≤ B 5 i ∧ B 5 i ≤ 2147483647 := fun h => eM_5 hB.g (r := 5) (by omega) kn5 i0 h
    refine wq_ok srt_Mkeep (fr := []) (cuts := [33, 64]) (J := fun pc st => (pc = 64 ∧ (72 ≤ i) ∧ st = ([(2, 0), (0, k), (0, 0)], [], B)) ∨ (pc = 33 ∧ (i < 72) ∧ st = ([(2, 0), (0, k), (0, i + 1)], [], pm_upd B (B 0 22) ((72 * k) + i) (B (B 0 9) i)))) ?_ 22 33 _ ?_
    · rintro pc st (⟨rfl, h0, rfl⟩ | ⟨rfl, h0, rfl⟩)
      · exact kp_64 k0 k1 _ 0 B (Nat.lt_succ_self _) (by omega) (by omega) hB
      · rw [c22, c9]
        have b := b5 h0
        exact ih (i + 1) _ (by omega) (by omega) (by omega) (hB.upd (uM_15 hB.g kn15 b.1 b.2) (by omega) (by omega))
    · refine ⟨fun h0 => ?_, fun h0 => ?_⟩
      · exact Or.inl (⟨rfl, h0, rfl⟩)
      · refine ⟨oM_0 (by omega) km0 22 rfl, ?_⟩
        refine ⟨⟨by omega, by omega⟩, ?_⟩
        refine ⟨⟨by omega, by omega⟩, ?_⟩
        refine ⟨oM_0 (by omega) km0 9 rfl, ?_⟩
        refine ⟨aM_5 (r := B 0 9) (by rw [c9]; omega) (by rw [c9]; exact kn5) (by omega) (by omega), ?_⟩
        have e1 : B (B 0 9) i = B 5 i := by rw [c9]
        refine ⟨tM_15 (r := B 0 22) (by rw [c22]; omega) (by rw [c22]; exact kn15) (by omega) (by omega) rfl, ?_⟩
        refine ⟨⟨by omega, by omega⟩, ?_⟩
        exact Or.inr (⟨rfl, h0, rfl⟩)
theorem mkeep_ct {A : pm_A} (h : RI A) (k : Int) : Cl pmt (an_sh wM) 160 [(2, 0), (0, k)] A ri_post := by
  have hg := h.g
  have p7 := fM_0_7 hg (r := 0) (by omega) km0
  have p8 := fM_0_8 hg (r := 0) (by omega) km0
  have c20 := pM_20 hg
  have c21 : pm_upd A (A 0 20) k (A 0 7) 0 21 = 14 := by rw [c20, upd_o (by omega)]; exact pM_21 hg
  have hk1 : 0 ≤ k → k ≤ 3 → RI (pm_upd A 13 k (A 0 7)) := fun _ _ => h.upd (uM_13 hg kn13 (by omega) (by omega)) (by omega) (by omega)
  have e8 : pm_upd A (A 0 20) k (A 0 7) 0 8 = A 0 8 := by rw [c20, upd_o (by omega)]
  refine Cl.of (Nat.le_of_ble_eq_true rfl) ?_
  refine wq_ok (full := o_X10_keep) srt_Mkeep (fr := []) (cuts := [33]) (J := fun pc st => (pc = 33 ∧ (0 ≤ k) ∧ (k ≤ 3) ∧ st = ([(2, 0), (0, k), (0, 0)], [], pm_upd (pm_upd A (A 0 20) k (A 0 7)) ((pm_upd A (A 0 20) k (A 0 7)) 0 21) k ((pm_upd A (A 0 20) k (A 0 7)) 0 8)))) ?_ 24 0 _ ?_
  · rintro pc st (⟨rfl, h0, h1, rfl⟩)
    rw [c21, e8, c20]
    have hR := hk1 (by omega) (by omega)
    exact kp_33 (by omega) (by omega) _ 0 _ (Nat.lt_succ_self _) (by omega) (by omega) (hR.upd (uM_14 hR.g kn14 (by omega) (by omega)) (by omega) (by omega))
  · refine ⟨fun h0 => ?_, fun h0 => ?_⟩
    · exact ⟨rfl, ⟨_, rfl⟩, h⟩
    · refine ⟨fun h1 => ?_, fun h1 => ?_⟩
      · refine ⟨oM_0 (by omega) km0 20 rfl, ?_⟩
        refine ⟨oM_0 (by omega) km0 7 rfl, ?_⟩
        refine ⟨tM_13 (r := A 0 20) (by rw [c20]; omega) (by rw [c20]; exact kn13) (by omega) (by omega) rfl, ?_⟩
        refine ⟨oM_0 (by omega) km0 21 rfl, ?_⟩
        refine ⟨oM_0 (by omega) km0 8 rfl, ?_⟩
        refine ⟨tM_14 (r := (pm_upd A (A 0 20) k (A 0 7)) 0 21) (by rw [c21]; omega) (by rw [c21]; exact kn14) (by omega) (by omega) rfl, ?_⟩
        exact ⟨rfl, h0, h1, rfl⟩
      · exact ⟨rfl, ⟨_, rfl⟩, h⟩
