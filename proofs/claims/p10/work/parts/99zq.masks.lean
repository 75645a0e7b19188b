/-! bits, takesBits, cuttingOf -/
theorem srt_Mbits : pm_srt o_X10_bits = true := by decide +kernel
theorem mb_5 {A : pm_A} {sl : Int} (hA : gH wM A) (s0 : 0 ≤ sl) (s1 : sl ≤ 1) : ∀ (m : Nat) (i : Nat), 100 - i < m → i ≤ 100 → Tm pmt (an_sh wM) o_X10_bits 5 ([(2, 0), (0, sl), (1, bitsV (A 33) (fcs A sl) i), (9, 0), (0, (i : Int))], [], A) (fun r => r = (some (1, bitsV (A 33) (fcs A sl) 100), A)) := by
  have c49 := pM_49 hA
  have c50 := pM_50 hA
  intro m
  induction m with
  | zero => intro i h; omega
  | succ m ih =>
    intro i hm i1
    have st : bitsV (A 33) (fcs A sl) (i + 1) = if fcs A sl i = 0 then bitsV (A 33) (fcs A sl) i else pp_lb 4 (bitsV (A 33) (fcs A sl) i) (shl1 (A 33 i)) := rfl
    refine wq_ok srt_Mbits (fr := []) (cuts := [5]) (J := fun pc st => (pc = 5 ∧ (((i : Int)) < 100) ∧ ((A (A 0 49) ((100 * sl) + ((i : Int)))) = 0) ∧ st = ([(2, 0), (0, sl), (1, bitsV (A 33) (fcs A sl) i), (9, 0), (0, ((i : Int)) + 1)], [], A)) ∨ (pc = 5 ∧ (((i : Int)) < 100) ∧ (¬ (A (A 0 49) ((100 * sl) + ((i : Int)))) = 0) ∧ st = ([(2, 0), (0, sl), (1, pp_lb 4 (bitsV (A 33) (fcs A sl) i) (shl1 (A (A 0 50) ((i : Int))))), (9, 0), (0, ((i : Int)) + 1)], [], A))) ?_ 28 5 _ ?_
    · rintro pc st (⟨rfl, h0, h1, rfl⟩ | ⟨rfl, h0, h1, rfl⟩)
      · rw [c49] at h1
        have h1 : fcs A sl i = 0 := h1
        rw [if_pos h1] at st
        rw [← st, show (i : Int) + 1 = ((i + 1 : Nat) : Int) by omega]
        exact ih (i + 1) (by omega) (by omega)
      · rw [c49] at h1
        have h1 : ¬ fcs A sl i = 0 := h1
        rw [if_neg h1] at st
        rw [c50]
        rw [← st, show (i : Int) + 1 = ((i + 1 : Nat) : Int) by omega]
        exact ih (i + 1) (by omega) (by omega)
    · refine ⟨fun h0 => ?_, fun h0 => ?_⟩
      · exact ⟨rfl, (by rw [show i = 100 by omega])⟩
      · refine ⟨oM_0 (by omega) km0 49 rfl, ?_⟩
        refine ⟨⟨by omega, by omega⟩, ?_⟩
        refine ⟨⟨by omega, by omega⟩, ?_⟩
        refine ⟨aM_32 (r := A 0 49) (by rw [c49]; omega) (by rw [c49]; exact kn32) (by omega) (by omega), ?_⟩
        have e1 : A (A 0 49) ((100 * sl) + ((i : Int))) = A 32 ((100 * sl) + ((i : Int))) := by rw [c49]
        refine ⟨fun h1 => ?_, fun h1 => ?_⟩
        · refine ⟨⟨by omega, by omega⟩, ?_⟩
          exact Or.inl (⟨rfl, h0, h1, rfl⟩)
        · refine ⟨oM_0 (by omega) km0 50 rfl, ?_⟩
          refine ⟨aM_33 (r := A 0 50) (by rw [c50]; omega) (by rw [c50]; exact kn33) (by omega) (by omega), ?_⟩
          have e2 : A (A 0 50) ((i : Int)) = A 33 ((i : Int)) := by rw [c50]
          refine ⟨⟨by omega, by omega⟩, ?_⟩
          exact Or.inr (⟨rfl, h0, h1, rfl⟩)
theorem bits_ex {A : pm_A} {sl : Int} (hA : gH wM A) (s0 : 0 ≤ sl) (s1 : sl ≤ 1) : Cl pmt (an_sh wM) 131 [(2, 0), (0, sl)] A (fun r => r = (some (1, bitsV (A 33) (fcs A sl) 100), A)) := by
  refine Cl.of (Nat.le_of_ble_eq_true rfl) ?_
  refine wq_ok (full := o_X10_bits) srt_Mbits (fr := []) (cuts := [5]) (J := fun pc st => (pc = 5 ∧ st = ([(2, 0), (0, sl), (1, 0), (9, 0), (0, 0)], [], A))) ?_ 9 0 _ ?_
  · rintro pc st (⟨rfl, rfl⟩)
    exact mb_5 hA s0 s1 _ 0 (Nat.lt_succ_self _) (by omega)
  · exact ⟨rfl, rfl⟩
def tkB_post (A : pm_A) (sl v : Int) (r : pm_R) : Prop := r.1 = none ∧ gH wM r.2 ∧ (∀ q j, q ≠ 32 → r.2 q j = A q j) ∧ ∀ f : Int, 0 ≤ f → f < 100 → (r.2 32 (100 * sl + f) = 1 ∧ ¬ A 33 f = -1 ∧ tbt v (A 33 f) = 1) ∨ (r.2 32 (100 * sl + f) = 0 ∧ (A 33 f = -1 ∨ ¬ tbt v (A 33 f) = 1))
theorem srt_MtakesBits : pm_srt o_X10_takesBits = true := by decide +kernel
theorem tk_3 {A : pm_A} {sl v : Int} (s0 : 0 ≤ sl) (s1 : sl ≤ 1) : ∀ (m : Nat) (i : Int) (B : pm_A), (100 - i).toNat < m → 0 ≤ i → i ≤ 100 → gH wM B → (∀ q j, q ≠ 32 → B q j = A q j) → (∀ f : Int, 0 ≤ f → f < i → (B 32 (100 * sl + f) = 1 ∧ ¬ A 33 f = -1 ∧ tbt v (A 33 f) = 1) ∨ (B 32 (100 * sl + f) = 0 ∧ (A 33 f = -1 ∨ ¬ tbt v (A 33 f) = 1))) → Tm pmt (an_sh wM) o_X10_takesBits 3 ([(2, 0), (0, sl), (1, v), (9, 0), (0, i)], [], B) (tkB_post A sl v) := by
  intro m
  induction m with
  | zero => intro i B h; omega
  | succ m ih =>
    intro i B hm i0 i1 hB ho hd
    have c49 := pM_49 hB
    have c50 := pM_50 hB
    have b33 := ho 33 i (by omega)
    have go : ∀ x, ((x = 1 ∧ ¬ A 33 i = -1 ∧ tbt v (A 33 i) = 1) ∨ (x = 0 ∧ (A 33 i = -1 ∨ ¬ tbt v (A 33 i) = 1))) → i < 100 → Tm pmt (an_sh wM) o_X10_takesBits 3 ([(2, 0), (0, sl), (1, v), (9, 0), (0, i + 1)], [], pm_upd B 32 (100 * sl + i) x) (tkB_post A sl v) := fun x hx hi => by
      refine ih (i + 1) _ (by omega) (by omega) (by omega) (uM_32 hB kn32 (by omega) (by omega)) (fun q j hq => by rw [upd_o (by omega)]; exact ho q j hq) (fun f f0 f1 => ?_)
      by_cases e : f = i
      · rw [e, upd_at]; exact hx
      · rw [upd_o (by omega)]; exact hd f f0 (by omega)
    refine wq_ok srt_MtakesBits (fr := []) (cuts := [3]) (J := fun pc st => (pc = 3 ∧ (i < 100) ∧ ((B (B 0 50) i) = ((-1))) ∧ st = ([(2, 0), (0, sl), (1, v), (9, 0), (0, i + 1)], [], pm_upd B (B 0 49) ((100 * sl) + i) 0)) ∨ (pc = 3 ∧ (i < 100) ∧ (¬ (B (B 0 50) i) = ((-1))) ∧ (1 < (tbt v (B (B 0 50) i))) ∧ st = ([(2, 0), (0, sl), (1, v), (9, 0), (0, i + 1)], [], pm_upd B (B 0 49) ((100 * sl) + i) 0)) ∨ (pc = 3 ∧ (i < 100) ∧ (¬ (B (B 0 50) i) = ((-1))) ∧ ((tbt v (B (B 0 50) i)) = 1) ∧ st = ([(2, 0), (0, sl), (1, v), (9, 0), (0, i + 1)], [], pm_upd B (B 0 49) ((100 * sl) + i) 1)) ∨ (pc = 3 ∧ (i < 100) ∧ (¬ (B (B 0 50) i) = ((-1))) ∧ ((tbt v (B (B 0 50) i)) < 1) ∧ st = ([(2, 0), (0, sl), (1, v), (9, 0), (0, i + 1)], [], pm_upd B (B 0 49) ((100 * sl) + i) 0))) ?_ 37 3 _ ?_
    · rintro pc st (⟨rfl, h0, h1, rfl⟩ | ⟨rfl, h0, h1, h2, rfl⟩ | ⟨rfl, h0, h1, h2, rfl⟩ | ⟨rfl, h0, h1, h2, rfl⟩)
      · rw [c50] at h1
        rw [c49]
        exact go _ (Or.inr ⟨rfl, Or.inl (by rw [← b33]; exact h1)⟩) (by omega)
      · rw [c50] at h1 h2
        rw [c49]
        exact go _ (Or.inr ⟨rfl, Or.inr (by rw [← b33]; omega)⟩) (by omega)
      · rw [c50] at h1 h2
        rw [c49]
        exact go _ (Or.inl ⟨rfl, by rw [← b33]; exact h1, by rw [← b33]; exact h2⟩) (by omega)
      · rw [c50] at h1 h2
        rw [c49]
        exact go _ (Or.inr ⟨rfl, Or.inr (by rw [← b33]; omega)⟩) (by omega)
    · refine ⟨fun h0 => ?_, fun h0 => ?_⟩
      · exact ⟨rfl, hB, ho, fun f f0 f1 => hd f f0 (by omega)⟩
      · refine ⟨oM_0 (by omega) km0 49 rfl, ?_⟩
        refine ⟨⟨by omega, by omega⟩, ?_⟩
        refine ⟨⟨by omega, by omega⟩, ?_⟩
        refine ⟨oM_0 (by omega) km0 50 rfl, ?_⟩
        refine ⟨aM_33 (r := B 0 50) (by rw [c50]; omega) (by rw [c50]; exact kn33) (by omega) (by omega), ?_⟩
        have e1 : B (B 0 50) i = B 33 i := by rw [c50]
        refine ⟨fun h1 => ?_, fun h1 => ?_⟩
        · refine ⟨tM_32 (r := B 0 49) (by rw [c49]; omega) (by rw [c49]; exact kn32) (by omega) (by omega) rfl, ?_⟩
          refine ⟨⟨by omega, by omega⟩, ?_⟩
          exact Or.inl (⟨rfl, h0, h1, rfl⟩)
        · refine ⟨oM_0 (by omega) km0 50 rfl, ?_⟩
          refine ⟨aM_33 (r := B 0 50) (by rw [c50]; omega) (by rw [c50]; exact kn33) (by omega) (by omega), ?_⟩
          have e2 : B (B 0 50) i = B 33 i := by rw [c50]
          refine ⟨fun h2 => ?_, fun h2 => ?_, fun h2 => ?_⟩
          · refine ⟨fun _ => ?_, fun hh => absurd hh (by decide)⟩
            refine ⟨tM_32 (r := B 0 49) (by rw [c49]; omega) (by rw [c49]; exact kn32) (by omega) (by omega) rfl, ?_⟩
            refine ⟨⟨by omega, by omega⟩, ?_⟩
            exact Or.inr (Or.inl (⟨rfl, h0, h1, h2, rfl⟩))
          · refine ⟨fun hh => absurd hh (by decide), fun _ => ?_⟩
            refine ⟨tM_32 (r := B 0 49) (by rw [c49]; omega) (by rw [c49]; exact kn32) (by omega) (by omega) rfl, ?_⟩
            refine ⟨⟨by omega, by omega⟩, ?_⟩
            exact Or.inr (Or.inr (Or.inl (⟨rfl, h0, h1, h2, rfl⟩)))
          · refine ⟨fun _ => ?_, fun hh => absurd hh (by decide)⟩
            refine ⟨tM_32 (r := B 0 49) (by rw [c49]; omega) (by rw [c49]; exact kn32) (by omega) (by omega) rfl, ?_⟩
            refine ⟨⟨by omega, by omega⟩, ?_⟩
            exact Or.inr (Or.inr (Or.inr (⟨rfl, h0, h1, h2, rfl⟩)))
theorem takesBits_ex {A : pm_A} {sl v : Int} (hA : gH wM A) (s0 : 0 ≤ sl) (s1 : sl ≤ 1) : Cl pmt (an_sh wM) 191 [(2, 0), (0, sl), (1, v)] A (tkB_post A sl v) := by
  refine Cl.of (Nat.le_of_ble_eq_true rfl) ?_
  refine wq_ok (full := o_X10_takesBits) srt_MtakesBits (fr := []) (cuts := [3]) (J := fun pc st => (pc = 3 ∧ st = ([(2, 0), (0, sl), (1, v), (9, 0), (0, 0)], [], A))) ?_ 7 0 _ ?_
  · rintro pc st (⟨rfl, rfl⟩)
    exact tk_3 s0 s1 _ 0 A (Nat.lt_succ_self _) (by omega) (by omega) hA (fun _ _ _ => rfl) (fun f f0 f1 => by omega)
  · exact ⟨rfl, rfl⟩
def cu_post (A : pm_A) (v : Int) (r : pm_R) : Prop := r.2 = A ∧ ∃ c, r.1 = some (0, c) ∧ ((c = -1 ∧ ∀ d : Int, 0 ≤ d → d < A 0 54 → ¬ A 35 d = v) ∨ (0 ≤ c ∧ c < A 0 54 ∧ A 35 c = v))
theorem srt_McuttingOf : pm_srt o_X10_cuttingOf = true := by decide +kernel
theorem cu_2 {A : pm_A} {v : Int} (hA : gH wM A) : ∀ (m : Nat) (i : Int), (1430 - i).toNat < m → 0 ≤ i → i ≤ 1430 → (∀ d : Int, 0 ≤ d → d < i → ¬ A 35 d = v) → Tm pmt (an_sh wM) o_X10_cuttingOf 2 ([(2, 0), (1, v), (9, 0), (0, i)], [], A) (cu_post A v) := by
  have c52 := pM_52 hA
  have b54 := fM_0_54 hA (r := 0) (by omega) km0
  intro m
  induction m with
  | zero => intro i h; omega
  | succ m ih =>
    intro i hm i0 i1 hd
    have go : i < A 0 54 → ¬ A 35 i = v → Tm pmt (an_sh wM) o_X10_cuttingOf 2 ([(2, 0), (1, v), (9, 0), (0, i + 1)], [], A) (cu_post A v) := fun h1 h2 => by
      refine ih (i + 1) (by omega) (by omega) (by omega) (fun d d0 d1 => ?_)
      by_cases e : d = i
      · rw [e]; exact h2
      · exact hd d d0 (by omega)
    refine wq_ok srt_McuttingOf (fr := []) (cuts := [2]) (J := fun pc st => (pc = 2 ∧ (i < (A 0 54)) ∧ (v < (A (A 0 52) i)) ∧ st = ([(2, 0), (1, v), (9, 0), (0, i + 1)], [], A)) ∨ (pc = 2 ∧ (i < (A 0 54)) ∧ ((A (A 0 52) i) < v) ∧ st = ([(2, 0), (1, v), (9, 0), (0, i + 1)], [], A))) ?_ 18 2 _ ?_
    · rintro pc st (⟨rfl, h0, h1, rfl⟩ | ⟨rfl, h0, h1, rfl⟩)
      · rw [c52] at h1
        exact go (by omega) (by omega)
      · rw [c52] at h1
        exact go (by omega) (by omega)
    · refine ⟨oM_0 (by omega) km0 54 rfl, ?_⟩
      refine ⟨fun h0 => ?_, fun h0 => ?_⟩
      · exact ⟨rfl, rfl, _, rfl, Or.inl ⟨rfl, fun d d0 d1 => hd d d0 (by omega)⟩⟩
      · refine ⟨oM_0 (by omega) km0 52 rfl, ?_⟩
        refine ⟨aM_35 (r := A 0 52) (by rw [c52]; omega) (by rw [c52]; exact kn35) (by omega) (by omega), ?_⟩
        have e1 : A (A 0 52) i = A 35 i := by rw [c52]
        refine ⟨fun h1 => ?_, fun h1 => ?_, fun h1 => ?_⟩
        · refine ⟨fun _ => ?_, fun hh => absurd hh (by decide)⟩
          refine ⟨⟨by omega, by omega⟩, ?_⟩
          exact Or.inl (⟨rfl, h0, h1, rfl⟩)
        · refine ⟨fun hh => absurd hh (by decide), fun _ => ?_⟩
          exact ⟨rfl, rfl, _, rfl, Or.inr ⟨by omega, by omega, by rw [c52] at h1; exact h1⟩⟩
        · refine ⟨fun _ => ?_, fun hh => absurd hh (by decide)⟩
          refine ⟨⟨by omega, by omega⟩, ?_⟩
          exact Or.inr (⟨rfl, h0, h1, rfl⟩)
theorem cuttingOf_ex {A : pm_A} {v : Int} (hA : gH wM A) : Cl pmt (an_sh wM) 137 [(2, 0), (1, v)] A (cu_post A v) := by
  refine Cl.of (Nat.le_of_ble_eq_true rfl) ?_
  refine wq_ok (full := o_X10_cuttingOf) srt_McuttingOf (fr := []) (cuts := [2]) (J := fun pc st => (pc = 2 ∧ st = ([(2, 0), (1, v), (9, 0), (0, 0)], [], A))) ?_ 7 0 _ ?_
  · rintro pc st (⟨rfl, rfl⟩)
    exact cu_2 hA _ 0 (Nat.lt_succ_self _) (by omega) (by omega) (fun d d0 d1 => by omega)
  · exact ⟨rfl, rfl⟩
