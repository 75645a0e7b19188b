/-! walkRow, order -/
theorem srt_order : pm_srt o_X9_order = true := by decide +kernel
theorem wr_32 {B : pm_A} {i : Int} (hB : St B) (i0 : 0 ≤ i) (i1 : i ≤ 11) (H : ∀ C, St C → Tm pmt (an_sh wX) o_X9_walkRow 2 ([(2, 0), (0, i + 1)], [], C) (st_post 0 1)) : Tm pmt (an_sh wX) o_X9_walkRow 32 ([(2, 0), (0, i)], [], B) (st_post 0 1) := by
  have a2 := hB.2.1.2.1
  have a8 := hB.2.1.2.2.1
  have r0 := fX_0_6 hB.1 z0 kk0
  have e0 := eX_21 hB.1 r0.1 r0.2 i0 (show i < 12 by omega)
  refine wq_ok srt_walkRow (fr := []) (cuts := [2]) (J := fun pc st => pc = 2 ∧ ∃ C, St C ∧ st = ([(2, 0), (0, i + 1)], [], C)) ?_ 20 32 _ ?_
  · rintro pc st ⟨rfl, C, hC, rfl⟩
    exact H C hC
  · refine ⟨oX_0 z0 kk0 2 rfl, ?_⟩
    refine ⟨oX_0 z0 kk0 8 rfl, ?_⟩
    refine ⟨oX_0 z0 kk0 6 rfl, ?_⟩
    refine ⟨aX_21 r0.1 r0.2 i0 (by omega), ?_⟩
    refine ⟨rX_4 (r := B 0 2) (by rw [a2]; omega) (by rw [a2]; exact kk28), ?_⟩
    show Cl pmt (an_sh wX) 47 [(2, B 0 2), (2, B 0 8), (0, B (B 0 6) i)] B _
    rw [a8, a2]
    refine (settle_ct hB.1 hB.2 own49 e0.1 e0.2).imp ?_
    rintro ⟨r1, C⟩ ⟨q1, q2, q3, q4⟩
    simp only at q1 q2 q3 q4
    subst q1
    refine ⟨⟨by omega, by omega⟩, ?_⟩
    exact ⟨rfl, C, ⟨q2, q3⟩, rfl⟩
theorem wr_2 : ∀ (n : Nat) (i : Int) (B : pm_A), (12 - i).toNat < n → 0 ≤ i → i ≤ 12 → St B → Tm pmt (an_sh wX) o_X9_walkRow 2 ([(2, 0), (0, i)], [], B) (st_post 0 1) := by
  intro n
  induction n with
  | zero => intro i B h; omega
  | succ n ih =>
    intro i B hn i0 i1 hB
    have a2 := hB.2.1.2.1
    have a8 := hB.2.1.2.2.1
    have r0 := fX_0_6 hB.1 z0 kk0
    have n0 := fX_0_7 hB.1 z0 kk0
    refine wq_ok srt_walkRow (fr := []) (cuts := [32]) (J := fun pc st => pc = 32 ∧ i < 12 ∧ ∃ C, St C ∧ st = ([(2, 0), (0, i)], [], C)) ?_ 20 2 _ ?_
    · rintro pc st ⟨rfl, hi, C, hC, rfl⟩
      exact wr_32 hC i0 (by omega) (fun D hD => ih (i + 1) D (by omega) (by omega) (by omega) hD)
    · refine ⟨oX_0 z0 kk0 7 rfl, ?_⟩
      refine ⟨fun h => ?_, fun h => ?_⟩
      · exact ⟨rfl, 1, rfl, ⟨by omega, by omega⟩, hB⟩
      · have hi : i < 12 := by omega
        have e0 := eX_21 hB.1 r0.1 r0.2 i0 hi
        refine ⟨oX_0 z0 kk0 2 rfl, ?_⟩
        refine ⟨oX_0 z0 kk0 8 rfl, ?_⟩
        refine ⟨oX_0 z0 kk0 6 rfl, ?_⟩
        refine ⟨aX_21 r0.1 r0.2 i0 hi, ?_⟩
        refine ⟨rX_4 (r := B 0 2) (by rw [a2]; omega) (by rw [a2]; exact kk28), ?_⟩
        show Cl pmt (an_sh wX) 42 [(2, B 0 2), (2, B 0 8), (0, B (B 0 6) i)] B _
        rw [a8, a2]
        refine (exch_ct hB own49 e0.1 e0.2).imp ?_
        rintro ⟨r1, C⟩ ⟨x, e, hx, hC, _⟩
        simp only at e hC
        subst e
        refine ⟨fun h => ?_, fun h => ?_⟩
        · exact ⟨rfl, hi, C, hC, rfl⟩
        · exact ⟨rfl, 0, rfl, ⟨by omega, by omega⟩, hC⟩
theorem walkRow_ct {A : pm_A} (hA : St A) : Cl pmt (an_sh wX) 118 [(2, 0)] A (st_post 0 1) := by
  refine Cl.of (Nat.le_of_ble_eq_true rfl) ?_
  refine wq_ok (full := o_X9_walkRow) srt_walkRow (fr := []) (cuts := [2]) (J := fun pc st => pc = 2 ∧ st = ([(2, 0), (0, 0)], [], A)) ?_ 20 0 _ ?_
  · rintro pc st ⟨rfl, rfl⟩
    exact wr_2 _ 0 A (Nat.lt_succ_self _) (by omega) (by omega) hA
  · exact ⟨rfl, rfl⟩
theorem or_53 : ∀ (n : Nat) (t : Int) (B : pm_A), (41 - t).toNat < n → 1 ≤ t → t ≤ 41 → St B → Tm pmt (an_sh wX) o_X9_order 53 ([(2, 0), (0, t)], [], B) (st_post (-2) 40) := by
  intro n
  induction n with
  | zero => intro t B h; omega
  | succ n ih =>
    intro t B hn t0 t1 hB
    refine wq_ok srt_order (fr := []) (cuts := [69]) (J := fun pc st => pc = 69 ∧ t ≤ 40 ∧ ∃ C, St C ∧ st = ([(2, 0), (0, t)], [], C)) ?_ 20 53 _ ?_
    · rintro pc st ⟨rfl, ht, C, hC, rfl⟩
      have s0 := fX_0_0 hC.1 z0 kk0
      have w0 := fX_0_8 hC.1 z0 kk0
      refine wq_ok srt_order (fr := []) (cuts := [53]) (J := fun pc st => pc = 53 ∧ ∃ D, St D ∧ st = ([(2, 0), (0, t + 1)], [], D)) ?_ 20 69 _ ?_
      · rintro pc st ⟨rfl, D, hD, rfl⟩
        exact ih (t + 1) D (by omega) (by omega) (by omega) hD
      · refine ⟨oX_0 z0 kk0 8 rfl, ?_⟩
        refine ⟨oX_0 z0 kk0 0 rfl, ?_⟩
        refine ⟨rX_1 w0.1 w0.2, ?_⟩
        refine Cl.gct q_X7_isSameAs_0 (A := C) (a := [(2, C 0 8), (2, C 0 0)]) ⟨gv_ref w0.1 w0.2, gv_ref s0.1 s0.2, trivial⟩ hC.1 ?_
        rintro ⟨r1, D⟩ g1 g2 g3
        simp only at g1 g2 g3
        have hD := hC.keep g2 g3 rfl
        match r1, g1 with
        | some (0, x), _ =>
          refine ⟨fun _ => ?_, fun _ => ?_⟩
          · refine ⟨⟨by omega, by omega⟩, ?_⟩
            exact ⟨rfl, D, hD, rfl⟩
          · exact ⟨rfl, t, rfl, ⟨by omega, ht⟩, hD⟩
        | some (n + 1, x), ⟨⟨q, _⟩, _⟩ => exact absurd q (by intro q; cases q)
        | none, q => exact absurd q (by intro q; cases q)
    · refine ⟨fun h => ?_, fun h => ?_⟩
      · exact ⟨rfl, -2, rfl, ⟨by omega, by omega⟩, hB⟩
      · refine ⟨rX_0 z0 kk0, ?_⟩
        refine (walkRow_ct hB).imp ?_
        rintro ⟨r1, C⟩ ⟨x, e, hx, hC⟩
        simp only at e hC
        subst e
        refine ⟨fun _ => ?_, fun _ => ?_⟩
        · exact ⟨rfl, h, C, hC, rfl⟩
        · exact ⟨rfl, -2, rfl, ⟨by omega, by omega⟩, hC⟩
theorem or_40 {B : pm_A} {i : Int} (hB : St B) : Tm pmt (an_sh wX) o_X9_order 40 ([(2, 0), (0, i)], [], B) (st_post (-2) 40) := by
  have s0 := fX_0_0 hB.1 z0 kk0
  have w0 := fX_0_8 hB.1 z0 kk0
  refine wq_ok srt_order (fr := []) (cuts := [53]) (J := fun pc st => pc = 53 ∧ ∃ D, St D ∧ st = ([(2, 0), (0, 1)], [], D)) ?_ 20 40 _ ?_
  · rintro pc st ⟨rfl, D, hD, rfl⟩
    exact or_53 _ 1 D (Nat.lt_succ_self _) (by omega) (by omega) hD
  · refine ⟨oX_0 z0 kk0 8 rfl, ?_⟩
    refine ⟨oX_0 z0 kk0 0 rfl, ?_⟩
    refine ⟨rX_1 w0.1 w0.2, ?_⟩
    refine Cl.gct q_X7_copyFrom_0 (A := B) (a := [(2, B 0 8), (2, B 0 0)]) ⟨gv_ref w0.1 w0.2, gv_ref s0.1 s0.2, trivial⟩ hB.1 ?_
    rintro ⟨r1, D⟩ g1 g2 g3
    simp only at g1 g2 g3
    cases r1 with
    | some v => exact absurd g1 (by intro q; cases q)
    | none => exact ⟨rfl, D, hB.keep g2 g3 rfl, rfl⟩
theorem or_11 : ∀ (n : Nat) (i : Int) (B : pm_A), (12 - i).toNat < n → 0 ≤ i → i ≤ 12 → St B → Tm pmt (an_sh wX) o_X9_order 11 ([(2, 0), (0, i)], [], B) (st_post (-2) 40) := by
  intro n
  induction n with
  | zero => intro i B h; omega
  | succ n ih =>
    intro i B hn i0 i1 hB
    have r0 := fX_0_6 hB.1 z0 kk0
    have n0 := fX_0_7 hB.1 z0 kk0
    refine wq_ok srt_order (fr := []) (cuts := [11, 40]) (J := fun pc st => (pc = 40 ∧ st = ([(2, 0), (0, i)], [], B)) ∨ (pc = 11 ∧ i < 12 ∧ ∃ C, St C ∧ st = ([(2, 0), (0, i + 1)], [], C))) ?_ 20 11 _ ?_
    · rintro pc st (⟨rfl, rfl⟩ | ⟨rfl, hi, C, hC, rfl⟩)
      · exact or_40 hB
      · exact ih (i + 1) C (by omega) (by omega) (by omega) hC
    · refine ⟨oX_0 z0 kk0 7 rfl, ?_⟩
      refine ⟨fun h => Or.inl ⟨rfl, rfl⟩, fun h => ?_⟩
      have hi : i < 12 := by omega
      have e0 := eX_21 hB.1 r0.1 r0.2 i0 hi
      refine ⟨oX_0 z0 kk0 6 rfl, ?_⟩
      refine ⟨aX_21 r0.1 r0.2 i0 hi, ?_⟩
      refine ⟨rX_0 z0 kk0, ?_⟩
      refine (place_ct hB (k := B (B 0 6) i) ⟨by omega, by omega⟩).imp ?_
      rintro ⟨r1, C⟩ ⟨x, e, hC, _, hx⟩
      simp only at e hC
      subst e
      refine ⟨fun _ => ?_, fun _ => ?_⟩
      · refine ⟨⟨by omega, by omega⟩, ?_⟩
        exact Or.inr ⟨rfl, hi, C, hC, rfl⟩
      · exact ⟨rfl, -1, rfl, ⟨by omega, by omega⟩, hC⟩
theorem order_ct {A : pm_A} (hA : St A) : Cl pmt (an_sh wX) 102 [(2, 0)] A (st_post (-2) 40) := by
  refine Cl.of (Nat.le_of_ble_eq_true rfl) ?_
  refine wq_ok (full := o_X9_order) srt_order (fr := []) (cuts := [11]) (J := fun pc st => pc = 11 ∧ st = ([(2, 0), (0, 0)], [], A)) ?_ 20 0 _ ?_
  · rintro pc st ⟨rfl, rfl⟩
    exact or_11 _ 0 A (Nat.lt_succ_self _) (by omega) (by omega) hA
  · refine ⟨oX_0 z0 kk0 7 rfl, ?_⟩
    refine ⟨fun h => ?_, fun h => ?_⟩
    · exact ⟨rfl, rfl⟩
    · exact ⟨rfl, -1, rfl, ⟨by omega, by omega⟩, hA⟩
