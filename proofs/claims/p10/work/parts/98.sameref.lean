/-! The reference: same -/
theorem srt_sameR : pm_srt o_X10_same = true := by decide +kernel
theorem km13 : wM.2 13 = 13 := by decide
theorem km14 : wM.2 14 = 14 := by decide
theorem km15 : wM.2 15 = 15 := by decide
def sr_post (A : pm_A) (r : pm_R) : Prop := ∃ x, r.1 = some (0, x) ∧ (-1 ≤ x ∧ x ≤ 1) ∧ it_I A r.2
theorem sr_140 {A B : pm_A} {q i : Int} (hB : it_I A B) (ho : ordn B (A 0 7)) (q0 : 0 ≤ q) (q1 : q ≤ 3) (i0 : 0 ≤ i) (i1 : i ≤ 11) (H : ∀ j v4, Tm pmt (an_sh wM) o_X10_same 212 ([(2, 0), (0, q), (0, i), (0, j), v4], [], B) (sr_post A)) : ∀ (n : Nat) (j : Int) (v4 : pm_V), (6 - j).toNat < n → 0 ≤ j → j ≤ 6 → Tm pmt (an_sh wM) o_X10_same 140 ([(2, 0), (0, q), (0, i), (0, j), v4], [], B) (sr_post A) := by
  have p7 := it_0 hB (j := 7) (by omega) (by omega)
  have p6 := fM_0_7 hB.1 (by omega) km0
  have c9 := pM_9 hB.1
  have c22 := pM_22 hB.1
  have c23 := pM_23 hB.1
  intro n
  induction n with
  | zero => intro j v4 h; omega
  | succ n ih =>
    intro j v4 hn j0 j1
    refine wq_ok srt_sameR (fr := []) (cuts := [168, 212]) (J := fun pc st => (pc = 212 ∧ st = ([(2, 0), (0, q), (0, i), (0, j), v4], [], B)) ∨ (pc = 168 ∧ j < B 0 7 ∧ ∃ r : Int, (0 ≤ r ∧ r ≤ 11) ∧ st = ([(2, 0), (0, q), (0, i), (0, j), (0, r)], [], B))) ?_ 60 140 _ ?_
    · rintro pc st (⟨rfl, rfl⟩ | ⟨rfl, hj, r, hr, rfl⟩)
      · exact H j v4
      · have oj := ho j j0 (by omega)
        have oj2 := eM_16 hB.1 (r := 16) (by omega) km16 j0 (show j < 6 by omega)
        have e23 : B (B 0 23) j = B 16 j := by rw [c23]
        refine wq_ok srt_sameR (fr := []) (cuts := [140]) (J := fun pc st => pc = 140 ∧ st = ([(2, 0), (0, q), (0, i), (0, j + 1), (0, r)], [], B)) ?_ 60 168 _ ?_
        · rintro pc st ⟨rfl, rfl⟩
          exact ih (j + 1) _ (by omega) (by omega) (by omega)
        · refine ⟨oM_0 (by omega) km0 9 rfl, ?_⟩
          refine ⟨⟨by omega, by omega⟩, ?_⟩
          refine ⟨⟨by omega, by omega⟩, ?_⟩
          refine ⟨aM_5 (r := B 0 9) (by rw [c9]; omega) (by rw [c9]; exact km5) (by omega) (by omega), ?_⟩
          refine ⟨oM_0 (by omega) km0 22 rfl, ?_⟩
          refine ⟨⟨by omega, by omega⟩, ?_⟩
          refine ⟨⟨by omega, by omega⟩, ?_⟩
          refine ⟨⟨by omega, by omega⟩, ?_⟩
          refine ⟨oM_0 (by omega) km0 23 rfl, ?_⟩
          refine ⟨aM_16 (r := B 0 23) (by rw [c23]; omega) (by rw [c23]; exact km16) j0 (by omega), ?_⟩
          refine ⟨by show r32 (72 * q + 6 * r + B (B 0 23) j); rw [e23]; exact ⟨by omega, by omega⟩, ?_⟩
          refine ⟨aM_15 (r := B 0 22) (by rw [c22]; omega) (by rw [c22]; exact km15) (by show 0 ≤ 72 * q + 6 * r + B (B 0 23) j; rw [e23]; omega) (by show 72 * q + 6 * r + B (B 0 23) j < 288; rw [e23]; omega), ?_⟩
          refine ⟨fun _ => ?_, fun _ => ?_⟩
          · refine ⟨⟨by omega, by omega⟩, ?_⟩
            exact ⟨rfl, rfl⟩
          · exact ⟨rfl, 0, rfl, ⟨by omega, by omega⟩, hB⟩
    · refine ⟨oM_0 (by omega) km0 7 rfl, ?_⟩
      refine ⟨fun h => Or.inl ⟨rfl, rfl⟩, fun h => ?_⟩
      have hj : j < B 0 7 := h
      refine ⟨oM_0 (by omega) km0 7 rfl, ?_⟩
      refine ⟨fun h2 => ?_, fun h2 => ?_⟩
      · exact Or.inr ⟨rfl, hj, i, ⟨i0, i1⟩, rfl⟩
      · have hi2 : i < B 0 7 := h2
        have oj := ho i i0 (by omega)
        have oj2 := eM_16 hB.1 (r := 16) (by omega) km16 i0 (show i < 6 by omega)
        have e23 : B (B 0 23) i = B 16 i := by rw [c23]
        refine ⟨oM_0 (by omega) km0 23 rfl, ?_⟩
        refine ⟨aM_16 (r := B 0 23) (by rw [c23]; omega) (by rw [c23]; exact km16) i0 (by omega), ?_⟩
        exact Or.inr ⟨rfl, hj, B (B 0 23) i, ⟨by rw [e23]; omega, by rw [e23]; omega⟩, rfl⟩
theorem sr_125 {A B : pm_A} {q : Int} (hB : it_I A B) (ho : ordn B (A 0 7)) (q0 : 0 ≤ q) (q1 : q ≤ 3) : ∀ (n : Nat) (i : Int) (v3 v4 : pm_V), (12 - i).toNat < n → 0 ≤ i → i ≤ 12 → Tm pmt (an_sh wM) o_X10_same 125 ([(2, 0), (0, q), (0, i), v3, v4], [], B) (sr_post A) := by
  have p6 := fM_0_7 hB.1 (by omega) km0
  have h6 := fM_0_8 hB.1 (by omega) km0
  intro n
  induction n with
  | zero => intro i v3 v4 h; omega
  | succ n ih =>
    intro i v3 v4 hn i0 i1
    refine wq_ok srt_sameR (fr := []) (cuts := [140]) (J := fun pc st => pc = 140 ∧ i < 12 ∧ st = ([(2, 0), (0, q), (0, i), (0, 0), v4], [], B)) ?_ 40 125 _ ?_
    · rintro pc st ⟨rfl, hi, rfl⟩
      refine sr_140 hB ho q0 q1 i0 (by omega) (fun j w4 => ?_) _ 0 v4 (Nat.lt_succ_self _) (by omega) (by omega)
      refine wq_ok srt_sameR (fr := []) (cuts := [125]) (J := fun pc st => pc = 125 ∧ st = ([(2, 0), (0, q), (0, i + 1), (0, j), w4], [], B)) ?_ 20 212 _ ?_
      · rintro pc st ⟨rfl, rfl⟩
        exact ih (i + 1) _ _ (by omega) (by omega) (by omega)
      · refine ⟨⟨by omega, by omega⟩, ?_⟩
        exact ⟨rfl, rfl⟩
    · refine ⟨oM_0 (by omega) km0 7 rfl, ?_⟩
      refine ⟨oM_0 (by omega) km0 8 rfl, ?_⟩
      refine ⟨⟨by omega, by omega⟩, ?_⟩
      refine ⟨fun h => ?_, fun h => ?_⟩
      · exact ⟨rfl, 1, rfl, ⟨by omega, by omega⟩, hB⟩
      · exact ⟨rfl, by omega, rfl⟩
