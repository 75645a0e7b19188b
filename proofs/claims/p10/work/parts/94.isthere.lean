/-! The reference: isThere -/
theorem srt_isThere : pm_srt o_X10_isThere = true := by decide +kernel
theorem km5 : wM.2 5 = 5 := by decide
theorem km16 : wM.2 16 = 16 := by decide
theorem km17 : wM.2 17 = 17 := by decide
theorem km18 : wM.2 18 = 18 := by decide
theorem km23 : wM.2 23 = 23 := by decide
def it_I (A B : pm_A) : Prop := gH wM B ∧ gFr wM [10016] A B
def it_post (A : pm_A) (r : pm_R) : Prop := ∃ x, r.1 = some (0, x) ∧ (0 ≤ x ∧ x ≤ 1) ∧ it_I A r.2
theorem it_0 {A B : pm_A} (h : it_I A B) {j : Int} (j0 : 0 ≤ j) (j1 : j ≤ 99) : B 0 j = A 0 j := h.2 0 j (by omega) j0 (by
  unfold mcode; rw [shM_0 km0]; show ¬ (100 * 10 + j.toNat) ∈ [10016]; intro q
  have := List.mem_singleton.mp q
  omega)
/-- the first n of the order are places -/
def ordn (B : pm_A) (n : Int) : Prop := ∀ j, 0 ≤ j → j < n → 0 ≤ B 16 j
theorem it_put {A B : pm_A} {k x : Int} (h : it_I A B) (x0 : -1 ≤ x) (x1 : x ≤ 5) : it_I A (pm_upd B 16 k x) := ⟨uM_16 h.1 km16 x0 x1, gFr_upd h.2 (mM_16 km16 rfl)⟩
theorem it_144 {A B : pm_A} {i k r : Int} (hB : it_I A B) (i0 : 0 ≤ i) (i1 : i ≤ 149) (k0 : 0 ≤ k) (k1 : k ≤ 11) (r0 : 0 ≤ r) (r1 : r ≤ 11) (H : ∀ lk j, (lk = 0 ∨ lk = 1) → (¬ lk = 0 → ordn B (A 0 7)) → Tm pmt (an_sh wM) o_X10_isThere 207 ([(2, 0), (0, i), (0, lk), (0, k), (0, r), (0, j)], [], B) (it_post A)) : ∀ (n : Nat) (lk j : Int), (6 - j).toNat < n → 0 ≤ j → j ≤ 6 → (lk = 0 ∨ lk = 1) → (¬ lk = 0 → ordn B (A 0 7)) → Tm pmt (an_sh wM) o_X10_isThere 144 ([(2, 0), (0, i), (0, lk), (0, k), (0, r), (0, j)], [], B) (it_post A) := by
  have p7 := it_0 hB (j := 7) (by omega) (by omega)
  have p6 := fM_0_7 hB.1 (by omega) km0
  have c9 := pM_9 hB.1
  have c28 := pM_28 hB.1
  have c23 := pM_23 hB.1
  intro n
  induction n with
  | zero => intro lk j h; omega
  | succ n ih =>
    intro lk j hn j0 j1 hl ho
    refine wq_ok srt_isThere (fr := []) (cuts := [144, 207]) (J := fun pc st => (pc = 207 ∧ st = ([(2, 0), (0, i), (0, lk), (0, k), (0, r), (0, j)], [], B)) ∨ (pc = 144 ∧ j < 6 ∧ ∃ l2, (l2 = 0 ∨ l2 = 1) ∧ (¬ l2 = 0 → ¬ lk = 0) ∧ st = ([(2, 0), (0, i), (0, l2), (0, k), (0, r), (0, j + 1)], [], B))) ?_ 60 144 _ ?_
    · rintro pc st (⟨rfl, rfl⟩ | ⟨rfl, hj, l2, h2, h3, rfl⟩)
      · exact H lk j hl ho
      · exact ih l2 (j + 1) (by omega) (by omega) (by omega) h2 (fun q => ho (h3 q))
    · refine ⟨oM_0 (by omega) km0 7 rfl, ?_⟩
      refine ⟨fun h => Or.inl ⟨rfl, rfl⟩, fun h => ?_⟩
      have hj : j < B 0 7 := h
      refine ⟨fun q => ?_, fun q => ?_⟩
      · refine ⟨⟨by omega, by omega⟩, ?_⟩
        exact Or.inr ⟨rfl, by omega, 0, Or.inl rfl, fun w => absurd rfl w, rfl⟩
      · have oj := ho q j j0 (by omega)
        have oj2 := eM_16 hB.1 (r := 16) (by omega) km16 j0 (show j < 6 by omega)
        have e23 : B (B 0 23) j = B 16 j := by rw [c23]
        refine ⟨oM_0 (by omega) km0 9 rfl, ?_⟩
        refine ⟨⟨by omega, by omega⟩, ?_⟩
        refine ⟨⟨by omega, by omega⟩, ?_⟩
        refine ⟨aM_5 (r := B 0 9) (by rw [c9]; omega) (by rw [c9]; exact km5) (by omega) (by omega), ?_⟩
        refine ⟨oM_0 (by omega) km0 28 rfl, ?_⟩
        refine ⟨⟨by omega, by omega⟩, ?_⟩
        refine ⟨⟨by omega, by omega⟩, ?_⟩
        refine ⟨⟨by omega, by omega⟩, ?_⟩
        refine ⟨oM_0 (by omega) km0 23 rfl, ?_⟩
        refine ⟨aM_16 (r := B 0 23) (by rw [c23]; omega) (by rw [c23]; exact km16) j0 (by omega), ?_⟩
        refine ⟨by show r32 (72 * i + 6 * r + B (B 0 23) j); rw [e23]; exact ⟨by omega, by omega⟩, ?_⟩
        refine ⟨aM_18 (r := B 0 28) (by rw [c28]; omega) (by rw [c28]; exact km18) (by show 0 ≤ 72 * i + 6 * r + B (B 0 23) j; rw [e23]; omega) (by show 72 * i + 6 * r + B (B 0 23) j < 10800; rw [e23]; omega), ?_⟩
        refine ⟨fun _ => ?_, fun _ => ?_⟩
        · refine ⟨⟨by omega, by omega⟩, ?_⟩
          exact Or.inr ⟨rfl, by omega, 0, Or.inl rfl, fun w => absurd rfl w, rfl⟩
        · refine ⟨⟨by omega, by omega⟩, ?_⟩
          exact Or.inr ⟨rfl, by omega, 1, Or.inr rfl, fun _ => q, rfl⟩
