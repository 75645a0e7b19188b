/-! The reference: isBegun -/
theorem srt_isBegun : pm_srt o_X10_isBegun = true := by decide +kernel
theorem km22 : wM.2 22 = 22 := by decide
theorem ib_106 {A B : pm_A} {i r : Int} (hB : it_I A B) (ho : ordn B (A 0 7)) (i0 : 0 ≤ i) (i1 : i ≤ 11) (r0 : 0 ≤ r) (r1 : r ≤ 11) (H : ∀ j, Tm pmt (an_sh wM) o_X10_isBegun 152 ([(2, 0), (0, i), (0, r), (0, j)], [], B) (it_post A)) : ∀ (n : Nat) (j : Int), (6 - j).toNat < n → 0 ≤ j → j ≤ 6 → Tm pmt (an_sh wM) o_X10_isBegun 106 ([(2, 0), (0, i), (0, r), (0, j)], [], B) (it_post A) := by
  have p7 := it_0 hB (j := 7) (by omega) (by omega)
  have p6 := fM_0_7 hB.1 (by omega) km0
  have c9 := pM_9 hB.1
  have c34 := pM_34 hB.1
  have c23 := pM_23 hB.1
  intro n
  induction n with
  | zero => intro j h; omega
  | succ n ih =>
    intro j hn j0 j1
    refine wq_ok srt_isBegun (fr := []) (cuts := [106, 152]) (J := fun pc st => (pc = 152 ∧ st = ([(2, 0), (0, i), (0, r), (0, j)], [], B)) ∨ (pc = 106 ∧ j < 6 ∧ st = ([(2, 0), (0, i), (0, r), (0, j + 1)], [], B))) ?_ 60 106 _ ?_
    · rintro pc st (⟨rfl, rfl⟩ | ⟨rfl, hj, rfl⟩)
      · exact H j
      · exact ih (j + 1) (by omega) (by omega) (by omega)
    · refine ⟨oM_0 (by omega) km0 7 rfl, ?_⟩
      refine ⟨fun h => Or.inl ⟨rfl, rfl⟩, fun h => ?_⟩
      have hj : j < B 0 7 := h
      have oj := ho j j0 (by omega)
      have oj2 := eM_16 hB.1 (r := 16) (by omega) km16 j0 (show j < 6 by omega)
      have e23 : B (B 0 23) j = B 16 j := by rw [c23]
      refine ⟨oM_0 (by omega) km0 9 rfl, ?_⟩
      refine ⟨⟨by omega, by omega⟩, ?_⟩
      refine ⟨⟨by omega, by omega⟩, ?_⟩
      refine ⟨aM_5 (r := B 0 9) (by rw [c9]; omega) (by rw [c9]; exact km5) (by omega) (by omega), ?_⟩
      refine ⟨oM_0 (by omega) km0 34 rfl, ?_⟩
      refine ⟨⟨by omega, by omega⟩, ?_⟩
      refine ⟨oM_0 (by omega) km0 23 rfl, ?_⟩
      refine ⟨aM_16 (r := B 0 23) (by rw [c23]; omega) (by rw [c23]; exact km16) j0 (by omega), ?_⟩
      refine ⟨by show r32 (6 * r + B (B 0 23) j); rw [e23]; exact ⟨by omega, by omega⟩, ?_⟩
      refine ⟨aM_22 (r := B 0 34) (by rw [c34]; omega) (by rw [c34]; exact km22) (by show 0 ≤ 6 * r + B (B 0 23) j; rw [e23]; omega) (by show 6 * r + B (B 0 23) j < 72; rw [e23]; omega), ?_⟩
      refine ⟨fun _ => ?_, fun _ => ?_⟩
      · refine ⟨⟨by omega, by omega⟩, ?_⟩
        exact Or.inr ⟨rfl, by omega, rfl⟩
      · exact ⟨rfl, 0, rfl, ⟨by omega, by omega⟩, hB⟩
theorem ib_72 {A B : pm_A} (hB : it_I A B) (ho : ordn B (A 0 7)) : ∀ (n : Nat) (i : Int) (v2 v3 : pm_V), (12 - i).toNat < n → 0 ≤ i → i ≤ 12 → Tm pmt (an_sh wM) o_X10_isBegun 72 ([(2, 0), (0, i), v2, v3], [], B) (it_post A) := by
  have p7 := it_0 hB (j := 7) (by omega) (by omega)
  have p6 := fM_0_7 hB.1 (by omega) km0
  have h6 := fM_0_8 hB.1 (by omega) km0
  have c23 := pM_23 hB.1
  intro n
  induction n with
  | zero => intro i v2 v3 h; omega
  | succ n ih =>
    intro i v2 v3 hn i0 i1
    refine wq_ok srt_isBegun (fr := []) (cuts := [106]) (J := fun pc st => pc = 106 ∧ i < 12 ∧ ∃ r : Int, (0 ≤ r ∧ r ≤ 11) ∧ st = ([(2, 0), (0, i), (0, r), (0, 0)], [], B)) ?_ 40 72 _ ?_
    · rintro pc st ⟨rfl, hi, r, hr, rfl⟩
      refine ib_106 hB ho i0 (by omega) hr.1 hr.2 (fun j => ?_) _ 0 (Nat.lt_succ_self _) (by omega) (by omega)
      refine wq_ok srt_isBegun (fr := []) (cuts := [72]) (J := fun pc st => pc = 72 ∧ st = ([(2, 0), (0, i + 1), (0, r), (0, j)], [], B)) ?_ 20 152 _ ?_
      · rintro pc st ⟨rfl, rfl⟩
        exact ih (i + 1) _ _ (by omega) (by omega) (by omega)
      · refine ⟨⟨by omega, by omega⟩, ?_⟩
        exact ⟨rfl, rfl⟩
    · refine ⟨oM_0 (by omega) km0 7 rfl, ?_⟩
      refine ⟨oM_0 (by omega) km0 8 rfl, ?_⟩
      refine ⟨⟨by omega, by omega⟩, ?_⟩
      refine ⟨fun h => ?_, fun h => ?_⟩
      · exact ⟨rfl, 1, rfl, ⟨by omega, by omega⟩, hB⟩
      · have hi : i < 12 := by omega
        refine ⟨oM_0 (by omega) km0 7 rfl, ?_⟩
        refine ⟨fun h2 => ?_, fun h2 => ?_⟩
        · exact ⟨rfl, hi, i, ⟨i0, by omega⟩, rfl⟩
        · have hi2 : i < B 0 7 := h2
          have oj := ho i i0 (by omega)
          have oj2 := eM_16 hB.1 (r := 16) (by omega) km16 i0 (show i < 6 by omega)
          have e23 : B (B 0 23) i = B 16 i := by rw [c23]
          refine ⟨oM_0 (by omega) km0 23 rfl, ?_⟩
          refine ⟨aM_16 (r := B 0 23) (by rw [c23]; omega) (by rw [c23]; exact km16) i0 (by omega), ?_⟩
          exact ⟨rfl, hi, B (B 0 23) i, ⟨by rw [e23]; omega, by rw [e23]; omega⟩, rfl⟩
theorem ib_19 {A : pm_A} {i : Int} {v3 : pm_V} (i0 : 0 ≤ i) (i1 : i ≤ 5) (H : ∀ B v2, it_I A B → ordn B i → Tm pmt (an_sh wM) o_X10_isBegun 52 ([(2, 0), (0, i), v2, v3], [], B) (it_post A)) : ∀ (n : Nat) (l : Int) (B : pm_A), (6 - l).toNat < n → 0 ≤ l → l ≤ 6 → it_I A B → ordn B i → Tm pmt (an_sh wM) o_X10_isBegun 19 ([(2, 0), (0, i), (0, l), v3], [], B) (it_post A) := by
  intro n
  induction n with
  | zero => intro l B h; omega
  | succ n ih =>
    intro l B hn l0 l1 hB ho
    have p6 := fM_0_7 hB.1 (by omega) km0
    refine wq_ok srt_isBegun (fr := []) (cuts := [36, 52]) (J := fun pc st => (pc = 52 ∧ st = ([(2, 0), (0, i), (0, l), v3], [], B)) ∨ (pc = 36 ∧ l < 6 ∧ ∃ x C, it_I A C ∧ ordn C i ∧ st = ([(2, 0), (0, i), (0, l), v3], [(0, x)], C))) ?_ 40 19 _ ?_
    · rintro pc st (⟨rfl, rfl⟩ | ⟨rfl, hl, x, C, hC, hC2, rfl⟩)
      · exact H B _ hB ho
      · have c23 := pM_23 hC.1
        refine wq_ok srt_isBegun (fr := []) (cuts := [19]) (J := fun pc st => pc = 19 ∧ (st = ([(2, 0), (0, i), (0, l + 1), v3], [], C) ∨ st = ([(2, 0), (0, i), (0, l + 1), v3], [], pm_upd C (C 0 23) i l))) ?_ 40 36 _ ?_
        · rintro pc st ⟨rfl, rfl | rfl⟩
          · exact ih (l + 1) C (by omega) (by omega) (by omega) hC hC2
          · rw [c23]
            exact ih (l + 1) _ (by omega) (by omega) (by omega) (it_put hC (by omega) (by omega)) (ord_put hC2)
        · refine ⟨fun _ => ?_, fun _ => ?_⟩
          · refine ⟨⟨by omega, by omega⟩, ?_⟩
            exact ⟨rfl, Or.inl rfl⟩
          · refine ⟨oM_0 (by omega) km0 23 rfl, ?_⟩
            refine ⟨tM_16 (r := C 0 23) (by rw [c23]; omega) (by rw [c23]; exact km16) i0 (by omega) rfl, ?_⟩
            refine ⟨⟨by omega, by omega⟩, ?_⟩
            exact ⟨rfl, Or.inr rfl⟩
    · refine ⟨oM_0 (by omega) km0 7 rfl, ?_⟩
      refine ⟨fun h => Or.inl ⟨rfl, rfl⟩, fun h => ?_⟩
      have hl : l < 6 := by omega
      refine ⟨⟨by omega, by omega⟩, ?_⟩
      refine ⟨rM_0 (by omega) km0, ?_⟩
      refine Cl.gct q_X10_areAlike_0 (A := B) (a := [(2, 0), (0, i), (0, 36 + l)]) ⟨gv_ref (by omega) km0, ⟨rfl, i0, by simp only; omega⟩, ⟨rfl, by simp only; omega, by simp only; omega⟩, trivial⟩ hB.1 ?_
      rintro ⟨r1, C⟩ g1 g2 g3
      simp only at g1 g2 g3
      match r1, g1 with
      | some (0, x), _ => exact Or.inr ⟨rfl, hl, x, C, ⟨g2, gFr_tr hB.2 g3 (fun x hx => by cases hx)⟩, fun j j0 j1 => by rw [g3 16 j (by omega) j0 (fun q => by cases q)]; exact ho j j0 j1, rfl⟩
      | some (n + 1, x), ⟨⟨q, _⟩, _⟩ => exact absurd q (by intro q; cases q)
      | none, q => exact absurd q (by intro q; cases q)
theorem ib_2 {A : pm_A} : ∀ (n : Nat) (i : Int) (v2 v3 : pm_V) (B : pm_A), (6 - i).toNat < n → 0 ≤ i → i ≤ 6 → it_I A B → ordn B i → Tm pmt (an_sh wM) o_X10_isBegun 2 ([(2, 0), (0, i), v2, v3], [], B) (it_post A) := by
  intro n
  induction n with
  | zero => intro i v2 v3 B h; omega
  | succ n ih =>
    intro i v2 v3 B hn i0 i1 hB ho
    have p7 := it_0 hB (j := 7) (by omega) (by omega)
    have p6 := fM_0_7 hB.1 (by omega) km0
    have c23 := pM_23 hB.1
    refine wq_ok srt_isBegun (fr := []) (cuts := [19, 72]) (J := fun pc st => (pc = 72 ∧ B 0 7 ≤ i ∧ st = ([(2, 0), (0, 0), v2, v3], [], B)) ∨ (pc = 19 ∧ i < 6 ∧ st = ([(2, 0), (0, i), (0, 0), v3], [], pm_upd B (B 0 23) i (-1)))) ?_ 40 2 _ ?_
    · rintro pc st (⟨rfl, hi, rfl⟩ | ⟨rfl, hi, rfl⟩)
      · exact ib_72 hB (fun j j0 j1 => ho j j0 (by omega)) _ 0 v2 v3 (Nat.lt_succ_self _) (by omega) (by omega)
      · rw [c23]
        refine ib_19 i0 (by omega) (fun C w2 hC hC2 => ?_) _ 0 _ (Nat.lt_succ_self _) (by omega) (by omega) (it_put hB (by omega) (by omega)) (ord_put ho)
        have d23 := pM_23 hC.1
        have e1 := eM_16 hC.1 (r := 16) (by omega) km16 i0 (show i < 6 by omega)
        refine wq_ok srt_isBegun (fr := []) (cuts := [2]) (J := fun pc st => pc = 2 ∧ ¬ C (C 0 23) i = -1 ∧ st = ([(2, 0), (0, i + 1), w2, v3], [], C)) ?_ 30 52 _ ?_
        · rintro pc st ⟨rfl, h3, rfl⟩
          rw [d23] at h3
          refine ih (i + 1) w2 v3 C (by omega) (by omega) (by omega) hC (fun j j0 j1 => ?_)
          by_cases w : j = i
          · rw [w]; omega
          · exact hC2 j j0 (by omega)
        · refine ⟨oM_0 (by omega) km0 23 rfl, ?_⟩
          refine ⟨aM_16 (r := C 0 23) (by rw [d23]; omega) (by rw [d23]; exact km16) i0 (by omega), ?_⟩
          refine ⟨fun q => ?_, fun q => ?_⟩
          · refine ⟨⟨by omega, by omega⟩, ?_⟩
            exact ⟨rfl, q, rfl⟩
          · exact ⟨rfl, 0, rfl, ⟨by omega, by omega⟩, hC⟩
    · refine ⟨oM_0 (by omega) km0 7 rfl, ?_⟩
      refine ⟨fun h => Or.inl ⟨rfl, h, rfl⟩, fun h => ?_⟩
      have hi : i < 6 := by omega
      refine ⟨oM_0 (by omega) km0 23 rfl, ?_⟩
      refine ⟨tM_16 (r := B 0 23) (by rw [c23]; omega) (by rw [c23]; exact km16) i0 (by omega) rfl, ?_⟩
      exact Or.inr ⟨rfl, hi, rfl⟩
theorem isBegun_ct {A : pm_A} (hA : gH wM A) : Cl pmt (an_sh wM) 153 [(2, 0)] A (it_post A) := by
  refine Cl.of (Nat.le_of_ble_eq_true rfl) ?_
  refine wq_ok (full := o_X10_isBegun) srt_isBegun (fr := []) (cuts := [2]) (J := fun pc st => pc = 2 ∧ ∃ v2 v3, st = ([(2, 0), (0, 0), v2, v3], [], A)) ?_ 30 0 _ ?_
  · rintro pc st ⟨rfl, v2, v3, rfl⟩
    exact ib_2 _ 0 v2 v3 A (Nat.lt_succ_self _) (by omega) (by omega) ⟨hA, fun _ _ _ _ _ => rfl⟩ (fun j j0 j1 => by omega)
  · exact ⟨rfl, _, _, rfl⟩
