section
/-! The reference: isBegun -/
theorem srt_isBegun : pm_srt o_X10_isBegun = true := by decide +kernel
theorem km22 : wM.2 22 = 22 := by decide
theorem ib_106 {A B : pm_A} {i r : Int} (hB : it_I A B) (ho : ordn B (A 0 7)) (i0 : 0 ≤ i) (i1 : i ≤ 11) (r0 : 0 ≤ r) (r1 : r ≤ 11) (H : ∀ j, Tm pmt (an_sh wM) o_X10_isBegun 152 ([(2, 0), (0, i), (0, r), (0, j)], [], B) (it_post A)) : ∀ (n : Nat) (j : Int), (6 - j).toNat < n → 0 ≤ j → j ≤ 6 → Tm pmt (an_sh wM) o_X10_isBegun 106 ([(2, 0), (0, i), (0, r), (0, j)], [], B) (it_post A) := by
  have p7 := it_0 hB (j := 7) (by omega) (by omega)
  have p6 := fM_0_7 hB.1 (by omega) km0
  have c9 := pM_9 hB.1
  have c34 := pM_34 hB.1
  have c23 := pM_23 hB.1
  intro n
  induction n with
  | zero => intro j h; omega
  | succ n ih =>
    intro j hn j0 j1
    refine wq_ok srt_isBegun (fr := []) (cuts := [106, 152]) (J := fun pc st => (pc = 152 ∧ st = ([(2, 0), (0, i), (0, r), (0, j)], [], B)) ∨ (pc = 106 ∧ j < 6 ∧ st = ([(2, 0), (0, i), (0, r), (0, j + 1)], [], B))) ?_ 60 106 _ ?_
    · rintro pc st (⟨rfl, rfl⟩ | ⟨rfl, hj, rfl⟩)
      · exact H j
      · exact ih (j + 1) (by omega) (by omega) (by omega)
    · refine ⟨oM_0 (by omega) km0 7 rfl, ?_⟩
      refine ⟨fun h => Or.inl ⟨rfl, rfl⟩, fun h => ?_⟩
      have hj : j < B 0 7 := h
      have oj := ho j j0 (by omega)
      have oj2 := eM_16 hB.1 (r := 16) (by omega) km16 j0 (show j < 6 by omega)
      have e23 : B (B 0 23) j = B 16 j := by rw [c23]
      refine ⟨oM_0 (by omega) km0 9 rfl, ?_⟩
      refine ⟨⟨by omega, by omega⟩, ?_⟩
      refine ⟨⟨by omega, by omega⟩, ?_⟩
      refine ⟨aM_5 (r := B 0 9) (by rw [c9]; omega) (by rw [c9]; exact km5) (by omega) (by omega), ?_⟩
      refine ⟨oM_0 (by omega) km0 34 rfl, ?_⟩
      refine ⟨⟨by omega, by omega⟩, ?_⟩
      refine ⟨oM_0 (by omega) km0 23 rfl, ?_⟩
      refine ⟨aM_16 (r := B 0 23) (by rw [c23]; omega) (by rw [c23]; exact km16) j0 (by omega), ?_⟩
      refine ⟨by show r32 (6 * r + B (B 0 23) j); rw [e23]; exact ⟨by omega, by omega⟩, ?_⟩
      refine ⟨aM_22 (r := B 0 34) (by rw [c34]; omega) (by rw [c34]; exact km22) (by show 0 ≤ 6 * r + B (B 0 23) j; rw [e23]; omega) (by show 6 * r + B (B 0 23) j < 72; rw [e23]; omega), ?_⟩
      refine ⟨fun _ => ?_, fun _ => ?_⟩
      · refine ⟨⟨by omega, by omega⟩, ?_⟩
        exact Or.inr ⟨rfl, by omega, rfl⟩
      · exact ⟨rfl, 0, rfl, ⟨by omega, by omega⟩, hB⟩
theorem ib_72 {A B : pm_A} (hB : it_I A B) (ho : ordn B (A 0 7)) : ∀ (n : Nat) (i : Int) (v2 v3 : pm_V), (12 - i).toNat < n → 0 ≤ i → i ≤ 12 → Tm pmt (an_sh wM) o_X10_isBegun 72 ([(2, 0), (0, i), v2, v3], [], B) (it_post A) := by
  have p7 := it_0 hB (j := 7) (by omega) (by omega)
  have p6 := fM_0_7 hB.1 (by omega) km0
  have h6 := fM_0_8 hB.1 (by omega) km0
  have c23 := pM_23 hB.1
  intro n
  induction n with
  | zero => intro i v2 v3 h; omega
  | succ n ih =>
    intro i v2 v3 hn i0 i1
    refine wq_ok srt_isBegun (fr := []) (cuts := [106]) (J := fun pc st => pc = 106 ∧ i < 12 ∧ ∃ r : Int, (0 ≤ r ∧ r ≤ 11) ∧ st = ([(2, 0), (0, i), (0, r), (0, 0)], [], B)) ?_ 40 72 _ ?_
    · rintro pc st ⟨rfl, hi, r, hr, rfl⟩
      refine ib_106 hB ho i0 (by omega) hr.1 hr.2 (fun j => ?_) _ 0 (Nat.lt_succ_self _) (by omega) (by omega)
      refine wq_ok srt_isBegun (fr := []) (cuts := [72]) (J := fun pc st => pc = 72 ∧ st = ([(2, 0), (0, i + 1), (0, r), (0, j)], [], B)) ?_ 20 152 _ ?_
      · rintro pc st ⟨rfl, rfl⟩
        exact ih (i + 1) _ _ (by omega) (by omega) (by omega)
      · refine ⟨⟨by omega, by omega⟩, ?_⟩
        exact ⟨rfl, rfl⟩
    · refine ⟨oM_0 (by omega) km0 7 rfl, ?_⟩
      refine ⟨oM_0 (by omega) km0 8 rfl, ?_⟩
      refine ⟨⟨by omega, by omega⟩, ?_⟩
      refine ⟨fun h => ?_, fun h => ?_⟩
      · exact ⟨rfl, 1, rfl, ⟨by omega, by omega⟩, hB⟩
      · have hi : i < 12 := by omega
        refine ⟨oM_0 (by omega) km0 7 rfl, ?_⟩
        refine ⟨fun h2 => ?_, fun h2 => ?_⟩
        · exact ⟨rfl, hi, i, ⟨i0, by omega⟩, rfl⟩
        · have hi2 : i < B 0 7 := h2
          have oj := ho i i0 (by omega)
          have oj2 := eM_16 hB.1 (r := 16) (by omega) km16 i0 (show i < 6 by omega)
          have e23 : B (B 0 23) i = B 16 i := by rw [c23]
          refine ⟨oM_0 (by omega) km0 23 rfl, ?_⟩
          refine ⟨aM_16 (r := B 0 23) (by rw [c23]; omega) (by rw [c23]; exact km16) i0 (by omega), ?_⟩
          exact ⟨rfl, hi, B (B 0 23) i, ⟨by rw [e23]; omega, by rw [e23]; omega⟩, rfl⟩
theorem ib_19 {A : pm_A} {i : Int} {v3 : pm_V} (i0 : 0 ≤ i) (i1 : i ≤ 5) (H : ∀ B v2, it_I A B → ordn B i → Tm pmt (an_sh wM) o_X10_isBegun 52 ([(2, 0), (0, i), v2, v3], [], B) (it_post A)) : ∀ (n : Nat) (l : Int) (B : pm_A), (6 - l).toNat < n → 0 ≤ l → l ≤ 6 → it_I A B → ordn B i → Tm pmt (an_sh wM) o_X10_isBegun 19 ([(2, 0), (0, i), (0, l), v3], [], B) (it_post A) := by
  intro n
  induction n with
  | zero => intro l B h; omega
  | succ n ih =>
    intro l B hn l0 l1 hB ho
    have p6 := fM_0_7 hB.1 (by omega) km0
    refine wq_ok srt_isBegun (fr := []) (cuts := [36, 52]) (J := fun pc st => (pc = 52 ∧ st = ([(2, 0), (0, i), (0, l), v3], [], B)) ∨ (pc = 36 ∧ l < 6 ∧ ∃ x C, it_I A C ∧ ordn C i ∧ st = ([(2, 0), (0, i), (0, l), v3], [(0, x)], C))) ?_ 40 19 _ ?_
    · rintro pc st (⟨rfl, rfl⟩ | ⟨rfl, hl, x, C, hC, hC2, rfl⟩)
      · exact H B _ hB ho
      · have c23 := pM_23 hC.1
        refine wq_ok srt_isBegun (fr := []) (cuts := [19]) (J := fun pc st => pc = 19 ∧ (st = ([(2, 0), (0, i), (0, l + 1), v3], [], C) ∨ st = ([(2, 0), (0, i), (0, l + 1), v3], [], pm_upd C (C 0 23) i l))) ?_ 40 36 _ ?_
        · rintro pc st ⟨rfl, rfl | rfl⟩
          · exact ih (l + 1) C (by omega) (by omega) (by omega) hC hC2
          · rw [c23]
            exact ih (l + 1) _ (by omega) (by omega) (by omega) (it_put hC (by omega) (by omega)) (ord_put hC2)
        · refine ⟨fun _ => ?_, fun _ => ?_⟩
          · refine ⟨⟨by omega, by omega⟩, ?_⟩
            exact ⟨rfl, Or.inl rfl⟩
          · refine ⟨oM_0 (by omega) km0 23 rfl, ?_⟩
            refine ⟨tM_16 (r := C 0 23) (by rw [c23]; omega) (by rw [c23]; exact km16) i0 (by omega) rfl, ?_⟩
            refine ⟨⟨by omega, by omega⟩, ?_⟩
            exact ⟨rfl, Or.inr rfl⟩
    · refine ⟨oM_0 (by omega) km0 7 rfl, ?_⟩
      refine ⟨fun h => Or.inl ⟨rfl, rfl⟩, fun h => ?_⟩
      have hl : l < 6 := by omega
      refine ⟨⟨by omega, by omega⟩, ?_⟩
      refine ⟨rM_0 (by omega) km0, ?_⟩
      refine Cl.gct q_X10_areAlike_0 (A := B) (a := [(2, 0), (0, i), (0, 36 + l)]) ⟨gv_ref (by omega) km0, ⟨rfl, i0, by simp only; omega⟩, ⟨rfl, by simp only; omega, by simp only; omega⟩, trivial⟩ hB.1 ?_
      rintro ⟨r1, C⟩ g1 g2 g3
      simp only at g1 g2 g3
      match r1, g1 with
      | some (0, x), _ => exact Or.inr ⟨rfl, hl, x, C, ⟨g2, gFr_tr hB.2 g3 (fun x hx => by cases hx)⟩, fun j j0 j1 => by rw [g3 16 j (by omega) j0 (fun q => by cases q)]; exact ho j j0 j1, rfl⟩
      | some (n + 1, x), ⟨⟨q, _⟩, _⟩ => exact absurd q (by intro q; cases q)
      | none, q => exact absurd q (by intro q; cases q)
theorem ib_2 {A : pm_A} : ∀ (n : Nat) (i : Int) (v2 v3 : pm_V) (B : pm_A), (6 - i).toNat < n → 0 ≤ i → i ≤ 6 → it_I A B → ordn B i → Tm pmt (an_sh wM) o_X10_isBegun 2 ([(2, 0), (0, i), v2, v3], [], B) (it_post A) := by
  intro n
  induction n with
  | zero => intro i v2 v3 B h; omega
  | succ n ih =>
    intro i v2 v3 B hn i0 i1 hB ho
    have p7 := it_0 hB (j := 7) (by omega) (by omega)
    have p6 := fM_0_7 hB.1 (by omega) km0
    have c23 := pM_23 hB.1
    refine wq_ok srt_isBegun (fr := []) (cuts := [19, 72]) (J := fun pc st => (pc = 72 ∧ B 0 7 ≤ i ∧ st = ([(2, 0), (0, 0), v2, v3], [], B)) ∨ (pc = 19 ∧ i < 6 ∧ st = ([(2, 0), (0, i), (0, 0), v3], [], pm_upd B (B 0 23) i (-1)))) ?_ 40 2 _ ?_
    · rintro pc st (⟨rfl, hi, rfl⟩ | ⟨rfl, hi, rfl⟩)
      · exact ib_72 hB (fun j j0 j1 => ho j j0 (by omega)) _ 0 v2 v3 (Nat.lt_succ_self _) (by omega) (by omega)
      · rw [c23]
        refine ib_19 i0 (by omega) (fun C w2 hC hC2 => ?_) _ 0 _ (Nat.lt_succ_self _) (by omega) (by omega) (it_put hB (by omega) (by omega)) (ord_put ho)
        have d23 := pM_23 hC.1
        have e1 := eM_16 hC.1 (r := 16) (by omega) km16 i0 (show i < 6 by omega)
        refine wq_ok srt_isBegun (fr := []) (cuts := [2]) (J := fun pc st => pc = 2 ∧ ¬ C (C 0 23) i = -1 ∧ st = ([(2, 0), (0, i + 1), w2, v3], [], C)) ?_ 30 52 _ ?_
        · rintro pc st ⟨rfl, h3, rfl⟩
          rw [d23] at h3
          refine ih (i + 1) w2 v3 C (by omega) (by omega) (by omega) hC (fun j j0 j1 => ?_)
          by_cases w : j = i
          · rw [w]; omega
          · exact hC2 j j0 (by omega)
        · refine ⟨oM_0 (by omega) km0 23 rfl, ?_⟩
          refine ⟨aM_16 (r := C 0 23) (by rw [d23]; omega) (by rw [d23]; exact km16) i0 (by omega), ?_⟩
          refine ⟨fun q => ?_, fun q => ?_⟩
          · refine ⟨⟨by omega, by omega⟩, ?_⟩
            exact ⟨rfl, q, rfl⟩
          · exact ⟨rfl, 0, rfl, ⟨by omega, by omega⟩, hC⟩
    · refine ⟨oM_0 (by omega) km0 7 rfl, ?_⟩
      refine ⟨fun h => Or.inl ⟨rfl, h, rfl⟩, fun h => ?_⟩
      have hi : i < 6 := by omega
      refine ⟨oM_0 (by omega) km0 23 rfl, ?_⟩
      refine ⟨tM_16 (r := B 0 23) (by rw [c23]; omega) (by rw [c23]; exact km16) i0 (by omega) rfl, ?_⟩
      exact Or.inr ⟨rfl, hi, rfl⟩
theorem isBegun_ct {A : pm_A} (hA : gH wM A) : Cl pmt (an_sh wM) 153 [(2, 0)] A (it_post A) := by
  refine Cl.of (Nat.le_of_ble_eq_true rfl) ?_
  refine wq_ok (full := o_X10_isBegun) srt_isBegun (fr := []) (cuts := [2]) (J := fun pc st => pc = 2 ∧ ∃ v2 v3, st = ([(2, 0), (0, 0), v2, v3], [], A)) ?_ 30 0 _ ?_
  · rintro pc st ⟨rfl, v2, v3, rfl⟩
    exact ib_2 _ 0 v2 v3 A (Nat.lt_succ_self _) (by omega) (by omega) ⟨hA, fun _ _ _ _ _ => rfl⟩ (fun j j0 j1 => by omega)
  · exact ⟨rfl, _, _, rfl⟩
end

section
/-! The reference: same -/
theorem srt_sameR : pm_srt o_X10_same = true := by decide +kernel
theorem km13 : wM.2 13 = 13 := by decide
theorem km14 : wM.2 14 = 14 := by decide
theorem km15 : wM.2 15 = 15 := by decide
def sr_post (A : pm_A) (r : pm_R) : Prop := ∃ x, r.1 = some (0, x) ∧ (-1 ≤ x ∧ x ≤ 1) ∧ it_I A r.2
theorem sr_140 {A B : pm_A} {q i : Int} (hB : it_I A B) (ho : ordn B (A 0 7)) (q0 : 0 ≤ q) (q1 : q ≤ 3) (i0 : 0 ≤ i) (i1 : i ≤ 11) (H : ∀ j v4, Tm pmt (an_sh wM) o_X10_same 212 ([(2, 0), (0, q), (0, i), (0, j), v4], [], B) (sr_post A)) : ∀ (n : Nat) (j : Int) (v4 : pm_V), (6 - j).toNat < n → 0 ≤ j → j ≤ 6 → Tm pmt (an_sh wM) o_X10_same 140 ([(2, 0), (0, q), (0, i), (0, j), v4], [], B) (sr_post A) := by
  have p7 := it_0 hB (j := 7) (by omega) (by omega)
  have p6 := fM_0_7 hB.1 (by omega) km0
  have c9 := pM_9 hB.1
  have c22 := pM_22 hB.1
  have c23 := pM_23 hB.1
  intro n
  induction n with
  | zero => intro j v4 h; omega
  | succ n ih =>
    intro j v4 hn j0 j1
    refine wq_ok srt_sameR (fr := []) (cuts := [168, 212]) (J := fun pc st => (pc = 212 ∧ st = ([(2, 0), (0, q), (0, i), (0, j), v4], [], B)) ∨ (pc = 168 ∧ j < B 0 7 ∧ ∃ r : Int, (0 ≤ r ∧ r ≤ 11) ∧ st = ([(2, 0), (0, q), (0, i), (0, j), (0, r)], [], B))) ?_ 60 140 _ ?_
    · rintro pc st (⟨rfl, rfl⟩ | ⟨rfl, hj, r, hr, rfl⟩)
      · exact H j v4
      · have oj := ho j j0 (by omega)
        have oj2 := eM_16 hB.1 (r := 16) (by omega) km16 j0 (show j < 6 by omega)
        have e23 : B (B 0 23) j = B 16 j := by rw [c23]
        refine wq_ok srt_sameR (fr := []) (cuts := [140]) (J := fun pc st => pc = 140 ∧ st = ([(2, 0), (0, q), (0, i), (0, j + 1), (0, r)], [], B)) ?_ 60 168 _ ?_
        · rintro pc st ⟨rfl, rfl⟩
          exact ih (j + 1) _ (by omega) (by omega) (by omega)
        · refine ⟨oM_0 (by omega) km0 9 rfl, ?_⟩
          refine ⟨⟨by omega, by omega⟩, ?_⟩
          refine ⟨⟨by omega, by omega⟩, ?_⟩
          refine ⟨aM_5 (r := B 0 9) (by rw [c9]; omega) (by rw [c9]; exact km5) (by omega) (by omega), ?_⟩
          refine ⟨oM_0 (by omega) km0 22 rfl, ?_⟩
          refine ⟨⟨by omega, by omega⟩, ?_⟩
          refine ⟨⟨by omega, by omega⟩, ?_⟩
          refine ⟨⟨by omega, by omega⟩, ?_⟩
          refine ⟨oM_0 (by omega) km0 23 rfl, ?_⟩
          refine ⟨aM_16 (r := B 0 23) (by rw [c23]; omega) (by rw [c23]; exact km16) j0 (by omega), ?_⟩
          refine ⟨by show r32 (72 * q + 6 * r + B (B 0 23) j); rw [e23]; exact ⟨by omega, by omega⟩, ?_⟩
          refine ⟨aM_15 (r := B 0 22) (by rw [c22]; omega) (by rw [c22]; exact km15) (by show 0 ≤ 72 * q + 6 * r + B (B 0 23) j; rw [e23]; omega) (by show 72 * q + 6 * r + B (B 0 23) j < 288; rw [e23]; omega), ?_⟩
          refine ⟨fun _ => ?_, fun _ => ?_⟩
          · refine ⟨⟨by omega, by omega⟩, ?_⟩
            exact ⟨rfl, rfl⟩
          · exact ⟨rfl, 0, rfl, ⟨by omega, by omega⟩, hB⟩
    · refine ⟨oM_0 (by omega) km0 7 rfl, ?_⟩
      refine ⟨fun h => Or.inl ⟨rfl, rfl⟩, fun h => ?_⟩
      have hj : j < B 0 7 := h
      refine ⟨oM_0 (by omega) km0 7 rfl, ?_⟩
      refine ⟨fun h2 => ?_, fun h2 => ?_⟩
      · exact Or.inr ⟨rfl, hj, i, ⟨i0, i1⟩, rfl⟩
      · have hi2 : i < B 0 7 := h2
        have oj := ho i i0 (by omega)
        have oj2 := eM_16 hB.1 (r := 16) (by omega) km16 i0 (show i < 6 by omega)
        have e23 : B (B 0 23) i = B 16 i := by rw [c23]
        refine ⟨oM_0 (by omega) km0 23 rfl, ?_⟩
        refine ⟨aM_16 (r := B 0 23) (by rw [c23]; omega) (by rw [c23]; exact km16) i0 (by omega), ?_⟩
        exact Or.inr ⟨rfl, hj, B (B 0 23) i, ⟨by rw [e23]; omega, by rw [e23]; omega⟩, rfl⟩
theorem sr_125 {A B : pm_A} {q : Int} (hB : it_I A B) (ho : ordn B (A 0 7)) (q0 : 0 ≤ q) (q1 : q ≤ 3) : ∀ (n : Nat) (i : Int) (v3 v4 : pm_V), (12 - i).toNat < n → 0 ≤ i → i ≤ 12 → Tm pmt (an_sh wM) o_X10_same 125 ([(2, 0), (0, q), (0, i), v3, v4], [], B) (sr_post A) := by
  have p6 := fM_0_7 hB.1 (by omega) km0
  have h6 := fM_0_8 hB.1 (by omega) km0
  intro n
  induction n with
  | zero => intro i v3 v4 h; omega
  | succ n ih =>
    intro i v3 v4 hn i0 i1
    refine wq_ok srt_sameR (fr := []) (cuts := [140]) (J := fun pc st => pc = 140 ∧ i < 12 ∧ st = ([(2, 0), (0, q), (0, i), (0, 0), v4], [], B)) ?_ 40 125 _ ?_
    · rintro pc st ⟨rfl, hi, rfl⟩
      refine sr_140 hB ho q0 q1 i0 (by omega) (fun j w4 => ?_) _ 0 v4 (Nat.lt_succ_self _) (by omega) (by omega)
      refine wq_ok srt_sameR (fr := []) (cuts := [125]) (J := fun pc st => pc = 125 ∧ st = ([(2, 0), (0, q), (0, i + 1), (0, j), w4], [], B)) ?_ 20 212 _ ?_
      · rintro pc st ⟨rfl, rfl⟩
        exact ih (i + 1) _ _ (by omega) (by omega) (by omega)
      · refine ⟨⟨by omega, by omega⟩, ?_⟩
        exact ⟨rfl, rfl⟩
    · refine ⟨oM_0 (by omega) km0 7 rfl, ?_⟩
      refine ⟨oM_0 (by omega) km0 8 rfl, ?_⟩
      refine ⟨⟨by omega, by omega⟩, ?_⟩
      refine ⟨fun h => ?_, fun h => ?_⟩
      · exact ⟨rfl, 1, rfl, ⟨by omega, by omega⟩, hB⟩
      · exact ⟨rfl, by omega, rfl⟩
end

section
theorem cr_zp_add {x : Rat} (h : 0 < x) (a b : Int) : x ^ (a + b) = x ^ a * x ^ b := Rat.zpow_add (by grind) a b
theorem cr_nodup_list  {α : Type} (l : List α) : ∃ u : List α, u.Nodup ∧ ∀ x, x ∈ u ↔ x ∈ l := by
  classical
  induction l with
  | nil => exact ⟨[], by simp, fun x => Iff.rfl⟩
  | cons a l ih =>
    obtain ⟨u, hn, hm⟩ := ih
    by_cases ha : a ∈ u
    · exact ⟨u, hn, fun x => by
        rw [hm, List.mem_cons]
        exact ⟨fun h => .inr h, fun h => h.elim (fun e => e ▸ (hm a).1 ha) id⟩⟩
    · exact ⟨a :: u, List.nodup_cons.2 ⟨ha, hn⟩, fun x => by rw [List.mem_cons, List.mem_cons, hm]⟩
theorem cr_wl {n : Nat} (l : List (Fin n)) (hl : l.Nodup) (w a : Fin n → Int) (M : Int) (k : Fin n) : l.foldr (fun i s => (M * w i + if i = k then 1 else 0) * a i + s) 0 = M * l.foldr (fun i s => w i * a i + s) 0 + (if k ∈ l then a k else 0) := by
  induction l with
  | nil => rw [List.foldr_nil, List.foldr_nil, if_neg (by simp)]; omega
  | cons x l ih =>
    rw [List.nodup_cons] at hl
    rw [List.foldr_cons, List.foldr_cons, ih hl.2]
    by_cases hx : x = k
    · subst hx
      rw [if_pos rfl, if_neg hl.1, if_pos (by simp), Int.add_mul, Int.mul_add, Int.mul_assoc]; omega
    · rw [if_neg hx, Int.add_zero, Int.mul_add, Int.mul_assoc]
      by_cases hk : k ∈ l
      · rw [if_pos hk, if_pos (by simp [hk])]; omega
      · rw [if_neg hk, if_neg (by simp [hk]; exact fun e => hx e.symm)]; omega
theorem cr_weights {n : Nat} (L : List (Fin n → Int)) (hL : ∀ a ∈ L, a ≠ fun _ => 0) : ∃ w : Fin n → Int, ∀ a ∈ L, (List.finRange n).foldr (fun i s => w i * a i + s) 0 ≠ 0 := by
  induction L with
  | nil => exact ⟨fun _ => 0, fun a ha => by simp at ha⟩
  | cons a L ih =>
    obtain ⟨w, hw⟩ := ih (fun b hb => hL b (by simp [hb]))
    by_cases h0 : (List.finRange n).foldr (fun i s => w i * a i + s) 0 = 0
    · have : ∃ k, a k ≠ 0 := Classical.byContradiction (fun hno => hL a (by simp) (funext fun i => Classical.byContradiction (fun h => hno ⟨i, h⟩)))
      obtain ⟨k, hk⟩ := this
      have bound : ∃ M : Int, 0 < M ∧ ∀ b ∈ L, b k < M ∧ - M < b k := by
        clear hw h0 hL ih
        induction L with
        | nil => exact ⟨1, by omega, fun b hb => by simp at hb⟩
        | cons b L ih =>
          obtain ⟨M, hM, h⟩ := ih
          refine ⟨M + (b k).natAbs, by omega, fun c hc => ?_⟩
          rcases List.mem_cons.1 hc with rfl | hc
          · omega
          · have := h c hc; omega
      obtain ⟨M, hM, hb⟩ := bound
      refine ⟨fun i => M * w i + if i = k then 1 else 0, fun c hc => ?_⟩
      rw [cr_wl _ (List.nodup_finRange n) w c M k, if_pos (List.mem_finRange k)]
      rcases List.mem_cons.1 hc with rfl | hc
      · rw [h0]; omega
      · have h1 := hw c hc
        have h2 := hb c hc
        generalize (List.finRange n).foldr (fun i s => w i * c i + s) 0 = W at h1 ⊢
        by_cases hs : 0 < W
        · have := Int.mul_nonneg (by omega : 0 ≤ M) (by omega : 0 ≤ W - 1)
          rw [Int.mul_sub] at this; omega
        · have := Int.mul_nonneg (by omega : 0 ≤ M) (by omega : 0 ≤ - W - 1)
          rw [Int.mul_sub, Int.mul_neg] at this; omega
    · exact ⟨w, fun c hc => by rcases List.mem_cons.1 hc with rfl | hc; exact h0; exact hw c hc⟩
def cr_mo {n : Nat} (v : Fin n → Rat) (a : Fin n → Int) : Rat := (List.finRange n).foldr (fun j r => v j ^ a j * r) 1
def cr_mol {n : Nat} (l : List (Fin n)) (v : Fin n → Rat) (a : Fin n → Int) : Rat := l.foldr (fun j r => v j ^ a j * r) 1
theorem cr_mol_cons {n : Nat} (x : Fin n) (l : List (Fin n)) (v : Fin n → Rat) (a : Fin n → Int) : cr_mol (x :: l) v a = v x ^ a x * cr_mol l v a := rfl
theorem cr_mol_add {n : Nat} (l : List (Fin n)) {v : Fin n → Rat} (h : ∀ j, 0 < v j) (a b : Fin n → Int) : cr_mol l v (fun j => a j + b j) = cr_mol l v a * cr_mol l v b := by
  induction l with
  | nil => show (1 : Rat) = 1 * 1; grind
  | cons x l ih => rw [cr_mol_cons, cr_mol_cons, cr_mol_cons, ih, cr_zp_add (h x)]; grind
theorem cr_mol_pos {n : Nat} (l : List (Fin n)) {v : Fin n → Rat} (h : ∀ j, 0 < v j) (a : Fin n → Int) : 0 < cr_mol l v a := by
  induction l with
  | nil => show (0 : Rat) < 1; grind
  | cons x l ih => rw [cr_mol_cons]; exact Rat.mul_pos (Rat.zpow_pos (h x)) ih
theorem cr_mol_zero {n : Nat} (l : List (Fin n)) (v : Fin n → Rat) (a : Fin n → Int) (h : ∀ j ∈ l, a j = 0) : cr_mol l v a = 1 := by
  induction l with
  | nil => rfl
  | cons x l ih => rw [cr_mol_cons, ih (fun j hj => h j (by simp [hj])), h x (by simp), Rat.zpow_zero]; grind
theorem cr_mol_congr {n : Nat} (l : List (Fin n)) {v v' : Fin n → Rat} {a a' : Fin n → Int} (h : ∀ j ∈ l, v j ^ a j = v' j ^ a' j) : cr_mol l v a = cr_mol l v' a' := by
  induction l with
  | nil => rfl
  | cons x l ih => rw [cr_mol_cons, cr_mol_cons, ih (fun j hj => h j (by simp [hj])), h x (by simp)]
theorem cr_one_zp  (z : Int) : (1 : Rat) ^ z = 1 := by
  have : ∀ j : Nat, (1 : Rat) ^ (j : Int) = 1 := fun j => by
    induction j with
    | zero => exact Rat.zpow_zero 1
    | succ j ih => rw [show ((j + 1 : Nat) : Int) = (j : Int) + 1 by omega, cr_zp_add (by grind), ih, Rat.zpow_one]; grind
  rcases Int.eq_nat_or_neg z with ⟨j, rfl | rfl⟩
  · exact this j
  · rw [Rat.zpow_neg, this j]; have h : (1 : Rat)⁻¹ * 1 = 1 := Rat.inv_mul_cancel _ (by grind)
    rw [Rat.mul_one] at h; exact h
theorem cr_mul_zp  {x y : Rat} (hx : 0 < x) (hy : 0 < y) (z : Int) : (x * y) ^ z = x ^ z * y ^ z := by
  have hxy := Rat.mul_pos hx hy
  have main : ∀ j : Nat, (x * y) ^ (j : Int) = x ^ (j : Int) * y ^ (j : Int) := fun j => by
    induction j with
    | zero => show (x * y) ^ (0 : Int) = x ^ (0 : Int) * y ^ (0 : Int); rw [Rat.zpow_zero, Rat.zpow_zero, Rat.zpow_zero]; grind
    | succ j ih =>
      rw [show ((j + 1 : Nat) : Int) = (j : Int) + 1 by omega, cr_zp_add hxy, cr_zp_add hx, cr_zp_add hy, ih, Rat.zpow_one, Rat.zpow_one, Rat.zpow_one]; grind
  rcases Int.eq_nat_or_neg z with ⟨j, rfl | rfl⟩
  · exact main j
  · rw [Rat.zpow_neg, Rat.zpow_neg, Rat.zpow_neg, main j, Rat.inv_mul_rev]; grind
theorem cr_zp_mul  {x : Rat} (hx : 0 < x) (a z : Int) : x ^ (a * z) = (x ^ a) ^ z := by
  have hxa : 0 < x ^ a := Rat.zpow_pos hx
  have main : ∀ j : Nat, x ^ (a * (j : Int)) = (x ^ a) ^ (j : Int) := fun j => by
    induction j with
    | zero => show x ^ (a * (0 : Int)) = (x ^ a) ^ (0 : Int); rw [Int.mul_zero, Rat.zpow_zero, Rat.zpow_zero]
    | succ j ih =>
      rw [show ((j + 1 : Nat) : Int) = (j : Int) + 1 by omega, Int.mul_add, cr_zp_add hx, cr_zp_add hxa, ih, Int.mul_one, Rat.zpow_one]
  rcases Int.eq_nat_or_neg z with ⟨j, rfl | rfl⟩
  · exact main j
  · rw [Int.mul_neg, Rat.zpow_neg, Rat.zpow_neg, main j]
theorem cr_mol_pow {n : Nat} (l : List (Fin n)) {v : Fin n → Rat} (h : ∀ j, 0 < v j) (a : Fin n → Int) (z : Int) : cr_mol l v (fun j => a j * z) = cr_mol l v a ^ z := by
  induction l with
  | nil => show (1 : Rat) = 1 ^ z; rw [cr_one_zp]
  | cons x l ih => rw [cr_mol_cons, cr_mol_cons, ih, cr_mul_zp (Rat.zpow_pos (h x)) (cr_mol_pos l h a), cr_zp_mul (h x)]
theorem cr_mol_split {n : Nat} {l : List (Fin n)} (hn : l.Nodup) {k : Fin n} (hk : k ∈ l) (v : Fin n → Rat) (a : Fin n → Int) : cr_mol l v a = v k ^ a k * cr_mol l v (fun j => if j = k then 0 else a j) := by
  induction l with
  | nil => simp at hk
  | cons x l ih =>
    rw [List.nodup_cons] at hn
    rw [cr_mol_cons, cr_mol_cons]
    by_cases hx : x = k
    · subst hx
      rw [if_pos rfl, Rat.zpow_zero, Rat.one_mul]
      congr 1
      exact cr_mol_congr l (fun j hj => by rw [if_neg (fun e : j = x => hn.1 (by rw [← e]; exact hj))])
    · rw [if_neg hx, ih hn.2 (by rcases List.mem_cons.1 hk with h | h; exact absurd h.symm hx; exact h)]; grind
theorem cr_mo_add {n : Nat} {v : Fin n → Rat} (h : ∀ j, 0 < v j) (a b : Fin n → Int) : cr_mo v (fun j => a j + b j) = cr_mo v a * cr_mo v b := cr_mol_add _ h a b
theorem cr_mo_pos {n : Nat} {v : Fin n → Rat} (h : ∀ j, 0 < v j) (a : Fin n → Int) : 0 < cr_mo v a := cr_mol_pos _ h a
theorem cr_mo_pow {n : Nat} {v : Fin n → Rat} (h : ∀ j, 0 < v j) (a : Fin n → Int) (z : Int) : cr_mo v (fun j => a j * z) = cr_mo v a ^ z := cr_mol_pow _ h a z
theorem cr_mo_split {n : Nat} (k : Fin n) (v : Fin n → Rat) (a : Fin n → Int) : cr_mo v a = v k ^ a k * cr_mo v (fun j => if j = k then 0 else a j) := cr_mol_split (List.nodup_finRange n) (List.mem_finRange k) v a
theorem cr_mo_congr {n : Nat} {v v' : Fin n → Rat} {a a' : Fin n → Int} (h : ∀ j, v j ^ a j = v' j ^ a' j) : cr_mo v a = cr_mo v' a' := cr_mol_congr _ (fun j _ => h j)
def cr_stepv {n : Nat} (b : Fin n → Fin n → Int) (k : Fin n) (v : Fin n → Rat) : Fin n → Rat := fun j =>
  if j = k then (cr_mo v (fun i => (cx_pos (b i k) : Int)) + cr_mo v (fun i => (cx_pos (- b i k) : Int))) * (v k)⁻¹ else v j
theorem cr_stepv_pos {n : Nat} (b : Fin n → Fin n → Int) (k : Fin n) {v : Fin n → Rat} (h : ∀ j, 0 < v j) (j : Fin n) : 0 < cr_stepv b k v j := by
  unfold cr_stepv
  by_cases hj : j = k
  · rw [if_pos hj]
    have h1 := cr_mo_pos h (fun i => (cx_pos (b i k) : Int))
    have h2 := cr_mo_pos h (fun i => (cx_pos (- b i k) : Int))
    exact Rat.mul_pos (by grind) (Rat.inv_pos.2 (h k))
  · rw [if_neg hj]; exact h j
theorem cr_stepv_neg {n : Nat} {b b' : Fin n → Fin n → Int} {k : Fin n} (h : ∀ i, b' i k = - b i k) (v : Fin n → Rat) : cr_stepv b' k v = cr_stepv b k v := by
  funext j
  unfold cr_stepv
  by_cases hj : j = k
  · rw [if_pos hj, if_pos hj]
    have e1 : (fun i => (cx_pos (b' i k) : Int)) = fun i => (cx_pos (- b i k) : Int) := funext fun i => by rw [h i]
    have e2 : (fun i => (cx_pos (- b' i k) : Int)) = fun i => (cx_pos (b i k) : Int) := funext fun i => by rw [h i, Int.neg_neg]
    rw [e1, e2]; grind
  · rw [if_neg hj, if_neg hj]
theorem cr_posI2  (x : Int) : (cx_pos (-x) : Int) + x = (cx_pos x : Int) := by unfold cx_pos; omega
def cr_Pv  (n : Nat) := { x : Fin n → Rat // ∀ j, 0 < x j }
abbrev cr_Xp  (n : Nat) := Fin n → Int
abbrev cr_Pl_  (n : Nat) := List (Int × cr_Xp n)
noncomputable def cr_co {n : Nat} (l : cr_Pl_ n) (a : cr_Xp n) : Int := (l.map fun y => @ite _ (y.2 = a) (Classical.propDecidable _) y.1 0).sum
def cr_vl {n : Nat} (x : Fin n → Rat) (l : cr_Pl_ n) : Rat := cx_sm l (fun y => (y.1 : Rat) * cr_mo x y.2)
theorem cr_co_nil {n : Nat} (a : cr_Xp n) : cr_co [] a = 0 := rfl
theorem cr_co_cons {n : Nat} (y : Int × cr_Xp n) (l : cr_Pl_ n) (a : cr_Xp n) : cr_co (y :: l) a = (@ite _ (y.2 = a) (Classical.propDecidable _) y.1 0) + cr_co l a := rfl
theorem cr_co_app {n : Nat} (l l' : cr_Pl_ n) (a : cr_Xp n) : cr_co (l ++ l') a = cr_co l a + cr_co l' a := by
  induction l with
  | nil => rw [List.nil_append, cr_co_nil]; omega
  | cons y l ih => rw [List.cons_append, cr_co_cons, cr_co_cons, ih]; omega
theorem cr_vl_nil {n : Nat} (x : Fin n → Rat) : cr_vl x [] = 0 := rfl
theorem cr_vl_cons {n : Nat} (x : Fin n → Rat) (y : Int × cr_Xp n) (l : cr_Pl_ n) : cr_vl x (y :: l) = (y.1 : Rat) * cr_mo x y.2 + cr_vl x l := rfl
theorem cr_vl_app {n : Nat} (x : Fin n → Rat) (l l' : cr_Pl_ n) : cr_vl x (l ++ l') = cr_vl x l + cr_vl x l' := cx_sm_append _ _ _
theorem cr_vl_list {n : Nat} {U : List (cr_Xp n)} (hn : U.Nodup) (x : Fin n → Rat) (l : cr_Pl_ n) (h : ∀ y ∈ l, y.2 ∈ U) : cr_vl x l = cx_sm U (fun a => (cr_co l a : Rat) * cr_mo x a) := by
  classical
  induction l with
  | nil => exact (cx_sm_zero (fun b _ => by rw [cr_co_nil, show ((0 : Int) : Rat) = 0 from rfl]; grind)).symm
  | cons y l ih =>
    have ih := ih (fun z hz => h z (by simp [hz]))
    rw [cr_vl_cons, ih]
    have e1 : cx_sm U (fun a => (cr_co (y :: l) a : Rat) * cr_mo x a) = cx_sm U (fun a => (if y.2 = a then (y.1 : Rat) else 0) * cr_mo x a) + cx_sm U (fun a => (cr_co l a : Rat) * cr_mo x a) := by
      rw [← cx_sm_add]
      refine cx_sm_congr (fun a _ => ?_)
      rw [cr_co_cons]
      by_cases ha : y.2 = a
      · rw [if_pos ha, if_pos ha]
        have : ((y.1 + cr_co l a : Int) : Rat) = (y.1 : Rat) + (cr_co l a : Rat) := by exact_mod_cast rfl
        rw [this]; grind
      · rw [if_neg ha, if_neg ha]
        have : ((0 + cr_co l a : Int) : Rat) = (cr_co l a : Rat) := by rw [Int.zero_add]
        rw [this]; grind
    have e2 : ∀ U : List (cr_Xp n), U.Nodup → y.2 ∈ U → cx_sm U (fun a => (if y.2 = a then (y.1 : Rat) else 0) * cr_mo x a) = (y.1 : Rat) * cr_mo x y.2 := by
      intro U
      induction U with
      | nil => intro _ h; simp at h
      | cons a U ihU =>
        intro hn hm
        rw [List.nodup_cons] at hn
        rw [cx_sm_cons]
        by_cases ha : y.2 = a
        · have e3 : cx_sm U (fun b => (if y.2 = b then (y.1 : Rat) else 0) * cr_mo x b) = 0 := cx_sm_zero (fun b hb => by
            rw [if_neg (fun e : y.2 = b => hn.1 (by rw [← ha, e]; exact hb))]; grind)
          rw [e3, if_pos ha, ha]; grind
        · rw [ihU hn.2 (by rcases List.mem_cons.1 hm with h | h; exact absurd h ha; exact h), if_neg ha]; grind
    rw [e1, e2 U hn (h y (by simp))]
theorem cr_vl_co {n : Nat} (x : Fin n → Rat) {l l' : cr_Pl_ n} (h : ∀ a, cr_co l a = cr_co l' a) : cr_vl x l = cr_vl x l' := by
  obtain ⟨U, hn, hm⟩ := cr_nodup_list ((l ++ l').map (·.2))
  rw [cr_vl_list hn x l (fun y hy => (hm _).2 (List.mem_map.2 ⟨y, by simp [hy], rfl⟩)), cr_vl_list hn x l' (fun y hy => (hm _).2 (List.mem_map.2 ⟨y, by simp [hy], rfl⟩))]
  exact cx_sm_congr (fun a _ => by rw [h a])
def cr_shz {n : Nat} (y : Int × cr_Xp n) (l : cr_Pl_ n) : cr_Pl_ n := l.map fun z => (y.1 * z.1, fun i => y.2 i + z.2 i)
def cr_pmz {n : Nat} (l l' : cr_Pl_ n) : cr_Pl_ n := l.flatMap fun y => cr_shz y l'
theorem cr_vl_shz {n : Nat} {x : Fin n → Rat} (hx : ∀ j, 0 < x j) (y : Int × cr_Xp n) (l : cr_Pl_ n) : cr_vl x (cr_shz y l) = (y.1 : Rat) * cr_mo x y.2 * cr_vl x l := by
  unfold cr_vl cr_shz
  rw [cx_sm_map, ← cx_sm_mulL]
  refine cx_sm_congr (fun z _ => ?_)
  rw [cr_mo_add hx]
  have : ((y.1 * z.1 : Int) : Rat) = (y.1 : Rat) * (z.1 : Rat) := by exact_mod_cast rfl
  rw [this]; grind
theorem cr_vl_pmz {n : Nat} {x : Fin n → Rat} (hx : ∀ j, 0 < x j) (l l' : cr_Pl_ n) : cr_vl x (cr_pmz l l') = cr_vl x l * cr_vl x l' := by
  induction l with
  | nil => show (0 : Rat) = 0 * _; grind
  | cons y l ih =>
    show cr_vl x (List.flatMap _ (y :: l)) = _
    rw [List.flatMap_cons, cr_vl_app, cr_vl_shz hx]
    have : cr_vl x (List.flatMap (fun y => cr_shz y l') l) = cr_vl x l * cr_vl x l' := ih
    rw [this, cr_vl_cons]; grind
theorem cr_co_shz {n : Nat} (y : Int × cr_Xp n) (l : cr_Pl_ n) (a : cr_Xp n) : cr_co (cr_shz y l) a = y.1 * cr_co l (fun i => a i - y.2 i) := by
  classical
  induction l with
  | nil => show (0 : Int) = y.1 * 0; omega
  | cons z l ih =>
    show cr_co ((y.1 * z.1, fun i => y.2 i + z.2 i) :: cr_shz y l) a = _
    rw [cr_co_cons, cr_co_cons, ih]
    by_cases h : z.2 = fun i => a i - y.2 i
    · rw [if_pos (by funext i; show y.2 i + z.2 i = a i; rw [h]; show y.2 i + (a i - y.2 i) = a i; omega), if_pos h, Int.mul_add]
    · rw [if_neg (fun e => h (by funext i; have := congrFun e i; have h2 : y.2 i + z.2 i = a i := this; omega)), if_neg h]; grind
theorem cr_co_pmz {n : Nat} (l l' : cr_Pl_ n) (a : cr_Xp n) : cr_co (cr_pmz l l') a = (l.map fun y => y.1 * cr_co l' (fun i => a i - y.2 i)).sum := by
  induction l with
  | nil => rfl
  | cons y l ih =>
    show cr_co (List.flatMap _ (y :: l)) a = _
    rw [List.flatMap_cons, cr_co_app, cr_co_shz, List.map_cons, List.sum_cons]
    congr 1
theorem cr_den_mul  (q : Rat) : (q.den : Rat) * q = (q.num : Rat) := by
  have h : (q.num : Rat) / (q.den : Rat) = q := by rw [← Rat.mkRat_eq_div, Rat.mkRat_self]
  have hd : ((q.den : Nat) : Rat) ≠ 0 := by
    intro e
    have : q.den = 0 := by exact_mod_cast e
    exact q.den_nz this
  have h2 : (q.num : Rat) / (q.den : Rat) * (q.den : Rat) = q.num := Rat.div_mul_cancel hd
  rw [h] at h2
  grind
def cr_wd {n : Nat} (w a : cr_Xp n) : Int := (List.finRange n).foldr (fun i s => w i * a i + s) 0
theorem cr_wd_sub {n : Nat} (w a b : cr_Xp n) : cr_wd w (fun i => a i - b i) = cr_wd w a - cr_wd w b := by
  unfold cr_wd
  generalize List.finRange n = l
  induction l with
  | nil => rfl
  | cons i l ih =>
    rw [List.foldr_cons, List.foldr_cons, List.foldr_cons, ih, Int.mul_sub]; omega
theorem cr_mo_wd {n : Nat} {T : Rat} (hT : 0 < T) (w a : cr_Xp n) : cr_mo (fun i => T ^ w i) a = T ^ cr_wd w a := by
  unfold cr_mo cr_wd
  generalize List.finRange n = l
  induction l with
  | nil => exact (Rat.zpow_zero T).symm
  | cons i l ih => rw [List.foldr_cons, List.foldr_cons, ih, cr_zp_add hT, ← cr_zp_mul hT]
theorem cr_zp_nat_ge  {T : Rat} (hT : 1 ≤ T) (j : Nat) : 1 ≤ T ^ (j : Int) := by
  have h0 : 0 < T := by grind
  induction j with
  | zero => show 1 ≤ T ^ (0 : Int); rw [Rat.zpow_zero]; grind
  | succ j ih =>
    rw [show ((j + 1 : Nat) : Int) = (j : Int) + 1 by omega, cr_zp_add h0, Rat.zpow_one]
    have := Rat.mul_nonneg (by grind : 0 ≤ T ^ (j : Int) - 1) (by grind : 0 ≤ T)
    grind
theorem cr_zp_mono  {T : Rat} (hT : 1 ≤ T) {a b : Int} (h : a ≤ b) : T ^ a ≤ T ^ b := by
  have h0 : 0 < T := by grind
  obtain ⟨j, rfl⟩ : ∃ j : Nat, b = a + (j : Int) := ⟨(b - a).toNat, by omega⟩
  rw [cr_zp_add h0]
  have h1 := cr_zp_nat_ge hT j
  have h2 : 0 < T ^ a := Rat.zpow_pos h0
  have := Rat.mul_nonneg (by grind : 0 ≤ T ^ a) (by grind : 0 ≤ T ^ (j : Int) - 1)
  grind
theorem cr_most  {α : Type} (l : List α) (f : α → Int) (h : l ≠ []) : ∃ a ∈ l, ∀ b ∈ l, f b ≤ f a := by
  induction l with
  | nil => exact absurd rfl h
  | cons x l ih =>
    by_cases hl : l = []
    · subst hl; exact ⟨x, by simp, fun b hb => by simp at hb; subst hb; omega⟩
    · obtain ⟨a, ha, hm⟩ := ih hl
      by_cases hx : f a ≤ f x
      · exact ⟨x, by simp, fun b hb => by
          rcases List.mem_cons.1 hb with rfl | hb
          · omega
          · have := hm b hb; omega⟩
      · exact ⟨a, by simp [ha], fun b hb => by
          rcases List.mem_cons.1 hb with rfl | hb
          · omega
          · exact hm b hb⟩
theorem cr_vanish {n : Nat} {U : List (cr_Xp n)} (hU : U.Nodup) (c : cr_Xp n → Int) (h : ∀ x : cr_Pv n, cx_sm U (fun a => (c a : Rat) * cr_mo x.1 a) = 0) : ∀ a ∈ U, c a = 0 := by
  classical

  let V := U.filter (fun a => decide (c a ≠ 0))
  have hV : ∀ x : cr_Pv n, cx_sm V (fun a => (c a : Rat) * cr_mo x.1 a) = 0 := fun x => by
    refine Eq.trans ?_ (h x)
    refine (cx_sm_filter U _ _ (fun a _ ha => ?_)).symm
    have : c a = 0 := by simpa using ha
    rw [this, show ((0 : Int) : Rat) = 0 from rfl]; grind
  have hmem : ∀ a, a ∈ V ↔ a ∈ U ∧ c a ≠ 0 := fun a => by
    show a ∈ U.filter _ ↔ _
    rw [List.mem_filter, decide_eq_true_eq]
  by_cases hne : V = []
  · intro a ha
    refine Classical.byContradiction (fun h0 => ?_)
    have := (hmem a).2 ⟨ha, h0⟩
    rw [hne] at this
    simp at this
  exfalso
  obtain ⟨w, hw⟩ := cr_weights ((V.flatMap fun a => (V.filter fun b => decide (b ≠ a)).map fun b => fun i => a i - b i)) (by
    intro z hz
    obtain ⟨a, ha, hz⟩ := List.mem_flatMap.1 hz
    obtain ⟨b, hb, rfl⟩ := List.mem_map.1 hz
    have hb := List.mem_filter.1 hb
    have hne : b ≠ a := by simpa using hb.2
    intro e
    apply hne
    funext i
    have h1 : a i - b i = 0 := congrFun e i
    omega)
  have hw' : ∀ a ∈ V, ∀ b ∈ V, b ≠ a → cr_wd w a ≠ cr_wd w b := by
    intro a ha b hb hne e
    refine hw (fun i => a i - b i) (List.mem_flatMap.2 ⟨a, ha, List.mem_map.2 ⟨b, List.mem_filter.2 ⟨hb, by simpa using hne⟩, rfl⟩⟩) ?_
    have := cr_wd_sub w a b
    unfold cr_wd at this e
    rw [this]; omega
  obtain ⟨a, ha, hmax⟩ := cr_most V (cr_wd w) hne

  let R := V.filter (fun b => decide (b ≠ a))
  let C : Rat := cx_sm R (fun b => ((c b).natAbs : Rat))
  have hC0 : 0 ≤ C := cx_sm_nonneg (fun b _ => cx_natR_nonneg _)
  let T : Rat := C + 1
  have hT1 : 1 ≤ T := by show 1 ≤ C + 1; grind
  have hT0 : 0 < T := by grind
  let x : cr_Pv n := ⟨fun i => T ^ w i, fun i => Rat.zpow_pos hT0⟩
  have h1 := hV x
  have hVn : V.Nodup := hU.sublist List.filter_sublist
  have hsplit : ∀ V : List (cr_Xp n), V.Nodup → a ∈ V → cx_sm V (fun b => (c b : Rat) * cr_mo x.1 b) = (c a : Rat) * cr_mo x.1 a + cx_sm (V.filter (fun b => decide (b ≠ a))) (fun b => (c b : Rat) * cr_mo x.1 b) := by
    intro V
    induction V with
    | nil => intro _ h; simp at h
    | cons z V ih =>
      intro hn hm
      rw [List.nodup_cons] at hn
      by_cases hz : z = a
      · subst hz
        rw [List.filter_cons_of_neg (by simp), cx_sm_cons]
        congr 1
        rw [List.filter_eq_self.2 (fun b hb => by
          have : b ≠ z := fun e => hn.1 (by rw [← e]; exact hb)
          simpa using this)]
      · rw [List.filter_cons_of_pos (by simpa using hz), cx_sm_cons, cx_sm_cons, ih hn.2 (by rcases List.mem_cons.1 hm with h | h; exact absurd h.symm hz; exact h)]; grind
  rw [hsplit V hVn ha] at h1
  have hmo : ∀ b, cr_mo x.1 b = T ^ cr_wd w b := fun b => cr_mo_wd hT0 w b

  have hR : ∀ R : List (cr_Xp n), (∀ b ∈ R, cr_wd w b ≤ cr_wd w a - 1) → - (cx_sm R (fun b => ((c b).natAbs : Rat)) * T ^ (cr_wd w a - 1)) ≤ cx_sm R (fun b => (c b : Rat) * cr_mo x.1 b) ∧ cx_sm R (fun b => (c b : Rat) * cr_mo x.1 b) ≤ cx_sm R (fun b => ((c b).natAbs : Rat)) * T ^ (cr_wd w a - 1) := by
    intro R
    induction R with
    | nil => intro _; rw [cx_sm_nil, cx_sm_nil]; constructor <;> grind
    | cons b R ih =>
      intro hb
      have ih := ih (fun z hz => hb z (by simp [hz]))
      rw [cx_sm_cons, cx_sm_cons, hmo b]
      have h2 := cr_zp_mono hT1 (hb b (by simp))
      have h3 : 0 < T ^ cr_wd w b := Rat.zpow_pos hT0
      have h4 := cx_natR_nonneg (c b).natAbs
      have h5 : (c b : Rat) ≤ ((c b).natAbs : Rat) := by
        have : c b ≤ ((c b).natAbs : Int) := Int.le_natAbs
        exact_mod_cast this
      have h6 : -((c b).natAbs : Rat) ≤ (c b : Rat) := by
        have : -((c b).natAbs : Int) ≤ c b := by omega
        have e : (-((c b).natAbs : Int) : Rat) = ((-((c b).natAbs : Int) : Int) : Rat) := by exact_mod_cast rfl
        have h7 : ((-((c b).natAbs : Int) : Int) : Rat) ≤ ((c b : Int) : Rat) := by exact_mod_cast this
        have e2 : ((-((c b).natAbs : Int) : Int) : Rat) = -((c b).natAbs : Rat) := by exact_mod_cast rfl
        rw [e2] at h7
        exact h7
      have m1 := Rat.mul_nonneg (by grind : 0 ≤ ((c b).natAbs : Rat) - (c b : Rat)) (by grind : 0 ≤ T ^ cr_wd w b)
      have m2 := Rat.mul_nonneg (by grind : 0 ≤ ((c b).natAbs : Rat) + (c b : Rat)) (by grind : 0 ≤ T ^ cr_wd w b)
      have m3 := Rat.mul_nonneg h4 (by grind : 0 ≤ T ^ (cr_wd w a - 1) - T ^ cr_wd w b)
      constructor <;> grind
  have hRb : ∀ b ∈ R, cr_wd w b ≤ cr_wd w a - 1 := by
    intro b hb
    have hb := List.mem_filter.1 hb
    have hne : b ≠ a := by simpa using hb.2
    have h2 := hmax b hb.1
    have h3 := hw' a ha b hb.1 hne
    omega
  have hb := hR R hRb
  rw [hmo a] at h1
  have e5 : T ^ cr_wd w a = T ^ (cr_wd w a - 1) * T := by
    have : cr_wd w a = (cr_wd w a - 1) + 1 := by omega
    rw [this, cr_zp_add hT0, Rat.zpow_one]
    congr 2
    omega
  have hp : 0 < T ^ (cr_wd w a - 1) := Rat.zpow_pos hT0
  have hca : c a ≠ 0 := ((hmem a).1 ha).2
  have hh : cx_sm R (fun b => (c b : Rat) * cr_mo x.1 b) = - ((c a : Rat) * (T ^ (cr_wd w a - 1) * T)) := by
    rw [e5] at h1
    have h1 : (c a : Rat) * (T ^ (cr_wd w a - 1) * T) + cx_sm R (fun b => (c b : Rat) * cr_mo x.1 b) = 0 := h1
    grind
  rw [hh] at hb
  have hb1 : -(C * T ^ (cr_wd w a - 1)) ≤ -((c a : Rat) * (T ^ (cr_wd w a - 1) * T)) := hb.1
  have hb2 : -((c a : Rat) * (T ^ (cr_wd w a - 1) * T)) ≤ C * T ^ (cr_wd w a - 1) := hb.2
  have hTC : T = C + 1 := rfl
  by_cases hs : 0 < c a
  · have h7 : (1 : Rat) ≤ (c a : Rat) := by exact_mod_cast hs
    have m1 := Rat.mul_nonneg (by grind : 0 ≤ (c a : Rat) - 1) (by have := Rat.mul_pos hp hT0; grind : 0 ≤ T ^ (cr_wd w a - 1) * T)
    rw [hTC] at m1 hb1 hp
    grind
  · have h7 : (c a : Rat) ≤ -1 := by
      have h8 : c a ≤ -1 := by omega
      have h9 : ((c a : Int) : Rat) ≤ ((-1 : Int) : Rat) := by exact_mod_cast h8
      have e9 : ((-1 : Int) : Rat) = -1 := by exact_mod_cast rfl
      rw [e9] at h9
      exact h9
    have m1 := Rat.mul_nonneg (by grind : 0 ≤ -1 - (c a : Rat)) (by have := Rat.mul_pos hp hT0; grind : 0 ≤ T ^ (cr_wd w a - 1) * T)
    rw [hTC] at m1 hb2 hp
    grind
theorem cr_vl_unique {n : Nat} {l l' : cr_Pl_ n} (h : ∀ x : cr_Pv n, cr_vl x.1 l = cr_vl x.1 l') : ∀ a, cr_co l a = cr_co l' a := by
  classical
  obtain ⟨U, hn, hm⟩ := cr_nodup_list ((l ++ l').map (·.2))
  have hl : ∀ y ∈ l, y.2 ∈ U := fun y hy => (hm _).2 (List.mem_map.2 ⟨y, by simp [hy], rfl⟩)
  have hl' : ∀ y ∈ l', y.2 ∈ U := fun y hy => (hm _).2 (List.mem_map.2 ⟨y, by simp [hy], rfl⟩)
  have hv := cr_vanish hn (fun a => cr_co l a - cr_co l' a) (fun x => by
    have h1 := h x
    rw [cr_vl_list hn x.1 l hl, cr_vl_list hn x.1 l' hl'] at h1
    have e : cx_sm U (fun a => ((cr_co l a - cr_co l' a : Int) : Rat) * cr_mo x.1 a) = cx_sm U (fun a => (cr_co l a : Rat) * cr_mo x.1 a) + (-1) * cx_sm U (fun a => (cr_co l' a : Rat) * cr_mo x.1 a) := by
      rw [← cx_sm_mulL, ← cx_sm_add]
      refine cx_sm_congr (fun a _ => ?_)
      have : ((cr_co l a - cr_co l' a : Int) : Rat) = (cr_co l a : Rat) - (cr_co l' a : Rat) := by exact_mod_cast rfl
      rw [this]; grind
    rw [e, h1]; grind)
  intro a
  by_cases ha : a ∈ U
  · have := hv a ha; omega
  · have z : ∀ l : cr_Pl_ n, (∀ y ∈ l, y.2 ∈ U) → cr_co l a = 0 := by
      intro l hl
      induction l with
      | nil => rfl
      | cons y l ih => rw [cr_co_cons, if_neg (fun e : y.2 = a => ha (by rw [← e]; exact hl y (by simp))), ih (fun z hz => hl z (by simp [hz]))]; omega
    rw [z l hl, z l' hl']

def cr_Gt {n : Nat} (a b : cr_Xp n) : Prop := ∃ i, (∀ j, j < i → a j = b j) ∧ b i < a i
theorem cr_Gt.irrefl {n : Nat} (a : cr_Xp n) : ¬ cr_Gt a a := fun ⟨i, _, h⟩ => by omega
theorem cr_Gt.trans {n : Nat} {a b c : cr_Xp n} (h : cr_Gt a b) (h' : cr_Gt b c) : cr_Gt a c := by
  obtain ⟨i, h1, h2⟩ := h
  obtain ⟨j, h3, h4⟩ := h'
  by_cases hij : i < j
  · exact ⟨i, fun l hl => (h1 l hl).trans (h3 l (by omega)), by rw [← h3 i hij]; exact h2⟩
  · by_cases hji : j < i
    · exact ⟨j, fun l hl => (h1 l (by omega)).trans (h3 l hl), by rw [h1 j hji]; exact h4⟩
    · have : i = j := by omega
      subst this
      exact ⟨i, fun l hl => (h1 l hl).trans (h3 l hl), by omega⟩
theorem cr_Gt.total {n : Nat} (a b : cr_Xp n) : a = b ∨ cr_Gt a b ∨ cr_Gt b a := by
  by_cases h : ∃ i, a i ≠ b i
  · right

    have : ∃ i, a i ≠ b i ∧ ∀ j, j < i → a j = b j := by
      obtain ⟨i, hi⟩ := h
      have main : ∀ m : Nat, ∀ i : Fin n, i.1 < m → a i ≠ b i → ∃ i, a i ≠ b i ∧ ∀ j, j < i → a j = b j := by
        intro m
        induction m with
        | zero => intro i h; omega
        | succ m ih =>
          intro i him hi
          by_cases hj : ∃ j, j < i ∧ a j ≠ b j
          · obtain ⟨j, hj, hne⟩ := hj
            exact ih j (by omega) hne
          · exact ⟨i, hi, fun j hj' => Classical.byContradiction (fun hne => hj ⟨j, hj', hne⟩)⟩
      exact main (i.1 + 1) i (by omega) hi
    obtain ⟨i, hi, hlt⟩ := this
    by_cases hc : b i < a i
    · exact .inl ⟨i, hlt, hc⟩
    · exact .inr ⟨i, fun j hj => (hlt j hj).symm, by omega⟩
  · left
    funext i
    exact Classical.byContradiction (fun hne => h ⟨i, hne⟩)
theorem cr_Gt.add {n : Nat} {a b : cr_Xp n} (h : cr_Gt a b) (c : cr_Xp n) : cr_Gt (fun i => a i + c i) (fun i => b i + c i) := by
  obtain ⟨i, h1, h2⟩ := h
  exact ⟨i, fun j hj => by show a j + c j = b j + c j; rw [h1 j hj], by show b i + c i < a i + c i; omega⟩
theorem cr_Gt.asymm {n : Nat} {a b : cr_Xp n} (h : cr_Gt a b) : ¬ cr_Gt b a := fun h' => cr_Gt.irrefl a (h.trans h')
abbrev cr_Shr {n : Nat} (l : cr_Pl_ n) : Prop := (l.Pairwise (fun y z => cr_Gt y.2 z.2)) ∧ (∀ y ∈ l, 0 < y.1)
theorem cr_Shr.srt {n : Nat} {l : cr_Pl_ n} (hh_ : cr_Shr l) : l.Pairwise (fun y z => cr_Gt y.2 z.2) := hh_.1
theorem cr_Shr.pos {n : Nat} {l : cr_Pl_ n} (hh_ : cr_Shr l) : ∀ y ∈ l, 0 < y.1 := hh_.2
theorem cr_Shr.tail {n : Nat} {y : Int × cr_Xp n} {l : cr_Pl_ n} (h : cr_Shr (y :: l)) : cr_Shr l := ⟨(List.pairwise_cons.1 h.srt).2, fun z hz => h.pos z (by simp [hz])⟩
theorem cr_co_none {n : Nat} {l : cr_Pl_ n} {a : cr_Xp n} (h : ∀ y ∈ l, y.2 ≠ a) : cr_co l a = 0 := by
  classical
  induction l with
  | nil => rfl
  | cons y l ih => rw [cr_co_cons, if_neg (h y (by simp)), ih (fun z hz => h z (by simp [hz]))]; omega
theorem cr_Shr.at {n : Nat} {l : cr_Pl_ n} (h : cr_Shr l) {y : Int × cr_Xp n} (hy : y ∈ l) : cr_co l y.2 = y.1 := by
  classical
  induction l with
  | nil => simp at hy
  | cons z l ih =>
    have hs := List.pairwise_cons.1 h.srt
    rw [cr_co_cons]
    rcases List.mem_cons.1 hy with rfl | hy
    · rw [if_pos rfl, cr_co_none (fun z hz e => cr_Gt.irrefl y.2 (by have := hs.1 z hz; rw [e] at this; exact this))]; omega
    · rw [if_neg (fun e : z.2 = y.2 => cr_Gt.irrefl y.2 (by have := hs.1 y hy; rw [e] at this; exact this)), ih h.tail hy]; omega
theorem cr_Shr.nonneg {n : Nat} {l : cr_Pl_ n} (h : ∀ y ∈ l, 0 < y.1) (a : cr_Xp n) : 0 ≤ cr_co l a := by
  classical
  induction l with
  | nil => exact Int.le_refl 0
  | cons y l ih =>
    rw [cr_co_cons]
    have h1 := ih (fun z hz => h z (by simp [hz]))
    have h2 := h y (by simp)
    by_cases e : y.2 = a
    · rw [if_pos e]; omega
    · rw [if_neg e]; omega
theorem cr_co_mem {n : Nat} {l : cr_Pl_ n} {a : cr_Xp n} (h : cr_co l a ≠ 0) : ∃ y ∈ l, y.2 = a := by
  refine Classical.byContradiction (fun hno => h (cr_co_none (fun y hy e => hno ⟨y, hy, e⟩)))
theorem cr_Shr.eq {n : Nat} : ∀ {l l' : cr_Pl_ n}, cr_Shr l → cr_Shr l' → (∀ a, cr_co l a = cr_co l' a) → l = l'
  | [], [], _, _, _ => rfl
  | [], y :: l', _, h', e => by
    exfalso
    have := h'.at (y := y) (by simp)
    have h2 := h'.pos y (by simp)
    rw [← e] at this
    have : cr_co ([] : cr_Pl_ n) y.2 = 0 := rfl
    omega
  | y :: l, [], h, _, e => by
    exfalso
    have := h.at (y := y) (by simp)
    have h2 := h.pos y (by simp)
    rw [e] at this
    have : cr_co ([] : cr_Pl_ n) y.2 = 0 := rfl
    omega
  | y :: l, z :: l', h, h', e => by
    have hs := List.pairwise_cons.1 h.srt
    have hs' := List.pairwise_cons.1 h'.srt
    have hyz : y.2 = z.2 := by
      rcases cr_Gt.total y.2 z.2 with e1 | e1 | e1
      · exact e1
      · exfalso
        have h1 := h.at (y := y) (by simp)
        have h2 := h.pos y (by simp)
        rw [e] at h1
        obtain ⟨w, hw, ew⟩ := cr_co_mem (l := z :: l') (a := y.2) (by omega)
        rcases List.mem_cons.1 hw with rfl | hw
        · rw [ew] at e1; exact cr_Gt.irrefl _ e1
        · have := hs'.1 w hw
          rw [ew] at this
          exact e1.asymm this
      · exfalso
        have h1 := h'.at (y := z) (by simp)
        have h2 := h'.pos z (by simp)
        rw [← e] at h1
        obtain ⟨w, hw, ew⟩ := cr_co_mem (l := y :: l) (a := z.2) (by omega)
        rcases List.mem_cons.1 hw with rfl | hw
        · rw [ew] at e1; exact cr_Gt.irrefl _ e1
        · have := hs.1 w hw
          rw [ew] at this
          exact e1.asymm this
    have hy1 : y.1 = z.1 := by
      have h1 := h.at (y := y) (by simp)
      have h2 := h'.at (y := z) (by simp)
      rw [e, hyz] at h1
      omega
    have hyz' : y = z := Prod.ext hy1 hyz
    subst hyz'
    rw [cr_Shr.eq h.tail h'.tail (fun a => by
      have := e a
      rw [cr_co_cons, cr_co_cons] at this
      omega)]
noncomputable def cr_less {n : Nat} : cr_Pl_ n → cr_Xp n → Int → cr_Pl_ n
  | [], _, _ => []
  | y :: l, a, c => @ite _ (y.2 = a) (Classical.propDecidable _) (if y.1 = c then l else (y.1 - c, a) :: l) (y :: cr_less l a c)
theorem cr_less_exp {n : Nat} {l : cr_Pl_ n} {a : cr_Xp n} {c : Int} {y : Int × cr_Xp n} (h : y ∈ cr_less l a c) : ∃ z ∈ l, z.2 = y.2 := by
  classical
  induction l with
  | nil => simp [cr_less] at h
  | cons z l ih =>
    unfold cr_less at h
    by_cases e : z.2 = a
    · rw [if_pos e] at h
      by_cases e1 : z.1 = c
      · rw [if_pos e1] at h; exact ⟨y, by simp [h], rfl⟩
      · rw [if_neg e1] at h
        rcases List.mem_cons.1 h with rfl | h
        · exact ⟨z, by simp, e⟩
        · exact ⟨y, by simp [h], rfl⟩
    · rw [if_neg e] at h
      rcases List.mem_cons.1 h with rfl | h
      · exact ⟨y, by simp, rfl⟩
      · obtain ⟨w, hw, ew⟩ := ih h
        exact ⟨w, by simp [hw], ew⟩
theorem cr_less_shr {n : Nat} {l : cr_Pl_ n} (h : cr_Shr l) {a : cr_Xp n} {c : Int} (hc : 0 < c) (hle : c ≤ cr_co l a) : cr_Shr (cr_less l a c) ∧ ∀ b, cr_co (cr_less l a c) b = cr_co l b - (@ite _ (b = a) (Classical.propDecidable _) c 0) := by
  classical
  induction l with
  | nil => exfalso; have : cr_co ([] : cr_Pl_ n) a = 0 := rfl; omega
  | cons y l ih =>
    have hs := List.pairwise_cons.1 h.srt
    unfold cr_less
    by_cases e : y.2 = a
    · have hy : cr_co (y :: l) a = y.1 := by rw [← e]; exact h.at (by simp)
      rw [if_pos e]
      by_cases e1 : y.1 = c
      · rw [if_pos e1]
        refine ⟨h.tail, fun b => ?_⟩
        rw [cr_co_cons]
        by_cases hb : b = a
        · rw [if_pos hb, if_pos (by rw [e, hb])]; omega
        · rw [if_neg hb, if_neg (fun e2 => hb (by rw [← e2]; exact e))]; omega
      · rw [if_neg e1]
        refine ⟨⟨List.pairwise_cons.2 ⟨fun z hz => by rw [← e]; exact hs.1 z hz, hs.2⟩, fun z hz => ?_⟩, fun b => ?_⟩
        · rcases List.mem_cons.1 hz with rfl | hz
          · show 0 < y.1 - c; omega
          · exact h.pos z (by simp [hz])
        · rw [cr_co_cons, cr_co_cons]
          by_cases hb : b = a
          · rw [if_pos hb.symm, if_pos hb, if_pos (by rw [e, hb])]; omega
          · rw [if_neg (fun e2 => hb e2.symm), if_neg hb, if_neg (fun e2 => hb (by rw [← e2]; exact e))]; omega
    · rw [if_neg e]
      have hle' : c ≤ cr_co l a := by rw [cr_co_cons, if_neg e] at hle; omega
      obtain ⟨h1, h2⟩ := ih h.tail hle'
      refine ⟨⟨List.pairwise_cons.2 ⟨fun z hz => ?_, h1.srt⟩, fun z hz => ?_⟩, fun b => ?_⟩
      · obtain ⟨w, hw, ew⟩ := cr_less_exp hz
        rw [← ew]; exact hs.1 w hw
      · rcases List.mem_cons.1 hz with rfl | hz
        · exact h.pos z (by simp)
        · exact h1.pos z hz
      · rw [cr_co_cons, cr_co_cons, h2 b]; omega
noncomputable def cr_lessAll {n : Nat} (A : cr_Pl_ n) (r : Int × cr_Xp n) : cr_Pl_ n → cr_Pl_ n
  | [] => A
  | y :: B => cr_lessAll (cr_less A (fun i => r.2 i + y.2 i) (r.1 * y.1)) r B
theorem cr_lessAll_shr {n : Nat} {r : Int × cr_Xp n} (hr : 0 < r.1) {C : cr_Pl_ n} (hC : ∀ y ∈ C, 0 < y.1) : ∀ {B A : cr_Pl_ n}, (∀ y ∈ B, 0 < y.1) → cr_Shr A → (∀ a, cr_co A a = cr_co C a + cr_co (cr_shz r B) a) →
    cr_Shr (cr_lessAll A r B) ∧ ∀ a, cr_co (cr_lessAll A r B) a = cr_co C a
  | [], A, _, hA, he => ⟨hA, fun a => by show cr_co A a = _; rw [he a]; show cr_co C a + 0 = _; omega⟩
  | y :: B, A, hB, hA, he => by
    classical
    have hy := hB y (by simp)
    have hpos : 0 < r.1 * y.1 := Int.mul_pos hr hy
    have e1 : ∀ a, cr_co (cr_shz r (y :: B)) a = (if (fun i => r.2 i + y.2 i) = a then r.1 * y.1 else 0) + cr_co (cr_shz r B) a := fun a => rfl
    have hsB : ∀ z ∈ cr_shz r B, 0 < z.1 := fun z hz => by
      obtain ⟨w, hw, rfl⟩ := List.mem_map.1 hz
      exact Int.mul_pos hr (hB w (by simp [hw]))
    have h1 := cr_less_shr hA (a := fun i => r.2 i + y.2 i) hpos (by
      rw [he, e1, if_pos rfl]
      have := cr_Shr.nonneg hC (fun i => r.2 i + y.2 i)
      have := cr_Shr.nonneg hsB (fun i => r.2 i + y.2 i)
      omega)
    show cr_Shr (cr_lessAll (cr_less A (fun i => r.2 i + y.2 i) (r.1 * y.1)) r B) ∧ ∀ a, cr_co (cr_lessAll (cr_less A (fun i => r.2 i + y.2 i) (r.1 * y.1)) r B) a = cr_co C a
    refine cr_lessAll_shr hr hC (B := B) (fun z hz => hB z (by simp [hz])) h1.1 (fun a => ?_)
    rw [h1.2, he, e1]
    by_cases ha : a = fun i => r.2 i + y.2 i
    · rw [if_pos ha.symm, if_pos ha]; omega
    · rw [if_neg (fun e => ha e.symm), if_neg ha]; omega
theorem cr_last_mul {n : Nat} {R B : cr_Pl_ n} {r b : Int × cr_Xp n} (hR : cr_Shr (R ++ [r])) (hB : cr_Shr (B ++ [b])) :
    cr_co (cr_pmz (R ++ [r]) (B ++ [b])) (fun i => r.2 i + b.2 i) = r.1 * b.1 ∧ ∀ a, cr_co (cr_pmz (R ++ [r]) (B ++ [b])) a ≠ 0 → a = (fun i => r.2 i + b.2 i) ∨ cr_Gt a (fun i => r.2 i + b.2 i) := by
  have hlR : ∀ y ∈ R, cr_Gt y.2 r.2 := fun y hy => (List.pairwise_append.1 hR.srt).2.2 y hy r (by simp)
  have hlB : ∀ y ∈ B, cr_Gt y.2 b.2 := fun y hy => (List.pairwise_append.1 hB.srt).2.2 y hy b (by simp)
  have hBge : ∀ y ∈ B ++ [b], y.2 = b.2 ∨ cr_Gt y.2 b.2 := fun y hy => by
    rcases List.mem_append.1 hy with h | h
    · exact .inr (hlB y h)
    · have : y = b := by simpa using h
      subst this; exact .inl rfl
  constructor
  · rw [cr_co_pmz, List.map_append, List.sum_append]
    have z : (R.map fun y => y.1 * cr_co (B ++ [b]) (fun i => (r.2 i + b.2 i) - y.2 i)).sum = 0 := by
      have key : ∀ y ∈ R, y.1 * cr_co (B ++ [b]) (fun i => (r.2 i + b.2 i) - y.2 i) = 0 := by
        intro y hy
        rw [cr_co_none (fun z hz e => ?_), Int.mul_zero]
        have hg := hlR y hy

        have h1 : cr_Gt b.2 z.2 := by
          have h2 := hg.add (fun i => b.2 i - y.2 i)
          have e1 : (fun i => y.2 i + (b.2 i - y.2 i)) = b.2 := funext fun i => by omega
          have e2 : (fun i => r.2 i + (b.2 i - y.2 i)) = z.2 := funext fun i => by rw [e]; show r.2 i + (b.2 i - y.2 i) = r.2 i + b.2 i - y.2 i; omega
          rw [e1, e2] at h2
          exact h2
        rcases hBge z hz with h | h
        · rw [h] at h1; exact cr_Gt.irrefl _ h1
        · exact h1.asymm h
      clear hR hlR
      induction R with
      | nil => rfl
      | cons y R ih => rw [List.map_cons, List.sum_cons, key y (by simp), ih (fun z hz => key z (by simp [hz]))]; rfl
    rw [z]
    show 0 + (r.1 * cr_co (B ++ [b]) (fun i => (r.2 i + b.2 i) - r.2 i) + 0) = _
    have e : (fun i => (r.2 i + b.2 i) - r.2 i) = b.2 := funext fun i => by omega
    rw [e, hB.at (by simp)]; omega
  · intro a ha
    rw [cr_co_pmz] at ha
    have : ∃ y ∈ R ++ [r], cr_co (B ++ [b]) (fun i => a i - y.2 i) ≠ 0 := by
      refine Classical.byContradiction (fun hno => ha ?_)
      have key : ∀ y ∈ R ++ [r], y.1 * cr_co (B ++ [b]) (fun i => a i - y.2 i) = 0 := fun y hy => by
        have : cr_co (B ++ [b]) (fun i => a i - y.2 i) = 0 := Classical.byContradiction (fun h => hno ⟨y, hy, h⟩)
        rw [this, Int.mul_zero]
      generalize R ++ [r] = l at key
      induction l with
      | nil => rfl
      | cons y l ih => rw [List.map_cons, List.sum_cons, key y (by simp), ih (fun z hz => key z (by simp [hz]))]; rfl
    obtain ⟨y, hy, hne⟩ := this
    obtain ⟨z, hz, ez⟩ := cr_co_mem hne
    have ea : a = fun i => y.2 i + z.2 i := funext fun i => by
      have : z.2 i = a i - y.2 i := congrFun ez i
      omega
    have hyr : y.2 = r.2 ∨ cr_Gt y.2 r.2 := by
      rcases List.mem_append.1 hy with h | h
      · exact .inr (hlR y h)
      · have : y = r := by simpa using h
        subst this; exact .inl rfl
    have comm : ∀ u w : cr_Xp n, (fun i => u i + w i) = fun i => w i + u i := fun u w => funext fun i => by omega
    rw [ea]
    rcases hyr with h1 | h1
    · rcases hBge z hz with h2 | h2
      · left; rw [h1, h2]
      · right; rw [h1, comm r.2 z.2, comm r.2 b.2]; exact h2.add r.2
    · right
      have h3 := h1.add z.2
      rcases hBge z hz with h2 | h2
      · rw [h2] at h3 ⊢; exact h3
      · have h4 := h2.add r.2
        rw [comm z.2 r.2, comm b.2 r.2] at h4
        exact h3.trans h4
theorem cr_divide_step {n : Nat} {R B A : cr_Pl_ n} {r b : Int × cr_Xp n} (hR : cr_Shr (R ++ [r])) (hB : cr_Shr (B ++ [b])) (hA : cr_Shr A) (he : ∀ a, cr_co A a = cr_co (cr_pmz (R ++ [r]) (B ++ [b])) a) :
    ∃ A' x, A = A' ++ [x] ∧ x.1 = r.1 * b.1 ∧ (∀ i, x.2 i = r.2 i + b.2 i) ∧ x.1 / b.1 = r.1 ∧ cr_Shr (cr_lessAll A r (B ++ [b])) ∧ ∀ a, cr_co (cr_lessAll A r (B ++ [b])) a = cr_co (cr_pmz R (B ++ [b])) a := by
  obtain ⟨h1, h2⟩ := cr_last_mul hR hB
  have hr := hR.pos r (by simp)
  have hb := hB.pos b (by simp)
  have hne : A ≠ [] := by
    intro e
    have := he (fun i => r.2 i + b.2 i)
    rw [e, h1] at this
    have h3 := Int.mul_pos hr hb
    have : cr_co ([] : cr_Pl_ n) (fun i => r.2 i + b.2 i) = 0 := rfl
    omega
  obtain ⟨A', x, rfl⟩ : ∃ A' x, A = A' ++ [x] := ⟨A.dropLast, A.getLast hne, (List.dropLast_concat_getLast hne).symm⟩
  have hx := hA.at (y := x) (by simp)
  have hxp := hA.pos x (by simp)
  have hx2 : x.2 = fun i => r.2 i + b.2 i := by
    have hn : cr_co (cr_pmz (R ++ [r]) (B ++ [b])) x.2 ≠ 0 := by rw [← he, hx]; omega
    rcases h2 x.2 hn with h | h
    · exact h
    · exfalso
      have h3 : cr_co (A' ++ [x]) (fun i => r.2 i + b.2 i) ≠ 0 := by
        rw [he, h1]
        have := Int.mul_pos hr hb
        omega
      obtain ⟨w, hw, ew⟩ := cr_co_mem h3
      have hle : w.2 = x.2 ∨ cr_Gt w.2 x.2 := by
        rcases List.mem_append.1 hw with hw | hw
        · exact .inr ((List.pairwise_append.1 hA.srt).2.2 w hw x (by simp))
        · have : w = x := by simpa using hw
          subst this; exact .inl rfl
      rw [← ew] at h
      rcases hle with e | e
      · rw [e] at h; exact cr_Gt.irrefl _ h
      · exact h.asymm e
  have hx1 : x.1 = r.1 * b.1 := by rw [← hx, he, hx2, h1]
  have hRp : ∀ y ∈ cr_pmz R (B ++ [b]), 0 < y.1 := fun y hy => by
    obtain ⟨z, hz, hy⟩ := List.mem_flatMap.1 hy
    obtain ⟨w, hw, rfl⟩ := List.mem_map.1 hy
    exact Int.mul_pos (hR.pos z (by simp [hz])) (hB.pos w hw)
  refine ⟨A', x, rfl, hx1, fun i => by rw [hx2], by rw [hx1]; exact Int.mul_ediv_cancel _ (by omega), ?_⟩
  refine cr_lessAll_shr hr hRp (fun y hy => hB.pos y hy) hA (fun a => ?_)
  rw [he]
  have : cr_pmz (R ++ [r]) (B ++ [b]) = cr_pmz R (B ++ [b]) ++ cr_shz r (B ++ [b]) := by
    unfold cr_pmz
    rw [List.flatMap_append]
    simp
  rw [this, cr_co_app]
end

section
def cz_exZ (n : Nat) : Zero (cx_Ex n) := ⟨fun _ => 0⟩
def cz_exA (n : Nat) : Add (cx_Ex n) := ⟨fun a b i => a i + b i⟩
def cz_mul (B : Type) (dec : B → List (B × B)) : Mul (cx_S B) := ⟨fun f g b => cx_sm (dec b) (fun q => f q.1 * g q.2)⟩
def cz_one (B : Type) (deg : B → Nat) : One (cx_S B) := ⟨fun b => if deg b = 0 then 1 else 0⟩
def cz_add (B : Type) : Add (cx_S B) := ⟨fun f g b => f b + g b⟩
def cz_zero (B : Type) : Zero (cx_S B) := ⟨fun _ => 0⟩
def cz_decE (n : Nat) (b : cx_Ex n) : List (cx_Ex n × cx_Ex n) := (cx_boxes n b).map fun u => (u, fun i => b i - u i)
def cz_levE (n : Nat) (k : Nat) : List (cx_Ex n) := (cx_boxes n (fun _ => k)).filter (fun b => decide (cx_nsum b = k))
def cz_decN (b : Nat) : List (Nat × Nat) := (List.range (b + 1)).map fun i => (b - i, i)
theorem cz_idxE (n : Nat) : Nonempty {x : @cx_Idx (cx_Ex n) (cz_exZ n) (cz_exA n) (cz_mul (cx_Ex n) (cz_decE n)) (cz_one (cx_Ex n) cx_nsum) (cz_add (cx_Ex n)) (cz_zero (cx_Ex n)) // x.1.1 = cz_decE n ∧ x.1.2.1 = cx_nsum} := by
  letI i1 : Zero (cx_Ex n) := cz_exZ n
  letI i2 : Add (cx_Ex n) := cz_exA n
  letI i3 : Mul (cx_S (cx_Ex n)) := cz_mul (cx_Ex n) (cz_decE n)
  letI i4 : One (cx_S (cx_Ex n)) := cz_one (cx_Ex n) cx_nsum
  letI i5 : Add (cx_S (cx_Ex n)) := cz_add (cx_Ex n)
  letI i6 : Zero (cx_S (cx_Ex n)) := cz_zero (cx_Ex n)
  refine ⟨⟨⟨(cz_decE n, cx_nsum, cz_levE n), ?_, ?_, ?_, ?_, ?_, ?_, ?_, ?_, ?_, ?_, ?_, ?_, ?_, ?_⟩, rfl, rfl⟩⟩
  · exact fun a b c => funext fun i => Nat.add_assoc _ _ _
  · exact fun a b => funext fun i => Nat.add_comm _ _
  · exact fun a => funext fun i => Nat.add_zero _
  · exact fun a b c h => funext fun i => by
      have h1 : a i + b i = a i + c i := congrFun h i
      omega
  · intro b u v
    show (u, v) ∈ (cx_boxes n b).map (fun u => (u, fun i => b i - u i)) ↔ _
    rw [List.mem_map]
    constructor
    · rintro ⟨w, hw, e⟩
      have hw := (cx_mem_boxes b w).1 hw
      simp only [Prod.mk.injEq] at e
      obtain ⟨rfl, rfl⟩ := e
      funext i
      have := hw i
      show w i + (b i - w i) = b i
      omega
    · intro h
      have h1 : ∀ i, u i + v i = b i := fun i => congrFun h i
      refine ⟨u, (cx_mem_boxes b u).2 (fun i => by have := h1 i; omega), ?_⟩
      simp only [Prod.mk.injEq, true_and]
      funext i
      have := h1 i; omega
  · intro b
    have h1 := cx_nodup_boxes b
    show ((cx_boxes n b).map (fun u => (u, fun i => b i - u i))).Nodup
    rw [List.nodup_iff_pairwise_ne] at h1 ⊢
    rw [List.pairwise_map]
    refine h1.imp (fun {f g} hne e => hne ?_)
    simp only [Prod.mk.injEq] at e
    exact e.1
  · exact fun a b => cx_nsum_add a b
  · exact fun b h => funext fun i => by
      have := cx_nsum_ge b i
      have h' : cx_nsum b = 0 := h
      show b i = 0
      omega
  · intro k b
    show b ∈ (cx_boxes n (fun _ => k)).filter (fun b => decide (cx_nsum b = k)) ↔ cx_nsum b = k
    rw [List.mem_filter, cx_mem_boxes, decide_eq_true_eq]
    exact ⟨fun h => h.2, fun h => ⟨fun i => by have := cx_nsum_ge b i; omega, h⟩⟩
  · exact fun k => (cx_nodup_boxes _).sublist List.filter_sublist
  · exact fun f g b => rfl
  · exact fun b => rfl
  · exact fun f g b => rfl
  · exact fun b => rfl
theorem cz_idxN : Nonempty {x : @cx_Idx Nat inferInstance inferInstance (cz_mul Nat cz_decN) (cz_one Nat id) (cz_add Nat) (cz_zero Nat) // x.1.1 = cz_decN} := by
  letI i3 : Mul (cx_S Nat) := cz_mul Nat cz_decN
  letI i4 : One (cx_S Nat) := cz_one Nat id
  letI i5 : Add (cx_S Nat) := cz_add Nat
  letI i6 : Zero (cx_S Nat) := cz_zero Nat
  refine ⟨⟨⟨(cz_decN, id, fun k => [k]), ?_, ?_, ?_, ?_, ?_, ?_, ?_, ?_, ?_, ?_, ?_, ?_, ?_, ?_⟩, rfl⟩⟩
  · exact fun a b c => Nat.add_assoc a b c
  · exact fun a b => Nat.add_comm a b
  · exact fun a => Nat.add_zero a
  · exact fun a b c h => by omega
  · intro b u v
    show (u, v) ∈ (List.range (b + 1)).map (fun i => (b - i, i)) ↔ u + v = b
    rw [List.mem_map]
    constructor
    · rintro ⟨i, hi, e⟩
      rw [List.mem_range] at hi
      simp only [Prod.mk.injEq] at e
      omega
    · intro h
      refine ⟨v, List.mem_range.2 (by omega), ?_⟩
      simp only [Prod.mk.injEq, and_true]
      omega
  · intro b
    have h1 : (List.range (b + 1)).Nodup := List.nodup_range
    show ((List.range (b + 1)).map (fun i => (b - i, i))).Nodup
    rw [List.nodup_iff_pairwise_ne] at h1 ⊢
    rw [List.pairwise_map]
    refine h1.imp (fun {f g} hne e => hne ?_)
    simp only [Prod.mk.injEq] at e
    exact e.2
  · exact fun a b => rfl
  · exact fun b h => h
  · intro k b
    show b ∈ [k] ↔ b = k
    rw [List.mem_singleton]
  · exact fun k => by simp
  · exact fun f g b => rfl
  · exact fun b => rfl
  · exact fun f g b => rfl
  · exact fun b => rfl
def cz_mmA {n : Nat} (s : cx_Sd n) : Add (cx_MM s) := ⟨fun m k => ⟨fun i => m.v i + k.v i, rfl⟩⟩
def cz_prS {n : Nat} (s : cx_Sd n) (a : cx_Ex n) (m : cx_MM s) : Rat := cx_sm (cx_fr n) (fun i => (a i : Rat) * (s.d i : Rat) * m.v i)
theorem cz_d_pos {n : Nat} (s : cx_Sd n) (i : Fin n) : (0 : Rat) < (s.d i : Rat) := by exact_mod_cast s.dpos i
theorem cz_skR {n : Nat} (s : cx_Sd n) (i j : Fin n) : (s.d i : Rat) * (s.b i j : Rat) = - ((s.d j : Rat) * (s.b j i : Rat)) := by
  have h := s.sk i j
  have h1 : (((s.d i : Int) * s.b i j : Int) : Rat) = ((-((s.d j : Int) * s.b j i) : Int) : Rat) := by rw [h]
  have e1 : (((s.d i : Int) * s.b i j : Int) : Rat) = (s.d i : Rat) * (s.b i j : Rat) := by exact_mod_cast rfl
  have e2 : ((-((s.d j : Int) * s.b j i) : Int) : Rat) = - ((s.d j : Rat) * (s.b j i : Rat)) := by exact_mod_cast rfl
  rw [e1, e2] at h1
  exact h1
theorem cz_single {n : Nat} {l : List (Fin n)} (hn : l.Nodup) (k : Fin n) (hk : k ∈ l) (f : Fin n → Rat) (h : ∀ i, i ≠ k → f i = 0) : cx_sm l f = f k := by
  induction l with
  | nil => simp at hk
  | cons x l ih =>
    rw [List.nodup_cons] at hn
    rw [cx_sm_cons]
    by_cases hx : x = k
    · subst hx
      rw [cx_sm_zero (fun i hi => h i (fun e => hn.1 (by rw [← e]; exact hi))), Rat.add_zero]
    · rw [h x hx, Rat.zero_add]
      exact ih hn.2 (by rcases List.mem_cons.1 hk with h | h; exact absurd h.symm hx; exact h)
theorem cz_tor {n : Nat} (X : @cx_Idx (cx_Ex n) (cz_exZ n) (cz_exA n) (cz_mul (cx_Ex n) (cz_decE n)) (cz_one (cx_Ex n) cx_nsum) (cz_add (cx_Ex n)) (cz_zero (cx_Ex n))) (s : cx_Sd n) (hm : @cx_MGl (cx_MM s) (cz_mmA s)) :
    Nonempty {x : @cx_Tord (cx_Ex n) (cx_MM s) (cz_exZ n) (cz_exA n) (cz_mul (cx_Ex n) (cz_decE n)) (cz_one (cx_Ex n) cx_nsum) (cz_add (cx_Ex n)) (cz_zero (cx_Ex n)) ⟨X⟩ (cz_mmA s) ⟨⟨hm⟩⟩ // x.1.1 = cz_prS s ∧ x.1.2.1 = cx_pS s ∧ x.1.2.2 = fun m => ⟨fun i => - m.v i, rfl⟩} := by
  letI i1 : Zero (cx_Ex n) := cz_exZ n
  letI i2 : Add (cx_Ex n) := cz_exA n
  letI i7 : Add (cx_MM s) := cz_mmA s
  have exa : ∀ (a b : cx_Ex n) (i : Fin n), (a + b) i = a i + b i := fun _ _ _ => rfl
  have mma : ∀ (m k : cx_MM s) (i : Fin n), (m + k).v i = m.v i + k.v i := fun _ _ _ => rfl
  refine ⟨⟨⟨(cz_prS s, cx_pS s, fun m => ⟨fun i => - m.v i, rfl⟩), ?_, ?_, ?_, ?_, ?_, ?_, ?_⟩, rfl, rfl, rfl⟩⟩
  · intro a b m
    show cz_prS s (a + b) m = cz_prS s a m + cz_prS s b m
    unfold cz_prS
    rw [← cx_sm_add]
    refine cx_sm_congr (fun i _ => ?_)
    rw [exa, cx_castR]; grind
  · intro a m k
    show cz_prS s a (m + k) = cz_prS s a m + cz_prS s a k
    unfold cz_prS
    rw [← cx_sm_add]
    refine cx_sm_congr (fun i _ => ?_)
    rw [mma]; grind
  · intro a b
    refine cx_MM.ext fun i => ?_
    show cx_sm (cx_fr n) _ = cx_sm (cx_fr n) _ + cx_sm (cx_fr n) _
    rw [← cx_sm_add]
    refine cx_sm_congr (fun j _ => ?_)
    rw [exa, cx_castR]; grind
  · intro m
    refine cx_MM.ext fun i => ?_
    show m.v i + cx_sm (cx_fr n) (fun j => (s.b i j : Rat) * (((0 : Nat) : Nat) : Rat)) = m.v i
    rw [cx_sm_zero (fun j _ => by rw [show ((0 : Nat) : Rat) = 0 from rfl, Rat.mul_zero]), Rat.add_zero]
  · intro a c
    show cx_sm (cx_fr n) (fun i => (a i : Rat) * (s.d i : Rat) * cx_sm (cx_fr n) (fun j => (s.b i j : Rat) * (c j : Rat))) = - cx_sm (cx_fr n) (fun i => (c i : Rat) * (s.d i : Rat) * cx_sm (cx_fr n) (fun j => (s.b i j : Rat) * (a j : Rat)))
    have e1 : cx_sm (cx_fr n) (fun i => (a i : Rat) * (s.d i : Rat) * cx_sm (cx_fr n) (fun j => (s.b i j : Rat) * (c j : Rat))) = cx_sm (cx_fr n) (fun i => cx_sm (cx_fr n) (fun j => (a i : Rat) * (s.d i : Rat) * ((s.b i j : Rat) * (c j : Rat)))) :=
      cx_sm_congr (fun i _ => (cx_sm_mulL _ _ _).symm)
    have e2 : cx_sm (cx_fr n) (fun i => (c i : Rat) * (s.d i : Rat) * cx_sm (cx_fr n) (fun j => (s.b i j : Rat) * (a j : Rat))) = cx_sm (cx_fr n) (fun i => cx_sm (cx_fr n) (fun j => (c i : Rat) * (s.d i : Rat) * ((s.b i j : Rat) * (a j : Rat)))) :=
      cx_sm_congr (fun i _ => (cx_sm_mulL _ _ _).symm)
    rw [e1, e2, cx_sm_comm]
    have e3 : ∀ x : Rat, - x = (-1) * x := fun x => by grind
    rw [e3, ← cx_sm_mulL]
    refine cx_sm_congr (fun j _ => ?_)
    rw [← cx_sm_mulL]
    refine cx_sm_congr (fun i _ => ?_)
    have := cz_skR s i j
    grind
  · intro a ha
    have : ∃ i, a i ≠ 0 := by
      refine Classical.byContradiction (fun hno => ha (funext fun i => ?_))
      exact Classical.byContradiction (fun h => hno ⟨i, h⟩)
    obtain ⟨i, hi⟩ := this
    have hai : (0 : Rat) < (a i : Rat) := by exact_mod_cast Nat.pos_of_ne_zero hi
    have hdi := cz_d_pos s i
    refine ⟨⟨fun j => if j = i then ((a i : Rat) * (s.d i : Rat))⁻¹ else 0, rfl⟩, ?_⟩
    show cx_sm (cx_fr n) (fun j => (a j : Rat) * (s.d j : Rat) * (if j = i then ((a i : Rat) * (s.d i : Rat))⁻¹ else 0)) = 1
    refine (cz_single (List.nodup_finRange n) i (List.mem_finRange i) (fun j => (a j : Rat) * (s.d j : Rat) * (if j = i then ((a i : Rat) * (s.d i : Rat))⁻¹ else 0)) (fun j hj => by show (a j : Rat) * (s.d j : Rat) * (if j = i then ((a i : Rat) * (s.d i : Rat))⁻¹ else 0) = 0; rw [if_neg hj]; grind)).trans ?_
    show (a i : Rat) * (s.d i : Rat) * (if i = i then ((a i : Rat) * (s.d i : Rat))⁻¹ else 0) = 1
    rw [if_pos rfl]
    exact Rat.mul_inv_cancel _ (by have := Rat.mul_pos hai hdi; grind)
  · intro m
    refine cx_MM.ext fun i => ?_
    show m.v i + - m.v i = cx_sm (cx_fr n) (fun j => (s.b i j : Rat) * (((0 : Nat) : Nat) : Rat))
    rw [cx_sm_zero (fun j _ => by rw [show ((0 : Nat) : Rat) = 0 from rfl, Rat.mul_zero])]; grind
def cr_turnB {n : Nat} (b : Fin n → Fin n → Int) (k i j : Fin n) : Int := if i = k ∨ j = k then - b i j else b i j + ((cx_pos (b i k) : Int) * b k j + b i k * (cx_pos (- b k j) : Int))
theorem cr_pos_sk {n : Nat} (s : cx_Sd n) (i k : Fin n) : (s.d i : Int) * (cx_pos (s.b i k) : Int) = (s.d k : Int) * (cx_pos (- s.b k i) : Int) := by
  rw [← cx_pos_mul, ← cx_pos_mul, s.sk i k, Int.mul_neg]
theorem cr_pos_sk' {n : Nat} (s : cx_Sd n) (i k : Fin n) : (s.d i : Int) * (cx_pos (- s.b i k) : Int) = (s.d k : Int) * (cx_pos (s.b k i) : Int) := by
  rw [← cx_pos_mul, ← cx_pos_mul, Int.mul_neg, s.sk i k, Int.neg_neg]
def cr_turn {n : Nat} (s : cx_Sd n) (k : Fin n) : cx_Sd n := ⟨(cr_turnB s.b k, s.d), s.dpos, fun i j => by
    show (s.d i : Int) * cr_turnB s.b k i j = - ((s.d j : Int) * cr_turnB s.b k j i)
    unfold cr_turnB
    by_cases h : i = k ∨ j = k
    · rw [if_pos h, if_pos (by rcases h with h | h; exact .inr h; exact .inl h)]
      have := s.sk i j
      rw [Int.mul_neg, Int.mul_neg, this]
    · rw [if_neg h, if_neg (fun h2 => h (by rcases h2 with h2 | h2; exact .inr h2; exact .inl h2))]
      have e1 := s.sk i j
      have e2 := s.sk i k
      have e3 := s.sk j k
      have e4 := cr_pos_sk s i k
      have e5 := cr_pos_sk s j k
      have e6 := cx_posI (s.b k i)
      have e7 := cx_posI (s.b k j)

      have f1 : (s.d i : Int) * ((cx_pos (s.b i k) : Int) * s.b k j) = (s.d k : Int) * ((cx_pos (- s.b k i) : Int) * s.b k j) := by
        rw [← Int.mul_assoc, e4, Int.mul_assoc]
      have f2 : (s.d i : Int) * (s.b i k * (cx_pos (- s.b k j) : Int)) = - ((s.d k : Int) * (s.b k i * (cx_pos (- s.b k j) : Int))) := by
        rw [← Int.mul_assoc, e2, Int.neg_mul, Int.mul_assoc]
      have f3 : (s.d j : Int) * ((cx_pos (s.b j k) : Int) * s.b k i) = (s.d k : Int) * ((cx_pos (- s.b k j) : Int) * s.b k i) := by
        rw [← Int.mul_assoc, e5, Int.mul_assoc]
      have f4 : (s.d j : Int) * (s.b j k * (cx_pos (- s.b k i) : Int)) = - ((s.d k : Int) * (s.b k j * (cx_pos (- s.b k i) : Int))) := by
        rw [← Int.mul_assoc, e3, Int.neg_mul, Int.mul_assoc]
      rw [Int.mul_add, Int.mul_add, Int.mul_add, Int.mul_add, f1, f2, f3, f4, e1]
      rw [Int.mul_comm (cx_pos (- s.b k i) : Int) (s.b k j), Int.mul_comm (cx_pos (- s.b k j) : Int) (s.b k i)]
      omega⟩
def cr_go {n : Nat} : (Fin n → Fin n → Int) → (Fin n → Rat) → List (Fin n) → (Fin n → Fin n → Int) × (Fin n → Rat)
  | b, v, [] => (b, v)
  | b, v, k :: ks => cr_go (cr_turnB b k) (cr_stepv b k v) ks
theorem cr_main {n : Nat} (s : cx_Sd n) (ks : List (Fin n)) (j : Fin n) : ∃ L : cr_Pl_ n, (∀ y ∈ L, 0 < y.1) ∧ ∀ x : cr_Pv n, (cr_go s.b x.1 ks).2 j = cr_vl x.1 L := by
  obtain ⟨⟨X, hX1, hX2⟩⟩ := cz_idxE n
  obtain ⟨⟨Y, hY⟩⟩ := cz_idxN
  letI i1 : Zero (cx_Ex n) := cz_exZ n
  letI i2 : Add (cx_Ex n) := cz_exA n
  letI i3 : Mul (cx_S (cx_Ex n)) := cz_mul (cx_Ex n) (cz_decE n)
  letI i4 : One (cx_S (cx_Ex n)) := cz_one (cx_Ex n) cx_nsum
  letI i5 : Add (cx_S (cx_Ex n)) := cz_add (cx_Ex n)
  letI i6 : Zero (cx_S (cx_Ex n)) := cz_zero (cx_Ex n)
  letI i7 : Inhabited (cx_Idx (cx_Ex n)) := ⟨X⟩
  letI j3 : Mul (cx_S Nat) := cz_mul Nat cz_decN
  letI j4 : One (cx_S Nat) := cz_one Nat id
  letI j5 : Add (cx_S Nat) := cz_add Nat
  letI j6 : Zero (cx_S Nat) := cz_zero Nat
  letI j7 : Inhabited (cx_Idx Nat) := ⟨Y⟩
  letI j8 : Inhabited (PLift cx_Natl) := ⟨⟨fun j => congrFun hY j⟩⟩
  letI i8 : Inhabited (PLift (cx_Exl n)) := ⟨⟨fun _ _ _ => rfl, fun _ => rfl, fun a => congrFun hX2 a⟩⟩
  letI k1 : ∀ s : cx_Sd n, Add (cx_MM s) := fun s => cz_mmA s
  have hm : ∀ s : cx_Sd n, cx_MGl (cx_MM s) := fun s => ⟨fun a b c => cx_MM.ext fun i => Rat.add_assoc _ _ _, fun a b => cx_MM.ext fun i => Rat.add_comm _ _⟩
  letI k2 : ∀ s : cx_Sd n, Inhabited (PLift (cx_MGl (cx_MM s))) := fun s => ⟨⟨hm s⟩⟩
  have ht : ∀ s : cx_Sd n, ∃ x : cx_Tord (cx_Ex n) (cx_MM s), x.1.1 = cz_prS s ∧ x.1.2.1 = cx_pS s ∧ x.1.2.2 = fun m => ⟨fun i => - m.v i, rfl⟩ := fun s => by
    obtain ⟨⟨x, h⟩⟩ := cz_tor X s (hm s)
    exact ⟨x, h⟩
  letI k3 : ∀ s : cx_Sd n, Inhabited (cx_Tord (cx_Ex n) (cx_MM s)) := fun s => ⟨Classical.choose (ht s)⟩
  letI k4 : Inhabited (PLift (cx_MMl n)) := ⟨⟨fun s => ⟨fun _ _ _ => rfl, fun a m => by
    have := congrFun (congrFun (Classical.choose_spec (ht s)).1 a) m
    exact this, fun a => congrFun (Classical.choose_spec (ht s)).2.1 a, fun m i => by
    have := congrFun (Classical.choose_spec (ht s)).2.2 m
    exact congrArg (fun z : cx_MM s => z.v i) this⟩⟩⟩
  have gen : ∀ (ks : List (Fin n)) (s : cx_Sd n) (v : cx_Pv n → Fin n → Rat), cx_Ok s v → ∃ s' : cx_Sd n, cx_Ok s' (fun x => (cr_go s.b (v x) ks).2) := by
    intro ks
    induction ks with
    | nil => exact fun s v h => ⟨s, h⟩
    | cons k ks ih => exact fun s v h => ih (cx_turn s k) _ (cx_ok_turn h k)
  obtain ⟨s', h⟩ := gen ks s (fun x => x.1) (cx_ok_start s j)
  obtain ⟨L, hL, hv⟩ := cx_ok_laurent h j
  refine ⟨L.map fun y => ((y.1 : Int), y.2), fun y hy => ?_, fun x => ?_⟩
  · obtain ⟨z, hz, rfl⟩ := List.mem_map.1 hy
    have := hL z hz
    show (0 : Int) < (z.1 : Int)
    omega
  · refine Eq.trans (hv x) ?_
    unfold cr_vl
    rw [cx_sm_map]
    exact cx_sm_congr (fun y _ => by
      show (y.1 : Rat) * cr_mo x.1 y.2 = (((y.1 : Nat) : Int) : Rat) * cr_mo x.1 y.2
      congr 1)
end

section
def cr_pw {n : Nat} (l : cr_Pl_ n) : Nat → cr_Pl_ n
  | 0 => [(1, fun _ => 0)]
  | m + 1 => cr_pmz l (cr_pw l m)
theorem cr_mo_zero {n : Nat} (v : Fin n → Rat) : cr_mo v (fun _ => 0) = 1 := cr_mol_zero _ v _ (fun _ _ => rfl)
theorem cr_vl_sing {n : Nat} (x : Fin n → Rat) (a : cr_Xp n) : cr_vl x [(1, a)] = cr_mo x a := by
  rw [cr_vl_cons, cr_vl_nil, show ((1 : Int) : Rat) = 1 from rfl]; grind
theorem cr_vl_one {n : Nat} (x : Fin n → Rat) : cr_vl x [(1, fun _ => 0)] = 1 := by rw [cr_vl_sing, cr_mo_zero]
theorem cr_vl_pw {n : Nat} {x : Fin n → Rat} (hx : ∀ j, 0 < x j) {l : cr_Pl_ n} (hl : 0 < cr_vl x l) (m : Nat) : cr_vl x (cr_pw l m) = (cr_vl x l) ^ (m : Int) := by
  induction m with
  | zero => rw [show ((0 : Nat) : Int) = 0 from rfl, Rat.zpow_zero]; exact cr_vl_one x
  | succ m ih =>
    show cr_vl x (cr_pmz l (cr_pw l m)) = _
    rw [cr_vl_pmz hx, ih, show ((m + 1 : Nat) : Int) = 1 + (m : Int) by omega, cr_zp_add hl, Rat.zpow_one]
def cr_Pk {n : Nat} (b : Fin n → Fin n → Int) (k : Fin n) : cr_Pl_ n := [(1, fun i => (cx_pos (b i k) : Int)), (1, fun i => (cx_pos (- b i k) : Int))]
def cr_P {n : Nat} (b : Fin n → Fin n → Int) (k : Fin n) (x : Fin n → Rat) : Rat := cr_mo x (fun i => (cx_pos (b i k) : Int)) + cr_mo x (fun i => (cx_pos (- b i k) : Int))
theorem cr_vl_Pk {n : Nat} (b : Fin n → Fin n → Int) (k : Fin n) (x : Fin n → Rat) : cr_vl x (cr_Pk b k) = cr_P b k x := by
  unfold cr_Pk cr_P
  rw [cr_vl_cons, cr_vl_sing, show ((1 : Int) : Rat) = 1 from rfl]; grind
theorem cr_P_pos {n : Nat} (b : Fin n → Fin n → Int) (k : Fin n) {x : Fin n → Rat} (hx : ∀ j, 0 < x j) : 0 < cr_P b k x := by
  unfold cr_P
  have h1 := cr_mo_pos hx (fun i => (cx_pos (b i k) : Int))
  have h2 := cr_mo_pos hx (fun i => (cx_pos (- b i k) : Int))
  grind
theorem cr_step_k {n : Nat} (b : Fin n → Fin n → Int) (k : Fin n) (x : Fin n → Rat) : cr_stepv b k x k = cr_P b k x * (x k)⁻¹ := if_pos rfl
theorem cr_step_ne {n : Nat} (b : Fin n → Fin n → Int) {k j : Fin n} (x : Fin n → Rat) (h : j ≠ k) : cr_stepv b k x j = x j := if_neg h
def cr_up {n : Nat} (a : cr_Xp n) (k : Fin n) (c : Int) : cr_Xp n := fun i => if i = k then c else a i
theorem cr_up_k {n : Nat} (a : cr_Xp n) (k : Fin n) (c : Int) : cr_up a k c k = c := if_pos rfl
theorem cr_up_ne {n : Nat} (a : cr_Xp n) {k i : Fin n} (c : Int) (h : i ≠ k) : cr_up a k c i = a i := if_neg h
theorem cr_mo_up {n : Nat} (x : Fin n → Rat) (a : cr_Xp n) (k : Fin n) (c : Int) : cr_mo x (cr_up a k c) = x k ^ c * cr_mo x (cr_up a k 0) := by
  rw [cr_mo_split k, cr_up_k]
  congr 1
  refine cr_mo_congr (fun j => ?_)
  by_cases hj : j = k
  · rw [if_pos hj, hj, cr_up_k]
  · rw [if_neg hj, cr_up_ne _ _ hj, cr_up_ne _ _ hj]
theorem cr_mo_up0 {n : Nat} (x : Fin n → Rat) (a : cr_Xp n) (k : Fin n) : cr_mo x a = x k ^ a k * cr_mo x (cr_up a k 0) := by
  have : cr_up a k (a k) = a := funext fun i => by
    by_cases h : i = k
    · rw [h, cr_up_k]
    · rw [cr_up_ne _ _ h]
  rw [← cr_mo_up, this]
theorem cr_inv_zp {x : Rat} (h : 0 < x) (z : Int) : (x⁻¹) ^ z = x ^ (- z) := by
  have p3 : 0 < x⁻¹ := Rat.inv_pos.2 h
  have h1 : (x⁻¹) ^ z * x ^ z = 1 := by
    rw [← cr_mul_zp p3 h, Rat.inv_mul_cancel _ (by grind), cr_one_zp]
  have h2 : x ^ (- z) * x ^ z = 1 := by rw [← cr_zp_add h, Int.add_left_neg, Rat.zpow_zero]
  refine cx_canc_pos (Rat.zpow_pos h : 0 < x ^ z) ?_
  rw [h1, h2]
theorem cr_mo_agree {n : Nat} {x x' : Fin n → Rat} (k : Fin n) (h : ∀ j, j ≠ k → x j = x' j) (a : cr_Xp n) (ha : a k = 0) : cr_mo x a = cr_mo x' a :=
  cr_mo_congr (fun j => by
    by_cases hj : j = k
    · rw [hj, ha, Rat.zpow_zero, Rat.zpow_zero]
    · rw [h j hj])
theorem cr_mo_step {n : Nat} (b : Fin n → Fin n → Int) (k : Fin n) {x : Fin n → Rat} (hx : ∀ j, 0 < x j) (a : cr_Xp n) : cr_mo (cr_stepv b k x) a = (cr_P b k x) ^ a k * cr_mo x (cr_up a k (- a k)) := by
  rw [cr_mo_up0 (cr_stepv b k x) a k, cr_step_k, cr_mul_zp (cr_P_pos b k hx) (Rat.inv_pos.2 (hx k)), cr_inv_zp (hx k), cr_mo_up x a k (- a k),
    cr_mo_agree k (fun j hj => cr_step_ne b x hj) (cr_up a k 0) (cr_up_k a k 0)]
  grind
def cr_ex {n : Nat} (b : Fin n → Fin n → Int) (k : Fin n) (M : Nat) (y : Int × cr_Xp n) : cr_Pl_ n := cr_shz (y.1, cr_up y.2 k (- y.2 k)) (cr_pw (cr_Pk b k) ((M : Int) + y.2 k).toNat)
theorem cr_vl_ex {n : Nat} (b : Fin n → Fin n → Int) (k : Fin n) {x : Fin n → Rat} (hx : ∀ j, 0 < x j) (M : Nat) (y : Int × cr_Xp n) (h : 0 ≤ (M : Int) + y.2 k) :
    cr_vl x (cr_ex b k M y) = (y.1 : Rat) * cr_mo (cr_stepv b k x) y.2 * (cr_P b k x) ^ (M : Int) := by
  have hP := cr_P_pos b k hx
  unfold cr_ex
  rw [cr_vl_shz hx, cr_vl_pw hx (by rw [cr_vl_Pk]; exact hP), cr_vl_Pk, Int.toNat_of_nonneg h, cr_zp_add hP, cr_mo_step b k hx]
  grind
theorem cr_vl_flat {α : Type} {n : Nat} (x : Fin n → Rat) (l : List α) (f : α → cr_Pl_ n) : cr_vl x (l.flatMap f) = cx_sm l (fun y => cr_vl x (f y)) := by
  induction l with
  | nil => rfl
  | cons y l ih => rw [List.flatMap_cons, cr_vl_app, ih, cx_sm_cons]
theorem cr_vl_exs {n : Nat} (b : Fin n → Fin n → Int) (k : Fin n) {x : Fin n → Rat} (hx : ∀ j, 0 < x j) (M : Nat) (l : cr_Pl_ n) (h : ∀ y ∈ l, 0 ≤ (M : Int) + y.2 k) :
    cr_vl x (l.flatMap (cr_ex b k M)) = cr_vl (cr_stepv b k x) l * (cr_P b k x) ^ (M : Int) := by
  rw [cr_vl_flat]
  induction l with
  | nil => rw [cx_sm_nil, cr_vl_nil]; grind
  | cons y l ih => rw [cx_sm_cons, cr_vl_cons, cr_vl_ex b k hx M y (h y (by simp)), ih (fun z hz => h z (by simp [hz]))]; grind
def cr_fl {n : Nat} (p : cr_Xp n → Bool) (l : cr_Pl_ n) : cr_Pl_ n := l.filter (fun y => p y.2)
theorem cr_mem_fl {n : Nat} {p : cr_Xp n → Bool} {l : cr_Pl_ n} {y : Int × cr_Xp n} : y ∈ cr_fl p l ↔ y ∈ l ∧ p y.2 = true := by
  unfold cr_fl
  rw [List.mem_filter]
theorem cr_co_fl {n : Nat} (p : cr_Xp n → Bool) (l : cr_Pl_ n) (a : cr_Xp n) : cr_co (cr_fl p l) a = if p a = true then cr_co l a else 0 := by
  classical
  induction l with
  | nil => by_cases h : p a = true; rw [if_pos h]; rfl; rw [if_neg h]; rfl
  | cons y l ih =>
    unfold cr_fl at ih ⊢
    by_cases hy : p y.2 = true
    · rw [List.filter_cons_of_pos (p := fun y : Int × cr_Xp n => p y.2) hy, cr_co_cons, ih, cr_co_cons]
      by_cases e : y.2 = a
      · rw [if_pos e, if_pos (by rw [← e]; exact hy), if_pos (by rw [← e]; exact hy)]
      · rw [if_neg e]
        by_cases h : p a = true
        · rw [if_pos h, if_pos h]
        · rw [if_neg h, if_neg h]; rfl
    · rw [List.filter_cons_of_neg (p := fun y : Int × cr_Xp n => p y.2) hy, ih, cr_co_cons]
      by_cases e : y.2 = a
      · rw [if_neg (by rw [← e]; exact hy), if_neg (by rw [← e]; exact hy)]
      · rw [if_neg e]
        by_cases h : p a = true
        · rw [if_pos h, if_pos h]; omega
        · rw [if_neg h, if_neg h]
theorem cr_fl_unique {n : Nat} {l l' : cr_Pl_ n} (h : ∀ x : cr_Pv n, cr_vl x.1 l = cr_vl x.1 l') (p : cr_Xp n → Bool) (x : Fin n → Rat) : cr_vl x (cr_fl p l) = cr_vl x (cr_fl p l') :=
  cr_vl_co x (fun a => by rw [cr_co_fl, cr_co_fl, cr_vl_unique h a])
theorem cr_fl_flat {α : Type} {n : Nat} (l : List α) (f : α → cr_Pl_ n) (p : cr_Xp n → Bool) (q : α → Bool) (h : ∀ y ∈ l, ∀ z ∈ f y, p z.2 = q y) : cr_fl p (l.flatMap f) = (l.filter q).flatMap f := by
  unfold cr_fl
  induction l with
  | nil => rfl
  | cons y l ih =>
    rw [List.flatMap_cons, List.filter_append, ih (fun z hz => h z (by simp [hz]))]
    have hy := h y (by simp)
    by_cases hq : q y = true
    · rw [List.filter_cons_of_pos hq, List.flatMap_cons, List.filter_eq_self.2 (fun z hz => by rw [hy z hz]; exact hq)]
    · rw [List.filter_cons_of_neg hq, List.filter_eq_nil_iff.2 (fun z hz => by rw [hy z hz]; exact hq), List.nil_append]
theorem cr_fl_split {n : Nat} (x : Fin n → Rat) (p : cr_Xp n → Bool) (l : cr_Pl_ n) : cr_vl x l = cr_vl x (cr_fl p l) + cr_vl x (cr_fl (fun a => !p a) l) := by
  unfold cr_fl
  induction l with
  | nil => rw [List.filter_nil, List.filter_nil, cr_vl_nil]; grind
  | cons y l ih =>
    rw [cr_vl_cons, ih]
    cases hy : p y.2
    · rw [List.filter_cons_of_neg (by simp [hy]), List.filter_cons_of_pos (by simp [hy]), cr_vl_cons]; grind
    · rw [List.filter_cons_of_pos (by simp [hy]), List.filter_cons_of_neg (by simp [hy]), cr_vl_cons]; grind
theorem cr_mem_shz {n : Nat} {y z : Int × cr_Xp n} {l : cr_Pl_ n} (h : z ∈ cr_shz y l) : ∃ u ∈ l, z = (y.1 * u.1, fun i => y.2 i + u.2 i) := by
  obtain ⟨u, hu, e⟩ := List.mem_map.1 h
  exact ⟨u, hu, e.symm⟩
theorem cr_mem_pmz {n : Nat} {z : Int × cr_Xp n} {l l' : cr_Pl_ n} (h : z ∈ cr_pmz l l') : ∃ y ∈ l, ∃ u ∈ l', z = (y.1 * u.1, fun i => y.2 i + u.2 i) := by
  obtain ⟨y, hy, e⟩ := List.mem_flatMap.1 h
  exact ⟨y, hy, cr_mem_shz e⟩
theorem cr_pw_all {n : Nat} (φ : cr_Xp n → Int) (h0 : φ (fun _ => 0) = 0) (ha : ∀ a c : cr_Xp n, φ (fun i => a i + c i) = φ a + φ c) {l : cr_Pl_ n} (h : ∀ u ∈ l, φ u.2 = 0) : ∀ m, ∀ u ∈ cr_pw l m, φ u.2 = 0
  | 0, u, hu => by
    have : u = (1, fun _ => 0) := by simpa [cr_pw] using hu
    rw [this]; exact h0
  | m + 1, u, hu => by
    obtain ⟨y, hy, w, hw, rfl⟩ := cr_mem_pmz hu
    show φ (fun i => y.2 i + w.2 i) = 0
    rw [ha, h y hy, cr_pw_all φ h0 ha h m w hw]; rfl
theorem cr_pw_pos {n : Nat} {l : cr_Pl_ n} (h : ∀ u ∈ l, 0 < u.1) : ∀ m, ∀ u ∈ cr_pw l m, 0 < u.1
  | 0, u, hu => by
    have : u = (1, fun _ => 0) := by simpa [cr_pw] using hu
    rw [this]; show (0 : Int) < 1; omega
  | m + 1, u, hu => by
    obtain ⟨y, hy, w, hw, rfl⟩ := cr_mem_pmz hu
    exact Int.mul_pos (h y hy) (cr_pw_pos h m w hw)
theorem cr_Pk_at {n : Nat} {b : Fin n → Fin n → Int} {i k : Fin n} (h : b i k = 0) : ∀ u ∈ cr_Pk b k, u.2 i = 0 := by
  intro u hu
  unfold cr_Pk at hu
  simp only [List.mem_cons, List.not_mem_nil, or_false] at hu
  rcases hu with rfl | rfl
  · show ((cx_pos (b i k) : Nat) : Int) = 0; rw [h]; rfl
  · show ((cx_pos (- b i k) : Nat) : Int) = 0; rw [h]; rfl
theorem cr_ex_at {n : Nat} {b : Fin n → Fin n → Int} {i k : Fin n} (h : b i k = 0) (M : Nat) (y : Int × cr_Xp n) : ∀ z ∈ cr_ex b k M y, z.2 i = cr_up y.2 k (- y.2 k) i := by
  intro z hz
  obtain ⟨u, hu, rfl⟩ := cr_mem_shz hz
  have := cr_pw_all (fun a => a i) rfl (fun _ _ => rfl) (cr_Pk_at h) _ u hu
  show cr_up y.2 k (- y.2 k) i + u.2 i = _
  rw [this]; omega
theorem cr_bound {n : Nat} (l : cr_Pl_ n) (k : Fin n) : ∃ M : Nat, ∀ y ∈ l, 0 ≤ (M : Int) + y.2 k := by
  induction l with
  | nil => exact ⟨0, fun y hy => by simp at hy⟩
  | cons y l ih =>
    obtain ⟨M, h⟩ := ih
    refine ⟨M + (y.2 k).natAbs, fun z hz => ?_⟩
    rcases List.mem_cons.1 hz with rfl | hz
    · omega
    · have := h z hz; omega
theorem cr_row {n : Nat} {b : Fin n → Fin n → Int} {i k : Fin n} (hb : b i k = 0) {l0 l1 : cr_Pl_ n} (h : ∀ x : cr_Pv n, cr_vl x.1 l0 = cr_vl (cr_stepv b k x.1) l1) (p : Int → Bool) (x : cr_Pv n) :
    cr_vl x.1 (cr_fl (fun a => p (a i)) l0) = cr_vl (cr_stepv b k x.1) (cr_fl (fun a => p (cr_up a k (- a k) i)) l1) := by
  obtain ⟨M, hM⟩ := cr_bound l1 k
  have e : ∀ x : cr_Pv n, cr_vl x.1 (l0.flatMap (fun y => cr_shz y (cr_pw (cr_Pk b k) M))) = cr_vl x.1 (l1.flatMap (cr_ex b k M)) := fun x => by
    rw [cr_vl_exs b k x.2 M l1 hM, ← h x]
    show cr_vl x.1 (cr_pmz l0 (cr_pw (cr_Pk b k) M)) = _
    rw [cr_vl_pmz x.2, cr_vl_pw x.2 (by rw [cr_vl_Pk]; exact cr_P_pos b k x.2), cr_vl_Pk]
  have e2 := cr_fl_unique e (fun a => p (a i)) x.1
  rw [cr_fl_flat l0 _ _ (fun y => p (y.2 i)) (fun y _ z hz => by
    obtain ⟨u, hu, rfl⟩ := cr_mem_shz hz
    have := cr_pw_all (fun a => a i) rfl (fun _ _ => rfl) (cr_Pk_at hb) _ u hu
    show p (y.2 i + u.2 i) = p (y.2 i)
    have h2 : u.2 i = 0 := this
    rw [h2, Int.add_zero]), cr_fl_flat l1 _ _ (fun y => p (cr_up y.2 k (- y.2 k) i)) (fun y _ z hz => by
    show p (z.2 i) = _
    rw [cr_ex_at hb M y z hz])] at e2
  have e3 : cr_vl x.1 (cr_pmz (cr_fl (fun a => p (a i)) l0) (cr_pw (cr_Pk b k) M)) = cr_vl x.1 ((cr_fl (fun a => p (cr_up a k (- a k) i)) l1).flatMap (cr_ex b k M)) := e2
  rw [cr_vl_pmz x.2, cr_vl_pw x.2 (by rw [cr_vl_Pk]; exact cr_P_pos b k x.2), cr_vl_Pk, cr_vl_exs b k x.2 M _ (fun y hy => hM y (cr_mem_fl.1 hy).1)] at e3
  exact cx_canc_pos (Rat.zpow_pos (cr_P_pos b k x.2)) e3
theorem cr_P_step {n : Nat} (b : Fin n → Fin n → Int) {k : Fin n} (hb : b k k = 0) (x : Fin n → Rat) : cr_P b k (cr_stepv b k x) = cr_P b k x := by
  unfold cr_P
  rw [cr_mo_agree k (fun j hj => cr_step_ne b x hj) (fun i => (cx_pos (b i k) : Int)) (by rw [hb]; rfl), cr_mo_agree k (fun j hj => cr_step_ne b x hj) (fun i => (cx_pos (- b i k) : Int)) (by rw [hb]; rfl)]
theorem cr_step_step {n : Nat} (b : Fin n → Fin n → Int) {k : Fin n} (hb : b k k = 0) {x : Fin n → Rat} (hx : ∀ j, 0 < x j) : cr_stepv b k (cr_stepv b k x) = x := by
  funext j
  by_cases hj : j = k
  · subst hj
    rw [cr_step_k, cr_P_step b hb, cr_step_k, Rat.inv_mul_rev, Rat.inv_inv]
    have hP := cr_P_pos b j hx
    have : cr_P b j x * (cr_P b j x)⁻¹ = 1 := Rat.mul_inv_cancel _ (by grind)
    grind
  · rw [cr_step_ne b _ hj, cr_step_ne b _ hj]
def cr_sp {n : Nat} (b : Fin n → Fin n → Int) (k : Fin n) (x : cr_Pv n) : cr_Pv n := ⟨cr_stepv b k x.1, cr_stepv_pos b k x.2⟩
theorem cr_sp_sp {n : Nat} (b : Fin n → Fin n → Int) {k : Fin n} (hb : b k k = 0) (x : cr_Pv n) : cr_sp b k (cr_sp b k x) = x := Subtype.ext (cr_step_step b hb x.2)
def cr_Lau {n m : Nat} (q : cr_Pv n → cr_Pv m) (f : cr_Pv n → Rat) : Prop := ∃ l : cr_Pl_ m, ∀ x, f x = cr_vl (q x).1 l
theorem cr_Lau.add {n m : Nat} {q : cr_Pv n → cr_Pv m} {f g : cr_Pv n → Rat} (hf : cr_Lau q f) (hg : cr_Lau q g) : cr_Lau q (fun x => f x + g x) := by
  obtain ⟨l, hl⟩ := hf
  obtain ⟨l', hl'⟩ := hg
  exact ⟨l ++ l', fun x => by show f x + g x = _; rw [cr_vl_app, hl, hl']⟩
theorem cr_Lau.mul {n m : Nat} {q : cr_Pv n → cr_Pv m} {f g : cr_Pv n → Rat} (hf : cr_Lau q f) (hg : cr_Lau q g) : cr_Lau q (fun x => f x * g x) := by
  obtain ⟨l, hl⟩ := hf
  obtain ⟨l', hl'⟩ := hg
  exact ⟨cr_pmz l l', fun x => by show f x * g x = _; rw [cr_vl_pmz (q x).2, hl, hl']⟩
theorem cr_Lau.mono {n m : Nat} (q : cr_Pv n → cr_Pv m) (a : cr_Xp m) : cr_Lau q (fun x => cr_mo (q x).1 a) := ⟨[(1, a)], fun x => (cr_vl_sing _ a).symm⟩
theorem cr_Lau.int {n m : Nat} (q : cr_Pv n → cr_Pv m) (c : Int) : cr_Lau q (fun _ => (c : Rat)) := ⟨[(c, fun _ => 0)], fun x => by rw [cr_vl_cons, cr_vl_nil, cr_mo_zero]; grind⟩
theorem cr_Lau.congr {n m : Nat} {q : cr_Pv n → cr_Pv m} {f g : cr_Pv n → Rat} (hf : cr_Lau q f) (h : ∀ x, g x = f x) : cr_Lau q g := by
  obtain ⟨l, hl⟩ := hf
  exact ⟨l, fun x => by rw [h, hl]⟩
theorem cr_Lau.neg {n m : Nat} {q : cr_Pv n → cr_Pv m} {f : cr_Pv n → Rat} (hf : cr_Lau q f) : cr_Lau q (fun x => - f x) :=
  ((cr_Lau.int q (-1)).mul hf).congr (fun x => by rw [show ((-1 : Int) : Rat) = -1 from rfl]; grind)
theorem cr_Lau.pow {n m : Nat} {q : cr_Pv n → cr_Pv m} {f : cr_Pv n → Rat} (hf : cr_Lau q f) (hp : ∀ x, 0 < f x) : ∀ e : Nat, cr_Lau q (fun x => f x ^ (e : Int))
  | 0 => (cr_Lau.int q 1).congr (fun x => by rw [show ((0 : Nat) : Int) = 0 from rfl, Rat.zpow_zero]; rfl)
  | e + 1 => (hf.mul (cr_Lau.pow hf hp e)).congr (fun x => by rw [show ((e + 1 : Nat) : Int) = 1 + (e : Int) by omega, cr_zp_add (hp x), Rat.zpow_one])
theorem cr_Lau.sum {α : Type} {n m : Nat} {q : cr_Pv n → cr_Pv m} {f : α → cr_Pv n → Rat} : ∀ l : List α, (∀ y ∈ l, cr_Lau q (f y)) → cr_Lau q (fun x => cx_sm l (fun y => f y x))
  | [], _ => (cr_Lau.int q 0).congr (fun x => rfl)
  | y :: l, h => ((h y (by simp)).add (cr_Lau.sum l (fun z hz => h z (by simp [hz])))).congr (fun x => by rw [cx_sm_cons])
theorem cr_Lau.nonneg {n : Nat} (b : Fin n → Fin n → Int) {k : Fin n} (hb : b k k = 0) {l : cr_Pl_ n} (h : ∀ y ∈ l, 0 ≤ y.2 k) : cr_Lau (cr_sp b k) (fun x => cr_vl x.1 l) :=
  ⟨l.flatMap (cr_ex b k 0), fun x => by
    show cr_vl x.1 l = cr_vl (cr_stepv b k x.1) _
    rw [cr_vl_exs b k (cr_stepv_pos b k x.2) 0 l (fun y hy => by have := h y hy; omega), cr_step_step b hb x.2, show ((0 : Nat) : Int) = 0 from rfl, Rat.zpow_zero, Rat.mul_one]⟩
end

section
theorem cr_turnB_turnB {n : Nat} (b : Fin n → Fin n → Int) (k : Fin n) : cr_turnB (cr_turnB b k) k = b := by
  funext i j
  unfold cr_turnB
  by_cases h : i = k ∨ j = k
  · rw [if_pos h, if_pos h]; omega
  · rw [if_neg h, if_neg h, if_pos (.inr rfl), if_pos (.inl rfl)]
    have e1 := cx_posI (b i k)
    have e2 := cx_posI (b k j)
    rw [Int.neg_neg]
    generalize hp : (cx_pos (b i k) : Int) = p at *
    generalize hq : (cx_pos (- b i k) : Int) = q at *
    generalize hr : (cx_pos (b k j) : Int) = r at *
    generalize ht : (cx_pos (- b k j) : Int) = t at *
    have f1 : q = p - b i k := by omega
    have f2 : t = r - b k j := by omega
    rw [f1, f2]
    grind
theorem cr_turnB_col {n : Nat} (b : Fin n → Fin n → Int) (k i : Fin n) : cr_turnB b k i k = - b i k := if_pos (.inr rfl)
theorem cr_stepv_col {n : Nat} {b b' : Fin n → Fin n → Int} {k : Fin n} (h : ∀ i, b' i k = b i k) (v : Fin n → Rat) : cr_stepv b' k v = cr_stepv b k v := by
  funext j
  unfold cr_stepv
  have e1 : (fun i => (cx_pos (b' i k) : Int)) = fun i => (cx_pos (b i k) : Int) := funext fun i => by rw [h i]
  have e2 : (fun i => (cx_pos (- b' i k) : Int)) = fun i => (cx_pos (- b i k) : Int) := funext fun i => by rw [h i]
  rw [e1, e2]
theorem cr_sp_turn {n : Nat} (b : Fin n → Fin n → Int) {k : Fin n} (hb : b k k = 0) (x : cr_Pv n) : cr_sp (cr_turnB b k) k (cr_sp b k x) = x := by
  refine Subtype.ext ?_
  show cr_stepv (cr_turnB b k) k (cr_stepv b k x.1) = x.1
  rw [cr_stepv_neg (fun i => cr_turnB_col b k i), cr_step_step b hb x.2]
def cr_gp {n : Nat} : (Fin n → Fin n → Int) → List (Fin n) → cr_Pv n → cr_Pv n
  | _, [], x => x
  | b, k :: ks, x => cr_gp (cr_turnB b k) ks (cr_sp b k x)
def cr_bs {n : Nat} : (Fin n → Fin n → Int) → List (Fin n) → Fin n → Fin n → Int
  | b, [] => b
  | b, k :: ks => cr_bs (cr_turnB b k) ks
theorem cr_go_gp {n : Nat} (ks : List (Fin n)) : ∀ (b : Fin n → Fin n → Int) (x : cr_Pv n), (cr_go b x.1 ks).2 = (cr_gp b ks x).1 := by
  induction ks with
  | nil => exact fun b x => rfl
  | cons k ks ih => exact fun b x => ih (cr_turnB b k) (cr_sp b k x)
theorem cr_rel {n : Nat} (p : List (Fin n)) : ∀ (s : cx_Sd n) (q : List (Fin n)) (i : Fin n), ∃ L : cr_Pl_ n, (∀ y ∈ L, 0 < y.1) ∧ ∀ x, (cr_gp s.b q x).1 i = cr_vl (cr_gp s.b p x).1 L := by
  induction p with
  | nil =>
    intro s q i
    obtain ⟨L, hL, h⟩ := cr_main s q i
    exact ⟨L, hL, fun x => by rw [← cr_go_gp]; exact h x⟩
  | cons k p ih =>
    intro s q i
    obtain ⟨L, hL, h⟩ := ih (cr_turn s k) (k :: q) i
    refine ⟨L, hL, fun x => ?_⟩
    have h1 := h (cr_sp s.b k x)
    have e : cr_gp (cr_turn s k).b (k :: q) (cr_sp s.b k x) = cr_gp s.b q x := by
      show cr_gp (cr_turnB (cr_turnB s.b k) k) q (cr_sp (cr_turnB s.b k) k (cr_sp s.b k x)) = _
      rw [cr_turnB_turnB, cr_sp_turn s.b (s.self k)]
    rw [e] at h1
    exact h1
theorem cr_rel_lau {n : Nat} (s : cx_Sd n) (p q : List (Fin n)) (i : Fin n) : cr_Lau (cr_gp s.b p) (fun x => (cr_gp s.b q x).1 i) := by
  obtain ⟨L, _, h⟩ := cr_rel p s q i
  exact ⟨L, h⟩
theorem cr_gp_ne {n : Nat} (p : List (Fin n)) : ∀ (b : Fin n → Fin n → Int) (x : cr_Pv n) {i : Fin n}, i ∉ p → (cr_gp b p x).1 i = x.1 i := by
  induction p with
  | nil => exact fun b x i _ => rfl
  | cons k p ih =>
    intro b x i hi
    show (cr_gp (cr_turnB b k) p (cr_sp b k x)).1 i = _
    rw [ih _ _ (fun h => hi (by simp [h]))]
    exact cr_step_ne b x.1 (fun e => hi (by simp [e]))
theorem cr_unit_lau {n : Nat} (b : Fin n → Fin n → Int) (p : List (Fin n)) (a : cr_Xp n) (h : ∀ i ∈ p, a i = 0) : cr_Lau (cr_gp b p) (fun x => cr_mo x.1 a) :=
  (cr_Lau.mono _ a).congr (fun x => cr_mo_congr (fun i => by
    by_cases hi : i ∈ p
    · rw [h i hi, Rat.zpow_zero, Rat.zpow_zero]
    · rw [cr_gp_ne p b x hi]))
def cr_Tp {n : Nat} (j : Fin n) (d : Int) (f r : cr_Pv n → Rat) : Prop := ∃ l l' : cr_Pl_ n, (∀ y ∈ l, y.2 j = d) ∧ (∀ y ∈ l', d < y.2 j) ∧ (∀ x, r x = cr_vl x.1 l) ∧ ∀ x, f x = cr_vl x.1 l + cr_vl x.1 l'
theorem cr_Tp.congr {n : Nat} {j : Fin n} {d d' : Int} {f r f' r' : cr_Pv n → Rat} (h : cr_Tp j d f r) (e : d' = d) (hf : ∀ x, f' x = f x) (hr : ∀ x, r' x = r x) : cr_Tp j d' f' r' := by
  obtain ⟨l, l', h1, h2, h3, h4⟩ := h
  subst e
  exact ⟨l, l', h1, h2, fun x => by rw [hr, h3], fun x => by rw [hf, h4]⟩
theorem cr_Tp.add {n : Nat} {j : Fin n} {d : Int} {f r f' r' : cr_Pv n → Rat} (h : cr_Tp j d f r) (h' : cr_Tp j d f' r') : cr_Tp j d (fun x => f x + f' x) (fun x => r x + r' x) := by
  obtain ⟨l, l', h1, h2, h3, h4⟩ := h
  obtain ⟨m, m', k1, k2, k3, k4⟩ := h'
  refine ⟨l ++ m, l' ++ m', fun y hy => ?_, fun y hy => ?_, fun x => ?_, fun x => ?_⟩
  · rcases List.mem_append.1 hy with h | h; exact h1 y h; exact k1 y h
  · rcases List.mem_append.1 hy with h | h; exact h2 y h; exact k2 y h
  · show r x + r' x = _; rw [cr_vl_app, h3, k3]
  · show f x + f' x = _; rw [cr_vl_app, cr_vl_app, h4, k4]; grind
theorem cr_Tp.mul {n : Nat} {j : Fin n} {d d' : Int} {f r f' r' : cr_Pv n → Rat} (h : cr_Tp j d f r) (h' : cr_Tp j d' f' r') : cr_Tp j (d + d') (fun x => f x * f' x) (fun x => r x * r' x) := by
  obtain ⟨l, l', h1, h2, h3, h4⟩ := h
  obtain ⟨m, m', k1, k2, k3, k4⟩ := h'
  refine ⟨cr_pmz l m, cr_pmz l m' ++ cr_pmz l' (m ++ m'), fun y hy => ?_, fun y hy => ?_, fun x => ?_, fun x => ?_⟩
  · obtain ⟨u, hu, w, hw, rfl⟩ := cr_mem_pmz hy
    show u.2 j + w.2 j = _; rw [h1 u hu, k1 w hw]
  · rcases List.mem_append.1 hy with hy | hy
    · obtain ⟨u, hu, w, hw, rfl⟩ := cr_mem_pmz hy
      show _ < u.2 j + w.2 j
      have := h1 u hu; have := k2 w hw; omega
    · obtain ⟨u, hu, w, hw, rfl⟩ := cr_mem_pmz hy
      show _ < u.2 j + w.2 j
      have := h2 u hu
      rcases List.mem_append.1 hw with hw | hw
      · have := k1 w hw; omega
      · have := k2 w hw; omega
  · show r x * r' x = _; rw [cr_vl_pmz x.2, h3, k3]
  · show f x * f' x = _; rw [cr_vl_app, cr_vl_pmz x.2, cr_vl_pmz x.2, cr_vl_pmz x.2, cr_vl_app, h4, k4]; grind
theorem cr_Tp.mono {n : Nat} (j : Fin n) (a : cr_Xp n) : cr_Tp j (a j) (fun x : cr_Pv n => cr_mo x.1 a) (fun x => cr_mo x.1 a) :=
  ⟨[(1, a)], [], fun y hy => by simp at hy; rw [hy], fun y hy => by simp at hy, fun x => (cr_vl_sing _ a).symm, fun x => by rw [cr_vl_sing, cr_vl_nil]; grind⟩
theorem cr_Tp.int {n : Nat} (j : Fin n) (c : Int) : cr_Tp j 0 (fun _ : cr_Pv n => (c : Rat)) (fun _ => (c : Rat)) :=
  ⟨[(c, fun _ => 0)], [], fun y hy => by simp at hy; rw [hy], fun y hy => by simp at hy, fun x => by rw [cr_vl_cons, cr_vl_nil, cr_mo_zero]; grind, fun x => by rw [cr_vl_cons, cr_vl_nil, cr_mo_zero]; grind⟩
theorem cr_Tp.pow {n : Nat} {j : Fin n} {f r : cr_Pv n → Rat} (h : cr_Tp j 0 f r) (hf : ∀ x, 0 < f x) (hr : ∀ x, 0 < r x) : ∀ e : Nat, cr_Tp j 0 (fun x => f x ^ (e : Int)) (fun x => r x ^ (e : Int))
  | 0 => (cr_Tp.int j 1).congr rfl (fun x => by rw [show ((0 : Nat) : Int) = 0 from rfl, Rat.zpow_zero]; rfl) (fun x => by rw [show ((0 : Nat) : Int) = 0 from rfl, Rat.zpow_zero]; rfl)
  | e + 1 => (h.mul (cr_Tp.pow h hf hr e)).congr rfl (fun x => by rw [show ((e + 1 : Nat) : Int) = 1 + (e : Int) by omega, cr_zp_add (hf x), Rat.zpow_one]) (fun x => by rw [show ((e + 1 : Nat) : Int) = 1 + (e : Int) by omega, cr_zp_add (hr x), Rat.zpow_one])
theorem cr_Tp.up {n : Nat} {j : Fin n} {d d' : Int} {f r : cr_Pv n → Rat} (h : cr_Tp j d f r) (hd : d' < d) : cr_Tp j d' f (fun _ => 0) := by
  obtain ⟨l, l', h1, h2, h3, h4⟩ := h
  refine ⟨[], l ++ l', fun y hy => by simp at hy, fun y hy => ?_, fun x => rfl, fun x => by rw [cr_vl_nil, cr_vl_app, h4]; grind⟩
  rcases List.mem_append.1 hy with h | h
  · have := h1 y h; omega
  · have := h2 y h; omega
theorem cr_Tp.sum {α : Type} {n : Nat} {j : Fin n} {d : Int} {f r : α → cr_Pv n → Rat} : ∀ l : List α, (∀ y ∈ l, cr_Tp j d (f y) (r y)) → cr_Tp j d (fun x => cx_sm l (fun y => f y x)) (fun x => cx_sm l (fun y => r y x))
  | [], _ => ⟨[], [], fun y hy => by simp at hy, fun y hy => by simp at hy, fun x => rfl, fun x => by rw [cr_vl_nil]; show (0 : Rat) = 0 + 0; grind⟩
  | y :: l, h => ((h y (by simp)).add (cr_Tp.sum l (fun z hz => h z (by simp [hz])))).congr rfl (fun x => by rw [cx_sm_cons]) (fun x => by rw [cx_sm_cons])
theorem cr_Tp.uniq {n : Nat} {j : Fin n} {d : Int} {f r r' : cr_Pv n → Rat} (h : cr_Tp j d f r) (h' : cr_Tp j d f r') (x : cr_Pv n) : r x = r' x := by
  obtain ⟨l, l', h1, h2, h3, h4⟩ := h
  obtain ⟨m, m', k1, k2, k3, k4⟩ := h'
  have key : ∀ l l' : cr_Pl_ n, (∀ y ∈ l, y.2 j = d) → (∀ y ∈ l', d < y.2 j) → cr_fl (fun a => decide (a j = d)) (l ++ l') = l := fun l l' h1 h2 => by
    unfold cr_fl
    rw [List.filter_append, List.filter_eq_self.2 (fun y hy => by simpa using h1 y hy), List.filter_eq_nil_iff.2 (fun y hy => by have := h2 y hy; simp; omega), List.append_nil]
  have e := cr_fl_unique (l := l ++ l') (l' := m ++ m') (fun x => by rw [cr_vl_app, cr_vl_app, ← h4, ← k4]) (fun a => decide (a j = d)) x.1
  rw [key l l' h1 h2, key m m' k1 k2] at e
  rw [h3, k3, e]
theorem cr_Tp.get {n : Nat} (j : Fin n) {d : Int} {l : cr_Pl_ n} (h : ∀ y ∈ l, d ≤ y.2 j) : cr_Tp j d (fun x : cr_Pv n => cr_vl x.1 l) (fun x => cr_vl x.1 (cr_fl (fun a => decide (a j = d)) l)) := by
  refine ⟨cr_fl (fun a => decide (a j = d)) l, cr_fl (fun a => !decide (a j = d)) l, fun y hy => by simpa using (cr_mem_fl.1 hy).2, fun y hy => ?_, fun x => rfl, fun x => cr_fl_split _ _ _⟩
  obtain ⟨hy, h2⟩ := cr_mem_fl.1 hy
  have := h y hy
  have h3 : y.2 j ≠ d := by simpa using h2
  omega
end

section
theorem cr_mo_e {n : Nat} (x : Fin n → Rat) (k : Fin n) (c : Int) : cr_mo x (cr_up (fun _ => 0) k c) = x k ^ c := by
  rw [cr_mo_up]
  have : cr_up (fun _ => 0) k 0 = fun _ : Fin n => (0 : Int) := funext fun i => by unfold cr_up; by_cases h : i = k; rw [if_pos h]; rw [if_neg h]
  rw [this, cr_mo_zero, Rat.mul_one]
theorem cr_mo_inv {n : Nat} {x : Fin n → Rat} (hx : ∀ j, 0 < x j) (a : cr_Xp n) : (cr_mo x a)⁻¹ = cr_mo x (fun i => - a i) := by
  have h := cr_mo_pos hx a
  refine cx_canc_pos h ?_
  rw [Rat.inv_mul_cancel _ (by grind), ← cr_mo_add hx]
  have : (fun i => - a i + a i) = fun _ => (0 : Int) := funext fun i => by omega
  rw [this, cr_mo_zero]
noncomputable def cr_bB {n : Nat} (b : Fin n → Fin n → Int) (k j : Fin n) : cr_Xp n := fun i => if 0 < b j k then (cx_pos (- b i k) : Int) else (cx_pos (b i k) : Int)
noncomputable def cr_bA {n : Nat} (b : Fin n → Fin n → Int) (k j : Fin n) : cr_Xp n := fun i => if 0 < b j k then (cx_pos (b i k) : Int) else (cx_pos (- b i k) : Int)
theorem cr_bB_j {n : Nat} (b : Fin n → Fin n → Int) (k j : Fin n) : cr_bB b k j j = 0 := by
  unfold cr_bB cx_pos
  by_cases h : 0 < b j k
  · rw [if_pos h]; omega
  · rw [if_neg h]; omega
theorem cr_bB_k {n : Nat} {b : Fin n → Fin n → Int} {k : Fin n} (hb : b k k = 0) (j : Fin n) : cr_bB b k j k = 0 := by
  unfold cr_bB cx_pos
  rw [hb]
  by_cases h : 0 < b j k
  · rw [if_pos h]; rfl
  · rw [if_neg h]; rfl
theorem cr_bA_j {n : Nat} {b : Fin n → Fin n → Int} {k j : Fin n} (hb : b j k ≠ 0) : 0 < cr_bA b k j j := by
  unfold cr_bA cx_pos
  by_cases h : 0 < b j k
  · rw [if_pos h]; omega
  · rw [if_neg h]; omega
theorem cr_P_AB {n : Nat} (b : Fin n → Fin n → Int) (k j : Fin n) (x : Fin n → Rat) : cr_P b k x = cr_mo x (cr_bB b k j) + cr_mo x (cr_bA b k j) := by
  unfold cr_P cr_bA cr_bB
  by_cases h : 0 < b j k
  · have e1 : (fun i => if 0 < b j k then (cx_pos (- b i k) : Int) else (cx_pos (b i k) : Int)) = fun i => (cx_pos (- b i k) : Int) := funext fun i => if_pos h
    have e2 : (fun i => if 0 < b j k then (cx_pos (b i k) : Int) else (cx_pos (- b i k) : Int)) = fun i => (cx_pos (b i k) : Int) := funext fun i => if_pos h
    rw [e1, e2]; grind
  · have e1 : (fun i => if 0 < b j k then (cx_pos (- b i k) : Int) else (cx_pos (b i k) : Int)) = fun i => (cx_pos (b i k) : Int) := funext fun i => if_neg h
    have e2 : (fun i => if 0 < b j k then (cx_pos (b i k) : Int) else (cx_pos (- b i k) : Int)) = fun i => (cx_pos (- b i k) : Int) := funext fun i => if_neg h
    rw [e1, e2]
theorem cr_inv_e {x : Rat} (h : 0 < x) : x⁻¹ = x ^ (-1 : Int) := by
  have := cr_inv_zp h 1
  rw [Rat.zpow_one] at this
  exact this
theorem cr_Tk {n : Nat} {b : Fin n → Fin n → Int} {k j : Fin n} (hjk : j ≠ k) (hb : b j k ≠ 0) : cr_Tp j 0 (fun x : cr_Pv n => (cr_sp b k x).1 k) (fun x => cr_mo x.1 (cr_bB b k j) * (x.1 k)⁻¹) := by
  have h1 := ((cr_Tp.mono j (cr_bB b k j)).congr (d' := 0) (cr_bB_j b k j).symm (fun _ => rfl) (fun _ => rfl)).add ((cr_Tp.mono j (cr_bA b k j)).up (cr_bA_j hb))
  have h2 : cr_Tp j 0 (fun x : cr_Pv n => (x.1 k)⁻¹) (fun x => (x.1 k)⁻¹) := (cr_Tp.mono j (cr_up (fun _ => 0) k (-1))).congr (by rw [cr_up_ne _ _ hjk]) (fun x => by rw [cr_mo_e, cr_inv_e (x.2 k)]) (fun x => by rw [cr_mo_e, cr_inv_e (x.2 k)])
  refine (h1.mul h2).congr rfl (fun x => ?_) (fun x => by grind)
  show cr_stepv b k x.1 k = _
  rw [cr_step_k, cr_P_AB b k j]
theorem cr_Tj {n : Nat} {b : Fin n → Fin n → Int} {j : Fin n} (hb : b j j = 0) (D : Nat) : cr_Tp j (-(D : Int)) (fun x : cr_Pv n => (cr_sp b j x).1 j ^ (D : Int)) (fun x => (cr_sp b j x).1 j ^ (D : Int)) := by
  have e : ∀ x : cr_Pv n, (cr_sp b j x).1 j ^ (D : Int) = cr_vl x.1 (cr_ex b j 0 (1, cr_up (fun _ => 0) j D)) := fun x => by
    rw [cr_vl_ex b j x.2 0 _ (by show 0 ≤ ((0 : Nat) : Int) + cr_up (fun _ => 0) j D j; rw [cr_up_k]; omega)]
    show _ = ((1 : Int) : Rat) * cr_mo (cr_stepv b j x.1) (cr_up (fun _ => 0) j D) * cr_P b j x.1 ^ ((0 : Nat) : Int)
    rw [cr_mo_e, show ((0 : Nat) : Int) = 0 from rfl, Rat.zpow_zero, show ((1 : Int) : Rat) = 1 from rfl, Rat.one_mul, Rat.mul_one]; rfl
  refine ⟨_, [], fun y hy => ?_, fun y hy => by simp at hy, e, fun x => by show (cr_sp b j x).1 j ^ (D : Int) = _; rw [cr_vl_nil, e x]; grind⟩
  rw [cr_ex_at hb 0 _ y hy]
  show cr_up (cr_up (fun _ => 0) j D) j (- cr_up (fun _ => 0) j D j) j = _
  rw [cr_up_k, cr_up_k]
noncomputable def cr_ka {n : Nat} (b : Fin n → Fin n → Int) (k j : Fin n) (z : Int) (x : cr_Pv n) : Rat := if 0 ≤ z then x.1 k ^ z else ((cr_sp b k x).1 k * (cr_mo x.1 (cr_bB b k j))⁻¹) ^ (-z)
theorem cr_ka_lau {n : Nat} (s : cx_Sd n) (k j : Fin n) (p : List (Fin n)) (hp : ∀ i ∈ p, i = k ∨ i = j) (z : Int) : cr_Lau (cr_gp s.b p) (cr_ka s.b k j z) := by
  unfold cr_ka
  by_cases hz : 0 ≤ z
  · refine (cr_Lau.pow (cr_rel_lau s p [] k) (fun x => x.2 k) z.toNat).congr (fun x => ?_)
    rw [if_pos hz, Int.toNat_of_nonneg hz]; rfl
  · have h1 : cr_Lau (cr_gp s.b p) (fun x => (cr_sp s.b k x).1 k) := cr_rel_lau s p [k] k
    have h2 : cr_Lau (cr_gp s.b p) (fun x => (cr_mo x.1 (cr_bB s.b k j))⁻¹) := (cr_unit_lau s.b p (fun i => - cr_bB s.b k j i) (fun i hi => by
      rcases hp i hi with rfl | rfl
      · rw [cr_bB_k (s.self i)]; rfl
      · rw [cr_bB_j]; rfl)).congr (fun x => cr_mo_inv x.2 _)
    refine (cr_Lau.pow (h1.mul h2) (fun x => Rat.mul_pos ((cr_sp s.b k x).2 k) (Rat.inv_pos.2 (cr_mo_pos x.2 _))) (-z).toNat).congr (fun x => ?_)
    rw [if_neg hz, Int.toNat_of_nonneg (by omega)]
theorem cr_ka_tp {n : Nat} {b : Fin n → Fin n → Int} {k j : Fin n} (hjk : j ≠ k) (hb : b j k ≠ 0) (z : Int) : cr_Tp j 0 (cr_ka b k j z) (fun x => x.1 k ^ z) := by
  unfold cr_ka
  by_cases hz : 0 ≤ z
  · exact (cr_Tp.mono j (cr_up (fun _ => 0) k z)).congr (by rw [cr_up_ne _ _ hjk]) (fun x => by rw [if_pos hz, cr_mo_e]) (fun x => by rw [cr_mo_e])
  · have h2 : cr_Tp j 0 (fun x : cr_Pv n => (cr_mo x.1 (cr_bB b k j))⁻¹) (fun x => (cr_mo x.1 (cr_bB b k j))⁻¹) := (cr_Tp.mono j (fun i => - cr_bB b k j i)).congr (by rw [cr_bB_j]; rfl) (fun x => cr_mo_inv x.2 _) (fun x => cr_mo_inv x.2 _)
    have h3 := ((cr_Tk hjk hb).mul h2).congr (d' := 0) (r' := fun x => (x.1 k)⁻¹) rfl (fun _ => rfl) (fun x => by
      have hp := cr_mo_pos x.2 (cr_bB b k j)
      have : cr_mo x.1 (cr_bB b k j) * (cr_mo x.1 (cr_bB b k j))⁻¹ = 1 := Rat.mul_inv_cancel _ (by grind)
      grind)
    refine (h3.pow (fun x => Rat.mul_pos ((cr_sp b k x).2 k) (Rat.inv_pos.2 (cr_mo_pos x.2 _))) (fun x => Rat.inv_pos.2 (x.2 k)) (-z).toNat).congr rfl (fun x => ?_) (fun x => ?_)
    · rw [if_neg hz, Int.toNat_of_nonneg (by omega)]
    · rw [Int.toNat_of_nonneg (by omega), cr_inv_zp (x.2 k), Int.neg_neg]
noncomputable def cr_gy {n : Nat} (b : Fin n → Fin n → Int) (k j : Fin n) (D : Nat) (y : Int × cr_Xp n) (x : cr_Pv n) : Rat := (y.1 : Rat) * ((cr_sp b j x).1 j ^ (D : Int) * (cr_ka b k j (y.2 k) x * cr_mo x.1 (cr_up (cr_up y.2 k 0) j 0)))
theorem cr_gy_lau {n : Nat} (s : cx_Sd n) (k j : Fin n) (p : List (Fin n)) (hp : ∀ i ∈ p, i = k ∨ i = j) (D : Nat) (y : Int × cr_Xp n) : cr_Lau (cr_gp s.b p) (cr_gy s.b k j D y) := by
  have h1 : cr_Lau (cr_gp s.b p) (fun x => (cr_sp s.b j x).1 j) := cr_rel_lau s p [j] j
  have h2 := cr_unit_lau s.b p (cr_up (cr_up y.2 k 0) j 0) (fun i hi => by
    by_cases hj : i = j
    · rw [hj, cr_up_k]
    · rw [cr_up_ne _ _ hj]
      rcases hp i hi with rfl | h
      · rw [cr_up_k]
      · exact absurd h hj)
  exact (cr_Lau.int _ y.1).mul ((h1.pow (fun x => (cr_sp s.b j x).2 j) D).mul ((cr_ka_lau s k j p hp (y.2 k)).mul h2))
theorem cr_gy_tp {n : Nat} {b : Fin n → Fin n → Int} {k j : Fin n} (hjk : j ≠ k) (hb : b j k ≠ 0) (hj0 : b j j = 0) (D : Nat) (y : Int × cr_Xp n) (hy : y.2 j = D) : cr_Tp j (-(D : Int)) (cr_gy b k j D y) (fun x => (y.1 : Rat) * cr_mo (cr_stepv b j x.1) y.2) := by
  have h := (cr_Tp.int (n := n) j y.1).mul ((cr_Tj hj0 D).mul ((cr_ka_tp hjk hb (y.2 k)).mul (cr_Tp.mono j (cr_up (cr_up y.2 k 0) j 0))))
  refine h.congr (by rw [cr_up_k]; omega) (fun x => rfl) (fun x => ?_)
  congr 1
  rw [cr_mo_up0 (cr_stepv b j x.1) y.2 j, cr_mo_agree j (fun i hi => cr_step_ne b x.1 hi) (cr_up y.2 j 0) (cr_up_k _ _ _), cr_mo_up0 x.1 (cr_up y.2 j 0) k, cr_up_ne _ _ (fun e => hjk e.symm), hy]
  have : cr_up (cr_up y.2 j 0) k 0 = cr_up (cr_up y.2 k 0) j 0 := funext fun i => by
    by_cases h1 : i = k
    · rw [h1, cr_up_k, cr_up_ne _ _ (fun e => hjk e.symm), cr_up_k]
    · by_cases h2 : i = j
      · rw [h2, cr_up_k, cr_up_ne _ _ hjk, cr_up_k]
      · rw [cr_up_ne _ _ h1, cr_up_ne _ _ h2, cr_up_ne _ _ h2, cr_up_ne _ _ h1]
  rw [this]; rfl
theorem cr_vl_sm {n : Nat} (x : Fin n → Rat) (l : cr_Pl_ n) : cr_vl x l = cx_sm l (fun y => (y.1 : Rat) * cr_mo x y.2) := rfl
theorem cr_clean {n : Nat} {b : Fin n → Fin n → Int} {k j : Fin n} (hjk : j ≠ k) (hb : b j k ≠ 0) (hk0 : b k k = 0) (l0 : cr_Pl_ n) (hl0 : ∀ y ∈ l0, 0 ≤ y.2 j) : ∀ (N : Nat) (G : cr_Pl_ n), (∀ y ∈ G, 0 ≤ y.2 k) → (∀ y ∈ G, -(N : Int) ≤ y.2 j) →
    (∀ x : cr_Pv n, cr_vl (cr_stepv b k x.1) G = cr_vl x.1 l0) → ∃ G' : cr_Pl_ n, (∀ y ∈ G', 0 ≤ y.2 j) ∧ ∀ x : cr_Pv n, cr_vl (cr_stepv b k x.1) G' = cr_vl x.1 l0
  | 0, G, _, hj, h => ⟨G, fun y hy => by have := hj y hy; omega, h⟩
  | N + 1, G, hk, hj, h => by
    classical
    let ρ : Int × cr_Xp n → cr_Pv n → Rat := fun y x => (y.1 : Rat) * ((cr_mo x.1 (cr_bB b k j) * (x.1 k)⁻¹) ^ y.2 k * cr_mo x.1 (cr_up y.2 k 0))
    have htp : ∀ y ∈ G, cr_Tp j (y.2 j) (fun x : cr_Pv n => (y.1 : Rat) * cr_mo (cr_stepv b k x.1) y.2) (ρ y) := fun y hy => by
      have h1 := (cr_Tk hjk hb).pow (fun x => (cr_sp b k x).2 k) (fun x => Rat.mul_pos (cr_mo_pos x.2 _) (Rat.inv_pos.2 (x.2 k))) (y.2 k).toNat
      refine ((cr_Tp.int (n := n) j y.1).mul (h1.mul (cr_Tp.mono j (cr_up y.2 k 0)))).congr (by rw [cr_up_ne _ _ hjk]; omega) (fun x => ?_) (fun x => ?_)
      · rw [cr_mo_up0 (cr_stepv b k x.1) y.2 k, cr_mo_agree k (fun i hi => cr_step_ne b x.1 hi) (cr_up y.2 k 0) (cr_up_k _ _ _), Int.toNat_of_nonneg (hk y hy)]; rfl
      · rw [Int.toNat_of_nonneg (hk y hy)]
    have htp2 : ∀ y ∈ G, cr_Tp j (-((N + 1 : Nat) : Int)) (fun x : cr_Pv n => (y.1 : Rat) * cr_mo (cr_stepv b k x.1) y.2) (fun x => if y.2 j = -((N + 1 : Nat) : Int) then ρ y x else 0) := fun y hy => by
      by_cases e : y.2 j = -((N + 1 : Nat) : Int)
      · exact (htp y hy).congr e.symm (fun _ => rfl) (fun x => if_pos e)
      · exact ((htp y hy).up (by have := hj y hy; omega)).congr rfl (fun _ => rfl) (fun x => if_neg e)
    have hs := cr_Tp.sum G htp2
    have hz : cr_Tp j (-((N + 1 : Nat) : Int)) (fun x : cr_Pv n => cx_sm G (fun y => (y.1 : Rat) * cr_mo (cr_stepv b k x.1) y.2)) (fun _ => 0) :=
      ((cr_Tp.get j (d := 0) hl0).up (by omega)).congr rfl (fun x => h x) (fun _ => rfl)
    have hzero : ∀ x : cr_Pv n, cr_vl (cr_stepv b k x.1) (cr_fl (fun a => decide (a j = -((N + 1 : Nat) : Int))) G) = 0 := fun x => by
      let x' : cr_Pv n := ⟨fun i => if i = k then cr_mo x.1 (cr_bB b k j) * (cr_stepv b k x.1 k)⁻¹ else x.1 i, fun i => by
        show 0 < if i = k then cr_mo x.1 (cr_bB b k j) * (cr_stepv b k x.1 k)⁻¹ else x.1 i
        by_cases hi : i = k
        · rw [if_pos hi]; exact Rat.mul_pos (cr_mo_pos x.2 _) (Rat.inv_pos.2 (cr_stepv_pos b k x.2 k))
        · rw [if_neg hi]; exact x.2 i⟩
      have e0 := hs.uniq hz x'
      have hag : ∀ i, i ≠ k → x'.1 i = x.1 i := fun i hi => if_neg hi
      have hρ : ∀ y, ρ y x' = (y.1 : Rat) * cr_mo (cr_stepv b k x.1) y.2 := fun y => by
        show (y.1 : Rat) * ((cr_mo x'.1 (cr_bB b k j) * (x'.1 k)⁻¹) ^ y.2 k * cr_mo x'.1 (cr_up y.2 k 0)) = _
        rw [cr_mo_agree k hag (cr_bB b k j) (cr_bB_k hk0 j), cr_mo_agree k hag (cr_up y.2 k 0) (cr_up_k _ _ _)]
        have hk' : x'.1 k = cr_mo x.1 (cr_bB b k j) * (cr_stepv b k x.1 k)⁻¹ := if_pos rfl
        have hp := cr_mo_pos x.2 (cr_bB b k j)
        have hm : cr_mo x.1 (cr_bB b k j) * (x'.1 k)⁻¹ = cr_stepv b k x.1 k := by
          rw [hk', Rat.inv_mul_rev, Rat.inv_inv]
          have : cr_mo x.1 (cr_bB b k j) * (cr_mo x.1 (cr_bB b k j))⁻¹ = 1 := Rat.mul_inv_cancel _ (by grind)
          grind
        rw [hm, cr_mo_up0 (cr_stepv b k x.1) y.2 k, cr_mo_agree k (fun i hi => cr_step_ne b x.1 hi) (cr_up y.2 k 0) (cr_up_k _ _ _)]
      have e1 : cx_sm G (fun y => if y.2 j = -((N + 1 : Nat) : Int) then ρ y x' else 0) = 0 := e0
      rw [cx_sm_filter G (fun y => decide (y.2 j = -((N + 1 : Nat) : Int))) _ (fun y _ hy => if_neg (by simpa using hy))] at e1
      refine Eq.trans ?_ e1
      show cx_sm (G.filter (fun y => decide (y.2 j = -((N + 1 : Nat) : Int)))) _ = _
      refine cx_sm_congr (fun y hy => ?_)
      have := (List.mem_filter.1 hy).2
      rw [if_pos (by simpa using this), hρ y]
    obtain ⟨G', h1, h2⟩ := cr_clean hjk hb hk0 l0 hl0 N (cr_fl (fun a => !decide (a j = -((N + 1 : Nat) : Int))) G) (fun y hy => hk y (cr_mem_fl.1 hy).1) (fun y hy => by
      obtain ⟨hy, h3⟩ := cr_mem_fl.1 hy
      have h4 : y.2 j ≠ -((N + 1 : Nat) : Int) := by simpa using h3
      have := hj y hy
      omega) (fun x => by
      rw [← h x, cr_fl_split (cr_stepv b k x.1) (fun a => decide (a j = -((N + 1 : Nat) : Int))) G, hzero x]; grind)
    exact ⟨G', h1, h2⟩
theorem cr_caseA0 {n : Nat} (s : cx_Sd n) {k j : Fin n} (hjk : j ≠ k) (hb : s.b j k ≠ 0) {f : cr_Pv n → Rat} {l0 : cr_Pl_ n} (hl0 : ∀ y ∈ l0, 0 ≤ y.2 j) (h0 : ∀ x, f x = cr_vl x.1 l0) (h1 : cr_Lau (cr_sp s.b k) f) : cr_Lau (cr_gp s.b [k, j]) f := by
  obtain ⟨l1, h1⟩ := h1
  have hr := cr_row (s.self k) (l0 := l0) (l1 := l1) (fun x => by rw [← h0]; exact h1 x) (fun z => decide (z < 0))
  let G := cr_fl (fun a => decide (cr_up a k (- a k) k < 0)) l1
  have hGk : ∀ y ∈ G, 0 ≤ y.2 k := fun y hy => by
    have h2 := (cr_mem_fl.1 hy).2
    have h3 : cr_up y.2 k (- y.2 k) k < 0 := by simpa using h2
    rw [cr_up_k] at h3
    omega
  obtain ⟨N, hN⟩ := cr_bound G j
  obtain ⟨G', hG', hv⟩ := cr_clean hjk hb (s.self k) (cr_fl (fun a => decide (a k < 0)) l0) (fun y hy => hl0 y (cr_mem_fl.1 hy).1) N G hGk (fun y hy => by have := hN y hy; omega) (fun x => (hr x).symm)
  have hA : cr_Lau (cr_gp s.b [k, j]) (fun x => cr_vl (cr_sp s.b k x).1 G') := by
    obtain ⟨l, hl⟩ := cr_Lau.nonneg (cr_turnB s.b k) ((cr_turn s k).self j) hG'
    exact ⟨l, fun x => hl (cr_sp s.b k x)⟩
  have hB : cr_Lau (cr_gp s.b [k, j]) (fun x => cr_vl x.1 (cr_fl (fun a => !decide (a k < 0)) l0)) := by
    refine cr_Lau.sum (f := fun (y : Int × cr_Xp n) (x : cr_Pv n) => (y.1 : Rat) * cr_mo x.1 y.2) _ (fun y hy => ?_)
    obtain ⟨hy, h2⟩ := cr_mem_fl.1 hy
    have hyk : 0 ≤ y.2 k := by
      have h3 : ¬ y.2 k < 0 := by simpa using h2
      omega
    have hyj := hl0 y hy
    have g1 := cr_Lau.pow (cr_rel_lau s [k, j] [] k) (fun x => x.2 k) (y.2 k).toNat
    have g2 := cr_Lau.pow (cr_rel_lau s [k, j] [] j) (fun x => x.2 j) (y.2 j).toNat
    have g3 := cr_unit_lau s.b [k, j] (cr_up (cr_up y.2 k 0) j 0) (fun i hi => by
      by_cases hj : i = j
      · rw [hj, cr_up_k]
      · rw [cr_up_ne _ _ hj]
        simp only [List.mem_cons, List.not_mem_nil, or_false] at hi
        rcases hi with rfl | h
        · rw [cr_up_k]
        · exact absurd h hj)
    refine ((cr_Lau.int _ y.1).mul (g1.mul (g2.mul g3))).congr (fun x => ?_)
    congr 1
    rw [cr_mo_up0 x.1 y.2 k, cr_mo_up0 x.1 (cr_up y.2 k 0) j, cr_up_ne _ _ hjk, Int.toNat_of_nonneg hyk, Int.toNat_of_nonneg hyj]; rfl
  refine (hA.add hB).congr (fun x => ?_)
  rw [h0 x, cr_fl_split x.1 (fun a => decide (a k < 0)) l0, ← hv x]; rfl
theorem cr_caseA {n : Nat} (s : cx_Sd n) {k j : Fin n} (hjk : j ≠ k) (hb : s.b j k ≠ 0) : ∀ (D : Nat) (f : cr_Pv n → Rat) (l0 : cr_Pl_ n), (∀ y ∈ l0, -(D : Int) ≤ y.2 j) → (∀ x, f x = cr_vl x.1 l0) → cr_Lau (cr_sp s.b k) f → cr_Lau (cr_sp s.b j) f → cr_Lau (cr_gp s.b [k, j]) f
  | 0, f, l0, hD, h0, h1, _ => cr_caseA0 s hjk hb (fun y hy => by have := hD y hy; omega) h0 h1
  | D + 1, f, l0, hD, h0, h1, h2 => by
    obtain ⟨l2, h2'⟩ := h2
    have hr := cr_row (s.self j) (l0 := l0) (l1 := l2) (fun x => by rw [← h0]; exact h2' x) (fun z => decide (z = -((D + 1 : Nat) : Int)))
    let m2 := cr_fl (fun a => decide (cr_up a j (- a j) j = -((D + 1 : Nat) : Int))) l2
    have hm : ∀ y ∈ m2, y.2 j = ((D + 1 : Nat) : Int) := fun y hy => by
      have h3 := (cr_mem_fl.1 hy).2
      have h4 : cr_up y.2 j (- y.2 j) j = -((D + 1 : Nat) : Int) := by simpa using h3
      rw [cr_up_k] at h4
      omega
    let g : cr_Pv n → Rat := fun x => cx_sm m2 (fun y => cr_gy s.b k j (D + 1) y x)
    have hg : ∀ p : List (Fin n), (∀ i ∈ p, i = k ∨ i = j) → cr_Lau (cr_gp s.b p) g := fun p hp => cr_Lau.sum m2 (fun y _ => cr_gy_lau s k j p hp (D + 1) y)
    have ht := cr_Tp.sum (j := j) (d := -((D + 1 : Nat) : Int)) m2 (fun y hy => cr_gy_tp hjk hb (s.self j) (D + 1) y (hm y hy))
    have hf := (cr_Tp.get j hD).add ((((cr_Tp.int (n := n) j (-1)).mul ht)).congr (d' := -((D + 1 : Nat) : Int)) (by omega) (fun _ => rfl) (fun _ => rfl))
    obtain ⟨l, l', k1, k2, k3, k4⟩ := hf
    have hz : ∀ x : cr_Pv n, cr_vl x.1 l = 0 := fun x => by
      rw [← k3 x]
      have e := hr x
      show cr_vl x.1 (cr_fl (fun a => decide (a j = -((D + 1 : Nat) : Int))) l0) + ((-1 : Int) : Rat) * cx_sm m2 (fun y => (y.1 : Rat) * cr_mo (cr_stepv s.b j x.1) y.2) = 0
      have e2 : cr_vl (cr_stepv s.b j x.1) m2 = cx_sm m2 (fun y => (y.1 : Rat) * cr_mo (cr_stepv s.b j x.1) y.2) := rfl
      rw [e, ← e2, show ((-1 : Int) : Rat) = -1 from rfl]; grind
    have hl' : ∀ x, f x + - g x = cr_vl x.1 l' := fun x => by
      have := k4 x
      rw [hz x] at this
      rw [h0 x]
      have e3 : cr_vl x.1 l0 + ((-1 : Int) : Rat) * g x = 0 + cr_vl x.1 l' := this
      rw [show ((-1 : Int) : Rat) = -1 from rfl] at e3
      grind
    have ih := cr_caseA s hjk hb D (fun x => f x + - g x) l' (fun y hy => by have := k2 y hy; omega) hl' (h1.add (hg [k] (fun i hi => by simp at hi; exact .inl hi)).neg) (cr_Lau.add (⟨l2, h2'⟩ : cr_Lau (cr_sp s.b j) f) (hg [j] (fun i hi => by simp at hi; exact .inr hi)).neg)
    exact (ih.add (hg [k, j] (fun i hi => by simpa using hi))).congr (fun x => by grind)
end

section
theorem cr_wd_add {n : Nat} (w a c : cr_Xp n) : cr_wd w (fun i => a i + c i) = cr_wd w a + cr_wd w c := by
  unfold cr_wd
  generalize List.finRange n = l
  induction l with
  | nil => rfl
  | cons i l ih => rw [List.foldr_cons, List.foldr_cons, List.foldr_cons, ih, Int.mul_add]; omega
theorem cr_wd_zero {n : Nat} (w : cr_Xp n) : cr_wd w (fun _ => 0) = 0 := by
  unfold cr_wd
  generalize List.finRange n = l
  induction l with
  | nil => rfl
  | cons i l ih => rw [List.foldr_cons, ih, Int.mul_zero]; rfl
theorem cr_cop1 {n : Nat} (lam : cr_Xp n) {K : cr_Pl_ n} (hK : ∀ u ∈ K, cr_wd lam u.2 = 0) (hKp : ∀ x : cr_Pv n, 0 < cr_vl x.1 K) (w : cr_Xp n) (hw : 0 < cr_wd lam w) : ∀ (N : Nat) (m : Int) (h1 h2 : cr_Pl_ n), (∀ y ∈ h2, m ≤ cr_wd lam y.2 ∧ cr_wd lam y.2 < m + (N : Int)) →
    (∀ x : cr_Pv n, cr_vl x.1 K * cr_vl x.1 h1 = (1 + cr_mo x.1 w) * cr_vl x.1 h2) → ∃ h : cr_Pl_ n, ∀ x : cr_Pv n, cr_vl x.1 h1 = (1 + cr_mo x.1 w) * cr_vl x.1 h
  | 0, m, h1, h2, hr, he => by
    have : h2 = [] := by
      cases h2 with
      | nil => rfl
      | cons y l => have := hr y (by simp); omega
    subst this
    refine ⟨[], fun x => ?_⟩
    have e := he x
    rw [cr_vl_nil, Rat.mul_zero] at e
    have := hKp x
    rcases Rat.mul_eq_zero.1 e with h | h
    · grind
    · rw [h, cr_vl_nil, Rat.mul_zero]
  | N + 1, m, h1, h2, hr, he => by
    let p : cr_Xp n → Bool := fun a => decide (cr_wd lam a = m)
    have e1 : ∀ x : cr_Pv n, cr_vl x.1 (h1.flatMap (fun y => cr_shz y K)) = cr_vl x.1 (h2 ++ cr_shz (1, w) h2) := fun x => by
      show cr_vl x.1 (cr_pmz h1 K) = _
      rw [cr_vl_pmz x.2, cr_vl_app, cr_vl_shz x.2, show ((1 : Int) : Rat) = 1 from rfl]
      have := he x
      grind
    have e2 : ∀ x : cr_Pv n, cr_vl x.1 K * cr_vl x.1 (cr_fl p h1) = cr_vl x.1 (cr_fl p h2) := fun x => by
      have e := cr_fl_unique e1 p x.1
      rw [cr_fl_flat h1 _ p (fun y => p y.2) (fun y _ z hz => by
        obtain ⟨u, hu, rfl⟩ := cr_mem_shz hz
        show decide (cr_wd lam (fun i => y.2 i + u.2 i) = m) = decide (cr_wd lam y.2 = m)
        rw [cr_wd_add, hK u hu, Int.add_zero])] at e
      have e3 : cr_fl p (h2 ++ cr_shz (1, w) h2) = cr_fl p h2 := by
        have hnil : (cr_shz (1, w) h2).filter (fun y => p y.2) = [] := List.filter_eq_nil_iff.2 (fun z hz => by
          obtain ⟨u, hu, rfl⟩ := cr_mem_shz hz
          have h3 := (hr u hu).1
          show ¬ decide (cr_wd lam (fun i => w i + u.2 i) = m) = true
          rw [cr_wd_add, decide_eq_true_eq]
          omega)
        unfold cr_fl
        rw [List.filter_append, hnil, List.append_nil]
      rw [e3] at e
      have e4 : cr_vl x.1 (cr_pmz (cr_fl p h1) K) = cr_vl x.1 (cr_fl p h2) := e
      rw [cr_vl_pmz x.2] at e4
      grind
    let g : cr_Pl_ n := h1 ++ cr_shz (-1, fun _ => 0) (cr_fl p h1 ++ cr_shz (1, w) (cr_fl p h1))
    have hg : ∀ x : cr_Pv n, cr_vl x.1 g = cr_vl x.1 h1 - (1 + cr_mo x.1 w) * cr_vl x.1 (cr_fl p h1) := fun x => by
      show cr_vl x.1 (h1 ++ cr_shz (-1, fun _ => 0) (cr_fl p h1 ++ cr_shz (1, w) (cr_fl p h1))) = _
      rw [cr_vl_app, cr_vl_shz x.2, cr_vl_app, cr_vl_shz x.2, cr_mo_zero, show ((1 : Int) : Rat) = 1 from rfl, show ((-1 : Int) : Rat) = -1 from rfl]
      grind
    obtain ⟨h, hh⟩ := cr_cop1 lam hK hKp w hw N (m + 1) g (cr_fl (fun a => !p a) h2) (fun y hy => by
      obtain ⟨hy, h3⟩ := cr_mem_fl.1 hy
      have h4 : cr_wd lam y.2 ≠ m := by simpa [p] using h3
      have := hr y hy
      omega) (fun x => by
      have a1 := he x
      have a2 := e2 x
      have a3 := cr_fl_split x.1 p h2
      rw [hg x]
      rw [a3] at a1
      grind)
    exact ⟨h ++ cr_fl p h1, fun x => by
      have := hh x
      rw [hg x] at this
      rw [cr_vl_app]
      grind⟩
theorem cr_range {n : Nat} (lam : cr_Xp n) (l : cr_Pl_ n) : ∃ (m : Int) (N : Nat), ∀ y ∈ l, m ≤ cr_wd lam y.2 ∧ cr_wd lam y.2 < m + (N : Int) := by
  induction l with
  | nil => exact ⟨0, 0, fun y hy => by simp at hy⟩
  | cons y l ih =>
    obtain ⟨m, N, h⟩ := ih
    refine ⟨m - (cr_wd lam y.2).natAbs - m.natAbs, N + 2 * (cr_wd lam y.2).natAbs + 2 * m.natAbs + 1, fun z hz => ?_⟩
    rcases List.mem_cons.1 hz with rfl | hz
    · omega
    · have := h z hz; omega
theorem cr_cop {n : Nat} (lam : cr_Xp n) {K : cr_Pl_ n} (hK : ∀ u ∈ K, cr_wd lam u.2 = 0) (hKp : ∀ x : cr_Pv n, 0 < cr_vl x.1 K) (w : cr_Xp n) (hw : 0 < cr_wd lam w) : ∀ (d : Nat) (h1 h2 : cr_Pl_ n),
    (∀ x : cr_Pv n, cr_vl x.1 K * cr_vl x.1 h1 = (1 + cr_mo x.1 w) ^ (d : Int) * cr_vl x.1 h2) → ∃ h : cr_Pl_ n, ∀ x : cr_Pv n, cr_vl x.1 h1 = (1 + cr_mo x.1 w) ^ (d : Int) * cr_vl x.1 h
  | 0, h1, h2, _ => ⟨h1, fun x => by rw [show ((0 : Nat) : Int) = 0 from rfl, Rat.zpow_zero, Rat.one_mul]⟩
  | d + 1, h1, h2, he => by
    have hq : ∀ x : cr_Pv n, 0 < 1 + cr_mo x.1 w := fun x => by have := cr_mo_pos x.2 w; grind
    have hz : ∀ x : cr_Pv n, (1 + cr_mo x.1 w) ^ ((d + 1 : Nat) : Int) = (1 + cr_mo x.1 w) * (1 + cr_mo x.1 w) ^ (d : Int) := fun x => by
      rw [show ((d + 1 : Nat) : Int) = 1 + (d : Int) by omega, cr_zp_add (hq x), Rat.zpow_one]
    let W : cr_Pl_ n := [(1, fun _ => 0), (1, w)]
    have hW : ∀ x : cr_Pv n, cr_vl x.1 W = 1 + cr_mo x.1 w := fun x => by
      show cr_vl x.1 [(1, fun _ => 0), (1, w)] = _
      rw [cr_vl_cons, cr_vl_sing, cr_mo_zero, show ((1 : Int) : Rat) = 1 from rfl, Rat.mul_one]
    let g := cr_pmz (cr_pw W d) h2
    have hg : ∀ x : cr_Pv n, cr_vl x.1 g = (1 + cr_mo x.1 w) ^ (d : Int) * cr_vl x.1 h2 := fun x => by
      show cr_vl x.1 (cr_pmz (cr_pw W d) h2) = _
      rw [cr_vl_pmz x.2, cr_vl_pw x.2 (by rw [hW]; exact hq x), hW]
    obtain ⟨m, N, hr⟩ := cr_range lam g
    obtain ⟨h', hh'⟩ := cr_cop1 lam hK hKp w hw N m h1 g hr (fun x => by rw [he x, hg x, hz x]; grind)
    obtain ⟨h, hh⟩ := cr_cop lam hK hKp w hw d h' h2 (fun x => by
      have a1 := he x
      rw [hh' x, hz x] at a1
      refine cx_canc_pos (hq x) ?_
      grind)
    exact ⟨h, fun x => by rw [hh' x, hh x, hz x]; grind⟩
theorem cr_P_unit {n : Nat} (b : Fin n → Fin n → Int) (k : Fin n) {x : Fin n → Rat} (hx : ∀ j, 0 < x j) : cr_P b k x = cr_mo x (fun i => (cx_pos (- b i k) : Int)) * (1 + cr_mo x (fun i => b i k)) := by
  unfold cr_P
  have : cr_mo x (fun i => (cx_pos (- b i k) : Int)) * cr_mo x (fun i => b i k) = cr_mo x (fun i => (cx_pos (b i k) : Int)) := by
    rw [← cr_mo_add hx]
    exact cr_mo_congr (fun i => by rw [cr_posI2])
  grind
theorem cr_copP {n : Nat} (b : Fin n → Fin n → Int) (k j : Fin n) (lam : cr_Xp n) (hk : cr_wd lam (fun i => b i k) = 0) (hj : 0 < cr_wd lam (fun i => b i j)) (e d : Nat) (h1 h2 : cr_Pl_ n)
    (he : ∀ x : cr_Pv n, cr_P b k x.1 ^ (e : Int) * cr_vl x.1 h1 = cr_P b j x.1 ^ (d : Int) * cr_vl x.1 h2) : ∃ h : cr_Pl_ n, ∀ x : cr_Pv n, cr_vl x.1 h1 = cr_P b j x.1 ^ (d : Int) * cr_vl x.1 h := by
  let U : cr_Pl_ n := [(1, fun _ => 0), (1, fun i => b i k)]
  have hU : ∀ x : cr_Pv n, cr_vl x.1 U = 1 + cr_mo x.1 (fun i => b i k) := fun x => by
    show cr_vl x.1 [(1, fun _ => 0), (1, fun i => b i k)] = _
    rw [cr_vl_cons, cr_vl_sing, cr_mo_zero, show ((1 : Int) : Rat) = 1 from rfl, Rat.mul_one]
  have hUp : ∀ x : cr_Pv n, 0 < 1 + cr_mo x.1 (fun i => b i k) := fun x => by have := cr_mo_pos x.2 (fun i => b i k); grind
  have hVp : ∀ x : cr_Pv n, 0 < 1 + cr_mo x.1 (fun i => b i j) := fun x => by have := cr_mo_pos x.2 (fun i => b i j); grind
  have hK : ∀ u ∈ cr_pw U e, cr_wd lam u.2 = 0 := cr_pw_all (cr_wd lam) (cr_wd_zero lam) (cr_wd_add lam) (fun u hu => by
    simp only [U, List.mem_cons, List.not_mem_nil, or_false] at hu
    rcases hu with rfl | rfl
    · exact cr_wd_zero lam
    · exact hk) e
  have hKv : ∀ x : cr_Pv n, cr_vl x.1 (cr_pw U e) = (1 + cr_mo x.1 (fun i => b i k)) ^ (e : Int) := fun x => by
    rw [cr_vl_pw x.2 (by rw [hU]; exact hUp x), hU]
  let ak : cr_Xp n := fun i => (cx_pos (- b i k) : Int) * (-(e : Int))
  let aj : cr_Xp n := fun i => (cx_pos (- b i j) : Int) * (d : Int)
  have hak : ∀ x : cr_Pv n, cr_mo x.1 ak * cr_mo x.1 (fun i => (cx_pos (- b i k) : Int)) ^ (e : Int) = 1 := fun x => by
    show cr_mo x.1 (fun i => (cx_pos (- b i k) : Int) * (-(e : Int))) * _ = 1
    rw [cr_mo_pow x.2 (fun i => (cx_pos (- b i k) : Int)), ← cr_zp_add (cr_mo_pos x.2 _), Int.add_left_neg, Rat.zpow_zero]
  have haj : ∀ x : cr_Pv n, cr_mo x.1 aj = cr_mo x.1 (fun i => (cx_pos (- b i j) : Int)) ^ (d : Int) := fun x => cr_mo_pow x.2 (fun i => (cx_pos (- b i j) : Int)) _
  have hPk : ∀ x : cr_Pv n, cr_P b k x.1 ^ (e : Int) = cr_mo x.1 (fun i => (cx_pos (- b i k) : Int)) ^ (e : Int) * (1 + cr_mo x.1 (fun i => b i k)) ^ (e : Int) := fun x => by
    rw [cr_P_unit b k x.2, cr_mul_zp (cr_mo_pos x.2 _) (hUp x)]
  have hPj : ∀ x : cr_Pv n, cr_P b j x.1 ^ (d : Int) = cr_mo x.1 aj * (1 + cr_mo x.1 (fun i => b i j)) ^ (d : Int) := fun x => by
    rw [cr_P_unit b j x.2, cr_mul_zp (cr_mo_pos x.2 _) (hVp x), haj]
  obtain ⟨h, hh⟩ := cr_cop lam hK (fun x => by rw [hKv]; exact Rat.zpow_pos (hUp x)) (fun i => b i j) hj d h1 (cr_shz (1, fun i => ak i + aj i) h2) (fun x => by
    have a1 := he x
    rw [hPk x, hPj x] at a1
    rw [hKv x, cr_vl_shz x.2, show ((1 : Int) : Rat) = 1 from rfl, cr_mo_add x.2 ak aj]
    have a2 := hak x
    grind)
  refine ⟨cr_shz (1, fun i => - aj i) h, fun x => ?_⟩
  rw [hh x, cr_vl_shz x.2, hPj x, show ((1 : Int) : Rat) = 1 from rfl, ← cr_mo_inv x.2 aj]
  have hp := cr_mo_pos x.2 aj
  have : cr_mo x.1 aj * (cr_mo x.1 aj)⁻¹ = 1 := Rat.mul_inv_cancel _ (by grind)
  grind
theorem cr_classes {n m m' : Nat} {q : cr_Pv n → cr_Pv m'} (g : cr_Pv n → Fin m → Rat) (i : Fin m) : ∀ (N : Nat) (H : cr_Pl_ m), H.length ≤ N → (∀ c : Int, cr_Lau q (fun x => cr_vl (g x) (cr_fl (fun a => decide (a i = c)) H))) → cr_Lau q (fun x => cr_vl (g x) H)
  | 0, H, hl, _ => by
    have : H = [] := List.length_eq_zero_iff.1 (by omega)
    subst this
    exact (cr_Lau.int q 0).congr (fun x => rfl)
  | N + 1, [], _, _ => (cr_Lau.int q 0).congr (fun x => rfl)
  | N + 1, y :: t, hl, h => by
    let H' := cr_fl (fun a => !decide (a i = y.2 i)) (y :: t)
    have hlen : H'.length ≤ N := by
      have e : H' = t.filter (fun z => !decide (z.2 i = y.2 i)) := List.filter_cons_of_neg (by simp)
      rw [e]
      have := List.length_filter_le (fun z : Int × cr_Xp m => !decide (z.2 i = y.2 i)) t
      simp only [List.length_cons] at hl
      omega
    have ih := cr_classes g i N H' hlen (fun c => by
      by_cases hc : c = y.2 i
      · have : cr_fl (fun a => decide (a i = c)) H' = [] := List.filter_eq_nil_iff.2 (fun z hz => by
          have h2 := (cr_mem_fl.1 hz).2
          have h3 : z.2 i ≠ y.2 i := by simpa using h2
          rw [decide_eq_true_eq, hc]; exact h3)
        rw [this]
        exact (cr_Lau.int q 0).congr (fun x => rfl)
      · have : cr_fl (fun a => decide (a i = c)) H' = cr_fl (fun a => decide (a i = c)) (y :: t) := by
          show List.filter _ (List.filter _ (y :: t)) = List.filter _ (y :: t)
          rw [List.filter_filter]
          congr 1
          funext z
          by_cases hz : z.2 i = c
          · have : z.2 i ≠ y.2 i := fun e => hc (by rw [← hz, e])
            simp [hz, this]
            exact hc
          · simp [hz]
        rw [this]
        exact h c)
    exact ((h (y.2 i)).add ih).congr (fun x => cr_fl_split _ _ _)
theorem cr_turnB_col0 {n : Nat} (b : Fin n → Fin n → Int) {k j : Fin n} (hjk : j ≠ k) (h : b k j = 0) (i : Fin n) : cr_turnB b k i j = b i j := by
  unfold cr_turnB
  by_cases hi : i = k
  · rw [if_pos (.inl hi), hi, h]; rfl
  · rw [if_neg (fun e => e.elim hi hjk), h, Int.mul_zero, show (cx_pos (-0) : Int) = 0 from rfl, Int.mul_zero]; omega
theorem cr_P_ne {n : Nat} (b : Fin n → Fin n → Int) {k j : Fin n} (h : b k j = 0) (x : Fin n → Rat) : cr_P b j (cr_stepv b k x) = cr_P b j x := by
  unfold cr_P
  rw [cr_mo_agree k (fun i hi => cr_step_ne b x hi) (fun i => (cx_pos (b i j) : Int)) (by rw [h]; rfl), cr_mo_agree k (fun i hi => cr_step_ne b x hi) (fun i => (cx_pos (- b i j) : Int)) (by rw [h]; rfl)]
theorem cr_sp_comm {n : Nat} (b : Fin n → Fin n → Int) {k j : Fin n} (hjk : j ≠ k) (h : b k j = 0) (h' : b j k = 0) (x : cr_Pv n) : cr_sp b j (cr_sp b k x) = cr_sp b k (cr_sp b j x) := by
  refine Subtype.ext (funext fun i => ?_)
  show cr_stepv b j (cr_stepv b k x.1) i = cr_stepv b k (cr_stepv b j x.1) i
  by_cases hj : i = j
  · subst hj
    rw [cr_step_k, cr_P_ne b h, cr_step_ne b x.1 hjk, cr_step_ne b _ hjk, cr_step_k]
  · rw [cr_step_ne b _ hj]
    by_cases hk : i = k
    · subst hk
      rw [cr_step_k, cr_step_k, cr_P_ne b h', cr_step_ne b x.1 hj]
    · rw [cr_step_ne b _ hk, cr_step_ne b _ hk, cr_step_ne b _ hj]
theorem cr_gp_kj {n : Nat} (b : Fin n → Fin n → Int) {k j : Fin n} (hjk : j ≠ k) (h : b k j = 0) (x : cr_Pv n) : cr_gp b [k, j] x = cr_sp b j (cr_sp b k x) :=
  Subtype.ext (cr_stepv_col (fun i => cr_turnB_col0 b hjk h i) _)
theorem cr_vl_map_step {n : Nat} (b : Fin n → Fin n → Int) (k : Fin n) {x : Fin n → Rat} (hx : ∀ j, 0 < x j) (e : Int) (M : cr_Pl_ n) (h : ∀ y ∈ M, y.2 k = e) : cr_vl (cr_stepv b k x) M = cr_P b k x ^ e * cr_vl x (M.map fun y => (y.1, cr_up y.2 k (- y.2 k))) := by
  induction M with
  | nil => rw [List.map_nil, cr_vl_nil, cr_vl_nil, Rat.mul_zero]
  | cons y M ih =>
    rw [List.map_cons, cr_vl_cons, cr_vl_cons, ih (fun z hz => h z (by simp [hz])), cr_mo_step b k hx, h y (by simp)]
    grind
theorem cr_caseB {n : Nat} (b : Fin n → Fin n → Int) {k j : Fin n} (hjk : j ≠ k) (hkk : b k k = 0) (hjj : b j j = 0) (hkj : b k j = 0) (hjk0 : b j k = 0) (lam : cr_Xp n) (hlk : cr_wd lam (fun i => b i k) = 0) (hlj : 0 < cr_wd lam (fun i => b i j))
    {f : cr_Pv n → Rat} {l0 l1 l2 : cr_Pl_ n} (h0 : ∀ x, f x = cr_vl x.1 l0) (h1 : ∀ x, f x = cr_vl (cr_sp b k x).1 l1) (h2 : ∀ x, f x = cr_vl (cr_sp b j x).1 l2) : cr_Lau (fun x => cr_sp b j (cr_sp b k x)) f := by
  have hkj' : k ≠ j := fun e => hjk e.symm
  have nnj : ∀ G : cr_Pl_ n, (∀ y ∈ G, 0 ≤ y.2 j) → cr_Lau (fun x => cr_sp b j (cr_sp b k x)) (fun x => cr_vl (cr_stepv b k x.1) G) := fun G hG => by
    obtain ⟨l, hl⟩ := cr_Lau.nonneg b hjj hG
    exact ⟨l, fun x => hl (cr_sp b k x)⟩
  have nnk : ∀ G : cr_Pl_ n, (∀ y ∈ G, 0 ≤ y.2 k) → cr_Lau (fun x => cr_sp b j (cr_sp b k x)) (fun x => cr_vl (cr_stepv b j x.1) G) := fun G hG => by
    obtain ⟨l, hl⟩ := cr_Lau.nonneg b hkk hG
    exact ⟨l, fun x => by show _ = cr_vl (cr_sp b j (cr_sp b k x)).1 l; rw [cr_sp_comm b hjk hkj hjk0]; exact hl (cr_sp b j x)⟩
  have e1 : ∀ x : cr_Pv n, cr_vl x.1 l0 = cr_vl (cr_stepv b k x.1) l1 := fun x => by rw [← h0 x]; exact h1 x
  have e2 : ∀ x : cr_Pv n, cr_vl x.1 l0 = cr_vl (cr_stepv b j x.1) l2 := fun x => by rw [← h0 x]; exact h2 x
  have hplus : cr_Lau (fun x => cr_sp b j (cr_sp b k x)) (fun x => cr_vl x.1 (cr_fl (fun a => !decide (a k < 0)) l0)) :=
    (nnk (cr_fl (fun a => !decide (cr_up a j (- a j) k < 0)) l2) (fun y hy => by
      have h3 := (cr_mem_fl.1 hy).2
      have h4 : ¬ cr_up y.2 j (- y.2 j) k < 0 := by simpa using h3
      rw [cr_up_ne _ _ hkj'] at h4
      omega)).congr (fun x => cr_row hkj e2 (fun z => !decide (z < 0)) x)
  let L0 := cr_fl (fun a => decide (a k < 0)) l0
  have f1 : ∀ x : cr_Pv n, cr_vl x.1 L0 = cr_vl (cr_stepv b k x.1) (cr_fl (fun a => decide (cr_up a k (- a k) k < 0)) l1) := fun x => cr_row hkk e1 (fun z => decide (z < 0)) x
  have f2 : ∀ x : cr_Pv n, cr_vl x.1 L0 = cr_vl (cr_stepv b j x.1) (cr_fl (fun a => decide (cr_up a j (- a j) k < 0)) l2) := fun x => cr_row hkj e2 (fun z => decide (z < 0)) x
  have hmin : cr_Lau (fun x => cr_sp b j (cr_sp b k x)) (fun x => cr_vl x.1 (cr_fl (fun a => !decide (a j < 0)) L0)) :=
    (nnj (cr_fl (fun a => !decide (cr_up a k (- a k) j < 0)) (cr_fl (fun a => decide (cr_up a k (- a k) k < 0)) l1)) (fun y hy => by
      have h3 := (cr_mem_fl.1 hy).2
      have h4 : ¬ cr_up y.2 k (- y.2 k) j < 0 := by simpa using h3
      rw [cr_up_ne _ _ hjk] at h4
      omega)).congr (fun x => cr_row hjk0 f1 (fun z => !decide (z < 0)) x)
  let L00 := cr_fl (fun a => decide (a j < 0)) L0
  have g1 : ∀ x : cr_Pv n, cr_vl x.1 L00 = cr_vl (cr_stepv b k x.1) (cr_fl (fun a => decide (cr_up a k (- a k) j < 0)) (cr_fl (fun a => decide (cr_up a k (- a k) k < 0)) l1)) := fun x => cr_row hjk0 f1 (fun z => decide (z < 0)) x
  have g2 : ∀ x : cr_Pv n, cr_vl x.1 L00 = cr_vl (cr_stepv b j x.1) (cr_fl (fun a => decide (cr_up a j (- a j) j < 0)) (cr_fl (fun a => decide (cr_up a j (- a j) k < 0)) l2)) := fun x => cr_row hjj f2 (fun z => decide (z < 0)) x
  have hlast : cr_Lau (fun x => cr_sp b j (cr_sp b k x)) (fun x => cr_vl x.1 L00) := by
    refine cr_classes (fun x : cr_Pv n => x.1) k _ L00 (Nat.le_refl _) (fun c1 => cr_classes (fun x : cr_Pv n => x.1) j _ _ (Nat.le_refl _) (fun c2 => ?_))
    let M0 := cr_fl (fun a => decide (a j = c2)) (cr_fl (fun a => decide (a k = c1)) L00)
    by_cases hne : M0 = []
    · show cr_Lau _ (fun x => cr_vl x.1 M0)
      rw [hne]
      exact (cr_Lau.int _ 0).congr (fun x => rfl)
    have hneg : c1 < 0 ∧ c2 < 0 := by
      cases hM : M0 with
      | nil => exact absurd hM hne
      | cons y t =>
        have hy : y ∈ M0 := by rw [hM]; simp
        obtain ⟨hy1, hy2⟩ := cr_mem_fl.1 hy
        obtain ⟨hy3, hy4⟩ := cr_mem_fl.1 hy1
        obtain ⟨hy5, hy6⟩ := cr_mem_fl.1 hy3
        obtain ⟨hy7, hy8⟩ := cr_mem_fl.1 hy5
        have a1 : y.2 j = c2 := by simpa using hy2
        have a2 : y.2 k = c1 := by simpa using hy4
        have a3 : y.2 j < 0 := by simpa using hy6
        have a4 : y.2 k < 0 := by simpa using hy8
        omega
    obtain ⟨e, he⟩ : ∃ e : Nat, c1 = -(e : Int) := ⟨(-c1).toNat, by omega⟩
    obtain ⟨d, hd⟩ : ∃ d : Nat, c2 = -(d : Int) := ⟨(-c2).toNat, by omega⟩
    have k1 := cr_row hjk0 (fun x => cr_row hkk g1 (fun z => decide (z = c1)) x) (fun z => decide (z = c2))
    have k2 := cr_row hjj (fun x => cr_row hkj g2 (fun z => decide (z = c1)) x) (fun z => decide (z = c2))
    revert k1 k2
    generalize hM1 : cr_fl (fun a => decide (cr_up a k (- a k) j = c2)) (cr_fl (fun a => decide (cr_up a k (- a k) k = c1)) (cr_fl (fun a => decide (cr_up a k (- a k) j < 0)) (cr_fl (fun a => decide (cr_up a k (- a k) k < 0)) l1))) = M1
    generalize hM2 : cr_fl (fun a => decide (cr_up a j (- a j) j = c2)) (cr_fl (fun a => decide (cr_up a j (- a j) k = c1)) (cr_fl (fun a => decide (cr_up a j (- a j) j < 0)) (cr_fl (fun a => decide (cr_up a j (- a j) k < 0)) l2))) = M2
    intro k1 k2
    have hM1k : ∀ y ∈ M1, y.2 k = (e : Int) ∧ y.2 j = c2 := fun y hy => by
      rw [← hM1] at hy
      obtain ⟨hy1, hy2⟩ := cr_mem_fl.1 hy
      obtain ⟨hy3, hy4⟩ := cr_mem_fl.1 hy1
      have a1 : cr_up y.2 k (- y.2 k) j = c2 := by simpa using hy2
      have a2 : cr_up y.2 k (- y.2 k) k = c1 := by simpa using hy4
      rw [cr_up_ne _ _ hjk] at a1
      rw [cr_up_k] at a2
      omega
    have hM2k : ∀ y ∈ M2, y.2 j = (d : Int) := fun y hy => by
      rw [← hM2] at hy
      obtain ⟨hy1, hy2⟩ := cr_mem_fl.1 hy
      have a1 : cr_up y.2 j (- y.2 j) j = c2 := by simpa using hy2
      rw [cr_up_k] at a1
      omega
    let q1 : cr_Pl_ n := M1.map fun y => (y.1, cr_up y.2 k (- y.2 k))
    let q2 : cr_Pl_ n := M2.map fun y => (y.1, cr_up y.2 j (- y.2 j))
    have v1 : ∀ x : cr_Pv n, cr_vl x.1 M0 = cr_P b k x.1 ^ (e : Int) * cr_vl x.1 q1 := fun x => (k1 x).trans (cr_vl_map_step b k x.2 e M1 (fun y hy => (hM1k y hy).1))
    have v2 : ∀ x : cr_Pv n, cr_vl x.1 M0 = cr_P b j x.1 ^ (d : Int) * cr_vl x.1 q2 := fun x => (k2 x).trans (cr_vl_map_step b j x.2 d M2 hM2k)
    obtain ⟨h, hh⟩ := cr_copP b k j lam hlk hlj e d q1 q2 (fun x => by rw [← v1 x, v2 x])
    have hPp : ∀ x : cr_Pv n, 0 < cr_vl x.1 (cr_Pk b j) := fun x => by rw [cr_vl_Pk]; exact cr_P_pos b j x.2
    have w0 : ∀ (h : cr_Pl_ n) (x : cr_Pv n), cr_vl x.1 (h.flatMap (fun y => cr_shz y (cr_pw (cr_Pk b j) d))) = cr_P b j x.1 ^ (d : Int) * cr_vl x.1 h := fun h x => by
      show cr_vl x.1 (cr_pmz h (cr_pw (cr_Pk b j) d)) = _
      rw [cr_vl_pmz x.2, cr_vl_pw x.2 (hPp x), cr_vl_Pk]; grind
    have w1 : ∀ (i : Fin n) (c : Int) (q h : cr_Pl_ n), b i j = 0 → (∀ y ∈ q, y.2 i = c) → (∀ x : cr_Pv n, cr_vl x.1 q = cr_P b j x.1 ^ (d : Int) * cr_vl x.1 h) → ∀ x : cr_Pv n, cr_vl x.1 q = cr_P b j x.1 ^ (d : Int) * cr_vl x.1 (cr_fl (fun a => decide (a i = c)) h) := by
      intro i c q h hi hq hv x
      have e := cr_fl_unique (l := q) (l' := h.flatMap (fun y => cr_shz y (cr_pw (cr_Pk b j) d))) (fun x => by rw [hv x, ← w0 h x]) (fun a => decide (a i = c)) x.1
      rw [cr_fl_flat h _ _ (fun y => decide (y.2 i = c)) (fun y _ z hz => by
        obtain ⟨u, hu, rfl⟩ := cr_mem_shz hz
        have := cr_pw_all (fun a => a i) rfl (fun _ _ => rfl) (cr_Pk_at hi) _ u hu
        have h2 : u.2 i = 0 := this
        show decide (y.2 i + u.2 i = c) = _
        rw [h2, Int.add_zero])] at e
      have e2 : cr_fl (fun a => decide (a i = c)) q = q := List.filter_eq_self.2 (fun y hy => by simpa using hq y hy)
      rw [e2] at e
      exact e.trans (w0 _ x)
    have w2 := w1 k c1 q1 h hkj (fun y hy => by
      obtain ⟨z, hz, rfl⟩ := List.mem_map.1 hy
      show cr_up z.2 k (- z.2 k) k = c1
      rw [cr_up_k, (hM1k z hz).1]; omega) hh
    have w3 := w1 j c2 q1 _ hjj (fun y hy => by
      obtain ⟨z, hz, rfl⟩ := List.mem_map.1 hy
      show cr_up z.2 k (- z.2 k) j = c2
      rw [cr_up_ne _ _ hjk, (hM1k z hz).2]) w2
    let hf : cr_Pl_ n := cr_fl (fun a => decide (a j = c2)) (cr_fl (fun a => decide (a k = c1)) h)
    refine ⟨hf.map fun y => (y.1, cr_up (cr_up y.2 k e) j d), fun x => ?_⟩
    show cr_vl x.1 M0 = _
    rw [v1 x, w3 x]
    show cr_P b k x.1 ^ (e : Int) * (cr_P b j x.1 ^ (d : Int) * cr_vl x.1 hf) = cr_vl (cr_stepv b j (cr_stepv b k x.1)) _
    have hfe : ∀ y ∈ hf, y.2 k = c1 ∧ y.2 j = c2 := fun y hy => by
      obtain ⟨hy1, hy2⟩ := cr_mem_fl.1 hy
      obtain ⟨hy3, hy4⟩ := cr_mem_fl.1 hy1
      exact ⟨by simpa using hy4, by simpa using hy2⟩
    clear_value hf
    induction hf with
    | nil => rw [List.map_nil, cr_vl_nil, cr_vl_nil]; grind
    | cons y hf ih =>
      have ih := ih (fun z hz => hfe z (by simp [hz]))
      obtain ⟨a1, a2⟩ := hfe y (by simp)
      rw [List.map_cons, cr_vl_cons, cr_vl_cons, ← ih]
      have e5 : cr_mo (cr_stepv b j (cr_stepv b k x.1)) (cr_up (cr_up y.2 k e) j d) = cr_P b j x.1 ^ (d : Int) * (cr_P b k x.1 ^ (e : Int) * cr_mo x.1 y.2) := by
        rw [cr_mo_step b j (cr_stepv_pos b k x.2), cr_P_ne b hkj, cr_up_k, cr_mo_step b k x.2, cr_up_ne _ _ hkj', cr_up_ne _ _ hkj', cr_up_k]
        congr 2
        refine congrArg (cr_mo x.1) (funext fun i => ?_)
        by_cases hi : i = k
        · rw [hi, cr_up_k, a1, he]
        · rw [cr_up_ne _ _ hi]
          by_cases hj : i = j
          · rw [hj, cr_up_k, a2, hd]
          · rw [cr_up_ne _ _ hj, cr_up_ne _ _ hj, cr_up_ne _ _ hi]
      show _ = (y.1 : Rat) * cr_mo (cr_stepv b j (cr_stepv b k x.1)) (cr_up (cr_up y.2 k e) j d) + _
      rw [e5]
      grind
  refine (hplus.add (hmin.add hlast)).congr (fun x => ?_)
  rw [h0 x, cr_fl_split x.1 (fun a => decide (a k < 0)) l0]
  have := cr_fl_split x.1 (fun a => decide (a j < 0)) L0
  grind
end

section
theorem cr_wd_comm {n : Nat} (w a : cr_Xp n) : cr_wd w a = cr_wd a w := by
  unfold cr_wd
  generalize List.finRange n = l
  induction l with
  | nil => rfl
  | cons i l ih => rw [List.foldr_cons, List.foldr_cons, ih, Int.mul_comm]
theorem cr_wd_smul {n : Nat} (w a : cr_Xp n) (c : Int) : cr_wd w (fun i => c * a i) = c * cr_wd w a := by
  unfold cr_wd
  generalize List.finRange n = l
  induction l with
  | nil => rw [List.foldr_nil, List.foldr_nil, Int.mul_zero]
  | cons i l ih => rw [List.foldr_cons, List.foldr_cons, ih, Int.mul_add]; congr 1; grind
theorem cr_wd_e {n : Nat} (w : cr_Xp n) (k : Fin n) (c : Int) : cr_wd w (cr_up (fun _ => 0) k c) = w k * c := by
  unfold cr_wd
  have main : ∀ l : List (Fin n), l.Nodup → l.foldr (fun i s => w i * cr_up (fun _ => 0) k c i + s) 0 = if k ∈ l then w k * c else 0 := by
    intro l
    induction l with
    | nil => intro _; rw [if_neg (by simp)]; rfl
    | cons x l ih =>
      intro hn
      rw [List.nodup_cons] at hn
      rw [List.foldr_cons, ih hn.2]
      by_cases hx : x = k
      · subst hx; rw [cr_up_k, if_neg hn.1, if_pos (by simp)]; omega
      · rw [cr_up_ne _ _ hx, Int.mul_zero]
        by_cases hk : k ∈ l
        · rw [if_pos hk, if_pos (by simp [hk])]; omega
        · rw [if_neg hk, if_neg (by simp [hk]; exact fun e => hx e.symm)]; rfl
  rw [main _ (List.nodup_finRange n), if_pos (List.mem_finRange k)]
def cr_Ind {n : Nat} (b : Fin n → Fin n → Int) (Q : Fin n → Prop) : Prop := ∀ z : cr_Xp n, (∀ j, ¬ Q j → z j = 0) → (∀ i, cr_wd (b i) z = 0) → ∀ j, z j = 0
theorem cr_Ind.turn {n : Nat} {b : Fin n → Fin n → Int} {Q : Fin n → Prop} (h : cr_Ind b Q) {k : Fin n} (hk : Q k) (hb : b k k = 0) : cr_Ind (cr_turnB b k) Q := by
  intro z hz he
  let S := cr_wd (fun j => (cx_pos (- b k j) : Int)) z
  let c := -2 * z k + S
  let u : cr_Xp n := fun j => z j + cr_up (fun _ => 0) k c j
  have hR : cr_wd (b k) z = 0 := by
    have h1 := he k
    have e : cr_turnB b k k = fun j => (-1) * b k j := funext fun j => by
      unfold cr_turnB; rw [if_pos (.inl rfl)]; omega
    rw [e, cr_wd_comm, cr_wd_smul, cr_wd_comm] at h1
    omega
  have hu : ∀ i, cr_wd (b i) u = 0 := fun i => by
    have e0 : cr_wd (b i) u = cr_wd (b i) z + b i k * c := by
      show cr_wd (b i) (fun j => z j + cr_up (fun _ => 0) k c j) = _
      rw [cr_wd_add, cr_wd_e]
    rw [e0]
    by_cases hi : i = k
    · rw [hi, hR, hb]; omega
    · have h1 := he i
      have e : cr_turnB b k i = fun j => (b i j + (b i k * (cx_pos (- b k j) : Int) + (cx_pos (b i k) : Int) * b k j)) + cr_up (fun _ => 0) k (-2 * b i k) j := funext fun j => by
        unfold cr_turnB
        by_cases hj : j = k
        · rw [if_pos (.inr hj), hj, cr_up_k, hb, show (cx_pos (-0) : Int) = 0 from rfl]; omega
        · rw [if_neg (fun e => e.elim hi hj), cr_up_ne _ _ hj]; omega
      rw [e, cr_wd_comm, cr_wd_add, cr_wd_add, cr_wd_add, cr_wd_smul, cr_wd_smul, cr_wd_e, cr_wd_comm z (b i), cr_wd_comm z, cr_wd_comm z (b k), hR] at h1
      have h2 : cr_wd (b i) z + (b i k * S + (cx_pos (b i k) : Int) * 0) + z k * (-2 * b i k) = 0 := h1
      show cr_wd (b i) z + b i k * (-2 * z k + S) = 0
      grind
  have h0 := h u (fun j hj => by
    show z j + cr_up (fun _ => 0) k c j = 0
    rw [hz j hj, cr_up_ne _ _ (fun e => hj (by rw [e]; exact hk))]; rfl) hu
  have hne : ∀ j, j ≠ k → z j = 0 := fun j hj => by
    have : z j + cr_up (fun _ => 0) k c j = 0 := h0 j
    rw [cr_up_ne _ _ hj] at this; omega
  have hzk : z = cr_up (fun _ => 0) k (z k) := funext fun j => by
    by_cases hj : j = k
    · rw [hj, cr_up_k]
    · rw [cr_up_ne _ _ hj, hne j hj]
  have hS : S = 0 := by
    show cr_wd (fun j => (cx_pos (- b k j) : Int)) z = 0
    rw [hzk, cr_wd_e, hb]
    show ((0 : Nat) : Int) * z k = 0
    omega
  have hk0 : z k + c = 0 := by
    have : z k + cr_up (fun _ => 0) k c k = 0 := h0 k
    rw [cr_up_k] at this; exact this
  intro j
  by_cases hj : j = k
  · subst hj
    have : z j + (-2 * z j + S) = 0 := hk0
    omega
  · exact hne j hj
theorem cr_Ind.two {n : Nat} {b : Fin n → Fin n → Int} {Q : Fin n → Prop} (h : cr_Ind b Q) {k j : Fin n} (hk : Q k) (hj : Q j) (hjk : j ≠ k) : ∃ lam : cr_Xp n, cr_wd lam (fun i => b i k) = 0 ∧ 0 < cr_wd lam (fun i => b i j) := by
  have h1 : ∃ i1, b i1 k ≠ 0 := by
    refine Classical.byContradiction (fun hno => ?_)
    have := h (cr_up (fun _ => 0) k 1) (fun i hi => by rw [cr_up_ne _ _ (fun e => hi (by rw [e]; exact hk))]) (fun i => by
      rw [cr_wd_e]
      have : b i k = 0 := Classical.byContradiction (fun h => hno ⟨i, h⟩)
      rw [this]; rfl) k
    rw [cr_up_k] at this
    omega
  obtain ⟨i1, hi1⟩ := h1
  have h2 : ∃ i2, b i1 k * b i2 j - b i1 j * b i2 k ≠ 0 := by
    refine Classical.byContradiction (fun hno => ?_)
    have := h (fun i => cr_up (fun _ => 0) j (b i1 k) i + cr_up (fun _ => 0) k (- b i1 j) i) (fun i hi => by
      show cr_up (fun _ => 0) j (b i1 k) i + cr_up (fun _ => 0) k (- b i1 j) i = 0
      rw [cr_up_ne _ _ (fun e => hi (by rw [e]; exact hj)), cr_up_ne _ _ (fun e => hi (by rw [e]; exact hk))]; rfl) (fun i => by
      rw [cr_wd_add, cr_wd_e, cr_wd_e]
      have : b i1 k * b i j - b i1 j * b i k = 0 := Classical.byContradiction (fun h => hno ⟨i, h⟩)
      grind) j
    have e : cr_up (fun _ => 0) j (b i1 k) j + cr_up (fun _ => 0) k (- b i1 j) j = 0 := this
    rw [cr_up_k, cr_up_ne _ _ hjk] at e
    omega
  obtain ⟨i2, hi2⟩ := h2
  have key : ∀ c : Int, cr_wd (fun i => cr_up (fun _ => 0) i2 (c * b i1 k) i + cr_up (fun _ => 0) i1 (-(c * b i2 k)) i) (fun i => b i k) = 0 ∧ cr_wd (fun i => cr_up (fun _ => 0) i2 (c * b i1 k) i + cr_up (fun _ => 0) i1 (-(c * b i2 k)) i) (fun i => b i j) = c * (b i1 k * b i2 j - b i1 j * b i2 k) := fun c => by
    constructor
    · rw [cr_wd_comm, cr_wd_add, cr_wd_e, cr_wd_e]; grind
    · rw [cr_wd_comm, cr_wd_add, cr_wd_e, cr_wd_e]; grind
  by_cases hs : 0 < b i1 k * b i2 j - b i1 j * b i2 k
  · exact ⟨_, (key 1).1, by rw [(key 1).2]; omega⟩
  · exact ⟨_, (key (-1)).1, by rw [(key (-1)).2]; omega⟩
theorem cr_rank2 {n : Nat} (s : cx_Sd n) {Q : Fin n → Prop} (hI : cr_Ind s.b Q) {k j : Fin n} (hk : Q k) (hj : Q j) (hjk : j ≠ k) {f : cr_Pv n → Rat} (h0 : cr_Lau (fun x => x) f) (h1 : cr_Lau (cr_sp s.b k) f) (h2 : cr_Lau (cr_sp s.b j) f) : cr_Lau (cr_gp s.b [k, j]) f := by
  obtain ⟨l0, h0⟩ := h0
  by_cases hb : s.b j k = 0
  · have hkj : s.b k j = 0 := by
      have := s.sk k j
      rw [hb, Int.mul_zero] at this
      have hd := s.dpos k
      rcases Int.mul_eq_zero.1 (by omega : (s.d k : Int) * s.b k j = 0) with h | h
      · omega
      · exact h
    obtain ⟨lam, hl1, hl2⟩ := hI.two hk hj hjk
    obtain ⟨l1, h1⟩ := h1
    obtain ⟨l2, h2⟩ := h2
    obtain ⟨l, hl⟩ := cr_caseB s.b hjk (s.self k) (s.self j) hkj hb lam hl1 hl2 h0 h1 h2
    exact ⟨l, fun x => by rw [hl x, cr_gp_kj s.b hjk hkj]⟩
  · obtain ⟨D, hD⟩ := cr_bound l0 j
    exact cr_caseA s hjk hb D f l0 (fun y hy => by have := hD y hy; omega) h0 h1 h2
theorem cr_upper {n : Nat} {Q : Fin n → Prop} (ks : List (Fin n)) : ∀ (s : cx_Sd n), cr_Ind s.b Q → (∀ k ∈ ks, Q k) → ∀ f : cr_Pv n → Rat, cr_Lau (fun x => x) f → (∀ k, Q k → cr_Lau (cr_sp s.b k) f) → cr_Lau (cr_gp s.b ks) f := by
  induction ks with
  | nil => exact fun s _ _ f h0 _ => h0
  | cons k ks ih =>
    intro s hI hks f h0 h
    have hk : Q k := hks k (by simp)
    have back : ∀ y : cr_Pv n, cr_sp s.b k (cr_sp (cr_turn s k).b k y) = y := fun y => by
      have := cr_sp_turn (cr_turn s k).b ((cr_turn s k).self k) y
      have e : cr_turnB (cr_turn s k).b k = s.b := cr_turnB_turnB s.b k
      rw [e] at this
      exact this
    have ih := ih (cr_turn s k) (hI.turn hk (s.self k)) (fun j hj => hks j (by simp [hj])) (fun y => f (cr_sp (cr_turn s k).b k y)) (by
      obtain ⟨l, hl⟩ := h k hk
      exact ⟨l, fun y => by show f (cr_sp (cr_turn s k).b k y) = cr_vl y.1 l; rw [hl, back]⟩) (fun j hj => by
      by_cases hjk : j = k
      · subst hjk
        obtain ⟨l, hl⟩ := h0
        exact ⟨l, fun y => hl _⟩
      · obtain ⟨l, hl⟩ := cr_rank2 s hI hk hj hjk h0 (h k hk) (h j hj)
        refine ⟨l, fun y => ?_⟩
        show f (cr_sp (cr_turn s k).b k y) = _
        rw [hl]
        show cr_vl (cr_sp (cr_turnB s.b k) j (cr_sp s.b k (cr_sp (cr_turn s k).b k y))).1 l = _
        rw [back]; rfl)
    obtain ⟨l, hl⟩ := ih
    refine ⟨l, fun x => ?_⟩
    have := hl (cr_sp s.b k x)
    have e : cr_sp (cr_turn s k).b k (cr_sp s.b k x) = x := cr_sp_turn s.b (s.self k) x
    have h3 : f (cr_sp (cr_turn s k).b k (cr_sp s.b k x)) = cr_vl (cr_gp (cr_turn s k).b ks (cr_sp s.b k x)).1 l := this
    rw [e] at h3
    exact h3
theorem cr_surj {n : Nat} (ks : List (Fin n)) : ∀ (s : cx_Sd n) (y : cr_Pv n), ∃ x, cr_gp s.b ks x = y := by
  induction ks with
  | nil => exact fun s y => ⟨y, rfl⟩
  | cons k ks ih =>
    intro s y
    obtain ⟨y', h⟩ := ih (cr_turn s k) y
    refine ⟨cr_sp (cr_turn s k).b k y', ?_⟩
    have back : cr_sp s.b k (cr_sp (cr_turn s k).b k y') = y' := by
      have := cr_sp_turn (cr_turn s k).b ((cr_turn s k).self k) y'
      have e : cr_turnB (cr_turn s k).b k = s.b := cr_turnB_turnB s.b k
      rw [e] at this
      exact this
    show cr_gp (cr_turnB s.b k) ks (cr_sp s.b k (cr_sp (cr_turn s k).b k y')) = y
    rw [back]; exact h
end

section
theorem cr_lead {n : Nat} {U : List (cr_Xp n)} (hU : U.Nodup) (c : cr_Xp n → Int) (w : cr_Xp n) {a : cr_Xp n} (ha : a ∈ U) (hmax : ∀ b ∈ U, b ≠ a → cr_wd w b < cr_wd w a) (h : ∀ x : cr_Pv n, 0 ≤ cx_sm U (fun a => (c a : Rat) * cr_mo x.1 a)) : 0 ≤ c a := by
  classical
  refine Classical.byContradiction (fun hneg => ?_)
  let R := U.filter (fun b => decide (b ≠ a))
  let C : Rat := cx_sm R (fun b => ((c b).natAbs : Rat))
  have hC0 : 0 ≤ C := cx_sm_nonneg (fun b _ => cx_natR_nonneg _)
  let T : Rat := C + 1
  have hT1 : 1 ≤ T := by show 1 ≤ C + 1; grind
  have hT0 : 0 < T := by grind
  let x : cr_Pv n := ⟨fun i => T ^ w i, fun i => Rat.zpow_pos hT0⟩
  have h1 := h x
  have hsplit : ∀ V : List (cr_Xp n), V.Nodup → a ∈ V → cx_sm V (fun b => (c b : Rat) * cr_mo x.1 b) = (c a : Rat) * cr_mo x.1 a + cx_sm (V.filter (fun b => decide (b ≠ a))) (fun b => (c b : Rat) * cr_mo x.1 b) := by
    intro V
    induction V with
    | nil => intro _ h; simp at h
    | cons z V ih =>
      intro hn hm
      rw [List.nodup_cons] at hn
      by_cases hz : z = a
      · subst hz
        rw [List.filter_cons_of_neg (by simp), cx_sm_cons]
        congr 1
        rw [List.filter_eq_self.2 (fun b hb => by
          have : b ≠ z := fun e => hn.1 (by rw [← e]; exact hb)
          simpa using this)]
      · rw [List.filter_cons_of_pos (by simpa using hz), cx_sm_cons, cx_sm_cons, ih hn.2 (by rcases List.mem_cons.1 hm with h | h; exact absurd h.symm hz; exact h)]; grind
  rw [hsplit U hU ha] at h1
  have hmo : ∀ b, cr_mo x.1 b = T ^ cr_wd w b := fun b => cr_mo_wd hT0 w b
  have hR : ∀ R : List (cr_Xp n), (∀ b ∈ R, cr_wd w b ≤ cr_wd w a - 1) → cx_sm R (fun b => (c b : Rat) * cr_mo x.1 b) ≤ cx_sm R (fun b => ((c b).natAbs : Rat)) * T ^ (cr_wd w a - 1) := by
    intro R
    induction R with
    | nil => intro _; rw [cx_sm_nil, cx_sm_nil]; grind
    | cons b R ih =>
      intro hb
      have ih := ih (fun z hz => hb z (by simp [hz]))
      rw [cx_sm_cons, cx_sm_cons, hmo b]
      have h2 := cr_zp_mono hT1 (hb b (by simp))
      have h3 : 0 < T ^ cr_wd w b := Rat.zpow_pos hT0
      have h4 := cx_natR_nonneg (c b).natAbs
      have h5 : (c b : Rat) ≤ ((c b).natAbs : Rat) := by
        have : c b ≤ ((c b).natAbs : Int) := Int.le_natAbs
        exact_mod_cast this
      have m1 := Rat.mul_nonneg (by grind : 0 ≤ ((c b).natAbs : Rat) - (c b : Rat)) (by grind : 0 ≤ T ^ cr_wd w b)
      have m3 := Rat.mul_nonneg h4 (by grind : 0 ≤ T ^ (cr_wd w a - 1) - T ^ cr_wd w b)
      grind
  have hb := hR R (fun b hb => by
    have hb := List.mem_filter.1 hb
    have hne : b ≠ a := by simpa using hb.2
    have := hmax b hb.1 hne
    omega)
  rw [hmo a] at h1
  have e5 : T ^ cr_wd w a = T ^ (cr_wd w a - 1) * T := by
    have : cr_wd w a = (cr_wd w a - 1) + 1 := by omega
    rw [this, cr_zp_add hT0, Rat.zpow_one]
    congr 2
    omega
  have hp : 0 < T ^ (cr_wd w a - 1) := Rat.zpow_pos hT0
  have h7 : (c a : Rat) ≤ -1 := by
    have h8 : c a ≤ -1 := by omega
    have h9 : ((c a : Int) : Rat) ≤ ((-1 : Int) : Rat) := by exact_mod_cast h8
    have e9 : ((-1 : Int) : Rat) = -1 := by exact_mod_cast rfl
    rw [e9] at h9
    exact h9
  have hTC : T = C + 1 := rfl
  have hbC : cx_sm (U.filter (fun b => decide (b ≠ a))) (fun b => (c b : Rat) * cr_mo x.1 b) ≤ C * T ^ (cr_wd w a - 1) := hb
  have m1 := Rat.mul_nonneg (by grind : 0 ≤ -1 - (c a : Rat)) (by have := Rat.mul_pos hp hT0; grind : 0 ≤ T ^ (cr_wd w a - 1) * T)
  rw [e5] at h1
  have m2 : T ^ (cr_wd w a - 1) * T = C * T ^ (cr_wd w a - 1) + T ^ (cr_wd w a - 1) := by
    have : ∀ q : Rat, q * T = C * q + q := fun q => by rw [hTC]; grind
    exact this _
  grind
theorem cr_split {n : Nat} {l l' : cr_Pl_ n} {a0 : cr_Xp n} (h1 : ∀ y : cr_Pv n, 0 < cr_vl y.1 l) (h2 : ∀ y : cr_Pv n, 0 < cr_vl y.1 l') (h : ∀ y : cr_Pv n, cr_vl y.1 l + cr_vl y.1 l' = cr_mo y.1 a0) : False := by
  classical
  obtain ⟨U, hn, hm⟩ := cr_nodup_list ((l ++ l').map (·.2))
  have hl : ∀ y ∈ l, y.2 ∈ U := fun y hy => (hm _).2 (List.mem_map.2 ⟨y, by simp [hy], rfl⟩)
  have hl' : ∀ y ∈ l', y.2 ∈ U := fun y hy => (hm _).2 (List.mem_map.2 ⟨y, by simp [hy], rfl⟩)
  have hco : ∀ a, cr_co l a + cr_co l' a = if a0 = a then 1 else 0 := fun a => by
    have := cr_vl_unique (l := l ++ l') (l' := [(1, a0)]) (fun y => by rw [cr_vl_app, h y, cr_vl_sing]) a
    rw [cr_co_app, cr_co_cons] at this
    rw [this]
    by_cases e : a0 = a
    · rw [if_pos e]; rfl
    · rw [if_neg e]; rfl
  let V := U.filter (fun a => decide (cr_co l a ≠ 0 ∨ cr_co l' a ≠ 0))
  have hV : ∀ a, a ∈ V ↔ a ∈ U ∧ (cr_co l a ≠ 0 ∨ cr_co l' a ≠ 0) := fun a => by
    show a ∈ U.filter _ ↔ _
    rw [List.mem_filter, decide_eq_true_eq]
  have hVn : V.Nodup := hn.sublist List.filter_sublist
  have e1 : ∀ x : Fin n → Rat, cr_vl x l = cx_sm V (fun a => (cr_co l a : Rat) * cr_mo x a) := fun x => by
    rw [cr_vl_list hn x l hl]
    refine cx_sm_filter U _ _ (fun a _ ha => ?_)
    have h3 : ¬ (cr_co l a ≠ 0 ∨ cr_co l' a ≠ 0) := by simpa using ha
    have : cr_co l a = 0 := Classical.byContradiction (fun h => h3 (.inl h))
    rw [this, show ((0 : Int) : Rat) = 0 from rfl, Rat.zero_mul]
  have e2 : ∀ x : Fin n → Rat, cr_vl x l' = cx_sm V (fun a => (cr_co l' a : Rat) * cr_mo x a) := fun x => by
    rw [cr_vl_list hn x l' hl']
    refine cx_sm_filter U _ _ (fun a _ ha => ?_)
    have h3 : ¬ (cr_co l a ≠ 0 ∨ cr_co l' a ≠ 0) := by simpa using ha
    have : cr_co l' a = 0 := Classical.byContradiction (fun h => h3 (.inr h))
    rw [this, show ((0 : Int) : Rat) = 0 from rfl, Rat.zero_mul]
  have key : ∀ (w t : cr_Xp n), t ∈ V → (∀ b ∈ V, b ≠ t → cr_wd w b < cr_wd w t) → t = a0 := by
    intro w t ht hmax
    refine Classical.byContradiction (fun hne => ?_)
    have c1 := cr_lead hVn (cr_co l) w ht hmax (fun x => by rw [← e1]; have := h1 x; grind)
    have c2 := cr_lead hVn (cr_co l') w ht hmax (fun x => by rw [← e2]; have := h2 x; grind)
    have c3 := hco t
    rw [if_neg (fun e => hne e.symm)] at c3
    rcases ((hV t).1 ht).2 with h | h <;> omega
  let o : cr_Pv n := ⟨fun _ => 1, fun _ => by grind⟩
  have hne : V ≠ [] := by
    intro e
    have := h1 o
    rw [e1, e, cx_sm_nil] at this
    grind
  obtain ⟨w, hw⟩ := cr_weights ((V.flatMap fun a => (V.filter fun b => decide (b ≠ a)).map fun b => fun i => a i - b i)) (by
    intro z hz
    obtain ⟨a, ha, hz⟩ := List.mem_flatMap.1 hz
    obtain ⟨b, hb, rfl⟩ := List.mem_map.1 hz
    have hb := List.mem_filter.1 hb
    have hne : b ≠ a := by simpa using hb.2
    intro e
    apply hne
    funext i
    have h1 : a i - b i = 0 := congrFun e i
    omega)
  have hw' : ∀ a ∈ V, ∀ b ∈ V, b ≠ a → cr_wd w a ≠ cr_wd w b := by
    intro a ha b hb hne e
    refine hw (fun i => a i - b i) (List.mem_flatMap.2 ⟨a, ha, List.mem_map.2 ⟨b, List.mem_filter.2 ⟨hb, by simpa using hne⟩, rfl⟩⟩) ?_
    have := cr_wd_sub w a b
    unfold cr_wd at this e
    rw [this]; omega
  have hwn : ∀ a, cr_wd (fun i => (-1) * w i) a = - cr_wd w a := fun a => by
    rw [cr_wd_comm, cr_wd_smul, cr_wd_comm]; omega
  obtain ⟨t, ht, htm⟩ := cr_most V (cr_wd w) hne
  obtain ⟨u, hu, hum⟩ := cr_most V (fun a => - cr_wd w a) hne
  have k1 := key w t ht (fun b hb hbt => by have := htm b hb; have := hw' t ht b hb hbt; omega)
  have k2 := key (fun i => (-1) * w i) u hu (fun b hb hbu => by rw [hwn, hwn]; have := hum b hb; have := hw' u hu b hb hbu; omega)
  have hall : ∀ b ∈ V, b = a0 := fun b hb => by
    refine Classical.byContradiction (fun hbn => ?_)
    have a1 := htm b hb
    have a2 := hum b hb
    have a3 := hw' t ht b hb (by rw [k1]; exact hbn)
    rw [k1] at a1 a3
    rw [k2] at a2
    omega
  have hone : V = [a0] := by
    revert hall hVn hne
    cases V with
    | nil => exact fun _ h _ => absurd rfl h
    | cons p V =>
      intro hVn _ hall
      cases V with
      | nil => rw [hall p (by simp)]
      | cons q V =>
        exfalso
        have e1 := hall p (by simp)
        have e2 := hall q (by simp)
        rw [List.nodup_cons] at hVn
        exact hVn.1 (by rw [e1, ← e2]; simp)
  have p1 := h1 o
  have p2 := h2 o
  rw [e1, hone, cx_sm_cons, cx_sm_nil] at p1
  rw [e2, hone, cx_sm_cons, cx_sm_nil] at p2
  have hmo := cr_mo_pos o.2 a0
  have q : ∀ c : Int, 0 < (c : Rat) * cr_mo o.1 a0 + 0 → 1 ≤ c := fun c hc => by
    refine Classical.byContradiction (fun hneg => ?_)
    have h8 : c ≤ 0 := by omega
    have h9 : (c : Rat) ≤ ((0 : Int) : Rat) := by exact_mod_cast h8
    rw [show ((0 : Int) : Rat) = 0 from rfl] at h9
    have := Rat.mul_nonneg (by grind : 0 ≤ - (c : Rat)) (by grind : 0 ≤ cr_mo o.1 a0)
    grind
  have q1 := q _ p1
  have q2 := q _ p2
  have := hco a0
  rw [if_pos rfl] at this
  omega
theorem cr_vl_pos {n : Nat} {x : Fin n → Rat} (hx : ∀ j, 0 < x j) {l : cr_Pl_ n} (h : ∀ y ∈ l, 0 < y.1) (hne : l ≠ []) : 0 < cr_vl x l := by
  have nn : ∀ l : cr_Pl_ n, (∀ y ∈ l, 0 < y.1) → 0 ≤ cr_vl x l := fun l h => cx_sm_nonneg (fun y hy => by
    have h1 : (0 : Rat) < (y.1 : Rat) := by exact_mod_cast h y hy
    have := Rat.mul_pos h1 (cr_mo_pos hx y.2)
    grind)
  cases l with
  | nil => exact absurd rfl hne
  | cons y l =>
    rw [cr_vl_cons]
    have h1 : (0 : Rat) < (y.1 : Rat) := by exact_mod_cast h y (by simp)
    have h2 := Rat.mul_pos h1 (cr_mo_pos hx y.2)
    have h3 := nn l (fun z hz => h z (by simp [hz]))
    grind
theorem cr_co_pos {n : Nat} {l : cr_Pl_ n} (h : ∀ y ∈ l, 0 < y.1) {y : Int × cr_Xp n} (hy : y ∈ l) : 0 < cr_co l y.2 := by
  classical
  induction l with
  | nil => simp at hy
  | cons z l ih =>
    rw [cr_co_cons]
    have hn := cr_Shr.nonneg (l := l) (fun z hz => h z (by simp [hz])) y.2
    have hz := h z (by simp)
    rcases List.mem_cons.1 hy with rfl | hy
    · rw [if_pos rfl]; omega
    · have := ih (fun z hz => h z (by simp [hz])) hy
      by_cases e : z.2 = y.2
      · rw [if_pos e]; omega
      · rw [if_neg e]; omega
theorem cr_ladder {n : Nat} (b : Fin n → Fin n → Int) (k v : Fin n) (G : Int) (h1 : b v k ≤ G) (h2 : - G ≤ b v k) : ∀ m, (∀ u ∈ cr_pw (cr_Pk b k) m, 0 ≤ u.2 v) ∧ ∀ u ∈ cr_pw (cr_Pk b k) m, ∀ A : Int, 0 ≤ A → A < u.2 v → ∃ u' ∈ cr_pw (cr_Pk b k) m, A < u'.2 v ∧ u'.2 v ≤ A + G
  | 0 => by
    constructor
    · intro u hu
      have : u = (1, fun _ => 0) := by simpa [cr_pw] using hu
      rw [this]; exact Int.le_refl 0
    · intro u hu A hA hlt
      have : u = (1, fun _ => 0) := by simpa [cr_pw] using hu
      rw [this] at hlt
      have : A < 0 := hlt
      omega
  | m + 1 => by
    obtain ⟨i1, i2⟩ := cr_ladder b k v G h1 h2 m
    have hP : ∀ y ∈ cr_Pk b k, 0 ≤ y.2 v ∧ y.2 v ≤ G := by
      intro y hy
      unfold cr_Pk at hy
      simp only [List.mem_cons, List.not_mem_nil, or_false] at hy
      rcases hy with rfl | rfl
      · show 0 ≤ ((cx_pos (b v k) : Nat) : Int) ∧ ((cx_pos (b v k) : Nat) : Int) ≤ G
        unfold cx_pos; omega
      · show 0 ≤ ((cx_pos (- b v k) : Nat) : Int) ∧ ((cx_pos (- b v k) : Nat) : Int) ≤ G
        unfold cx_pos; omega
    have hZ : ∃ y ∈ cr_Pk b k, y.2 v = 0 := by
      unfold cr_Pk
      by_cases hb : b v k ≤ 0
      · refine ⟨(1, fun i => (cx_pos (b i k) : Int)), by simp, ?_⟩
        show ((cx_pos (b v k) : Nat) : Int) = 0
        unfold cx_pos; omega
      · refine ⟨(1, fun i => (cx_pos (- b i k) : Int)), by simp, ?_⟩
        show ((cx_pos (- b v k) : Nat) : Int) = 0
        unfold cx_pos; omega
    constructor
    · intro u hu
      obtain ⟨y, hy, w, hw, rfl⟩ := cr_mem_pmz hu
      show 0 ≤ y.2 v + w.2 v
      have := hP y hy; have := i1 w hw; omega
    · intro u hu A hA hlt
      obtain ⟨y, hy, w, hw, rfl⟩ := cr_mem_pmz hu
      have hlt' : A < y.2 v + w.2 v := hlt
      by_cases hc : A < w.2 v
      · obtain ⟨u', hu', g1, g2⟩ := i2 w hw A hA hc
        obtain ⟨z, hz, ez⟩ := hZ
        refine ⟨(z.1 * u'.1, fun i => z.2 i + u'.2 i), List.mem_flatMap.2 ⟨z, hz, List.mem_map.2 ⟨u', hu', rfl⟩⟩, ?_, ?_⟩
        · show A < z.2 v + u'.2 v; omega
        · show z.2 v + u'.2 v ≤ A + G; omega
      · refine ⟨_, hu, hlt, ?_⟩
        show y.2 v + w.2 v ≤ A + G
        have := (hP y hy).2
        omega
theorem cr_fl_comm {n : Nat} (p q : cr_Xp n → Bool) (l : cr_Pl_ n) : cr_fl p (cr_fl q l) = cr_fl q (cr_fl p l) := by
  unfold cr_fl
  rw [List.filter_filter, List.filter_filter]
  congr 1
  funext y
  exact Bool.and_comm _ _
theorem cr_gapk {n : Nat} (b : Fin n → Fin n → Int) {k v : Fin n} (hb : b k k = 0) (hvk : v ≠ k) (G : Int) (hb1 : b v k ≤ G) (hb2 : - G ≤ b v k) {L l1 : cr_Pl_ n} (hL : ∀ y ∈ L, 0 < y.1) (hl1 : ∀ y ∈ l1, 0 < y.1) (h : ∀ x : cr_Pv n, cr_vl x.1 L = cr_vl (cr_stepv b k x.1) l1)
    (A : Int) (hno : ∀ y ∈ L, y.2 v ≤ A ∨ A + G < y.2 v) : cr_Lau (cr_sp b k) (fun x => cr_vl x.1 (cr_fl (fun a => decide (a v ≤ A)) L)) := by
  let Ln := cr_fl (fun a => decide (a k < 0)) L
  let G1 := cr_fl (fun a => decide (cr_up a k (- a k) k < 0)) l1
  have hG1 : ∀ y ∈ G1, 0 ≤ ((0 : Nat) : Int) + y.2 k := fun y hy => by
    have h2 := (cr_mem_fl.1 hy).2
    have h3 : cr_up y.2 k (- y.2 k) k < 0 := by simpa using h2
    rw [cr_up_k] at h3
    omega
  have e1 : ∀ x : cr_Pv n, cr_vl x.1 Ln = cr_vl (cr_stepv b k x.1) G1 := fun x => cr_row hb h (fun z => decide (z < 0)) x
  have e2 : ∀ (H : cr_Pl_ n), (∀ y ∈ H, 0 ≤ ((0 : Nat) : Int) + y.2 k) → ∀ x : cr_Pv n, cr_vl x.1 (H.flatMap (cr_ex b k 0)) = cr_vl (cr_stepv b k x.1) H := fun H hH x => by
    rw [cr_vl_exs b k x.2 0 H hH, show ((0 : Nat) : Int) = 0 from rfl, Rat.zpow_zero, Rat.mul_one]
  have e3 : ∀ x : cr_Pv n, cr_vl x.1 Ln = cr_vl x.1 (G1.flatMap (cr_ex b k 0)) := fun x => by rw [e2 G1 hG1, e1]
  have hPkp : ∀ u ∈ cr_Pk b k, 0 < u.1 := by
    intro u hu
    unfold cr_Pk at hu
    simp only [List.mem_cons, List.not_mem_nil, or_false] at hu
    rcases hu with rfl | rfl
    · show (0 : Int) < 1; omega
    · show (0 : Int) < 1; omega
  have hEp : ∀ z ∈ G1.flatMap (cr_ex b k 0), 0 < z.1 := fun z hz => by
    obtain ⟨y, hy, hz⟩ := List.mem_flatMap.1 hz
    obtain ⟨u, hu, rfl⟩ := cr_mem_shz hz
    exact Int.mul_pos (hl1 y (cr_mem_fl.1 hy).1) (cr_pw_pos hPkp _ u hu)
  have hin : ∀ z ∈ G1.flatMap (cr_ex b k 0), ∃ y ∈ L, y.2 = z.2 := fun z hz => by
    have h2 := cr_co_pos hEp hz
    rw [← cr_vl_unique e3] at h2
    obtain ⟨y, hy, ey⟩ := cr_co_mem (l := Ln) (a := z.2) (by omega)
    exact ⟨y, (cr_mem_fl.1 hy).1, ey⟩
  have hq : ∀ y ∈ G1, ∀ z ∈ cr_ex b k 0 y, (fun a : cr_Xp n => decide (a v ≤ A)) z.2 = decide (y.2 v ≤ A) := by
    intro y hy z hz
    obtain ⟨u, hu, ez⟩ := cr_mem_shz hz
    have hv : z.2 v = y.2 v + u.2 v := by rw [ez]; show cr_up y.2 k (- y.2 k) v + u.2 v = _; rw [cr_up_ne _ _ hvk]
    obtain ⟨i1, i2⟩ := cr_ladder b k v G hb1 hb2 (((0 : Nat) : Int) + y.2 k).toNat
    have hu0 := i1 u hu
    show decide (z.2 v ≤ A) = decide (y.2 v ≤ A)
    by_cases hyA : y.2 v ≤ A
    · by_cases hzA : z.2 v ≤ A
      · rw [decide_eq_true hyA, decide_eq_true hzA]
      · exfalso
        obtain ⟨u', hu', g1, g2⟩ := i2 u hu (A - y.2 v) (by omega) (by omega)
        obtain ⟨q, hq, eq⟩ := hin (y.1 * u'.1, fun i => cr_up y.2 k (- y.2 k) i + u'.2 i) (List.mem_flatMap.2 ⟨y, hy, List.mem_map.2 ⟨u', hu', rfl⟩⟩)
        have ev : q.2 v = y.2 v + u'.2 v := by rw [eq]; show cr_up y.2 k (- y.2 k) v + u'.2 v = _; rw [cr_up_ne _ _ hvk]
        rcases hno q hq with h | h <;> omega
    · rw [decide_eq_false hyA, decide_eq_false (by omega)]
  have e4 : ∀ x : cr_Pv n, cr_vl x.1 (cr_fl (fun a => decide (a v ≤ A)) Ln) = cr_vl (cr_sp b k x).1 (cr_fl (fun a => decide (a v ≤ A)) G1) := fun x => by
    rw [cr_fl_unique e3 (fun a => decide (a v ≤ A)) x.1, cr_fl_flat G1 _ _ (fun y => decide (y.2 v ≤ A)) hq]
    exact e2 (cr_fl (fun a => decide (a v ≤ A)) G1) (fun y hy => hG1 y (cr_mem_fl.1 hy).1) x
  have hB := cr_Lau.nonneg b hb (l := cr_fl (fun a => !decide (a k < 0)) (cr_fl (fun a => decide (a v ≤ A)) L)) (fun y hy => by
    have h2 := (cr_mem_fl.1 hy).2
    have h3 : ¬ y.2 k < 0 := by simpa using h2
    omega)
  have hA : cr_Lau (cr_sp b k) (fun x => cr_vl x.1 (cr_fl (fun a => decide (a v ≤ A)) Ln)) := ⟨_, e4⟩
  refine (hA.add hB).congr (fun x => ?_)
  rw [cr_fl_split x.1 (fun a => decide (a k < 0)) (cr_fl (fun a => decide (a v ≤ A)) L), cr_fl_comm]
theorem cr_gap {n : Nat} (s : cx_Sd n) {Q : Fin n → Prop} (hI : cr_Ind s.b Q) (ks : List (Fin n)) (hks : ∀ k ∈ ks, Q k) (jj v : Fin n) (G : Int) (hb : ∀ k, Q k → s.b v k ≤ G ∧ - G ≤ s.b v k) {L : cr_Pl_ n} (hLp : ∀ y ∈ L, 0 < y.1) (hL : ∀ x, (cr_gp s.b ks x).1 jj = cr_vl x.1 L)
    (A : Int) (hlo : ∃ y ∈ L, y.2 v ≤ A) (hhi : ∃ y ∈ L, A + G < y.2 v) (hG : 0 ≤ G) : ∃ y ∈ L, A < y.2 v ∧ y.2 v ≤ A + G := by
  refine Classical.byContradiction (fun hcon => ?_)
  have hno : ∀ y ∈ L, y.2 v ≤ A ∨ A + G < y.2 v := fun y hy => by
    refine Classical.byContradiction (fun h => hcon ⟨y, hy, by omega, by omega⟩)
  let Lo := cr_fl (fun a => decide (a v ≤ A)) L
  let Hi := cr_fl (fun a => !decide (a v ≤ A)) L
  have hLo : ∀ x : cr_Pv n, 0 < cr_vl x.1 Lo := fun x => by
    obtain ⟨y, hy, h⟩ := hlo
    exact cr_vl_pos x.2 (fun y hy => hLp y (cr_mem_fl.1 hy).1) (fun e => by
      have : y ∈ Lo := cr_mem_fl.2 ⟨hy, by simpa using h⟩
      rw [e] at this; simp at this)
  have hHi : ∀ x : cr_Pv n, 0 < cr_vl x.1 Hi := fun x => by
    obtain ⟨y, hy, h⟩ := hhi
    exact cr_vl_pos x.2 (fun y hy => hLp y (cr_mem_fl.1 hy).1) (fun e => by
      have : y ∈ Hi := cr_mem_fl.2 ⟨hy, by simp; omega⟩
      rw [e] at this; simp at this)
  have hlau : cr_Lau (cr_gp s.b ks) (fun x => cr_vl x.1 Lo) := by
    refine cr_upper ks s hI hks _ ⟨Lo, fun x => rfl⟩ (fun k hk => ?_)
    obtain ⟨l1, hl1, h1⟩ := cr_rel [k] s ks jj
    have h2 : ∀ x : cr_Pv n, cr_vl x.1 L = cr_vl (cr_stepv s.b k x.1) l1 := fun x => by rw [← hL x]; exact h1 x
    by_cases hvk : v = k
    · subst hvk
      exact ⟨_, fun x => cr_row (s.self v) h2 (fun z => decide (z ≤ A)) x⟩
    · exact cr_gapk s.b (s.self k) hvk G (hb k hk).1 (hb k hk).2 hLp hl1 h2 A hno
  have hlau2 : cr_Lau (cr_gp s.b ks) (fun x => cr_vl x.1 Hi) :=
    ((cr_Lau.mono (cr_gp s.b ks) (cr_up (fun _ => 0) jj 1)).add hlau.neg).congr (fun x => by
      rw [cr_mo_e, Rat.zpow_one, hL x, cr_fl_split x.1 (fun a => decide (a v ≤ A)) L]
      show cr_vl x.1 Hi = cr_vl x.1 Lo + cr_vl x.1 Hi + - cr_vl x.1 Lo
      grind)
  obtain ⟨l, hl⟩ := hlau
  obtain ⟨l', hl'⟩ := hlau2
  refine cr_split (l := l) (l' := l') (a0 := cr_up (fun _ => 0) jj 1) (fun y => ?_) (fun y => ?_) (fun y => ?_)
  · obtain ⟨x, hx⟩ := cr_surj ks s y
    rw [← hx, ← hl x]; exact hLo x
  · obtain ⟨x, hx⟩ := cr_surj ks s y
    rw [← hx, ← hl' x]; exact hHi x
  · obtain ⟨x, hx⟩ := cr_surj ks s y
    rw [← hx, ← hl x, ← hl' x, cr_mo_e, Rat.zpow_one, hL x]
    exact (cr_fl_split x.1 (fun a => decide (a v ≤ A)) L).symm
end

section
theorem cr_seed {n : Nat} (ks : List (Fin n)) : ∀ s : cx_Sd n, ∃ s' : cx_Sd n, s'.b = cr_bs s.b ks := by
  induction ks with
  | nil => exact fun s => ⟨s, rfl⟩
  | cons k ks ih => exact fun s => ih (cr_turn s k)
theorem cr_gp_snoc {n : Nat} (ks : List (Fin n)) (i : Fin n) : ∀ (b : Fin n → Fin n → Int) (x : cr_Pv n), cr_gp b (ks ++ [i]) x = cr_sp (cr_bs b ks) i (cr_gp b ks x) := by
  induction ks with
  | nil => exact fun b x => rfl
  | cons k ks ih => exact fun b x => ih (cr_turnB b k) (cr_sp b k x)
theorem cr_nn {n : Nat} (s : cx_Sd n) (ks : List (Fin n)) (i : Fin n) (c : cr_Xp n) (h : cr_Lau (cr_gp s.b (ks ++ [i])) (fun x => cr_mo (cr_gp s.b ks x).1 c)) : 0 ≤ c i := by
  refine Classical.byContradiction (fun hneg => ?_)
  obtain ⟨s', hs'⟩ := cr_seed ks s
  obtain ⟨e, he⟩ : ∃ e : Nat, c i = -((e : Int) + 1) := ⟨(-(c i) - 1).toNat, by omega⟩
  have hii : (cr_bs s.b ks) i i = 0 := by rw [← hs']; exact s'.self i
  have hback : ∀ x, cr_sp (cr_bs s.b ks) i (cr_gp s.b (ks ++ [i]) x) = cr_gp s.b ks x := fun x => by rw [cr_gp_snoc, cr_sp_sp _ hii]
  obtain ⟨l, hl⟩ := h
  let b := cr_bs s.b ks
  let R := cr_pmz (cr_pw (cr_Pk b i) e) l
  have hPp : ∀ z : cr_Pv n, 0 < cr_vl z.1 (cr_Pk b i) := fun z => by rw [cr_vl_Pk]; exact cr_P_pos b i z.2
  have hR : ∀ x, cr_vl (cr_gp s.b (ks ++ [i]) x).1 R = cr_P b i (cr_gp s.b (ks ++ [i]) x).1 ^ (e : Int) * cr_mo (cr_gp s.b ks x).1 c := fun x => by
    show cr_vl _ (cr_pmz (cr_pw (cr_Pk b i) e) l) = _
    rw [cr_vl_pmz (cr_gp s.b (ks ++ [i]) x).2, cr_vl_pw (cr_gp s.b (ks ++ [i]) x).2 (hPp _), cr_vl_Pk, ← hl x]
  have hprod : ∀ x, cr_P b i (cr_gp s.b (ks ++ [i]) x).1 * cr_vl (cr_gp s.b (ks ++ [i]) x).1 R = cr_mo (cr_gp s.b (ks ++ [i]) x).1 (cr_up c i (- c i)) := fun x => by
    have h1 : cr_mo (cr_gp s.b ks x).1 c = cr_P b i (cr_gp s.b (ks ++ [i]) x).1 ^ c i * cr_mo (cr_gp s.b (ks ++ [i]) x).1 (cr_up c i (- c i)) := by
      have := cr_mo_step b i (cr_gp s.b (ks ++ [i]) x).2 c
      have e2 : cr_stepv b i (cr_gp s.b (ks ++ [i]) x).1 = (cr_gp s.b ks x).1 := congrArg Subtype.val (hback x)
      rw [e2] at this
      exact this
    have hp := cr_P_pos b i (cr_gp s.b (ks ++ [i]) x).2
    have h2 : cr_P b i (cr_gp s.b (ks ++ [i]) x).1 * (cr_P b i (cr_gp s.b (ks ++ [i]) x).1 ^ (e : Int) * cr_P b i (cr_gp s.b (ks ++ [i]) x).1 ^ c i) = 1 := by
      rw [← cr_zp_add hp, he, show ((e : Int) + -((e : Int) + 1)) = -1 by omega, ← cr_inv_e hp]
      exact Rat.mul_inv_cancel _ (by grind)
    rw [hR x, h1]
    grind
  have hRp : ∀ x, 0 < cr_vl (cr_gp s.b (ks ++ [i]) x).1 R := fun x => by
    rw [hR x]; exact Rat.mul_pos (Rat.zpow_pos (cr_P_pos b i (cr_gp s.b (ks ++ [i]) x).2)) (cr_mo_pos (cr_gp s.b ks x).2 c)
  refine cr_split (l := cr_shz (1, fun j => (cx_pos (b j i) : Int)) R) (l' := cr_shz (1, fun j => (cx_pos (- b j i) : Int)) R) (a0 := cr_up c i (- c i)) (fun y => ?_) (fun y => ?_) (fun y => ?_)
  · obtain ⟨x, hx⟩ := cr_surj (ks ++ [i]) s y
    rw [← hx, cr_vl_shz (cr_gp s.b (ks ++ [i]) x).2, show ((1 : Int) : Rat) = 1 from rfl, Rat.one_mul]
    exact Rat.mul_pos (cr_mo_pos (cr_gp s.b (ks ++ [i]) x).2 _) (hRp x)
  · obtain ⟨x, hx⟩ := cr_surj (ks ++ [i]) s y
    rw [← hx, cr_vl_shz (cr_gp s.b (ks ++ [i]) x).2, show ((1 : Int) : Rat) = 1 from rfl, Rat.one_mul]
    exact Rat.mul_pos (cr_mo_pos (cr_gp s.b (ks ++ [i]) x).2 _) (hRp x)
  · obtain ⟨x, hx⟩ := cr_surj (ks ++ [i]) s y
    rw [← hx, cr_vl_shz (cr_gp s.b (ks ++ [i]) x).2, cr_vl_shz (cr_gp s.b (ks ++ [i]) x).2, ← hprod x, show ((1 : Int) : Rat) = 1 from rfl]
    unfold cr_P
    grind
theorem cr_anchor {n : Nat} (s : cx_Sd n) {Q : Fin n → Prop} (hI : cr_Ind s.b Q) (ks : List (Fin n)) (hks : ∀ k ∈ ks, Q k) (jj v : Fin n) (hj : Q jj) (hv : Q v) {L : cr_Pl_ n} (hL : ∀ x, (cr_gp s.b ks x).1 jj = cr_vl x.1 L) : ∃ y ∈ L, y.2 v ≤ 1 := by
  refine Classical.byContradiction (fun hcon => ?_)
  have hge : ∀ y ∈ L, 2 ≤ y.2 v := fun y hy => by
    refine Classical.byContradiction (fun h => hcon ⟨y, hy, by omega⟩)
  let f : cr_Pv n → Rat := fun x => (cr_gp s.b ks x).1 jj * (x.1 v)⁻¹
  have hinv : ∀ x : cr_Pv n, (x.1 v)⁻¹ = cr_mo x.1 (cr_up (fun _ => 0) v (-1)) := fun x => by rw [cr_mo_e, cr_inv_e (x.2 v)]
  let Lm := cr_shz (1, cr_up (fun _ => 0) v (-1)) L
  have hLm : ∀ x : cr_Pv n, f x = cr_vl x.1 Lm := fun x => by
    show (cr_gp s.b ks x).1 jj * (x.1 v)⁻¹ = cr_vl x.1 (cr_shz (1, cr_up (fun _ => 0) v (-1)) L)
    rw [cr_vl_shz x.2, ← hL x, hinv x, show ((1 : Int) : Rat) = 1 from rfl]; grind
  have hfl : ∀ ks' : List (Fin n), (∀ k ∈ ks', Q k) → cr_Lau (cr_gp s.b ks') f := fun ks' hks' => by
    refine cr_upper ks' s hI hks' f ⟨Lm, hLm⟩ (fun k hk => ?_)
    by_cases hvk : v = k
    · subst hvk
      refine (cr_Lau.nonneg s.b (s.self v) (l := Lm) (fun y hy => ?_)).congr hLm
      obtain ⟨u, hu, rfl⟩ := cr_mem_shz hy
      show 0 ≤ cr_up (fun _ => 0) v (-1) v + u.2 v
      rw [cr_up_k]
      have := hge u hu
      omega
    · have h1 : cr_Lau (cr_sp s.b k) (fun x => (cr_gp s.b ks x).1 jj) := cr_rel_lau s [k] ks jj
      have h2 : cr_Lau (cr_sp s.b k) (fun x => (x.1 v)⁻¹) := (cr_Lau.mono (cr_sp s.b k) (cr_up (fun _ => 0) v (-1))).congr (fun x => by
        rw [hinv x]
        exact (cr_mo_agree k (fun i hi => cr_step_ne s.b x.1 hi) _ (by rw [cr_up_ne _ _ (fun e => hvk e.symm)])).symm)
      exact h1.mul h2
  have hfp : ∀ x, 0 < f x := fun x => Rat.mul_pos ((cr_gp s.b ks x).2 jj) (Rat.inv_pos.2 (x.2 v))
  obtain ⟨lq, hlq⟩ := hfl ks hks
  obtain ⟨Lx, hLxp, hLx⟩ := cr_rel ks s [] v
  have hLx : ∀ x : cr_Pv n, x.1 v = cr_vl (cr_gp s.b ks x).1 Lx := hLx
  have hprod : ∀ x : cr_Pv n, x.1 v * f x = (cr_gp s.b ks x).1 jj := fun x => by
    show x.1 v * ((cr_gp s.b ks x).1 jj * (x.1 v)⁻¹) = _
    have h0 := x.2 v
    have : x.1 v * (x.1 v)⁻¹ = 1 := Rat.mul_inv_cancel _ (by grind)
    grind
  have two : ∀ (l l' : cr_Pl_ n), (∀ y ∈ l, 0 < y.1) → (∀ y ∈ l', 0 < y.1) → l ≠ [] → l' ≠ [] → (∀ x : cr_Pv n, x.1 v = cr_vl (cr_gp s.b ks x).1 l + cr_vl (cr_gp s.b ks x).1 l') → False := by
    intro l l' hl hl' hn hn' he
    refine cr_split (l := cr_pmz l lq) (l' := cr_pmz l' lq) (a0 := cr_up (fun _ => 0) jj 1) (fun y => ?_) (fun y => ?_) (fun y => ?_)
    · obtain ⟨x, hx⟩ := cr_surj ks s y
      rw [← hx, cr_vl_pmz (cr_gp s.b ks x).2, ← hlq x]
      exact Rat.mul_pos (cr_vl_pos (cr_gp s.b ks x).2 hl hn) (hfp x)
    · obtain ⟨x, hx⟩ := cr_surj ks s y
      rw [← hx, cr_vl_pmz (cr_gp s.b ks x).2, ← hlq x]
      exact Rat.mul_pos (cr_vl_pos (cr_gp s.b ks x).2 hl' hn') (hfp x)
    · obtain ⟨x, hx⟩ := cr_surj ks s y
      rw [← hx, cr_vl_pmz (cr_gp s.b ks x).2, cr_vl_pmz (cr_gp s.b ks x).2, ← hlq x, cr_mo_e, Rat.zpow_one, ← hprod x, he x]
      grind
  have hsing : ∃ a : cr_Xp n, ∀ x : cr_Pv n, x.1 v = cr_mo (cr_gp s.b ks x).1 a := by
    cases hLxe : Lx with
    | nil =>
      exfalso
      let o : cr_Pv n := ⟨fun _ => 1, fun _ => by grind⟩
      have h1 := hLx o
      rw [hLxe, cr_vl_nil] at h1
      have := o.2 v
      grind
    | cons y t =>
      have hyp : 0 < y.1 := hLxp y (by rw [hLxe]; simp)
      by_cases ht : t = []
      · by_cases hc : y.1 = 1
        · refine ⟨y.2, fun x => ?_⟩
          rw [hLx x, hLxe, ht, cr_vl_cons, cr_vl_nil, hc, show ((1 : Int) : Rat) = 1 from rfl]; grind
        · exfalso
          refine two [(1, y.2)] [(y.1 - 1, y.2)] (fun z hz => by simp at hz; rw [hz]; show (0 : Int) < 1; omega) (fun z hz => by simp at hz; rw [hz]; show (0 : Int) < y.1 - 1; omega) (by simp) (by simp) (fun x => ?_)
          rw [hLx x, hLxe, ht, cr_vl_cons, cr_vl_cons, cr_vl_cons, cr_vl_nil, show ((1 : Int) : Rat) = 1 from rfl]
          have : ((y.1 - 1 : Int) : Rat) = (y.1 : Rat) - 1 := by exact_mod_cast rfl
          rw [this]; grind
      · exfalso
        refine two [y] t (fun z hz => by simp at hz; rw [hz]; exact hyp) (fun z hz => hLxp z (by rw [hLxe]; simp [hz])) (by simp) ht (fun x => ?_)
        rw [hLx x, hLxe, cr_vl_cons, cr_vl_cons, cr_vl_nil]; grind
  obtain ⟨a, ha⟩ := hsing
  have hai : ∀ i, Q i → 0 ≤ a i := fun i hi => cr_nn s ks i a ((cr_rel_lau s (ks ++ [i]) [] v).congr (fun x => (ha x).symm))
  have hci : ∀ i, Q i → 0 ≤ cr_up (fun _ => 0) jj 1 i - a i := fun i hi => cr_nn s ks i (fun i => cr_up (fun _ => 0) jj 1 i - a i) ((hfl (ks ++ [i]) (fun k hk => by
      rcases List.mem_append.1 hk with h | h
      · exact hks k h
      · simp at h; rw [h]; exact hi)).congr (fun x => by
      show _ = (cr_gp s.b ks x).1 jj * (x.1 v)⁻¹
      rw [ha x, cr_mo_inv (cr_gp s.b ks x).2]
      have e := cr_mo_add (cr_gp s.b ks x).2 (cr_up (fun _ => 0) jj 1) (fun i => - a i)
      rw [cr_mo_e, Rat.zpow_one] at e
      rw [← e]
      exact cr_mo_congr (fun j => by congr 1)))
  have hne0 : ∀ i, Q i → i ≠ jj → a i = 0 := fun i hi hne => by
    have h1 := hai i hi
    have h2 := hci i hi
    rw [cr_up_ne _ _ hne] at h2
    omega
  have hjj : 0 ≤ a jj ∧ a jj ≤ 1 := by
    have h1 := hai jj hj
    have h2 := hci jj hj
    rw [cr_up_k] at h2
    omega
  have hfix : ∀ (c : cr_Xp n), (∀ i, Q i → c i = 0) → ∀ x : cr_Pv n, cr_mo (cr_gp s.b ks x).1 c = cr_mo x.1 c := fun c hc x => cr_mo_congr (fun i => by
    by_cases hi : i ∈ ks
    · rw [hc i (hks i hi), Rat.zpow_zero, Rat.zpow_zero]
    · rw [cr_gp_ne ks s.b x hi])
  by_cases h1 : a jj = 0
  · have hz : ∀ i, Q i → a i = 0 := fun i hi => by
      by_cases e : i = jj
      · rw [e, h1]
      · exact hne0 i hi e
    have hu := cr_vl_unique (l := [(1, cr_up (fun _ => 0) v 1)]) (l' := [(1, a)]) (fun x => by rw [cr_vl_sing, cr_vl_sing, cr_mo_e, Rat.zpow_one, ha x, hfix a hz x]) (cr_up (fun _ => 0) v 1)
    rw [cr_co_cons, cr_co_cons, if_pos rfl] at hu
    by_cases e : a = cr_up (fun _ => 0) v 1
    · have h2 := hz v hv
      rw [e, cr_up_k] at h2
      omega
    · rw [if_neg e] at hu
      have hu : (1 : Int) + 0 = 0 + 0 := hu
      omega
  · have h1 : a jj = 1 := by omega
    have hz : ∀ i, Q i → cr_up a jj 0 i = 0 := fun i hi => by
      by_cases e : i = jj
      · rw [e, cr_up_k]
      · rw [cr_up_ne _ _ e, hne0 i hi e]
    have hu := cr_vl_unique (l := L) (l' := [(1, fun i => cr_up (fun _ => 0) v 1 i + - cr_up a jj 0 i)]) (fun x => by
      rw [cr_vl_sing, ← hL x, cr_mo_add x.2 (cr_up (fun _ => 0) v 1) (fun i => - cr_up a jj 0 i), cr_mo_e, Rat.zpow_one, ← cr_mo_inv x.2, ha x, cr_mo_up0 (cr_gp s.b ks x).1 a jj, h1, Rat.zpow_one, hfix _ hz x]
      have hp := cr_mo_pos x.2 (cr_up a jj 0)
      have : cr_mo x.1 (cr_up a jj 0) * (cr_mo x.1 (cr_up a jj 0))⁻¹ = 1 := Rat.mul_inv_cancel _ (by grind)
      grind) (fun i => cr_up (fun _ => 0) v 1 i + - cr_up a jj 0 i)
    rw [cr_co_cons, if_pos rfl] at hu
    obtain ⟨y, hy, ey⟩ := cr_co_mem (l := L) (a := fun i => cr_up (fun _ => 0) v 1 i + - cr_up a jj 0 i) (by
      rw [hu]
      show (1 : Int) + 0 ≠ 0
      omega)
    have h2 := hge y hy
    rw [ey] at h2
    have h3 : 2 ≤ cr_up (fun _ => 0) v 1 v + - cr_up a jj 0 v := h2
    rw [cr_up_k, hz v hv] at h3
    omega
end

section
theorem cr_vl_ge {n : Nat} {x : Fin n → Rat} (hx : ∀ j, 0 < x j) {l : cr_Pl_ n} (h : ∀ y ∈ l, 0 < y.1) (p : cr_Xp n → Bool) : cr_vl x (cr_fl p l) ≤ cr_vl x l := by
  rw [cr_fl_split x p l]
  have : 0 ≤ cr_vl x (cr_fl (fun a => !p a) l) := cx_sm_nonneg (fun y hy => by
    have h1 : (0 : Rat) < (y.1 : Rat) := by exact_mod_cast h y (cr_mem_fl.1 hy).1
    have := Rat.mul_pos h1 (cr_mo_pos hx y.2)
    grind)
  grind
theorem cr_mo_ones {n : Nat} (a : cr_Xp n) : cr_mo (fun _ => (1 : Rat)) a = 1 := by
  refine Eq.trans (cr_mo_congr (v' := fun _ => (1 : Rat)) (a' := fun _ => 0) (fun j => ?_)) (cr_mo_zero _)
  rw [cr_one_zp, cr_one_zp]
theorem cr_low {n : Nat} (s : cx_Sd n) (ks : List (Fin n)) (jj v : Fin n) {L : cr_Pl_ n} (hLp : ∀ y ∈ L, 0 < y.1) (hL : ∀ x, (cr_gp s.b ks x).1 jj = cr_vl x.1 L) {y : Int × cr_Xp n} (hy : y ∈ L) : (2 : Rat) ^ (- y.2 v) ≤ cr_vl (fun _ => 1) L := by
  obtain ⟨l1, hl1, h1⟩ := cr_rel [v] s ks jj
  have h2 : ∀ x : cr_Pv n, cr_vl x.1 L = cr_vl (cr_stepv s.b v x.1) l1 := fun x => by rw [← hL x]; exact h1 x
  let o : cr_Pv n := ⟨fun _ => 1, fun _ => by grind⟩
  have e := cr_row (s.self v) h2 (fun z => decide (z = y.2 v)) o
  let m := cr_fl (fun a => decide (cr_up a v (- a v) v = y.2 v)) l1
  have hm : ∀ z ∈ m, z.2 v = - y.2 v := fun z hz => by
    have h3 := (cr_mem_fl.1 hz).2
    have h4 : cr_up z.2 v (- z.2 v) v = y.2 v := by simpa using h3
    rw [cr_up_k] at h4
    omega
  have hle := cr_vl_ge o.2 hLp (fun a => decide (a v = y.2 v))
  have hpos : 0 < cr_vl o.1 (cr_fl (fun a => decide (a v = y.2 v)) L) := cr_vl_pos o.2 (fun z hz => hLp z (cr_mem_fl.1 hz).1) (fun h => by
    have : y ∈ cr_fl (fun a => decide (a v = y.2 v)) L := cr_mem_fl.2 ⟨hy, by simp⟩
    rw [h] at this; simp at this)
  have hP : cr_P s.b v o.1 = 2 := by
    unfold cr_P
    have h3 : ∀ a : cr_Xp n, cr_mo o.1 a = 1 := fun a => cr_mo_ones a
    rw [h3, h3]; grind
  have hmo : ∀ z ∈ m, cr_mo (cr_stepv s.b v o.1) z.2 = (2 : Rat) ^ (- y.2 v) := fun z hz => by
    rw [cr_mo_step s.b v o.2, hP, hm z hz]
    have : cr_mo o.1 (cr_up z.2 v (- - y.2 v)) = 1 := cr_mo_ones _
    rw [this, Rat.mul_one]
  have e2 : cr_vl o.1 (cr_fl (fun a => decide (a v = y.2 v)) L) = cr_vl (cr_stepv s.b v o.1) m := e
  have hne : m ≠ [] := fun h => by
    rw [e2, h, cr_vl_nil] at hpos
    grind
  have hge : (2 : Rat) ^ (- y.2 v) ≤ cr_vl (cr_stepv s.b v o.1) m := by
    have hmp : ∀ z ∈ m, 0 < z.1 := fun z hz => hl1 z (cr_mem_fl.1 hz).1
    revert hmp hmo hne
    clear hm e2 e
    generalize m = m
    intro hmo hne hmp
    cases m with
    | nil => exact absurd rfl hne
    | cons z t =>
      rw [cr_vl_cons, hmo z (by simp)]
      have h3 : (1 : Rat) ≤ (z.1 : Rat) := by
        have : 1 ≤ z.1 := hmp z (by simp)
        exact_mod_cast this
      have h4 : 0 < (2 : Rat) ^ (- y.2 v) := Rat.zpow_pos (by grind)
      have h5 := Rat.mul_nonneg (by grind : 0 ≤ (z.1 : Rat) - 1) (by grind : 0 ≤ (2 : Rat) ^ (- y.2 v))
      have h6 : 0 ≤ cr_vl (cr_stepv s.b v o.1) t := cx_sm_nonneg (fun q hq => by
        have h7 : (0 : Rat) < (q.1 : Rat) := by exact_mod_cast hmp q (by simp [hq])
        have := Rat.mul_pos h7 (cr_mo_pos (cr_stepv_pos s.b v o.2) q.2)
        grind)
      grind
  have e3 : cr_vl (fun _ => 1) L = cr_vl o.1 L := rfl
  rw [e3]
  rw [e2] at hle
  grind
def cr_eb {n : Nat} (b : Fin n → Fin n → Int) (i j : Fin (n + n)) : Int :=
  if hi : i.1 < n then (if hj : j.1 < n then b ⟨i.1, hi⟩ ⟨j.1, hj⟩ else if j.1 = i.1 + n then -1 else 0)
  else (if j.1 < n then (if i.1 = j.1 + n then 1 else 0) else 0)
def cr_ed {n : Nat} (d : Fin n → Nat) (i : Fin (n + n)) : Nat := if hi : i.1 < n then d ⟨i.1, hi⟩ else d ⟨i.1 - n, by omega⟩
def cr_es {n : Nat} (s : cx_Sd n) : cx_Sd (n + n) := ⟨(cr_eb s.b, cr_ed s.d), fun i => by
    show 0 < cr_ed s.d i
    unfold cr_ed
    by_cases hi : i.1 < n
    · rw [dif_pos hi]; exact s.dpos _
    · rw [dif_neg hi]; exact s.dpos _, fun i j => by
    show (cr_ed s.d i : Int) * cr_eb s.b i j = - ((cr_ed s.d j : Int) * cr_eb s.b j i)
    unfold cr_ed cr_eb
    by_cases hi : i.1 < n
    · by_cases hj : j.1 < n
      · rw [dif_pos hi, dif_pos hj, dif_pos hi, dif_pos hj, dif_pos hj, dif_pos hi]; exact s.sk _ _
      · rw [dif_pos hi, dif_neg hj, dif_pos hi, dif_neg hj, dif_neg hj, if_pos hi]
        by_cases e : j.1 = i.1 + n
        · rw [if_pos e, if_pos e]
          have : (⟨j.1 - n, by omega⟩ : Fin n) = ⟨i.1, hi⟩ := Fin.ext (by show j.1 - n = i.1; omega)
          rw [this]; omega
        · rw [if_neg e, if_neg e]; omega
    · by_cases hj : j.1 < n
      · rw [dif_neg hi, dif_pos hj, dif_neg hi, if_pos hj, dif_pos hj, dif_neg hi]
        by_cases e : i.1 = j.1 + n
        · rw [if_pos e, if_pos e]
          have : (⟨i.1 - n, by omega⟩ : Fin n) = ⟨j.1, hj⟩ := Fin.ext (by show i.1 - n = j.1; omega)
          rw [this]; omega
        · rw [if_neg e, if_neg e]; omega
      · rw [dif_neg hi, dif_neg hj, dif_neg hi, dif_neg hj, if_neg hj, if_neg hi]; omega⟩
theorem cr_es_ind {n : Nat} (s : cx_Sd n) : cr_Ind (cr_es s).b (fun i => i.1 < n) := by
  intro z hz he j
  by_cases hj : j.1 < n
  · have h1 := he ⟨j.1 + n, by omega⟩
    have e : (cr_es s).b ⟨j.1 + n, by omega⟩ = cr_up (fun _ => 0) j 1 := funext fun i => by
      show cr_eb s.b ⟨j.1 + n, by omega⟩ i = _
      unfold cr_eb
      rw [dif_neg (by show ¬ j.1 + n < n; omega)]
      by_cases hi : i = j
      · rw [hi, cr_up_k, if_pos hj, if_pos rfl]
      · rw [cr_up_ne _ _ hi]
        have : i.1 ≠ j.1 := fun e => hi (Fin.ext e)
        by_cases hi2 : i.1 < n
        · rw [if_pos hi2, if_neg (by show ¬ j.1 + n = i.1 + n; omega)]
        · rw [if_neg hi2]
    rw [e, cr_wd_comm, cr_wd_e] at h1
    omega
  · exact hz j hj
theorem cr_mo_last {n : Nat} (v : Fin (n + 1) → Rat) (a : cr_Xp (n + 1)) : cr_mo v a = cr_mo (fun i : Fin n => v i.castSucc) (fun i => a i.castSucc) * v (Fin.last n) ^ a (Fin.last n) := by
  unfold cr_mo
  rw [List.finRange_succ_last, List.foldr_append]
  have main : ∀ (l : List (Fin n)) (c : Rat), (l.map Fin.castSucc).foldr (fun j r => v j ^ a j * r) c = l.foldr (fun j r => v j.castSucc ^ a j.castSucc * r) 1 * c := by
    intro l c
    induction l with
    | nil => rw [List.map_nil, List.foldr_nil, List.foldr_nil, Rat.one_mul]
    | cons x l ih => rw [List.map_cons, List.foldr_cons, List.foldr_cons, ih, Rat.mul_assoc]
  rw [main]
  congr 1
  rw [List.foldr_cons, List.foldr_nil, Rat.mul_one]
theorem cr_mo_ext {n : Nat} : ∀ (m : Nat) (v : Fin (n + m) → Rat) (a : cr_Xp (n + m)), (∀ i, n ≤ i.1 → v i = 1) → cr_mo v a = cr_mo (fun i : Fin n => v (Fin.castAdd m i)) (fun i => a (Fin.castAdd m i))
  | 0, v, a, _ => rfl
  | m + 1, v, a, h => by
    have e := cr_mo_last (n := n + m) v a
    have h1 : v (Fin.last (n + m)) = 1 := h _ (by show n ≤ n + m; omega)
    rw [h1, cr_one_zp, Rat.mul_one, cr_mo_ext m (fun i => v i.castSucc) (fun i => a i.castSucc) (fun i hi => h _ hi)] at e
    exact e
theorem cr_gp_ext {n : Nat} (ks : List (Fin n)) : ∀ (b : Fin n → Fin n → Int) (b' : Fin (n + n) → Fin (n + n) → Int) (x : cr_Pv n) (x' : cr_Pv (n + n)), (∀ i j, b' (Fin.castAdd n i) (Fin.castAdd n j) = b i j) → (∀ i, x'.1 (Fin.castAdd n i) = x.1 i) → (∀ i, n ≤ i.1 → x'.1 i = 1) →
    ∀ i, (cr_gp b' (ks.map (Fin.castAdd n)) x').1 (Fin.castAdd n i) = (cr_gp b ks x).1 i := by
  induction ks with
  | nil => exact fun b b' x x' _ hx _ i => hx i
  | cons k ks ih =>
    intro b b' x x' hb hx h1
    have inj : ∀ i j : Fin n, Fin.castAdd n i = Fin.castAdd n j ↔ i = j := fun i j => ⟨fun e => Fin.ext (by have := congrArg Fin.val e; exact this), fun e => by rw [e]⟩
    refine ih (cr_turnB b k) (cr_turnB b' (Fin.castAdd n k)) (cr_sp b k x) (cr_sp b' (Fin.castAdd n k) x') (fun i j => ?_) (fun i => ?_) (fun i hi => ?_)
    · unfold cr_turnB
      rw [hb, hb, hb]
      by_cases h : i = k ∨ j = k
      · rw [if_pos h, if_pos (by rw [inj, inj]; exact h)]
      · rw [if_neg h, if_neg (by rw [inj, inj]; exact h)]
    · show cr_stepv b' (Fin.castAdd n k) x'.1 (Fin.castAdd n i) = cr_stepv b k x.1 i
      have hm : ∀ (a : cr_Xp (n + n)) (a' : cr_Xp n), (∀ i, a (Fin.castAdd n i) = a' i) → cr_mo x'.1 a = cr_mo x.1 a' := fun a a' ha => by
        rw [cr_mo_ext n x'.1 a h1]
        exact cr_mo_congr (fun j => by rw [hx, ha])
      by_cases h : i = k
      · subst h
        rw [cr_step_k, cr_step_k, hx]
        unfold cr_P
        rw [hm _ (fun j => (cx_pos (b j i) : Int)) (fun j => by rw [hb]), hm _ (fun j => (cx_pos (- b j i) : Int)) (fun j => by rw [hb])]
      · rw [cr_step_ne _ _ (by rw [Ne, inj]; exact h), cr_step_ne _ _ h, hx]
    · show cr_stepv b' (Fin.castAdd n k) x'.1 i = 1
      rw [cr_step_ne _ _ (fun e => by rw [e] at hi; have : n ≤ k.1 := hi; omega), h1 i hi]
theorem cr_len {α : Type} : ∀ (l m : List α), l.Nodup → (∀ a ∈ l, a ∈ m) → l.length ≤ m.length
  | [], m, _, _ => Nat.zero_le _
  | a :: l, m, hn, h => by
    classical
    rw [List.nodup_cons] at hn
    have ha := h a (by simp)
    have h1 := cr_len l (m.erase a) hn.2 (fun b hb => (List.mem_erase_of_ne (fun e => hn.1 (by rw [← e]; exact hb))).2 (h b (by simp [hb])))
    have h2 := List.length_erase_of_mem ha
    have h3 : 0 < m.length := List.length_pos_of_mem ha
    rw [List.length_cons]
    omega
theorem cr_exp {n : Nat} (s : cx_Sd n) {Q : Fin n → Prop} (ks : List (Fin n)) (hks : ∀ k ∈ ks, Q k) (jj : Fin n) (hb : ∀ v k, Q k → s.b v k ≤ 9 ∧ -9 ≤ s.b v k) {L : cr_Pl_ n} (hLp : ∀ y ∈ L, 0 < y.1) (hL : ∀ x, (cr_gp s.b ks x).1 jj = cr_vl x.1 L) (hlen : L.length ≤ 200) (hsum : cr_vl (fun _ => 1) L < (2 : Rat) ^ (48 : Int)) :
    ∀ y ∈ L, ∀ v, -47 ≤ y.2 v ∧ y.2 v ≤ 1810 := by
  intro y hy v
  constructor
  · refine Classical.byContradiction (fun h => ?_)
    have h1 := cr_low s ks jj v hLp hL hy
    have h2 := cr_zp_mono (T := 2) (by grind) (by omega : (48 : Int) ≤ - y.2 v)
    grind
  · refine Classical.byContradiction (fun hbig => ?_)
    let c : Fin n → Fin (n + n) := Fin.castAdd n
    have hext : ∀ (x : cr_Pv n) (x' : cr_Pv (n + n)), (∀ i, x'.1 (c i) = x.1 i) → (∀ i, n ≤ i.1 → x'.1 i = 1) → ∀ i, (cr_gp (cr_es s).b (ks.map c) x').1 (c i) = (cr_gp s.b ks x).1 i := fun x x' h1 h2 => cr_gp_ext ks s.b (cr_es s).b x x' (fun i j => by
      show cr_eb s.b (Fin.castAdd n i) (Fin.castAdd n j) = s.b i j
      unfold cr_eb
      rw [dif_pos (by exact i.2), dif_pos (by exact j.2)]
      rfl) h1 h2
    obtain ⟨L', hLp', hL'⟩ := cr_rel [] (cr_es s) (ks.map c) (c jj)
    have hL' : ∀ x, (cr_gp (cr_es s).b (ks.map c) x).1 (c jj) = cr_vl x.1 L' := hL'
    let M : cr_Pl_ n := L'.map fun z => (z.1, fun i => z.2 (c i))
    have hM : ∀ x : cr_Pv n, cr_vl x.1 L = cr_vl x.1 M := fun x => by
      let x' : cr_Pv (n + n) := ⟨fun i => if hi : i.1 < n then x.1 ⟨i.1, hi⟩ else 1, fun i => by
        show 0 < if hi : i.1 < n then x.1 ⟨i.1, hi⟩ else 1
        by_cases hi : i.1 < n
        · rw [dif_pos hi]; exact x.2 _
        · rw [dif_neg hi]; grind⟩
      have a1 : ∀ i, x'.1 (c i) = x.1 i := fun i => dif_pos i.2
      have a2 : ∀ i : Fin (n + n), n ≤ i.1 → x'.1 i = 1 := fun i hi => dif_neg (by omega)
      rw [← hL x, ← hext x x' a1 a2 jj, hL' x']
      show cx_sm L' _ = cx_sm (L'.map _) _
      rw [cx_sm_map]
      refine cx_sm_congr (fun z _ => ?_)
      congr 1
      rw [cr_mo_ext n x'.1 z.2 a2]
      exact cr_mo_congr (fun j => by rw [show x'.1 (Fin.castAdd n j) = x.1 j from a1 j])
    have hMp : ∀ z ∈ M, 0 < z.1 := fun z hz => by
      obtain ⟨u, hu, rfl⟩ := List.mem_map.1 hz
      exact hLp' u hu
    have hco := cr_vl_unique hM
    have to : ∀ z ∈ L', ∃ y ∈ L, y.2 v = z.2 (c v) := fun z hz => by
      have h1 := cr_co_pos hMp (y := (z.1, fun i => z.2 (c i))) (List.mem_map.2 ⟨z, hz, rfl⟩)
      rw [← hco] at h1
      obtain ⟨y, hy, ey⟩ := cr_co_mem (l := L) (a := fun i => z.2 (c i)) (fun e => by
        have h2 : 0 < cr_co L (fun i => z.2 (c i)) := h1
        omega)
      exact ⟨y, hy, by rw [ey]⟩
    obtain ⟨y', hy', ey'⟩ : ∃ z ∈ L', z.2 (c v) = y.2 v := by
      have h1 := cr_co_pos hLp hy
      rw [hco] at h1
      obtain ⟨z, hz, ez⟩ := cr_co_mem (l := M) (a := y.2) (by omega)
      obtain ⟨u, hu, rfl⟩ := List.mem_map.1 hz
      exact ⟨u, hu, congrFun ez v⟩
    have hIn : cr_Ind (cr_es s).b (fun i => i.1 < n) := cr_es_ind s
    have hIQ : cr_Ind (cr_es s).b (fun i => ∃ k, Q k ∧ i = c k) := fun z hz he => hIn z (fun j hj => hz j (fun ⟨k, _, e⟩ => hj (by rw [e]; exact k.2))) he
    obtain ⟨y0, hy0, e0⟩ := cr_anchor (cr_es s) hIn (ks.map c) (fun k hk => by
      obtain ⟨q, _, rfl⟩ := List.mem_map.1 hk
      exact q.2) (c jj) (c v) jj.2 v.2 hL'
    have win : ∀ i : Nat, i < 201 → ∃ z ∈ L, 1 + 9 * (i : Int) < z.2 v ∧ z.2 v ≤ 1 + 9 * (i : Int) + 9 := fun i hi => by
      obtain ⟨z, hz, g1, g2⟩ := cr_gap (cr_es s) hIQ (ks.map c) (fun k hk => by
        obtain ⟨q, hq, rfl⟩ := List.mem_map.1 hk
        exact ⟨q, hks q hq, rfl⟩) (c jj) (c v) 9 (fun k ⟨q, hq, e⟩ => by
        rw [e]
        have h1 : (cr_es s).b (c v) (c q) = s.b v q := by
          show cr_eb s.b (Fin.castAdd n v) (Fin.castAdd n q) = s.b v q
          unfold cr_eb
          rw [dif_pos (by exact v.2), dif_pos (by exact q.2)]
          rfl
        rw [h1]; exact hb v q hq) hLp' hL' (1 + 9 * (i : Int)) ⟨y0, hy0, by omega⟩ ⟨y', hy', by omega⟩ (by omega)
      obtain ⟨q, hq, eq⟩ := to z hz
      exact ⟨q, hq, by omega, by omega⟩
    have h201 := cr_len (List.range 201) (L.map fun z => ((z.2 v - 2) / 9).toNat) List.nodup_range (fun i hi => by
      obtain ⟨z, hz, g1, g2⟩ := win i (List.mem_range.1 hi)
      exact List.mem_map.2 ⟨z, hz, by omega⟩)
    rw [List.length_range, List.length_map] at h201
    omega
end

section
/-! The reference, exactly: cells, rows of terms -/
theorem kn1 : wM.2 1 = 1 := by decide
theorem kn2 : wM.2 2 = 2 := by decide
theorem kn3 : wM.2 3 = 3 := by decide
theorem kn4 : wM.2 4 = 4 := by decide
theorem kn5 : wM.2 5 = 5 := by decide
theorem kn6 : wM.2 6 = 6 := by decide
theorem kn7 : wM.2 7 = 7 := by decide
theorem kn8 : wM.2 8 = 8 := by decide
theorem kn9 : wM.2 9 = 9 := by decide
theorem kn10 : wM.2 10 = 10 := by decide
theorem kn11 : wM.2 11 = 11 := by decide
theorem kn12 : wM.2 12 = 12 := by decide
theorem kn13 : wM.2 13 = 13 := by decide
theorem kn14 : wM.2 14 = 14 := by decide
theorem kn15 : wM.2 15 = 15 := by decide
theorem kn16 : wM.2 16 = 16 := by decide
theorem kn17 : wM.2 17 = 17 := by decide
theorem kn18 : wM.2 18 = 18 := by decide
theorem kn19 : wM.2 19 = 19 := by decide
theorem kn20 : wM.2 20 = 20 := by decide
theorem kn21 : wM.2 21 = 21 := by decide
theorem kn22 : wM.2 22 = 22 := by decide
theorem kn23 : wM.2 23 = 23 := by decide
theorem kn24 : wM.2 24 = 24 := by decide
theorem kn25 : wM.2 25 = 25 := by decide
theorem kn26 : wM.2 26 = 26 := by decide
theorem kn27 : wM.2 27 = 27 := by decide
theorem kn28 : wM.2 28 = 28 := by decide
theorem kn29 : wM.2 29 = 29 := by decide
theorem kn30 : wM.2 30 = 30 := by decide
theorem kn31 : wM.2 31 = 31 := by decide
theorem kn32 : wM.2 32 = 32 := by decide
theorem kn33 : wM.2 33 = 33 := by decide
theorem kn34 : wM.2 34 = 34 := by decide
theorem kn35 : wM.2 35 = 35 := by decide
theorem kn36 : wM.2 36 = 36 := by decide
theorem kn37 : wM.2 37 = 37 := by decide
theorem kn38 : wM.2 38 = 38 := by decide
def xe (A : pm_A) (p q : Int) : cr_Xp 12 := fun v => A 3 (12 * (200 * p + q) + (v.1 : Int))
def xp (A : pm_A) : cr_Xp 12 := fun v => A 4 (v.1 : Int)
def LSm (A : pm_A) (p : Int) : cr_Pl_ 12 := (List.range (A 1 p).toNat).map (fun q : Nat => (A 2 (200 * p + (q : Int)), xe A p (q : Int)))
theorem srt_against : pm_srt o_X10_against = true := by decide +kernel
def ag_post (A : pm_A) (p q : Int) (r : pm_R) : Prop := r.2 = A ∧ ∃ z, r.1 = some (0, z) ∧ ((z = 1 ∧ cr_Gt (xe A p q) (xp A)) ∨ (z = 0 ∧ xe A p q = xp A) ∨ (z = -1 ∧ cr_Gt (xp A) (xe A p q)))
theorem ag_2 {A : pm_A} {p q : Int} (hA : gH wM A) (p0 : 0 ≤ p) (p1 : p ≤ 151) (q0 : 0 ≤ q) (q1 : q ≤ 199) : ∀ (n : Nat) (v : Int) (w4 : pm_V), (12 - v).toNat < n → 0 ≤ v → v ≤ 12 → (∀ u : Fin 12, (u.1 : Int) < v → xe A p q u = xp A u) → Tm pmt (an_sh wM) o_X10_against 2 ([(2, 0), (0, p), (0, q), (0, v), w4], [], A) (ag_post A p q) := by
  have c3 := pM_3 hA
  have c6 := pM_6 hA
  intro n
  induction n with
  | zero => intro v w4 h; omega
  | succ n ih =>
    intro v w4 hn v0 v1 hv
    refine wq_ok srt_against (fr := []) (cuts := [2]) (J := fun pc st => (pc = 2 ∧ (v < 12) ∧ ((A (A 0 3) ((12 * ((200 * p) + q)) + v)) = (A (A 0 6) v)) ∧ st = ([(2, 0), (0, p), (0, q), (0, v + 1), (0, A (A 0 3) ((12 * ((200 * p) + q)) + v))], [], A))) ?_ 35 2 _ ?_
    · rintro pc st (⟨rfl, h0, h1, rfl⟩)
      refine ih (v + 1) _ (by omega) (by omega) (by omega) (fun u hu => ?_)
      by_cases hc : (u.1 : Int) < v
      · exact hv u hc
      · have hu2 : (u.1 : Int) = v := by omega
        show A 3 (12 * (200 * p + q) + (u.1 : Int)) = A 4 (u.1 : Int)
        rw [hu2, ← c3, ← c6]; rw [c3, c6]; rw [c3, c6] at h1; exact h1
    · refine ⟨fun h0 => ?_, fun h0 => ?_⟩
      · exact ⟨rfl, rfl, 0, rfl, Or.inr (Or.inl ⟨rfl, funext fun u => hv u (by have := u.2; omega)⟩)⟩
      · refine ⟨oM_0 (by omega) km0 3 rfl, ?_⟩
        refine ⟨⟨by omega, by omega⟩, ?_⟩
        refine ⟨⟨by omega, by omega⟩, ?_⟩
        refine ⟨⟨by omega, by omega⟩, ?_⟩
        refine ⟨⟨by omega, by omega⟩, ?_⟩
        refine ⟨aM_3 (r := A 0 3) (by rw [c3]; omega) (by rw [c3]; exact kn3) (by omega) (by omega), ?_⟩
        have e1 : A (A 0 3) ((12 * ((200 * p) + q)) + v) = A 3 ((12 * ((200 * p) + q)) + v) := by rw [c3]
        refine ⟨oM_0 (by omega) km0 6 rfl, ?_⟩
        refine ⟨aM_4 (r := A 0 6) (by rw [c6]; omega) (by rw [c6]; exact kn4) (by omega) (by omega), ?_⟩
        have e2 : A (A 0 6) v = A 4 v := by rw [c6]
        refine ⟨fun h1 => ?_, fun h1 => ?_⟩
        · refine ⟨⟨by omega, by omega⟩, ?_⟩
          exact ⟨rfl, h0, h1, rfl⟩
        · refine ⟨oM_0 (by omega) km0 6 rfl, ?_⟩
          refine ⟨aM_4 (r := A 0 6) (by rw [c6]; omega) (by rw [c6]; exact kn4) (by omega) (by omega), ?_⟩
          have e3 : A (A 0 6) v = A 4 v := by rw [c6]
          refine ⟨fun h2 => ?_, fun h2 => ?_⟩
          · exact ⟨rfl, rfl, -1, rfl, Or.inr (Or.inr ⟨rfl, ⟨v.toNat, by omega⟩, fun j hj => (hv j (by have : j.1 < v.toNat := hj; omega)).symm, by show A 3 (12 * (200 * p + q) + ((v.toNat : Nat) : Int)) < A 4 ((v.toNat : Nat) : Int); rw [Int.toNat_of_nonneg v0]; omega⟩)⟩
          · exact ⟨rfl, rfl, 1, rfl, Or.inl ⟨rfl, ⟨v.toNat, by omega⟩, fun j hj => hv j (by have : j.1 < v.toNat := hj; omega), by show A 4 ((v.toNat : Nat) : Int) < A 3 (12 * (200 * p + q) + ((v.toNat : Nat) : Int)); rw [Int.toNat_of_nonneg v0]; omega⟩⟩
theorem against_ex {A : pm_A} {p q : Int} (hA : gH wM A) (p0 : 0 ≤ p) (p1 : p ≤ 151) (q0 : 0 ≤ q) (q1 : q ≤ 199) : Cl pmt (an_sh wM) 122 [(2, 0), (0, p), (0, q)] A (ag_post A p q) := by
  refine Cl.of (Nat.le_of_ble_eq_true rfl) ?_
  refine wq_ok (full := o_X10_against) srt_against (fr := []) (cuts := [2]) (J := fun pc st => pc = 2 ∧ st = ([(2, 0), (0, p), (0, q), (0, 0), (9, 0)], [], A)) ?_ 5 0 _ ?_
  · rintro pc st ⟨rfl, rfl⟩
    exact ag_2 hA p0 p1 q0 q1 _ 0 _ (Nat.lt_succ_self _) (by omega) (by omega) (fun u hu => by omega)
  · exact ⟨rfl, rfl⟩
def srtd (A : pm_A) (p : Int) : Prop := ∀ q q' : Int, 0 ≤ q → q < q' → q' < A 1 p → cr_Gt (xe A p q) (xe A p q')
def pe_post (A : pm_A) (p : Int) (r : pm_R) : Prop := r.2 = A ∧ ∃ z, r.1 = some (0, z) ∧ (0 ≤ z ∧ z ≤ A 1 p) ∧ (∀ q, 0 ≤ q → q < z → cr_Gt (xe A p q) (xp A)) ∧ ∀ q, z ≤ q → q < A 1 p → ¬ cr_Gt (xe A p q) (xp A)
theorem pe_9 {A : pm_A} {p : Int} (hA : gH wM A) (p0 : 0 ≤ p) (p1 : p ≤ 151) (hs : srtd A p) : ∀ (n : Nat) (lo hi : Int) (v4 : pm_V), (hi - lo).toNat < n → 0 ≤ lo → lo ≤ hi → hi ≤ A 1 p → (∀ q, 0 ≤ q → q < lo → cr_Gt (xe A p q) (xp A)) → (∀ q, hi ≤ q → q < A 1 p → ¬ cr_Gt (xe A p q) (xp A)) → Tm pmt (an_sh wM) o_X10_placeIn 9 ([(2, 0), (0, p), (0, lo), (0, hi), v4], [], A) (pe_post A p) := by
  have m1 := eM_1 hA (r := 1) (by omega) kn1 p0 (show p < 152 by omega)
  intro n
  induction n with
  | zero => intro lo hi v4 h; omega
  | succ n ih =>
    intro lo hi v4 hn l0 l1 h1 H1 H2
    refine wq_ok srt_placeIn (fr := []) (cuts := [28]) (J := fun pc st => (pc = 28 ∧ lo < hi ∧ ∃ z, ((z = 1 ∧ cr_Gt (xe A p ((lo + hi) / 2)) (xp A)) ∨ (z = 0 ∧ xe A p ((lo + hi) / 2) = xp A) ∨ (z = -1 ∧ cr_Gt (xp A) (xe A p ((lo + hi) / 2)))) ∧ st = ([(2, 0), (0, p), (0, lo), (0, hi), (0, (lo + hi) / 2)], [(0, z)], A))) ?_ 17 9 _ ?_
    · rintro pc st (⟨rfl, hl, z, hz, rfl⟩)
      refine wq_ok srt_placeIn (fr := []) (cuts := [9]) (J := fun pc st => (pc = 9 ∧ (z ≤ 0) ∧ st = ([(2, 0), (0, p), (0, lo), (0, (lo + hi) / 2), (0, (lo + hi) / 2)], [], A)) ∨ (pc = 9 ∧ (0 < z) ∧ st = ([(2, 0), (0, p), (0, ((lo + hi) / 2) + 1), (0, hi), (0, (lo + hi) / 2)], [], A))) ?_ 12 28 _ ?_
      · rintro pc st (⟨rfl, h0, rfl⟩ | ⟨rfl, h0, rfl⟩)
        · refine ih lo ((lo + hi) / 2) _ (by omega) (by omega) (by omega) (by omega) H1 (fun q hq hq2 hg => ?_)
          have hm : ¬ cr_Gt (xe A p ((lo + hi) / 2)) (xp A) := by
            rcases hz with ⟨e, _⟩ | ⟨_, e⟩ | ⟨_, e⟩
            · omega
            · rw [e]; exact cr_Gt.irrefl _
            · exact e.asymm
          by_cases e : q = (lo + hi) / 2
          · rw [e] at hg; exact hm hg
          · exact hm ((hs ((lo + hi) / 2) q (by omega) (by omega) hq2).trans hg)
        · refine ih ((lo + hi) / 2 + 1) hi _ (by omega) (by omega) (by omega) (by omega) (fun q hq hq2 => ?_) H2
          have hm : cr_Gt (xe A p ((lo + hi) / 2)) (xp A) := by
            rcases hz with ⟨_, e⟩ | ⟨e, _⟩ | ⟨e, _⟩
            · exact e
            · omega
            · omega
          by_cases e : q = (lo + hi) / 2
          · rw [e]; exact hm
          · exact (hs q ((lo + hi) / 2) hq (by omega) (by omega)).trans hm
      · refine ⟨fun h0 => ?_, fun h0 => ?_⟩
        · exact Or.inl (⟨rfl, h0, rfl⟩)
        · refine ⟨⟨by omega, by omega⟩, ?_⟩
          exact Or.inr (⟨rfl, h0, rfl⟩)
    · refine ⟨fun h0 => ?_, fun h0 => ?_⟩
      · exact ⟨rfl, rfl, lo, rfl, ⟨l0, by omega⟩, H1, fun q hq hq2 => H2 q (by omega) hq2⟩
      · refine ⟨⟨by omega, by omega⟩, ?_⟩
        refine ⟨⟨by omega, by omega, by omega, by omega⟩, ?_⟩
        refine ⟨rM_0 (by omega) km0, ?_⟩
        refine (against_ex (q := (lo + hi) / 2) hA p0 p1 (by omega) (by omega)).imp ?_
        rintro ⟨r1, C⟩ ⟨rfl, z, hz1, hz2⟩
        simp only at hz1 hz2
        subst hz1
        exact ⟨rfl, h0, z, hz2, rfl⟩
theorem placeIn_ex {A : pm_A} {p : Int} (hA : gH wM A) (p0 : 0 ≤ p) (p1 : p ≤ 151) (hs : srtd A p) : Cl pmt (an_sh wM) 173 [(2, 0), (0, p)] A (pe_post A p) := by
  have c1 := pM_1 hA
  have m1 := eM_1 hA (r := 1) (by omega) kn1 p0 (show p < 152 by omega)
  refine Cl.of (Nat.le_of_ble_eq_true rfl) ?_
  refine wq_ok (full := o_X10_placeIn) srt_placeIn (fr := []) (cuts := [9]) (J := fun pc st => (pc = 9 ∧ st = ([(2, 0), (0, p), (0, 0), (0, A (A 0 1) p), (9, 0)], [], A))) ?_ 12 0 _ ?_
  · rintro pc st (⟨rfl, rfl⟩)
    rw [c1]
    exact pe_9 hA p0 p1 hs _ 0 _ _ (Nat.lt_succ_self _) (by omega) (by omega) (by omega) (fun q h1 h2 => by omega) (fun q h1 h2 => by omega)
  · refine ⟨oM_0 (by omega) km0 1 rfl, ?_⟩
    refine ⟨aM_1 (r := A 0 1) (by rw [c1]; omega) (by rw [c1]; exact kn1) (by omega) (by omega), ?_⟩
    have e1 : A (A 0 1) p = A 1 p := by rw [c1]
    exact ⟨rfl, rfl⟩
end

section
/-! copy, one, heldSlot -/
theorem upd_o {A : pm_A} {k i v k2 j : Int} (h : ¬ (k2 = k ∧ j = i)) : pm_upd A k i v k2 j = A k2 j := by unfold pm_upd; rw [if_neg h]
def inS (t r j : Int) : Prop := (r = 1 ∧ j = t) ∨ (r = 2 ∧ 200 * t ≤ j ∧ j < 200 * t + 200) ∨ (r = 3 ∧ 2400 * t ≤ j ∧ j < 2400 * t + 2400)
theorem LSm_ext {A B : pm_A} {p p' : Int} (h1 : B 1 p' = A 1 p) (h2 : ∀ q v : Int, 0 ≤ q → q < A 1 p → 0 ≤ v → v < 12 → B 2 (200 * p' + q) = A 2 (200 * p + q) ∧ B 3 (12 * (200 * p' + q) + v) = A 3 (12 * (200 * p + q) + v)) : LSm B p' = LSm A p := by
  unfold LSm
  rw [h1]
  refine List.map_congr_left (fun q hq => ?_)
  have hq := List.mem_range.1 hq
  refine Prod.ext (h2 q 0 (by omega) (by omega) (by omega) (by omega)).1 (funext fun v => ?_)
  exact (h2 q v.1 (by omega) (by omega) (by omega) (by have := v.2; omega)).2
theorem LSm_len (A : pm_A) (p : Int) : (LSm A p).length = (A 1 p).toNat := by unfold LSm; rw [List.length_map, List.length_range]
theorem LSm_same {A B : pm_A} {p : Int} (hm : A 1 p ≤ 200) (h : ∀ r j, inS p r j → B r j = A r j) : LSm B p = LSm A p :=
  LSm_ext (h 1 p (Or.inl ⟨rfl, rfl⟩)) (fun q v q0 q1 v0 v1 => ⟨h _ _ (by unfold inS; omega), h _ _ (by unfold inS; omega)⟩)
theorem srt_copy : pm_srt o_X10_copy = true := by decide +kernel
def cpI (A B : pm_A) (to fr t : Int) : Prop := gH wM B ∧ (∀ r j, ¬ inS to r j → B r j = A r j) ∧ B 1 to = A 1 fr ∧ ∀ q v : Int, 0 ≤ q → q < t → 0 ≤ v → v < 12 → B 2 (200 * to + q) = A 2 (200 * fr + q) ∧ B 3 (12 * (200 * to + q) + v) = A 3 (12 * (200 * fr + q) + v)
def cpJ (A B : pm_A) (to fr t u : Int) : Prop := cpI A B to fr t ∧ B 2 (200 * to + t) = A 2 (200 * fr + t) ∧ ∀ v : Int, 0 ≤ v → v < u → B 3 (12 * (200 * to + t) + v) = A 3 (12 * (200 * fr + t) + v)
def cp_post (A : pm_A) (to fr : Int) (r : pm_R) : Prop := r.1 = none ∧ gH wM r.2 ∧ (∀ q j, ¬ inS to q j → r.2 q j = A q j) ∧ LSm r.2 to = LSm A fr
theorem cp_51 {A : pm_A} {to fr t : Int} (hne : to ≠ fr) (p0 : 0 ≤ to) (p1 : to ≤ 151) (f0 : 0 ≤ fr) (f1 : fr ≤ 151) (t0 : 0 ≤ t) (t1 : t ≤ 199) (H : ∀ C v4, cpI A C to fr (t + 1) → Tm pmt (an_sh wM) o_X10_copy 14 ([(2, 0), (0, to), (0, fr), (0, t + 1), v4], [], C) (cp_post A to fr)) : ∀ (n : Nat) (u : Int) (B : pm_A), (12 - u).toNat < n → 0 ≤ u → u ≤ 12 → cpJ A B to fr t u → Tm pmt (an_sh wM) o_X10_copy 51 ([(2, 0), (0, to), (0, fr), (0, t), (0, u)], [], B) (cp_post A to fr) := by
  intro n
  induction n with
  | zero => intro u B h; omega
  | succ n ih =>
    intro u B hn u0 u1 hJ
    obtain ⟨⟨g1, g2, g3, g4⟩, g5, g6⟩ := hJ
    have c3 := pM_3 g1
    refine wq_ok srt_copy (fr := []) (cuts := [14, 51]) (J := fun pc st => (pc = 14 ∧ (12 ≤ u) ∧ st = ([(2, 0), (0, to), (0, fr), (0, t + 1), (0, u)], [], B)) ∨ (pc = 51 ∧ (u < 12) ∧ st = ([(2, 0), (0, to), (0, fr), (0, t), (0, u + 1)], [], pm_upd B (B 0 3) ((12 * ((200 * to) + t)) + u) (B (B 0 3) ((12 * ((200 * fr) + t)) + u))))) ?_ 34 51 _ ?_
    · rintro pc st (⟨rfl, h0, rfl⟩ | ⟨rfl, h0, rfl⟩)
      · refine H B _ ⟨g1, g2, g3, fun q v q0 q1 v0 v1 => ?_⟩
        by_cases hq : q = t
        · rw [hq]; exact ⟨g5, g6 v v0 (by omega)⟩
        · exact g4 q v q0 (by omega) v0 v1
      · rw [c3]
        have b3 := eM_3 g1 (r := 3) (by omega) kn3 (j := 12 * (200 * fr + t) + u) (by omega) (by omega)
        refine ih (u + 1) _ (by omega) (by omega) (by omega) ⟨⟨uM_3 g1 kn3 b3.1 b3.2, fun r j hr => ?_, ?_, fun q v q0 q1 v0 v1 => ?_⟩, ?_, fun v v0 v1 => ?_⟩
        · rw [upd_o (fun e => hr (by unfold inS; omega))]; exact g2 r j hr
        · rw [upd_o (by omega)]; exact g3
        · rw [upd_o (by omega), upd_o (by omega)]; exact g4 q v q0 q1 v0 v1
        · rw [upd_o (by omega)]; exact g5
        · by_cases hv : v = u
          · rw [hv, upd_at]; exact g2 _ _ (by unfold inS; omega)
          · rw [upd_o (by omega)]; exact g6 v v0 (by omega)
    · refine ⟨fun h0 => ?_, fun h0 => ?_⟩
      · refine ⟨⟨by omega, by omega⟩, ?_⟩
        exact Or.inl (⟨rfl, h0, rfl⟩)
      · refine ⟨oM_0 (by omega) km0 3 rfl, ?_⟩
        refine ⟨⟨by omega, by omega⟩, ?_⟩
        refine ⟨⟨by omega, by omega⟩, ?_⟩
        refine ⟨⟨by omega, by omega⟩, ?_⟩
        refine ⟨⟨by omega, by omega⟩, ?_⟩
        refine ⟨oM_0 (by omega) km0 3 rfl, ?_⟩
        refine ⟨⟨by omega, by omega⟩, ?_⟩
        refine ⟨⟨by omega, by omega⟩, ?_⟩
        refine ⟨⟨by omega, by omega⟩, ?_⟩
        refine ⟨⟨by omega, by omega⟩, ?_⟩
        refine ⟨aM_3 (r := B 0 3) (by rw [c3]; omega) (by rw [c3]; exact kn3) (by omega) (by omega), ?_⟩
        have e1 : B (B 0 3) ((12 * ((200 * fr) + t)) + u) = B 3 ((12 * ((200 * fr) + t)) + u) := by rw [c3]
        refine ⟨tM_3 (r := B 0 3) (by rw [c3]; omega) (by rw [c3]; exact kn3) (by omega) (by omega) rfl, ?_⟩
        refine ⟨⟨by omega, by omega⟩, ?_⟩
        exact Or.inr (⟨rfl, h0, rfl⟩)
theorem cp_14 {A : pm_A} {to fr : Int} (hA : gH wM A) (hne : to ≠ fr) (p0 : 0 ≤ to) (p1 : to ≤ 151) (f0 : 0 ≤ fr) (f1 : fr ≤ 151) : ∀ (n : Nat) (t : Int) (v4 : pm_V) (B : pm_A), (A 1 fr - t).toNat < n → 0 ≤ t → t ≤ A 1 fr → cpI A B to fr t → Tm pmt (an_sh wM) o_X10_copy 14 ([(2, 0), (0, to), (0, fr), (0, t), v4], [], B) (cp_post A to fr) := by
  have m1 := eM_1 hA (r := 1) (by omega) kn1 f0 (show fr < 152 by omega)
  intro n
  induction n with
  | zero => intro t v4 B h; omega
  | succ n ih =>
    intro t v4 B hn t0 t1 hI
    have hI0 := hI
    obtain ⟨g1, g2, g3, g4⟩ := hI
    have c1 := pM_1 g1
    have c2 := pM_2 g1
    have mB : B 1 fr = A 1 fr := g2 1 fr (by unfold inS; omega)
    refine wq_ok srt_copy (fr := []) (cuts := [51]) (J := fun pc st => (pc = 51 ∧ (t < (B (B 0 1) fr)) ∧ st = ([(2, 0), (0, to), (0, fr), (0, t), (0, 0)], [], pm_upd B (B 0 2) ((200 * to) + t) (B (B 0 2) ((200 * fr) + t))))) ?_ 29 14 _ ?_
    · rintro pc st (⟨rfl, h0, rfl⟩)
      rw [c2]
      rw [c1, mB] at h0
      have b2 := eM_2 g1 (r := 2) (by omega) kn2 (j := 200 * fr + t) (by omega) (by omega)
      refine cp_51 hne p0 p1 f0 f1 t0 (by omega) (fun C v4 hC => ih (t + 1) v4 C (by omega) (by omega) (by omega) hC) _ 0 _ (Nat.lt_succ_self _) (by omega) (by omega) ⟨⟨uM_2 g1 kn2 b2.1 b2.2, fun r j hr => ?_, ?_, fun q v q0 q1 v0 v1 => ?_⟩, ?_, fun v v0 v1 => by omega⟩
      · rw [upd_o (fun e => hr (by unfold inS; omega))]; exact g2 r j hr
      · rw [upd_o (by omega)]; exact g3
      · rw [upd_o (by omega), upd_o (by omega)]; exact g4 q v q0 q1 v0 v1
      · rw [upd_at]; exact g2 _ _ (by unfold inS; omega)
    · refine ⟨oM_0 (by omega) km0 1 rfl, ?_⟩
      refine ⟨aM_1 (r := B 0 1) (by rw [c1]; omega) (by rw [c1]; exact kn1) (by omega) (by omega), ?_⟩
      have e1 : B (B 0 1) fr = B 1 fr := by rw [c1]
      refine ⟨fun h0 => ?_, fun h0 => ?_⟩
      · exact ⟨rfl, g1, g2, LSm_ext g3 (fun q v q0 q1 v0 v1 => g4 q v q0 (by rw [c1, mB] at h0; omega) v0 v1)⟩
      · refine ⟨oM_0 (by omega) km0 2 rfl, ?_⟩
        refine ⟨⟨by omega, by omega⟩, ?_⟩
        refine ⟨⟨by omega, by omega⟩, ?_⟩
        refine ⟨oM_0 (by omega) km0 2 rfl, ?_⟩
        refine ⟨⟨by omega, by omega⟩, ?_⟩
        refine ⟨⟨by omega, by omega⟩, ?_⟩
        refine ⟨aM_2 (r := B 0 2) (by rw [c2]; omega) (by rw [c2]; exact kn2) (by omega) (by omega), ?_⟩
        have e2 : B (B 0 2) ((200 * fr) + t) = B 2 ((200 * fr) + t) := by rw [c2]
        refine ⟨tM_2 (r := B 0 2) (by rw [c2]; omega) (by rw [c2]; exact kn2) (by omega) (by omega) rfl, ?_⟩
        exact ⟨rfl, h0, rfl⟩
theorem copy_ex {A : pm_A} {to fr : Int} (hA : gH wM A) (hne : to ≠ fr) (p0 : 0 ≤ to) (p1 : to ≤ 151) (f0 : 0 ≤ fr) (f1 : fr ≤ 151) : Cl pmt (an_sh wM) 134 [(2, 0), (0, to), (0, fr)] A (cp_post A to fr) := by
  have c1 := pM_1 hA
  have m1 := eM_1 hA (r := 1) (by omega) kn1 f0 (show fr < 152 by omega)
  refine Cl.of (Nat.le_of_ble_eq_true rfl) ?_
  refine wq_ok (full := o_X10_copy) srt_copy (fr := []) (cuts := [14]) (J := fun pc st => (pc = 14 ∧ st = ([(2, 0), (0, to), (0, fr), (0, 0), (9, 0)], [], pm_upd A (A 0 1) to (A (A 0 1) fr)))) ?_ 15 0 _ ?_
  · rintro pc st (⟨rfl, rfl⟩)
    rw [c1]
    refine cp_14 hA hne p0 p1 f0 f1 _ 0 _ _ (Nat.lt_succ_self _) (by omega) (by omega) ⟨uM_1 hA kn1 m1.1 m1.2, fun r j hr => ?_, ?_, fun q v q0 q1 v0 v1 => by omega⟩
    · rw [upd_o (fun e => hr (by unfold inS; omega))]
    · rw [upd_at]
  · refine ⟨oM_0 (by omega) km0 1 rfl, ?_⟩
    refine ⟨oM_0 (by omega) km0 1 rfl, ?_⟩
    refine ⟨aM_1 (r := A 0 1) (by rw [c1]; omega) (by rw [c1]; exact kn1) (by omega) (by omega), ?_⟩
    have e1 : A (A 0 1) fr = A 1 fr := by rw [c1]
    refine ⟨tM_1 (r := A 0 1) (by rw [c1]; omega) (by rw [c1]; exact kn1) (by omega) (by omega) rfl, ?_⟩
    exact ⟨rfl, rfl⟩
theorem srt_one : pm_srt o_X10_one = true := by decide +kernel
def on_post (A : pm_A) (p : Int) (r : pm_R) : Prop := r.1 = none ∧ gH wM r.2 ∧ (∀ q j, ¬ inS p q j → r.2 q j = A q j) ∧ LSm r.2 p = [(1, fun _ => 0)]
def onI (A B : pm_A) (p u : Int) : Prop := gH wM B ∧ (∀ r j, ¬ inS p r j → B r j = A r j) ∧ B 1 p = 1 ∧ B 2 (200 * p) = 1 ∧ ∀ v : Int, 0 ≤ v → v < u → B 3 (2400 * p + v) = 0
theorem on_20 {A : pm_A} {p : Int} (p0 : 0 ≤ p) (p1 : p ≤ 151) : ∀ (n : Nat) (u : Int) (B : pm_A), (12 - u).toNat < n → 0 ≤ u → u ≤ 12 → onI A B p u → Tm pmt (an_sh wM) o_X10_one 20 ([(2, 0), (0, p), (0, u)], [], B) (on_post A p) := by
  intro n
  induction n with
  | zero => intro u B h; omega
  | succ n ih =>
    intro u B hn u0 u1 hJ
    obtain ⟨g1, g2, g3, g4, g5⟩ := hJ
    have c3 := pM_3 g1
    have hls : 12 ≤ u → LSm B p = [(1, fun _ => 0)] := fun hu => by
      unfold LSm
      rw [g3]
      show [(B 2 (200 * p + ((0 : Nat) : Int)), xe B p ((0 : Nat) : Int))] = _
      rw [show (200 * p + ((0 : Nat) : Int)) = 200 * p by omega, g4]
      refine congrArg (fun z => [((1 : Int), z)]) (funext fun v => ?_)
      show B 3 (12 * (200 * p + ((0 : Nat) : Int)) + (v.1 : Int)) = 0
      rw [show 12 * (200 * p + ((0 : Nat) : Int)) + (v.1 : Int) = 2400 * p + v.1 by omega]
      exact g5 v.1 (by omega) (by have := v.2; omega)
    refine wq_ok srt_one (fr := []) (cuts := [20]) (J := fun pc st => (pc = 20 ∧ (u < 12) ∧ st = ([(2, 0), (0, p), (0, u + 1)], [], pm_upd B (B 0 3) ((2400 * p) + u) 0))) ?_ 19 20 _ ?_
    · rintro pc st (⟨rfl, h0, rfl⟩)
      rw [c3]
      refine ih (u + 1) _ (by omega) (by omega) (by omega) ⟨uM_3 g1 kn3 (by omega) (by omega), fun r j hr => ?_, ?_, ?_, fun v v0 v1 => ?_⟩
      · rw [upd_o (fun e => hr (by unfold inS; omega))]; exact g2 r j hr
      · rw [upd_o (by omega)]; exact g3
      · rw [upd_o (by omega)]; exact g4
      · by_cases hv : v = u
        · rw [hv, upd_at]
        · rw [upd_o (by omega)]; exact g5 v v0 (by omega)
    · refine ⟨fun h0 => ?_, fun h0 => ?_⟩
      · exact ⟨rfl, g1, g2, hls h0⟩
      · refine ⟨oM_0 (by omega) km0 3 rfl, ?_⟩
        refine ⟨⟨by omega, by omega⟩, ?_⟩
        refine ⟨⟨by omega, by omega⟩, ?_⟩
        refine ⟨tM_3 (r := B 0 3) (by rw [c3]; omega) (by rw [c3]; exact kn3) (by omega) (by omega) rfl, ?_⟩
        refine ⟨⟨by omega, by omega⟩, ?_⟩
        exact ⟨rfl, h0, rfl⟩
theorem one_ex {A : pm_A} {p : Int} (hA : gH wM A) (p0 : 0 ≤ p) (p1 : p ≤ 151) : Cl pmt (an_sh wM) 168 [(2, 0), (0, p)] A (on_post A p) := by
  have c1 := pM_1 hA
  have c2 : pm_upd A (A 0 1) p 1 0 2 = 2 := by rw [c1, upd_o (by omega)]; exact pM_2 hA
  refine Cl.of (Nat.le_of_ble_eq_true rfl) ?_
  refine wq_ok (full := o_X10_one) srt_one (fr := []) (cuts := [20]) (J := fun pc st => (pc = 20 ∧ st = ([(2, 0), (0, p), (0, 0)], [], pm_upd (pm_upd A (A 0 1) p 1) ((pm_upd A (A 0 1) p 1) 0 2) (200 * p) 1))) ?_ 19 0 _ ?_
  · rintro pc st (⟨rfl, rfl⟩)
    rw [c2, c1]
    refine on_20 p0 p1 _ 0 _ (Nat.lt_succ_self _) (by omega) (by omega) ⟨uM_2 (uM_1 hA kn1 (by omega) (by omega)) kn2 (by omega) (by omega), fun r j hr => ?_, ?_, ?_, fun v v0 v1 => by omega⟩
    · rw [upd_o (fun e => hr (by unfold inS; omega)), upd_o (fun e => hr (by unfold inS; omega))]
    · rw [upd_o (by omega), upd_at]
    · rw [upd_at]
  · refine ⟨oM_0 (by omega) km0 1 rfl, ?_⟩
    refine ⟨tM_1 (r := A 0 1) (by rw [c1]; omega) (by rw [c1]; exact kn1) (by omega) (by omega) rfl, ?_⟩
    refine ⟨oM_0 (by omega) km0 2 rfl, ?_⟩
    refine ⟨⟨by omega, by omega⟩, ?_⟩
    refine ⟨tM_2 (r := (pm_upd A (A 0 1) p 1) 0 2) (by rw [c2]; omega) (by rw [c2]; exact kn2) (by omega) (by omega) rfl, ?_⟩
    exact ⟨rfl, rfl⟩
end
