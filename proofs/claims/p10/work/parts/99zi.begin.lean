/-! firsts, begins, begin -/
def eone (i : Int) : cr_Xp 12 := fun v => if (v.1 : Int) = i then 1 else 0
theorem LSm_one {C : pm_A} {i : Int} (h : LSm C i = [(1, fun _ => 0)]) (i0 : 0 ≤ i) (i1 : i ≤ 5) : LSm (pm_upd C 3 (2400 * i + i) 1) i = [(1, eone i)] := by
  have hlen : (C 1 i).toNat = 1 := by
    have := congrArg List.length h
    unfold LSm at this
    rw [List.length_map, List.length_range] at this
    exact this
  unfold LSm at h ⊢
  rw [upd_o (by omega)]
  rw [hlen] at h ⊢
  have h : [(C 2 (200 * i + ((0 : Nat) : Int)), xe C i ((0 : Nat) : Int))] = [((1 : Int), (fun _ => 0 : cr_Xp 12))] := h
  have h1 := (Prod.mk.inj (List.cons.inj h).1)
  show [(pm_upd C 3 (2400 * i + i) 1 2 (200 * i + ((0 : Nat) : Int)), xe (pm_upd C 3 (2400 * i + i) 1) i ((0 : Nat) : Int))] = [((1 : Int), eone i)]
  rw [upd_o (by omega), h1.1]
  have h2 : xe (pm_upd C 3 (2400 * i + i) 1) i ((0 : Nat) : Int) = eone i := funext fun v => by
    have hv := v.2
    have e := congrFun h1.2 v
    unfold xe at e ⊢
    unfold eone
    by_cases hvi : (v.1 : Int) = i
    · rw [if_pos hvi]
      rw [show 12 * (200 * i + ((0 : Nat) : Int)) + (v.1 : Int) = 2400 * i + i by omega, upd_at]
    · rw [if_neg hvi, upd_o (by omega)]
      exact e
  rw [h2]
theorem LSm_up {C : pm_A} {k r j x : Int} (hC : gH wM C) (k0 : 0 ≤ k) (k1 : k ≤ 5) (h : ¬ inS k r j) : LSm (pm_upd C r j x) k = LSm C k :=
  LSm_same (eM_1 hC (r := 1) (by omega) kn1 k0 (by omega)).2 (fun q i hq => upd_o (fun e => h (by rw [← e.1, ← e.2]; exact hq)))
def fsI (B C : pm_A) (i : Int) : Prop := gH wM C ∧ (∀ k : Int, 0 ≤ k → k < i → k ≤ 5 → LSm C k = [(1, eone k)]) ∧ ∀ r j, (∀ t : Int, 0 ≤ t → t ≤ 5 → ¬ inS t r j) → C r j = B r j
def frs_post (B : pm_A) (r : pm_R) : Prop := r.1 = none ∧ gH wM r.2 ∧ (∀ k : Int, 0 ≤ k → k < B 0 7 → LSm r.2 k = [(1, eone k)]) ∧ r.2 0 10 = 0 ∧ ∀ q j, (∀ t : Int, 0 ≤ t → t ≤ 5 → ¬ inS t q j) → ¬ (q = 0 ∧ j = 10) → q ≠ 10 → r.2 q j = B q j
theorem srt_firsts : pm_srt o_X10_firsts = true := by decide +kernel
theorem frs_2 {B : pm_A} (p7 : B 0 7 ≤ 6) : ∀ (m : Nat) (i : Int) (C : pm_A), (6 - i).toNat < m → 0 ≤ i → i ≤ 6 → fsI B C i → Tm pmt (an_sh wM) o_X10_firsts 2 ([(2, 0), (0, i)], [], C) (frs_post B) := by
  intro m
  induction m with
  | zero => intro i C h; omega
  | succ m ih =>
    intro i C hm i0 i1 hI
    have hC := hI.1
    have e7 : C 0 7 = B 0 7 := hI.2.2 0 7 (fun t t0 t1 => by unfold inS; omega)
    have c17a := pM_17 hC
    have hend : B 0 7 ≤ i → ∀ D, D = pm_upd (pm_upd C 0 10 0) 10 0 1 → frs_post B (none, D) := fun hi D hD => by
      have g1 : gH wM (pm_upd C 0 10 0) := uM_0_10 hC (by omega) (by omega)
      refine ⟨rfl, by rw [hD]; exact uM_10 g1 kn10 (by omega) (by omega), fun k k0 k1 => ?_, by rw [hD]; show pm_upd (pm_upd C 0 10 0) 10 0 1 0 10 = 0; rw [upd_o (by omega), upd_at], fun q j h1 h2 h3 => ?_⟩
      · rw [hD]
        show LSm (pm_upd (pm_upd C 0 10 0) 10 0 1) k = _
        rw [LSm_up g1 k0 (by omega) (by unfold inS; omega), LSm_up hC k0 (by omega) (by unfold inS; omega)]
        exact hI.2.1 k k0 (by omega) (by omega)
      · rw [hD]
        show pm_upd (pm_upd C 0 10 0) 10 0 1 q j = _
        rw [upd_o (by omega), upd_o (by omega)]
        exact hI.2.2 q j h1
    have h34 : B 0 7 ≤ i → Tm pmt (an_sh wM) o_X10_firsts 34 ([(2, 0), (0, i)], [], C) (frs_post B) := fun hi => by
      have c17 : pm_upd C 0 10 0 0 17 = 10 := by rw [upd_o (by omega)]; exact c17a
      refine wq_ok srt_firsts (fr := []) (cuts := []) (J := fun _ _ => False) ?_ 13 34 _ ?_
      · intro pc st h; exact h.elim
      · refine ⟨oM_0 (by omega) km0 10 rfl, ?_⟩
        refine ⟨oM_0 (by omega) km0 17 rfl, ?_⟩
        refine ⟨tM_10 (r := (pm_upd C 0 10 0) 0 17) (by rw [c17]; omega) (by rw [c17]; exact kn10) (by omega) (by omega) rfl, ?_⟩
        exact (by rw [c17]; exact hend hi _ rfl)
    have h15 : i < B 0 7 → ∀ D, gH wM D → (∀ q j, ¬ inS i q j → D q j = C q j) → LSm D i = [(1, fun _ => 0)] → Tm pmt (an_sh wM) o_X10_firsts 15 ([(2, 0), (0, i)], [], D) (frs_post B) := fun hi D hD hf hl => by
      have c3 := pM_3 hD
      have hi5 : i ≤ 5 := by omega
      refine wq_ok srt_firsts (fr := []) (cuts := [2]) (J := fun pc st => (pc = 2 ∧ st = ([(2, 0), (0, i + 1)], [], pm_upd D (D 0 3) ((2400 * i) + i) 1))) ?_ 16 15 _ ?_
      · rintro pc st (⟨rfl, rfl⟩)
        rw [c3]
        refine ih (i + 1) _ (by omega) (by omega) (by omega) ⟨uM_3 hD kn3 (by omega) (by omega), fun k k0 k1 k2 => ?_, fun q j hq => ?_⟩
        · by_cases e : k = i
          · rw [e]; exact LSm_one hl i0 hi5
          · rw [LSm_up hD k0 k2 (by unfold inS; omega), LSm_same (eM_1 hC (r := 1) (by omega) kn1 k0 (by omega)).2 (fun q j hq => hf q j (by unfold inS at *; omega))]
            exact hI.2.1 k k0 (by omega) k2
        · have := hq i i0 hi5
          rw [upd_o (fun e => this (by unfold inS; omega)), hf q j this]
          exact hI.2.2 q j hq
      · refine ⟨oM_0 (by omega) km0 3 rfl, ?_⟩
        refine ⟨⟨by omega, by omega⟩, ?_⟩
        refine ⟨⟨by omega, by omega⟩, ?_⟩
        refine ⟨tM_3 (r := D 0 3) (by rw [c3]; omega) (by rw [c3]; exact kn3) (by omega) (by omega) rfl, ?_⟩
        refine ⟨⟨by omega, by omega⟩, ?_⟩
        exact ⟨rfl, rfl⟩
    refine wq_ok srt_firsts (fr := []) (cuts := [15, 34]) (J := fun pc st => (pc = 34 ∧ ((C 0 7) ≤ i) ∧ st = ([(2, 0), (0, i)], [], C)) ∨ (pc = 15 ∧ i < B 0 7 ∧ ∃ D, gH wM D ∧ (∀ q j, ¬ inS i q j → D q j = C q j) ∧ LSm D i = [(1, fun _ => 0)] ∧ st = ([(2, 0), (0, i)], [], D))) ?_ 11 2 _ ?_
    · rintro pc st (⟨rfl, h0, rfl⟩ | ⟨rfl, hi, D, q2, q3, q4, rfl⟩)
      · exact h34 (by omega)
      · exact h15 hi D q2 q3 q4
    · refine ⟨oM_0 (by omega) km0 7 rfl, ?_⟩
      refine ⟨fun h0 => ?_, fun h0 => ?_⟩
      · exact Or.inl (⟨rfl, h0, rfl⟩)
      · refine ⟨rM_0 (by omega) km0, ?_⟩
        refine (one_ex (p := i) hC i0 (by omega)).imp ?_
        rintro ⟨r1, D⟩ ⟨q1, q2, q3, q4⟩
        simp only at q1 q2 q3 q4
        subst q1
        exact Or.inr (⟨rfl, by omega, D, q2, q3, q4, rfl⟩)
theorem firsts_ex {B : pm_A} (hB : gH wM B) : Cl pmt (an_sh wM) 142 [(2, 0)] B (frs_post B) := by
  have p7 := fM_0_7 hB (r := 0) (by omega) km0
  refine Cl.of (Nat.le_of_ble_eq_true rfl) ?_
  refine wq_ok (full := o_X10_firsts) srt_firsts (fr := []) (cuts := [2]) (J := fun pc st => (pc = 2 ∧ st = ([(2, 0), (0, 0)], [], B))) ?_ 7 0 _ ?_
  · rintro pc st (⟨rfl, rfl⟩)
    exact frs_2 p7.2 _ 0 B (Nat.lt_succ_self _) (by omega) (by omega) ⟨hB, fun k k0 k1 => by omega, fun _ _ _ => rfl⟩
  · exact ⟨rfl, rfl⟩
def bgJ (A C : pm_A) : Prop := gH wM C ∧ C 0 7 = A 0 12 ∧ C 0 8 = A 0 13 ∧ (∀ j : Int, 0 ≤ j → j < 72 → C 5 j = A 7 j) ∧ (∀ k : Int, 0 ≤ k → k < A 0 12 → LSm C k = [(1, eone k)]) ∧ C 0 10 = 0 ∧ ∀ r j, 6 ≤ r → r ≠ 10 → C r j = A r j
def bg_post (A : pm_A) (r : pm_R) : Prop := r.1 = none ∧ bgJ A r.2
theorem srt_begins : pm_srt o_X10_begins = true := by decide +kernel
theorem bg_48 {A : pm_A} (p6 : A 0 12 ≤ 6) (hz : szd A) : ∀ (m : Nat) (i : Int) (C : pm_A), (6 - i).toNat < m → 0 ≤ i → i ≤ 6 → bgJ A C → Tm pmt (an_sh wM) o_X10_begins 48 ([(2, 0), (0, i)], [], C) (bg_post A) := by
  intro m
  induction m with
  | zero => intro i C h; omega
  | succ m ih =>
    intro i C hm i0 i1 hJ
    have hJ2 := hJ
    obtain ⟨hC, e7, e8, e5, hl, e10, ho⟩ := hJ
    have c17 := pM_17 hC
    have c15 := pM_15 hC
    have f8 : C 8 i = A 8 i := ho 8 i (by omega) (by omega)
    have hsz : i < A 0 12 → 1 ≤ A 8 i ∧ A 8 i ≤ 531441 := fun h => (hz i i0 h).2.1
    have go : i < A 0 12 → ∀ x, 1 ≤ x → x ≤ 531441 → Tm pmt (an_sh wM) o_X10_begins 48 ([(2, 0), (0, i + 1)], [], pm_upd C 10 i x) (bg_post A) := fun hi x x0 x1 => by
      refine ih (i + 1) _ (by omega) (by omega) (by omega) ⟨uM_10 hC kn10 (by omega) (by omega), by rw [upd_o (by omega)]; exact e7, by rw [upd_o (by omega)]; exact e8, fun j j0 j1 => by rw [upd_o (by omega)]; exact e5 j j0 j1, fun k k0 k1 => ?_, by rw [upd_o (by omega)]; exact e10, fun r j h1 h2 => by rw [upd_o (by omega)]; exact ho r j h1 h2⟩
      rw [LSm_up hC k0 (by omega) (by unfold inS; omega)]; exact hl k k0 k1
    refine wq_ok srt_begins (fr := []) (cuts := [48]) (J := fun pc st => (pc = 48 ∧ (i < (C 0 7)) ∧ st = ([(2, 0), (0, i + 1)], [], pm_upd C (C 0 17) i (C (C 0 15) i)))) ?_ 20 48 _ ?_
    · rintro pc st (⟨rfl, h0, rfl⟩)
      have := hsz (by omega)
      rw [c15, c17]
      exact go (by omega) _ (by omega) (by omega)
    · refine ⟨oM_0 (by omega) km0 7 rfl, ?_⟩
      refine ⟨fun h0 => ?_, fun h0 => ?_⟩
      · exact ⟨rfl, hJ2⟩
      · refine ⟨oM_0 (by omega) km0 17 rfl, ?_⟩
        refine ⟨oM_0 (by omega) km0 15 rfl, ?_⟩
        refine ⟨aM_8 (r := C 0 15) (by rw [c15]; omega) (by rw [c15]; exact kn8) (by omega) (by omega), ?_⟩
        have e1 : C (C 0 15) i = C 8 i := by rw [c15]
        refine ⟨(by have := hsz (by omega); exact ⟨by omega, by omega⟩), ?_⟩
        refine ⟨tM_10 (r := C 0 17) (by rw [c17]; omega) (by rw [c17]; exact kn10) (by omega) (by omega) rfl, ?_⟩
        refine ⟨⟨by omega, by omega⟩, ?_⟩
        exact ⟨rfl, h0, rfl⟩
theorem bg_42 {A B : pm_A} (p6 : A 0 12 ≤ 6) (hz : szd A) (hB : gH wM B) (e7 : B 0 7 = A 0 12) (e8 : B 0 8 = A 0 13) (e5 : ∀ j : Int, 0 ≤ j → j < 72 → B 5 j = A 7 j) (ho : ∀ r j, 6 ≤ r → B r j = A r j) {w1 : pm_V} : Tm pmt (an_sh wM) o_X10_begins 42 ([(2, 0), w1], [], B) (bg_post A) := by
  refine wq_ok srt_begins (fr := []) (cuts := [46]) (J := fun pc st => (pc = 46 ∧ ∃ C, gH wM C ∧ (∀ k : Int, 0 ≤ k → k < B 0 7 → LSm C k = [(1, eone k)]) ∧ C 0 10 = 0 ∧ (∀ q j, (∀ t : Int, 0 ≤ t → t ≤ 5 → ¬ inS t q j) → ¬ (q = 0 ∧ j = 10) → q ≠ 10 → C q j = B q j) ∧ st = ([(2, 0), w1], [], C))) ?_ 6 42 _ ?_
  · rintro pc st (⟨rfl, C, q2, q3, q4, q5, rfl⟩)
    refine wq_ok srt_begins (fr := []) (cuts := [48]) (J := fun pc st => (pc = 48 ∧ st = ([(2, 0), (0, 0)], [], C))) ?_ 7 46 _ ?_
    · rintro pc st (⟨rfl, rfl⟩)
      refine bg_48 p6 hz _ 0 C (Nat.lt_succ_self _) (by omega) (by omega) ⟨q2, ?_, ?_, fun j j0 j1 => ?_, fun k k0 k1 => q3 k k0 (by omega), q4, fun r j h1 h2 => ?_⟩
      · rw [q5 0 7 (fun t t0 t1 => by unfold inS; omega) (by omega) (by omega)]; exact e7
      · rw [q5 0 8 (fun t t0 t1 => by unfold inS; omega) (by omega) (by omega)]; exact e8
      · rw [q5 5 j (fun t t0 t1 => by unfold inS; omega) (by omega) (by omega)]; exact e5 j j0 j1
      · rw [q5 r j (fun t t0 t1 => by unfold inS; omega) (by omega) h2]; exact ho r j h1
    · exact ⟨rfl, rfl⟩
  · refine ⟨rM_0 (by omega) km0, ?_⟩
    refine (firsts_ex hB).imp ?_
    rintro ⟨r1, C⟩ ⟨q1, q2, q3, q4, q5⟩
    simp only at q1 q2 q3 q4 q5
    subst q1
    exact ⟨rfl, C, q2, q3, q4, q5, rfl⟩
theorem bg_18 {A : pm_A} (p6 : A 0 12 ≤ 6) (hz : szd A) : ∀ (m : Nat) (i : Int) (B : pm_A), (72 - i).toNat < m → 0 ≤ i → i ≤ 72 → gH wM B → B 0 7 = A 0 12 → B 0 8 = A 0 13 → (∀ j : Int, 0 ≤ j → j < i → B 5 j = A 7 j) → (∀ r j, 6 ≤ r → B r j = A r j) → Tm pmt (an_sh wM) o_X10_begins 18 ([(2, 0), (0, i)], [], B) (bg_post A) := by
  intro m
  induction m with
  | zero => intro i B h; omega
  | succ m ih =>
    intro i B hm i0 i1 hB e7 e8 e5 ho
    have c9 := pM_9 hB
    have c14 := pM_14 hB
    have b7 : i < 72 → -2999 ≤ B 7 i ∧ B 7 i ≤ 2999 := fun h => eM_7 hB (r := 7) (by omega) kn7 i0 h
    refine wq_ok srt_begins (fr := []) (cuts := [18, 42]) (J := fun pc st => (pc = 42 ∧ (72 ≤ i) ∧ st = ([(2, 0), (0, i)], [], B)) ∨ (pc = 18 ∧ (i < 72) ∧ st = ([(2, 0), (0, i + 1)], [], pm_upd B (B 0 9) i (B (B 0 14) i)))) ?_ 18 18 _ ?_
    · rintro pc st (⟨rfl, h0, rfl⟩ | ⟨rfl, h0, rfl⟩)
      · exact bg_42 p6 hz hB e7 e8 (fun j j0 j1 => e5 j j0 (by omega)) ho
      · have b := b7 h0
        rw [c9, c14]
        refine ih (i + 1) _ (by omega) (by omega) (by omega) (uM_5 hB kn5 (by omega) (by omega)) (by rw [upd_o (by omega)]; exact e7) (by rw [upd_o (by omega)]; exact e8) (fun j j0 j1 => ?_) (fun r j h1 => by rw [upd_o (by omega)]; exact ho r j h1)
        by_cases e : j = i
        · rw [e, upd_at]; exact ho 7 i (by omega)
        · rw [upd_o (by omega)]; exact e5 j j0 (by omega)
    · refine ⟨fun h0 => ?_, fun h0 => ?_⟩
      · exact Or.inl (⟨rfl, h0, rfl⟩)
      · refine ⟨oM_0 (by omega) km0 9 rfl, ?_⟩
        refine ⟨oM_0 (by omega) km0 14 rfl, ?_⟩
        refine ⟨aM_7 (r := B 0 14) (by rw [c14]; omega) (by rw [c14]; exact kn7) (by omega) (by omega), ?_⟩
        have e1 : B (B 0 14) i = B 7 i := by rw [c14]
        refine ⟨tM_5 (r := B 0 9) (by rw [c9]; omega) (by rw [c9]; exact kn5) (by omega) (by omega) rfl, ?_⟩
        refine ⟨⟨by omega, by omega⟩, ?_⟩
        exact Or.inr (⟨rfl, h0, rfl⟩)
theorem begins_ex {A : pm_A} (hA : gH wM A) (hz : szd A) : Cl pmt (an_sh wM) 130 [(2, 0)] A (bg_post A) := by
  have p12 := fM_0_12 hA (r := 0) (by omega) km0
  have p13 := fM_0_13 hA (r := 0) (by omega) km0
  have f13 : pm_upd A 0 7 (A 0 12) 0 13 = A 0 13 := upd_o (by omega)
  refine Cl.of (Nat.le_of_ble_eq_true rfl) ?_
  refine wq_ok (full := o_X10_begins) srt_begins (fr := []) (cuts := [18]) (J := fun pc st => (pc = 18 ∧ st = ([(2, 0), (0, 0)], [], pm_upd (pm_upd A 0 7 (A 0 12)) 0 8 ((pm_upd A 0 7 (A 0 12)) 0 13)))) ?_ 15 0 _ ?_
  · rintro pc st (⟨rfl, rfl⟩)
    rw [f13]
    exact bg_18 p12.2 hz _ 0 _ (Nat.lt_succ_self _) (by omega) (by omega) (uM_0_8 (uM_0_7 hA p12.1 p12.2) p13.1 p13.2) (by rw [upd_o (by omega), upd_at]) (by rw [upd_at]) (fun j j0 j1 => by omega) (fun r j h1 => by rw [upd_o (by omega), upd_o (by omega)])
  · refine ⟨oM_0 (by omega) km0 12 rfl, ?_⟩
    refine ⟨oM_0 (by omega) km0 7 rfl, ?_⟩
    refine ⟨oM_0 (by omega) km0 13 rfl, ?_⟩
    refine ⟨oM_0 (by omega) km0 8 rfl, ?_⟩
    exact ⟨rfl, rfl⟩
def dd (A : pm_A) (k : Int) : Int := if k < A 0 12 then A 8 k else 1
def QQ (A : pm_A) : Int := dd A 0 * dd A 1 * dd A 2 * dd A 3 * dd A 4 * dd A 5
def bb0 (A : pm_A) (i j : Int) : Int := if j < A 0 12 + A 0 13 then (if i < A 0 12 then A 7 (6 * j + i) else 0) else 0
def bbs (A : pm_A) (i j : Int) : Int := if j < A 0 12 then bb0 A j i else if i < A 0 12 then -((QQ A / A 8 i) * bb0 A i j) else 0
def dds (A : pm_A) (i : Int) : Int := if i < A 0 12 then A 8 i else QQ A
theorem dd_pos {A : pm_A} (hz : szd A) {k : Int} (k0 : 0 ≤ k) : 1 ≤ dd A k := by
  unfold dd
  by_cases h : k < A 0 12
  · rw [if_pos h]; exact (hz k k0 h).2.1.1
  · rw [if_neg h]; omega
theorem mul_ge1 {a b : Int} (ha : 1 ≤ a) (hb : 1 ≤ b) : 1 ≤ a * b := by
  have := Int.mul_le_mul ha hb (by omega) (by omega)
  omega
theorem QQ_pos {A : pm_A} (hz : szd A) : 1 ≤ QQ A :=
  mul_ge1 (mul_ge1 (mul_ge1 (mul_ge1 (mul_ge1 (dd_pos hz (by omega)) (dd_pos hz (by omega))) (dd_pos hz (by omega))) (dd_pos hz (by omega))) (dd_pos hz (by omega))) (dd_pos hz (by omega))
theorem QQ_dvd {A : pm_A} {k : Int} (k0 : 0 ≤ k) (k1 : k ≤ 5) : dd A k ∣ QQ A := by
  have h : k = 0 ∨ k = 1 ∨ k = 2 ∨ k = 3 ∨ k = 4 ∨ k = 5 := by omega
  unfold QQ
  rcases h with rfl | rfl | rfl | rfl | rfl | rfl
  · exact Int.dvd_mul_of_dvd_left (Int.dvd_mul_of_dvd_left (Int.dvd_mul_of_dvd_left (Int.dvd_mul_of_dvd_left (Int.dvd_mul_right _ _))))
  · exact Int.dvd_mul_of_dvd_left (Int.dvd_mul_of_dvd_left (Int.dvd_mul_of_dvd_left (Int.dvd_mul_of_dvd_left (Int.dvd_mul_left _ _))))
  · exact Int.dvd_mul_of_dvd_left (Int.dvd_mul_of_dvd_left (Int.dvd_mul_of_dvd_left (Int.dvd_mul_left _ _)))
  · exact Int.dvd_mul_of_dvd_left (Int.dvd_mul_of_dvd_left (Int.dvd_mul_left _ _))
  · exact Int.dvd_mul_of_dvd_left (Int.dvd_mul_left _ _)
  · exact Int.dvd_mul_left _ _
theorem dds_pos {A : pm_A} (hz : szd A) {i : Int} (i0 : 0 ≤ i) : 1 ≤ dds A i := by
  unfold dds
  by_cases h : i < A 0 12
  · rw [if_pos h]; exact (hz i i0 h).2.1.1
  · rw [if_neg h]; exact QQ_pos hz
theorem dds_mix {A : pm_A} (p6 : A 0 12 ≤ 6) {i j : Int} (i0 : 0 ≤ i) (hi : i < A 0 12) (hj : ¬ j < A 0 12) : dds A i * bbs A i j = -(dds A j * bbs A j i) := by
  unfold dds bbs
  rw [if_pos hi, if_neg hj, if_neg hj, if_pos hi, if_pos hi]
  have h := QQ_dvd (A := A) i0 (show i ≤ 5 by omega)
  unfold dd at h
  rw [if_pos hi] at h
  rw [Int.mul_neg, ← Int.mul_assoc, Int.mul_ediv_cancel' h]
theorem dds_skew {A : pm_A} (hz : szd A) (p6 : A 0 12 ≤ 6) {i j : Int} (i0 : 0 ≤ i) (j0 : 0 ≤ j) (p13 : 0 ≤ A 0 13) : dds A i * bbs A i j = -(dds A j * bbs A j i) := by
  by_cases hi : i < A 0 12
  · by_cases hj : j < A 0 12
    · unfold dds bbs bb0
      rw [if_pos hi, if_pos hj, if_pos hj, if_pos hi, if_pos (show i < A 0 12 + A 0 13 by omega), if_pos hj, if_pos (show j < A 0 12 + A 0 13 by omega), if_pos hi, (hz i i0 hi).2.2 j j0 hj, Int.neg_mul]
    · exact dds_mix p6 i0 hi hj
  · by_cases hj : j < A 0 12
    · rw [dds_mix p6 j0 hj hi, Int.neg_neg]
    · unfold bbs
      rw [if_neg hi, if_neg hj, if_neg hj, if_neg hi, Int.mul_zero, Int.mul_zero]; rfl
def Sd0 (A : pm_A) (hz : szd A) (p6 : A 0 12 ≤ 6) (p13 : 0 ≤ A 0 13) : cx_Sd 12 := ⟨(fun i j => bbs A i.1 j.1, fun i => (dds A i.1).toNat), fun i => by have := dds_pos hz (i := (i.1 : Int)) (by omega); show 0 < (dds A i.1).toNat; omega, fun i j => by
  have a := dds_pos hz (i := (i.1 : Int)) (by omega)
  have b := dds_pos hz (i := (j.1 : Int)) (by omega)
  show (((dds A i.1).toNat : Nat) : Int) * bbs A i.1 j.1 = -((((dds A j.1).toNat : Nat) : Int) * bbs A j.1 i.1)
  rw [Int.toNat_of_nonneg (by omega), Int.toNat_of_nonneg (by omega)]
  exact dds_skew hz p6 (by omega) (by omega) p13⟩
theorem mo_eone {x : Fin 12 → Rat} (i : Fin 12) : cr_mo x (eone i.1) = x i := by
  rw [cr_mo_split i, show (fun j : Fin 12 => if j = i then (0 : Int) else eone i.1 j) = fun _ => 0 from funext fun j => by
    by_cases e : j = i
    · rw [if_pos e]
    · rw [if_neg e]; unfold eone; rw [if_neg (fun h => e (Fin.ext (by omega)))], cr_mo_zero, Rat.mul_one]
  unfold eone
  rw [if_pos rfl]
  exact Rat.zpow_one _
theorem bg_tru {A C : pm_A} (hz : szd A) (h9 : ∀ j : Int, 0 ≤ j → j < 72 → -9 ≤ A 7 j ∧ A 7 j ≤ 9) (p1 : 1 ≤ A 0 12) (p6 : A 0 12 ≤ 6) (p13 : 0 ≤ A 0 13) (q13 : A 0 13 ≤ 6) (h : bgJ A C) : Tru (Sd0 A hz p6 p13) [] C := by
  obtain ⟨hC, e7, e8, e5, hl, e10, ho⟩ := h
  have hone : ∀ k : Int, 0 ≤ k → k < A 0 12 → C 1 k = 1 ∧ C 2 (200 * k) = 1 := fun k k0 k1 => by
    have hL := hl k k0 k1
    have m := eM_1 hC (r := 1) (by omega) kn1 (j := k) k0 (by omega)
    have hlen : (C 1 k).toNat = 1 := by
      have := congrArg List.length hL
      unfold LSm at this
      rw [List.length_map, List.length_range] at this
      exact this
    unfold LSm at hL
    rw [hlen] at hL
    have hL : [(C 2 (200 * k + ((0 : Nat) : Int)), xe C k ((0 : Nat) : Int))] = [((1 : Int), eone k)] := hL
    have h1 := (Prod.mk.inj (List.cons.inj hL).1).1
    rw [show 200 * k + ((0 : Nat) : Int) = 200 * k by omega] at h1
    exact ⟨by omega, h1⟩
  refine ⟨hC, by omega, fun i j hj => ⟨fun hi => ?_, fun hi => ?_⟩, fun k hk => absurd hk (List.not_mem_nil), fun v k hk => ?_, fun i j i0 i1 j0 j1 => ?_, fun i hi => ⟨fun q q' q0 q1 q2 => ?_, fun q q0 q1 => ?_, fun x => ?_⟩⟩
  · show bbs A i.1 j.1 = _
    unfold bbs bb0
    have := i.2
    rw [if_pos (by omega), if_pos (by omega), if_pos (by omega), e5 _ (by omega) (by omega)]
  · show bbs A i.1 j.1 = _
    unfold bbs bb0
    rw [if_pos (by omega), if_neg (by omega)]
  · show bbs A v.1 k.1 ≤ 9 ∧ -9 ≤ bbs A v.1 k.1
    have := v.2
    have a := h9 (6 * (v.1 : Int) + (k.1 : Int)) (by omega) (by omega)
    unfold bbs bb0
    rw [if_pos (by omega)]
    by_cases e : (v.1 : Int) < A 0 12 + A 0 13
    · rw [if_pos e, if_pos (by omega)]; omega
    · rw [if_neg e]; omega
  · have a := h9 (6 * i + j) (by omega) (by omega)
    rw [e5 _ (by omega) (by omega)]; omega
  · have := (hone i.1 (by omega) (by omega)).1
    omega
  · have := hone i.1 (by omega) (by omega)
    rw [show q = 0 by omega, Int.add_zero, this.2]; omega
  · show x.1 i = VS C i.1 x
    unfold VS
    rw [hl i.1 (by omega) (by omega), cr_vl_sing, mo_eone]
theorem bg_ri {A C : pm_A} (hA : RI A) (hz : szd A) (p1 : 1 ≤ A 0 12) (h : bgJ A C) : RI C := by
  have p12 := fM_0_12 hA.g (r := 0) (by omega) km0
  have p13 := fM_0_13 hA.g (r := 0) (by omega) km0
  have ho := h.2.2.2.2.2.2
  refine ⟨⟨_, [], bg_tru hz hA.2.1.1 p1 p12.2 p13.1 p13.2 h⟩, ⟨fun j j0 j1 => ?_, fun d d0 d1 => ?_⟩, hA.2.2.same (fun j => ho 31 j (by omega) (by omega)) (fun j => ho 32 j (by omega) (by omega))⟩
  · rw [ho 7 j (by omega) (by omega)]; exact hA.2.1.1 j j0 j1
  · rw [h.2.2.2.2.2.1] at d1; omega
theorem gpF.fr {A B : pm_A} (h : gpF A B) : gFr wM [10008, 10009, 10011] A B := fun k j k0 j0 hn => by
  refine h.2 k j (fun e => hn ?_) (fun e => hn ?_) (fun e => hn ?_)
  · exact mM_8 (by rw [e]; exact kn8) rfl
  · exact mM_9 (by rw [e]; exact kn9) rfl
  · exact mM_11 (by rw [e]; exact kn11) rfl
theorem srt_Mbegin : pm_srt o_X10_begin = true := by decide +kernel
theorem mb_125 {A : pm_A} (h : RI A) (hT : tz A) (p1 : 1 ≤ A 0 12) {w1 w2 w3 w4 : pm_V} : Tm pmt (an_sh wM) o_X10_begin 125 ([(2, 0), w1, w2, w3, w4], [], A) ri_post := by
  have p12 := fM_0_12 h.g (r := 0) (by omega) km0
  refine wq_ok srt_Mbegin (fr := []) (cuts := [129]) (J := fun pc st => (pc = 129 ∧ ∃ B x, gpF A B ∧ (x = 0 ∨ szd B) ∧ st = ([(2, 0), w1, w2, w3, w4], [(0, x)], B))) ?_ 6 125 _ ?_
  · rintro pc st (⟨rfl, B, x, q1, q3, rfl⟩)
    have hB : RI B := h.typed q1.1 q1.fr rfl
    have f12 : B 0 12 = A 0 12 := q1.2 0 12 (by omega) (by omega) (by omega)
    refine wq_ok srt_Mbegin (fr := []) (cuts := [138]) (J := fun pc st => (pc = 138 ∧ szd B ∧ ∃ C, bgJ B C ∧ st = ([(2, 0), w1, w2, w3, w4], [], C))) ?_ 7 129 _ ?_
    · rintro pc st (⟨rfl, q3, C, y2, rfl⟩)
      refine wq_ok srt_Mbegin (fr := []) (cuts := []) (J := fun _ _ => False) ?_ 6 138 _ ?_
      · intro pc st h; exact h.elim
      · exact ⟨rfl, ⟨_, rfl⟩, bg_ri hB q3 (by omega) y2⟩
    · refine ⟨fun h0 => ?_, fun h0 => ?_⟩
      · refine ⟨rM_0 (by omega) km0, ?_⟩
        rcases q3 with q3 | q3
        · exact absurd q3 h0
        refine (begins_ex hB.g q3).imp ?_
        rintro ⟨r1, C⟩ ⟨y1, y2⟩
        simp only at y1 y2
        subst y1
        exact ⟨rfl, q3, C, y2, rfl⟩
      · exact ⟨rfl, ⟨_, rfl⟩, hB⟩
  · refine ⟨rM_0 (by omega) km0, ?_⟩
    refine (hasSizes_ex h.g hT p12.2).imp ?_
    rintro ⟨r1, B⟩ ⟨q1, x, q2, q3⟩
    simp only at q1 q2 q3
    subst q2
    exact ⟨rfl, B, x, q1, q3, rfl⟩
def sgn0 (A : pm_A) (i j : Int) : Prop := A 7 (6 * i + j) = 0 → A 7 (6 * j + i) = 0
theorem mb_51 {A : pm_A} (h : RI A) {i : Int} (i0 : 0 ≤ i) (i1 : i < A 0 12) (p6 : A 0 12 ≤ 6) (H : (∀ j : Int, 0 ≤ j → j < A 0 12 → sgn0 A i j) → ∀ w2 w3 w4, Tm pmt (an_sh wM) o_X10_begin 41 ([(2, 0), (0, i + 1), w2, w3, w4], [], A) ri_post) : ∀ (m : Nat) (j : Int) (w3 w4 : pm_V), (6 - j).toNat < m → 0 ≤ j → j ≤ 6 → (∀ k : Int, 0 ≤ k → k < j → k < A 0 12 → sgn0 A i k) → Tm pmt (an_sh wM) o_X10_begin 51 ([(2, 0), (0, i), (0, j), w3, w4], [], A) ri_post := by
  have c14 := pM_14 h.g
  intro m
  induction m with
  | zero => intro j w3 w4 h; omega
  | succ m ih =>
    intro j w3 w4 hm j0 j1 hj
    have go : j < A 0 12 → sgn0 A i j → ∀ w3 w4, Tm pmt (an_sh wM) o_X10_begin 51 ([(2, 0), (0, i), (0, j + 1), w3, w4], [], A) ri_post := fun hlt hs w3 w4 => by
      refine ih (j + 1) _ _ (by omega) (by omega) (by omega) (fun k k0 k1 k2 => ?_)
      by_cases e : k = j
      · rw [e]; exact hs
      · exact hj k k0 (by omega) k2
    have hend : A 0 12 ≤ j → ∀ k : Int, 0 ≤ k → k < A 0 12 → sgn0 A i k := fun hlt k k0 k1 => hj k k0 (by omega) k1
    refine wq_ok srt_Mbegin (fr := []) (cuts := [41, 51]) (J := fun pc st => (pc = 41 ∧ ((A 0 12) ≤ j) ∧ st = ([(2, 0), (0, i + 1), (0, j), w3, w4], [], A)) ∨ (pc = 51 ∧ (j < (A 0 12)) ∧ (¬ (A (A 0 14) ((6 * i) + j)) = 0) ∧ ((A (A 0 14) ((6 * i) + j)) ≤ 0) ∧ ((A (A 0 14) ((6 * i) + j)) < 0) ∧ (0 < (A (A 0 14) ((6 * j) + i))) ∧ st = ([(2, 0), (0, i), (0, j + 1), (0, A (A 0 14) ((6 * i) + j)), (0, A (A 0 14) ((6 * j) + i))], [], A)) ∨ (pc = 51 ∧ (j < (A 0 12)) ∧ (¬ (A (A 0 14) ((6 * i) + j)) = 0) ∧ (0 < (A (A 0 14) ((6 * i) + j))) ∧ ((A (A 0 14) ((6 * j) + i)) < 0) ∧ st = ([(2, 0), (0, i), (0, j + 1), (0, A (A 0 14) ((6 * i) + j)), (0, A (A 0 14) ((6 * j) + i))], [], A)) ∨ (pc = 51 ∧ (j < (A 0 12)) ∧ (¬ (A (A 0 14) ((6 * i) + j)) = 0) ∧ (0 < (A (A 0 14) ((6 * i) + j))) ∧ (0 ≤ (A (A 0 14) ((6 * j) + i))) ∧ ((A (A 0 14) ((6 * i) + j)) < 0) ∧ (0 < (A (A 0 14) ((6 * j) + i))) ∧ st = ([(2, 0), (0, i), (0, j + 1), (0, A (A 0 14) ((6 * i) + j)), (0, A (A 0 14) ((6 * j) + i))], [], A)) ∨ (pc = 51 ∧ (j < (A 0 12)) ∧ ((A (A 0 14) ((6 * i) + j)) = 0) ∧ ((A (A 0 14) ((6 * j) + i)) = 0) ∧ st = ([(2, 0), (0, i), (0, j + 1), (0, A (A 0 14) ((6 * i) + j)), (0, A (A 0 14) ((6 * j) + i))], [], A)) ∨ (pc = 51 ∧ (j < (A 0 12)) ∧ ((A (A 0 14) ((6 * i) + j)) = 0) ∧ (¬ (A (A 0 14) ((6 * j) + i)) = 0) ∧ ((A (A 0 14) ((6 * i) + j)) ≤ 0) ∧ ((A (A 0 14) ((6 * i) + j)) < 0) ∧ (0 < (A (A 0 14) ((6 * j) + i))) ∧ st = ([(2, 0), (0, i), (0, j + 1), (0, A (A 0 14) ((6 * i) + j)), (0, A (A 0 14) ((6 * j) + i))], [], A)) ∨ (pc = 51 ∧ (j < (A 0 12)) ∧ ((A (A 0 14) ((6 * i) + j)) = 0) ∧ (¬ (A (A 0 14) ((6 * j) + i)) = 0) ∧ (0 < (A (A 0 14) ((6 * i) + j))) ∧ ((A (A 0 14) ((6 * j) + i)) < 0) ∧ st = ([(2, 0), (0, i), (0, j + 1), (0, A (A 0 14) ((6 * i) + j)), (0, A (A 0 14) ((6 * j) + i))], [], A)) ∨ (pc = 51 ∧ (j < (A 0 12)) ∧ ((A (A 0 14) ((6 * i) + j)) = 0) ∧ (¬ (A (A 0 14) ((6 * j) + i)) = 0) ∧ (0 < (A (A 0 14) ((6 * i) + j))) ∧ (0 ≤ (A (A 0 14) ((6 * j) + i))) ∧ ((A (A 0 14) ((6 * i) + j)) < 0) ∧ (0 < (A (A 0 14) ((6 * j) + i))) ∧ st = ([(2, 0), (0, i), (0, j + 1), (0, A (A 0 14) ((6 * i) + j)), (0, A (A 0 14) ((6 * j) + i))], [], A))) ?_ 41 51 _ ?_
    · rintro pc st (⟨rfl, h0, rfl⟩ | ⟨rfl, h0, h1, h2, h3, h4, rfl⟩ | ⟨rfl, h0, h1, h2, h3, rfl⟩ | ⟨rfl, h0, h1, h2, h3, h4, h5, rfl⟩ | ⟨rfl, h0, h1, h2, rfl⟩ | ⟨rfl, h0, h1, h2, h3, h4, h5, rfl⟩ | ⟨rfl, h0, h1, h2, h3, h4, rfl⟩ | ⟨rfl, h0, h1, h2, h3, h4, h5, h6, rfl⟩)
      · exact H (hend (by omega)) _ _ _
      · rw [c14] at h1 h2 h3 h4
        exact go (by omega) (fun e => by omega) _ _
      · rw [c14] at h1 h2 h3
        exact go (by omega) (fun e => by omega) _ _
      · rw [c14] at h1 h2 h3 h4 h5
        exact go (by omega) (fun e => by omega) _ _
      · rw [c14] at h1 h2
        exact go (by omega) (fun e => by omega) _ _
      · rw [c14] at h1 h2 h3 h4 h5
        exact go (by omega) (fun e => by omega) _ _
      · rw [c14] at h1 h2 h3 h4
        exact go (by omega) (fun e => by omega) _ _
      · rw [c14] at h1 h2 h3 h4 h5 h6
        exact go (by omega) (fun e => by omega) _ _
    · refine ⟨oM_0 (by omega) km0 12 rfl, ?_⟩
      refine ⟨fun h0 => ?_, fun h0 => ?_⟩
      · refine ⟨⟨by omega, by omega⟩, ?_⟩
        exact Or.inl (⟨rfl, h0, rfl⟩)
      · refine ⟨oM_0 (by omega) km0 14 rfl, ?_⟩
        refine ⟨⟨by omega, by omega⟩, ?_⟩
        refine ⟨⟨by omega, by omega⟩, ?_⟩
        refine ⟨aM_7 (r := A 0 14) (by rw [c14]; omega) (by rw [c14]; exact kn7) (by omega) (by omega), ?_⟩
        have e1 : A (A 0 14) ((6 * i) + j) = A 7 ((6 * i) + j) := by rw [c14]
        refine ⟨oM_0 (by omega) km0 14 rfl, ?_⟩
        refine ⟨⟨by omega, by omega⟩, ?_⟩
        refine ⟨⟨by omega, by omega⟩, ?_⟩
        refine ⟨aM_7 (r := A 0 14) (by rw [c14]; omega) (by rw [c14]; exact kn7) (by omega) (by omega), ?_⟩
        have e2 : A (A 0 14) ((6 * j) + i) = A 7 ((6 * j) + i) := by rw [c14]
        refine ⟨fun h1 => ?_, fun h1 => ?_⟩
        · refine ⟨fun h2 => ?_, fun h2 => ?_⟩
          · refine ⟨fun h3 => ?_, fun h3 => ?_⟩
            · exact ⟨rfl, ⟨_, rfl⟩, h⟩
            · refine ⟨fun h4 => ?_, fun h4 => ?_⟩
              · refine ⟨⟨by omega, by omega⟩, ?_⟩
                exact Or.inr (Or.inl (⟨rfl, h0, h1, h2, h3, h4, rfl⟩))
              · exact ⟨rfl, ⟨_, rfl⟩, h⟩
          · refine ⟨fun h3 => ?_, fun h3 => ?_⟩
            · refine ⟨⟨by omega, by omega⟩, ?_⟩
              exact Or.inr (Or.inr (Or.inl (⟨rfl, h0, h1, h2, h3, rfl⟩)))
            · refine ⟨fun h4 => ?_, fun h4 => ?_⟩
              · exact ⟨rfl, ⟨_, rfl⟩, h⟩
              · refine ⟨fun h5 => ?_, fun h5 => ?_⟩
                · refine ⟨⟨by omega, by omega⟩, ?_⟩
                  exact Or.inr (Or.inr (Or.inr (Or.inl (⟨rfl, h0, h1, h2, h3, h4, h5, rfl⟩))))
                · exact ⟨rfl, ⟨_, rfl⟩, h⟩
        · refine ⟨fun h2 => ?_, fun h2 => ?_⟩
          · refine ⟨⟨by omega, by omega⟩, ?_⟩
            exact Or.inr (Or.inr (Or.inr (Or.inr (Or.inl (⟨rfl, h0, h1, h2, rfl⟩)))))
          · refine ⟨fun h3 => ?_, fun h3 => ?_⟩
            · refine ⟨fun h4 => ?_, fun h4 => ?_⟩
              · exact ⟨rfl, ⟨_, rfl⟩, h⟩
              · refine ⟨fun h5 => ?_, fun h5 => ?_⟩
                · refine ⟨⟨by omega, by omega⟩, ?_⟩
                  exact Or.inr (Or.inr (Or.inr (Or.inr (Or.inr (Or.inl (⟨rfl, h0, h1, h2, h3, h4, h5, rfl⟩))))))
                · exact ⟨rfl, ⟨_, rfl⟩, h⟩
            · refine ⟨fun h4 => ?_, fun h4 => ?_⟩
              · refine ⟨⟨by omega, by omega⟩, ?_⟩
                exact Or.inr (Or.inr (Or.inr (Or.inr (Or.inr (Or.inr (Or.inl (⟨rfl, h0, h1, h2, h3, h4, rfl⟩)))))))
              · refine ⟨fun h5 => ?_, fun h5 => ?_⟩
                · exact ⟨rfl, ⟨_, rfl⟩, h⟩
                · refine ⟨fun h6 => ?_, fun h6 => ?_⟩
                  · refine ⟨⟨by omega, by omega⟩, ?_⟩
                    exact Or.inr (Or.inr (Or.inr (Or.inr (Or.inr (Or.inr (Or.inr (⟨rfl, h0, h1, h2, h3, h4, h5, h6, rfl⟩)))))))
                  · exact ⟨rfl, ⟨_, rfl⟩, h⟩
theorem mb_41 {A : pm_A} (h : RI A) (p1 : 1 ≤ A 0 12) : ∀ (m : Nat) (i : Int) (w2 w3 w4 : pm_V), (6 - i).toNat < m → 0 ≤ i → i ≤ 6 → (∀ k : Int, 0 ≤ k → k < i → k < A 0 12 → ∀ j : Int, 0 ≤ j → j < A 0 12 → sgn0 A k j) → Tm pmt (an_sh wM) o_X10_begin 41 ([(2, 0), (0, i), w2, w3, w4], [], A) ri_post := by
  have p12 := fM_0_12 h.g (r := 0) (by omega) km0
  intro m
  induction m with
  | zero => intro i w2 w3 w4 h; omega
  | succ m ih =>
    intro i w2 w3 w4 hm i0 i1 hi
    refine wq_ok srt_Mbegin (fr := []) (cuts := [51, 125]) (J := fun pc st => (pc = 125 ∧ ((A 0 12) ≤ i) ∧ st = ([(2, 0), (0, i), w2, w3, w4], [], A)) ∨ (pc = 51 ∧ (i < (A 0 12)) ∧ st = ([(2, 0), (0, i), (0, 0), w3, w4], [], A))) ?_ 11 41 _ ?_
    · rintro pc st (⟨rfl, h0, rfl⟩ | ⟨rfl, h0, rfl⟩)
      · exact mb_125 h ⟨h.2.1.1, fun a b a0 a1 b0 b1 => hi a a0 (by omega) a1 b b0 b1⟩ p1
      · refine mb_51 h i0 (by omega) p12.2 (fun hj w2 w3 w4 => ih (i + 1) _ _ _ (by omega) (by omega) (by omega) (fun k k0 k1 k2 => ?_)) _ 0 _ _ (Nat.lt_succ_self _) (by omega) (by omega) (fun k k0 k1 => by omega)
        by_cases e : k = i
        · rw [e]; exact hj
        · exact hi k k0 (by omega) k2
    · refine ⟨oM_0 (by omega) km0 12 rfl, ?_⟩
      refine ⟨fun h0 => ?_, fun h0 => ?_⟩
      · exact Or.inl (⟨rfl, h0, rfl⟩)
      · exact Or.inr (⟨rfl, h0, rfl⟩)
theorem mb_11 {A : pm_A} (h : RI A) (p1 : 1 ≤ A 0 12) : ∀ (m : Nat) (i : Int) (w2 w3 w4 : pm_V), (6 - i).toNat < m → 0 ≤ i → i ≤ 6 → Tm pmt (an_sh wM) o_X10_begin 11 ([(2, 0), (0, i), w2, w3, w4], [], A) ri_post := by
  have p12 := fM_0_12 h.g (r := 0) (by omega) km0
  have c14 := pM_14 h.g
  intro m
  induction m with
  | zero => intro i w2 w3 w4 h; omega
  | succ m ih =>
    intro i w2 w3 w4 hm i0 i1
    refine wq_ok srt_Mbegin (fr := []) (cuts := [11, 41]) (J := fun pc st => (pc = 41 ∧ ((A 0 12) ≤ i) ∧ st = ([(2, 0), (0, 0), w2, w3, w4], [], A)) ∨ (pc = 11 ∧ (i < (A 0 12)) ∧ ((A (A 0 14) (7 * i)) = 0) ∧ st = ([(2, 0), (0, i + 1), w2, w3, w4], [], A))) ?_ 18 11 _ ?_
    · rintro pc st (⟨rfl, h0, rfl⟩ | ⟨rfl, h0, h1, rfl⟩)
      · exact mb_41 h p1 _ 0 _ _ _ (Nat.lt_succ_self _) (by omega) (by omega) (fun k k0 k1 => by omega)
      · exact ih (i + 1) _ _ _ (by omega) (by omega) (by omega)
    · refine ⟨oM_0 (by omega) km0 12 rfl, ?_⟩
      refine ⟨fun h0 => ?_, fun h0 => ?_⟩
      · exact Or.inl (⟨rfl, h0, rfl⟩)
      · refine ⟨oM_0 (by omega) km0 14 rfl, ?_⟩
        refine ⟨⟨by omega, by omega⟩, ?_⟩
        refine ⟨aM_7 (r := A 0 14) (by rw [c14]; omega) (by rw [c14]; exact kn7) (by omega) (by omega), ?_⟩
        have e1 : A (A 0 14) (7 * i) = A 7 (7 * i) := by rw [c14]
        refine ⟨fun h1 => ?_, fun h1 => ?_⟩
        · refine ⟨⟨by omega, by omega⟩, ?_⟩
          exact Or.inr (⟨rfl, h0, h1, rfl⟩)
        · exact ⟨rfl, ⟨_, rfl⟩, h⟩
theorem mbegin_ct {A : pm_A} (h : RI A) : Cl pmt (an_sh wM) 129 [(2, 0)] A ri_post := by
  have p12 := fM_0_12 h.g (r := 0) (by omega) km0
  refine Cl.of (Nat.le_of_ble_eq_true rfl) ?_
  refine wq_ok (full := o_X10_begin) srt_Mbegin (fr := []) (cuts := [11]) (J := fun pc st => (pc = 11 ∧ (¬ (A 0 12) = 0) ∧ st = ([(2, 0), (0, 0), (9, 0), (9, 0), (9, 0)], [], A))) ?_ 10 0 _ ?_
  · rintro pc st (⟨rfl, h0, rfl⟩)
    exact mb_11 h (by omega) _ 0 _ _ _ (Nat.lt_succ_self _) (by omega) (by omega)
  · refine ⟨oM_0 (by omega) km0 12 rfl, ?_⟩
    refine ⟨fun h0 => ?_, fun h0 => ?_⟩
    · exact ⟨rfl, h0, rfl⟩
    · exact ⟨rfl, ⟨_, rfl⟩, h⟩
