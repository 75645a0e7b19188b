/-! goesThrough, all: the ends -/
theorem gt_48 {A : pm_A} : ∀ (m : Nat) (σ : Int) (w2 w3 w4 : pm_V) (B : pm_A), (150 - σ).toNat < m → 0 ≤ σ → σ ≤ 150 → gtI A B → Tm pmt (an_sh wM) o_X10_goesThrough 48 ([(2, 0), (0, σ), w2, w3, w4], [], B) (gt_post A) := by
  intro m
  induction m with
  | zero => intro σ w2 w3 w4 B h; omega
  | succ m ih =>
    intro σ w2 w3 w4 B hm s0 s1 hB
    have p24 := fM_0_24 hB.1.1 (r := 0) (by omega) km0
    refine wq_ok srt_goesThrough (fr := []) (cuts := [58]) (J := fun pc st => (pc = 58 ∧ (σ < (B 0 24)) ∧ st = ([(2, 0), (0, σ), (0, 0), w3, w4], [], B))) ?_ 11 48 _ ?_
    · rintro pc st (⟨rfl, h0, rfl⟩)
      exact gt_58 s0 (by omega) (fun C w2 w3 w4 hC _ => ih (σ + 1) w2 w3 w4 C (by omega) (by omega) (by omega) hC) _ 0 _ _ B (Nat.lt_succ_self _) (by omega) (by omega) hB h0
    · refine ⟨oM_0 (by omega) km0 24 rfl, ?_⟩
      refine ⟨fun h0 => ?_, fun h0 => ?_⟩
      · exact ⟨rfl, hB.1, Or.inr ⟨rfl, hB.2.2⟩⟩
      · exact ⟨rfl, h0, rfl⟩
def g12 (A B : pm_A) (i : Int) : Prop := gtF A B ∧ B 0 24 = 0 ∧ (0 ≤ B 0 26 ∧ B 0 26 ≤ i) ∧ (∀ p : Int, 0 ≤ p → p ≤ 5 → ∀ r j, inS p r j → B r j = A r j) ∧ (∀ j : Int, 0 ≤ j → B 5 j = A 5 j) ∧ ∀ t : Int, 0 ≤ t → t < i → (0 ≤ B 23 t ∧ B 23 t < B 0 26) ∧ LSm B (50 + B 23 t) = LSm B t
theorem gt_37 {A B : pm_A} (hT : ∃ s ks, Tru s ks A) (h : g12 A B (A 0 7)) (w1 w2 w3 w4 : pm_V) : Tm pmt (an_sh wM) o_X10_goesThrough 37 ([(2, 0), w1, w2, w3, w4], [], B) (gt_post A) := by
  obtain ⟨hF, h24, h26, hsl, h5, hth⟩ := h
  have e7 := hF.fld (j := 7) (by omega) (by omega) (by omega)
  have e8 := hF.fld (j := 8) (by omega) (by omega) (by omega)
  have p7 := fM_0_7 hF.1 (r := 0) (by omega) km0
  have hBT : ∃ s ks, Tru s ks B := by obtain ⟨s, ks, h⟩ := hT; exact ⟨s, ks, h.same hF.1 e7 e8 (fun j j0 _ => h5 j j0) (fun p p0 p1 => hsl p p0 (by omega))⟩
  have hS : gtS B := fun σ s0 s1 => by omega
  refine wq_ok srt_goesThrough (fr := []) (cuts := [41]) (J := fun pc st => (pc = 41 ∧ ∃ C y, gtF A C ∧ (y = 0 ∨ (y = 1 ∧ gtI A C)) ∧ st = ([(2, 0), w1, w2, w3, w4], [(0, y)], C))) ?_ 6 37 _ ?_
  · rintro pc st (⟨rfl, C, y, hCF, hy, rfl⟩)
    refine wq_ok srt_goesThrough (fr := []) (cuts := [48]) (J := fun pc st => (pc = 48 ∧ (¬ y = 0) ∧ st = ([(2, 0), (0, 0), w2, w3, w4], [], C))) ?_ 8 41 _ ?_
    · rintro pc st (⟨rfl, h0, rfl⟩)
      exact gt_48 _ 0 _ _ _ C (Nat.lt_succ_self _) (by omega) (by omega) (by rcases hy with h | h; exact absurd h h0; exact h.2)
    · refine ⟨fun h0 => ?_, fun h0 => ?_⟩
      · exact ⟨rfl, h0, rfl⟩
      · exact ⟨rfl, hCF, Or.inl rfl⟩
  · refine ⟨rM_0 (by omega) km0, ?_⟩
    refine (comes_ex hF.1 (fun t t0 t1 => by have := (hth t t0 (by omega)).1; omega)).imp ?_
    rintro ⟨r1, C⟩ ⟨q1, q2⟩
    simp only at q1 q2
    rcases q2 with q2 | ⟨q2, q3, q4, q5, q6, q7⟩
    · subst q2
      exact ⟨rfl, C, 0, hF.tr (cm_gtF q1), Or.inl rfl, rfl⟩
    · subst q2
      exact ⟨rfl, C, 1, hF.tr (cm_gtF q1), Or.inr ⟨rfl, hF.tr (cm_gtF q1), hS.add hF.1 hBT (fun t t0 t1 => hth t t0 (by omega)) q1 q4 q6 q7, by rw [q1.2.1 0 26 (by omega) (by omega) (by omega)]; exact q5⟩, rfl⟩
theorem gt_12 {A : pm_A} (hT : ∃ s ks, Tru s ks A) : ∀ (m : Nat) (i : Int) (w2 w3 w4 : pm_V) (B : pm_A), (6 - i).toNat < m → 0 ≤ i → i ≤ A 0 7 → g12 A B i → Tm pmt (an_sh wM) o_X10_goesThrough 12 ([(2, 0), (0, i), w2, w3, w4], [], B) (gt_post A) := by
  have hA : gH wM A := by obtain ⟨s, ks, h⟩ := hT; exact h.1
  have p7 := fM_0_7 hA (r := 0) (by omega) km0
  intro m
  induction m with
  | zero => intro i w2 w3 w4 B h; omega
  | succ m ih =>
    intro i w2 w3 w4 B hm i0 i1 hB
    have hB0 := hB
    obtain ⟨hF, h24, h26, hsl, h5, hth⟩ := hB
    have e7 := hF.fld (j := 7) (by omega) (by omega) (by omega)
    have c35 := pM_35 hF.1
    refine wq_ok srt_goesThrough (fr := []) (cuts := [30, 37]) (J := fun pc st => (pc = 37 ∧ ((B 0 7) ≤ i) ∧ st = ([(2, 0), (0, i), w2, w3, w4], [], B)) ∨ (pc = 30 ∧ i < B 0 7 ∧ ∃ C l, gH wM C ∧ (∀ q j, ¬ inS (50 + B 0 26) q j → ¬ (q = 0 ∧ j = 26) → C q j = B q j) ∧ (0 ≤ l ∧ l < C 0 26) ∧ (B 0 26 ≤ C 0 26 ∧ C 0 26 ≤ B 0 26 + 1) ∧ LSm C (50 + l) = LSm B i ∧ st = ([(2, 0), (0, i), w2, w3, w4], [(0, l), (0, i), (2, B 0 35)], C))) ?_ 14 12 _ ?_
    · rintro pc st (⟨rfl, h0, rfl⟩ | ⟨rfl, h0, C, l, q2, q3, q4, q5, q6, rfl⟩)
      · rw [e7] at h0
        have hi : i = A 0 7 := by omega
        rw [hi] at hB0
        exact gt_37 hT hB0 _ _ _ _
      · refine wq_ok srt_goesThrough (fr := []) (cuts := [12]) (J := fun pc st => (pc = 12 ∧ st = ([(2, 0), (0, i + 1), w2, w3, w4], [], pm_upd C (B 0 35) i l))) ?_ 8 30 _ ?_
        · rintro pc st (⟨rfl, rfl⟩)
          rw [c35]
          rw [e7] at h0
          have hu : ∀ p : Int, LSm (pm_upd C 23 i l) p = LSm C p := fun p => LSm_ext (upd_o (by omega)) (fun q v q0 q1 v0 v1 => ⟨upd_o (by omega), upd_o (by omega)⟩)
          have u26 : pm_upd C 23 i l 0 26 = C 0 26 := upd_o (by omega)
          have cls : ∀ p : Int, p ≠ 50 + B 0 26 → ∀ r j, inS p r j → C r j = B r j := fun p hp r j hr => q3 r j (by unfold inS at *; omega) (by unfold inS at hr; omega)
          have sls : ∀ p : Int, 0 ≤ p → p ≤ 5 → LSm C p = LSm B p := fun p p0 p1 => by have m := eM_1 hF.1 (r := 1) (by omega) kn1 (j := p) p0 (by omega); exact LSm_same m.2 (cls p (by omega))
          refine ih (i + 1) _ _ _ _ (by omega) (by omega) (by omega) ⟨hF.tr ⟨uM_23 q2 kn23 (by omega) (by omega), fun r j r0 r1 j0 j1 a1 a2 a3 => ?_⟩, ?_, by rw [u26]; omega, fun p p0 p1 r j hr => ?_, fun j j0 => ?_, fun t t0 t1 => ?_⟩
          · rw [upd_o (by omega)]; exact q3 r j (a1 _ (by omega)) (fun e => a3 ⟨e.1, by omega⟩)
          · rw [upd_o (by omega), q3 0 24 (by unfold inS; omega) (by omega)]; exact h24
          · rw [upd_o (by unfold inS at hr; omega), cls p (by omega) r j hr]; exact hsl p p0 p1 r j hr
          · rw [upd_o (by omega), q3 5 j (by unfold inS; omega) (by omega)]; exact h5 j j0
          · rw [u26]
            by_cases e : t = i
            · rw [e, upd_at, hu, hu, q6, sls i i0 (by omega)]; exact ⟨q4, rfl⟩
            · rw [upd_o (by omega), q3 23 t (by unfold inS; omega) (by omega), hu, hu, sls t t0 (by omega)]
              obtain ⟨h1, h2⟩ := hth t t0 (by omega)
              have m1 := eM_1 hF.1 (r := 1) (by omega) kn1 (j := 50 + B 23 t) (by omega) (by omega)
              exact ⟨by omega, by rw [LSm_same m1.2 (cls _ (by omega))]; exact h2⟩
        · refine ⟨tM_23 (r := B 0 35) (by rw [c35]; omega) (by rw [c35]; exact kn23) (by omega) (by omega) rfl, ?_⟩
          refine ⟨⟨by omega, by omega⟩, ?_⟩
          exact ⟨rfl, rfl⟩
    · refine ⟨oM_0 (by omega) km0 7 rfl, ?_⟩
      refine ⟨fun h0 => ?_, fun h0 => ?_⟩
      · exact Or.inl (⟨rfl, h0, rfl⟩)
      · refine ⟨oM_0 (by omega) km0 35 rfl, ?_⟩
        refine ⟨rM_0 (by omega) km0, ?_⟩
        refine (letterOf_ex (s := i) hF.1 (by omega) (by omega)).imp ?_
        rintro ⟨r1, C⟩ ⟨l, q1, q2, q3, q4, q5, q6⟩
        simp only at q1 q2 q3 q4 q5 q6
        subst q1
        exact Or.inr (⟨rfl, h0, C, l, q2, q3, q4, q5, q6, rfl⟩)
theorem goesThrough_ex {A : pm_A} (hT : ∃ s ks, Tru s ks A) : Cl pmt (an_sh wM) 147 [(2, 0)] A (gt_post A) := by
  have hA : gH wM A := by obtain ⟨s, ks, h⟩ := hT; exact h.1
  have p7 := fM_0_7 hA (r := 0) (by omega) km0
  refine Cl.of (Nat.le_of_ble_eq_true rfl) ?_
  refine wq_ok (full := o_X10_goesThrough) srt_goesThrough (fr := []) (cuts := [12]) (J := fun pc st => (pc = 12 ∧ st = ([(2, 0), (0, 0), (9, 0), (9, 0), (9, 0)], [], pm_upd (pm_upd A 0 24 0) 0 26 0))) ?_ 13 0 _ ?_
  · rintro pc st (⟨rfl, rfl⟩)
    refine gt_12 hT _ 0 _ _ _ _ (Nat.lt_succ_self _) (by omega) (by omega) ⟨⟨uM_0_26 (uM_0_24 hA (by omega) (by omega)) (by omega) (by omega), fun r j r0 r1 j0 j1 a1 a2 a3 => ?_⟩, ?_, ?_, fun p p0 p1 r j hr => ?_, fun j j0 => ?_, fun t t0 t1 => by omega⟩
    · rw [upd_o (fun e => a3 ⟨e.1, by omega⟩), upd_o (fun e => a3 ⟨e.1, by omega⟩)]
    · rw [upd_o (by omega), upd_at]
    · rw [upd_at]; omega
    · rw [upd_o (by unfold inS at hr; omega), upd_o (by unfold inS at hr; omega)]
    · rw [upd_o (by omega), upd_o (by omega)]
  · refine ⟨oM_0 (by omega) km0 24 rfl, ?_⟩
    refine ⟨oM_0 (by omega) km0 26 rfl, ?_⟩
    exact ⟨rfl, rfl⟩
theorem RI.upd {A : pm_A} {r j x : Int} (h : RI A) (hB : gH wM (pm_upd A r j x)) (h1 : r ≠ 1 ∧ r ≠ 2 ∧ r ≠ 3 ∧ r ≠ 5 ∧ r ≠ 6 ∧ r ≠ 7 ∧ r ≠ 31 ∧ r ≠ 32) (h2 : ¬ (r = 0 ∧ (j = 7 ∨ j = 8 ∨ j = 10))) : RI (pm_upd A r j x) := by
  obtain ⟨⟨s, ks, hT⟩, ⟨b1, b2⟩, hRG⟩ := h
  refine ⟨⟨s, ks, hT.same hB (upd_o (by omega)) (upd_o (by omega)) (fun i _ _ => upd_o (by omega)) (fun p p0 p1 q i hq => upd_o (by unfold inS at hq; omega))⟩, ⟨fun i i0 i1 => by rw [upd_o (by omega)]; exact b1 i i0 i1, fun d d0 d1 => ?_⟩, hRG.same (fun i => upd_o (by omega)) (fun i => upd_o (by omega))⟩
  rw [upd_o (by omega), upd_o (by omega)]
  rw [upd_o (by omega)] at d1
  exact b2 d d0 d1
theorem restored {A A1 B C : pm_A} (hA : RI A) (h1 : savesJ A A1 30 72) (hB : gH wM B) (hf : ∀ r j : Int, 0 ≤ j → (r = 0 → j < 100) → (r = 0 ∧ j ≠ 4 ∧ j ≠ 5 ∧ j ≠ 24 ∧ j ≠ 26 ∧ j ≠ 40 ∧ j ≠ 41 ∧ j ≠ 42) ∨ (r = 6 ∨ r = 7 ∨ r = 22 ∨ r = 31 ∨ r = 32) → B r j = A1 r j) (hs : ∀ p : Int, 30 ≤ p → p ≤ 35 → ∀ r j, inS p r j → B r j = A1 r j) (hC : restoresJ B C 30 72) : RI C := by
  obtain ⟨⟨s, ks, hT⟩, ⟨b1, b2⟩, hRG⟩ := hA
  have p7 := fM_0_7 hT.1 (r := 0) (by omega) km0
  obtain ⟨q2, q3, q4, q5⟩ := hC
  have s1 : ∀ r j : Int, r ≠ 22 → (∀ t : Int, 30 ≤ t → t ≤ 35 → ¬ inS t r j) → A1 r j = A r j := fun r j hr hn => h1.2.1 r j (fun t t0 t1 ht => hn (30 + t) (by omega) (by omega) ht) hr
  have e7 : B 0 7 = A 0 7 := by rw [hf 0 7 (by omega) (by omega) (by omega)]; exact s1 0 7 (by omega) (fun t t0 t1 ht => by unfold inS at ht; omega)
  have c0 : ∀ j : Int, j = 7 ∨ j = 8 ∨ j = 10 → C 0 j = A 0 j := fun j hj => by
    rw [q3 0 j (fun t t0 t1 ht => by unfold inS at ht; omega) (by omega), hf 0 j (by omega) (by omega) (by omega)]; exact s1 0 j (by omega) (fun t t0 t1 ht => by unfold inS at ht; omega)
  have cC : ∀ r j : Int, 0 ≤ j → r = 6 ∨ r = 7 ∨ r = 31 ∨ r = 32 → C r j = A r j := fun r j j0 hr => by
    rw [q3 r j (fun t t0 t1 ht => by unfold inS at ht; omega) (by omega), hf r j j0 (by omega) (by omega)]; exact s1 r j (by omega) (fun t t0 t1 ht => by unfold inS at ht; omega)
  refine ⟨⟨s, ks, hT.ls q2 (c0 7 (by omega)) (c0 8 (by omega)) (fun j j0 j1 => ?_) (fun p p0 p1 => ?_)⟩, ⟨fun j j0 j1 => by rw [cC 7 j j0 (by omega)]; exact b1 j j0 j1, fun d d0 d1 => ?_⟩, hRG.same2 (fun j j0 => cC 31 j j0 (by omega)) (fun j j0 => cC 32 j j0 (by omega))⟩
  · rw [q5 j j0 j1, hf 22 j j0 (by omega) (by omega)]; exact h1.2.2.2 j j0 j1
  · rw [q4 p p0 (by omega)]
    have m1 := eM_1 h1.1 (r := 1) (by omega) kn1 (j := 30 + p) (by omega) (by omega)
    rw [LSm_same m1.2 (hs (30 + p) (by omega) (by omega))]
    exact h1.2.2.1 p p0 p1
  · rw [cC 6 d d0 (by omega), c0 7 (by omega)]
    rw [c0 10 (by omega)] at d1
    exact b2 d d0 d1
theorem srt_Mall : pm_srt o_X10_all = true := by decide +kernel
def alI (B : pm_A) : Prop := RI B ∧ B 0 26 ≤ 100
theorem al_94 {l : Int} (l0 : 0 ≤ l) (l1 : l ≤ 99) (H : ∀ C w3, alI C → Tm pmt (an_sh wM) o_X10_all 55 ([(2, 0), (0, 1), (0, l + 1), w3], [], C) ri_post) : ∀ (m : Nat) (v : Int) (B : pm_A), (12 - v).toNat < m → 0 ≤ v → v ≤ 12 → alI B → Tm pmt (an_sh wM) o_X10_all 94 ([(2, 0), (0, 1), (0, l), (0, v)], [], B) ri_post := by
  intro m
  induction m with
  | zero => intro v B h; omega
  | succ m ih =>
    intro v B hm v0 v1 hB
    have hg := hB.1.g
    have c33 := pM_33 hg
    refine wq_ok srt_Mall (fr := []) (cuts := [55, 119]) (J := fun pc st => (pc = 55 ∧ (12 ≤ v) ∧ st = ([(2, 0), (0, 1), (0, l + 1), (0, v)], [], B)) ∨ (pc = 119 ∧ v < 12 ∧ ∃ C x, alI C ∧ (-2147483648 ≤ x ∧ x ≤ 2147483647) ∧ st = ([(2, 0), (0, 1), (0, l), (0, v)], [(0, x), (0, 12 * l + v), (2, B 0 33)], C))) ?_ 20 94 _ ?_
    · rintro pc st (⟨rfl, h0, rfl⟩ | ⟨rfl, hv, C, x, hC, hx, rfl⟩)
      · exact H B _ hB
      · refine wq_ok srt_Mall (fr := []) (cuts := [94]) (J := fun pc st => (pc = 94 ∧ st = ([(2, 0), (0, 1), (0, l), (0, v + 1)], [], pm_upd C (B 0 33) (12 * l + v) x))) ?_ 8 119 _ ?_
        · rintro pc st (⟨rfl, rfl⟩)
          rw [c33]
          exact ih (v + 1) _ (by omega) (by omega) (by omega) ⟨hC.1.upd (uM_21 hC.1.g kn21 hx.1 hx.2) (by omega) (by omega), by rw [upd_o (by omega)]; exact hC.2⟩
        · refine ⟨tM_21 (r := B 0 33) (by rw [c33]; omega) (by rw [c33]; exact kn21) (by omega) (by omega) rfl, ?_⟩
          refine ⟨⟨by omega, by omega⟩, ?_⟩
          exact ⟨rfl, rfl⟩
    · refine ⟨fun h0 => ?_, fun h0 => ?_⟩
      · refine ⟨⟨by omega, by omega⟩, ?_⟩
        exact Or.inl (⟨rfl, h0, rfl⟩)
      · refine ⟨oM_0 (by omega) km0 33 rfl, ?_⟩
        refine ⟨⟨by omega, by omega⟩, ?_⟩
        refine ⟨⟨by omega, by omega⟩, ?_⟩
        refine ⟨⟨by omega, by omega⟩, ?_⟩
        refine ⟨rM_0 (by omega) km0, ?_⟩
        refine Cl.gct q_X10_leastOf_0 (A := B) (a := [(2, 0), (0, 50 + l), (0, v)]) ⟨gv_ref (by omega) km0, ⟨rfl, by simp only; omega, by simp only; omega⟩, ⟨rfl, by simp only; omega, by simp only; omega⟩, trivial⟩ hg ?_
        rintro ⟨r1, C⟩ f1 f2 f3
        simp only at f1 f2 f3
        match r1, f1 with
        | some (0, x), fx => exact Or.inr (⟨rfl, h0, C, x, ⟨hB.1.typed f2 f3 (by decide), by rw [f3 0 26 (by omega) (by omega) (by rw [mc_0]; decide)]; exact hB.2⟩, ⟨fx.1.2.1, fx.1.2.2⟩, rfl⟩)
        | some (n + 1, x), ⟨⟨q, _⟩, _⟩ => exact absurd q (by intro q; cases q)
        | none, q => exact absurd q (by intro q; cases q)
theorem al_55 : ∀ (m : Nat) (l : Int) (w3 : pm_V) (B : pm_A), (101 - l).toNat < m → 0 ≤ l → l ≤ 100 → alI B → Tm pmt (an_sh wM) o_X10_all 55 ([(2, 0), (0, 1), (0, l), w3], [], B) ri_post := by
  intro m
  induction m with
  | zero => intro l w3 B h; omega
  | succ m ih =>
    intro l w3 B hm l0 l1 hB
    have hg := hB.1.g
    have h26 := hB.2
    have p7 := fM_0_7 hg (r := 0) (by omega) km0
    have p8 := fM_0_8 hg (r := 0) (by omega) km0
    have c31 := pM_31 hg
    have c1 := pM_1 hg
    have ml : l < 100 → 0 ≤ B 1 (50 + l) ∧ B 1 (50 + l) ≤ 200 := fun h => eM_1 hg (r := 1) (by omega) kn1 (by omega) (by omega)
    have h78 : ∀ C, l < 100 → alI C → Tm pmt (an_sh wM) o_X10_all 78 ([(2, 0), (0, 1), (0, l), w3], [], C) ri_post := fun C hl hC => by
      have hgC := hC.1.g
      have c32 := pM_32 hgC
      refine wq_ok srt_Mall (fr := []) (cuts := [91]) (J := fun pc st => (pc = 91 ∧ ∃ D x, alI D ∧ (-9223372036854775808 ≤ x ∧ x ≤ 9223372036854775807) ∧ st = ([(2, 0), (0, 1), (0, l), w3], [(1, x), (0, l), (2, C 0 32)], D))) ?_ 12 78 _ ?_
      · rintro pc st (⟨rfl, D, x, hD, hx, rfl⟩)
        refine wq_ok srt_Mall (fr := []) (cuts := [94]) (J := fun pc st => (pc = 94 ∧ st = ([(2, 0), (0, 1), (0, l), (0, 0)], [], pm_upd D (C 0 32) l x))) ?_ 8 91 _ ?_
        · rintro pc st (⟨rfl, rfl⟩)
          rw [c32]
          exact al_94 l0 (by omega) (fun E w3 hE => ih (l + 1) w3 E (by omega) (by omega) (by omega) hE) _ 0 _ (Nat.lt_succ_self _) (by omega) (by omega) ⟨hD.1.upd (uM_20 hD.1.g kn20 hx.1 hx.2) (by omega) (by omega), by rw [upd_o (by omega)]; exact hD.2⟩
        · refine ⟨tM_20 (r := C 0 32) (by rw [c32]; omega) (by rw [c32]; exact kn20) (by omega) (by omega) rfl, ?_⟩
          exact ⟨rfl, rfl⟩
      · refine ⟨oM_0 (by omega) km0 32 rfl, ?_⟩
        refine ⟨⟨by omega, by omega⟩, ?_⟩
        refine ⟨rM_0 (by omega) km0, ?_⟩
        refine Cl.gct q_X10_sumOf_0 (A := C) (a := [(2, 0), (0, 50 + l)]) ⟨gv_ref (by omega) km0, ⟨rfl, by simp only; omega, by simp only; omega⟩, trivial⟩ hgC ?_
        rintro ⟨r1, D⟩ f1 f2 f3
        simp only at f1 f2 f3
        match r1, f1 with
        | some (1, x), fx => exact ⟨rfl, D, x, ⟨hC.1.typed f2 f3 (by decide), by rw [f3 0 26 (by omega) (by omega) (by rw [mc_0]; decide)]; exact hC.2⟩, ⟨fx.1.2.1, fx.1.2.2⟩, rfl⟩
        | some (0, x), ⟨⟨q, _⟩, _⟩ => exact absurd q (by intro q; cases q)
        | some (n + 2, x), ⟨⟨q, _⟩, _⟩ => exact absurd q (by intro q; cases q)
        | none, q => exact absurd q (by intro q; cases q)
    refine wq_ok srt_Mall (fr := []) (cuts := [78]) (J := fun pc st => (pc = 78 ∧ (l < (B 0 26)) ∧ st = ([(2, 0), (0, 1), (0, l), w3], [], pm_upd B (B 0 31) l (B (B 0 1) (50 + l))))) ?_ 19 55 _ ?_
    · rintro pc st (⟨rfl, h0, rfl⟩)
      rw [c31, c1]
      have b := ml (by omega)
      exact h78 _ (by omega) ⟨hB.1.upd (uM_19 hg kn19 (by omega) (by omega)) (by omega) (by omega), by rw [upd_o (by omega)]; exact hB.2⟩
    · refine ⟨oM_0 (by omega) km0 26 rfl, ?_⟩
      refine ⟨fun h0 => ?_, fun h0 => ?_⟩
      · refine ⟨oM_0 (by omega) km0 7 rfl, ?_⟩
        refine ⟨oM_0 (by omega) km0 8 rfl, ?_⟩
        refine ⟨⟨by omega, by omega⟩, ?_⟩
        refine ⟨oM_0 (by omega) km0 36 rfl, ?_⟩
        refine ⟨oM_0 (by omega) km0 24 rfl, ?_⟩
        exact ⟨rfl, ⟨_, rfl⟩, hB.1.upd (uM_0_36 hg (by omega) (by omega)) (by omega) (by omega)⟩
      · refine ⟨oM_0 (by omega) km0 31 rfl, ?_⟩
        refine ⟨oM_0 (by omega) km0 1 rfl, ?_⟩
        refine ⟨⟨by omega, by omega⟩, ?_⟩
        refine ⟨aM_1 (r := B 0 1) (by rw [c1]; omega) (by rw [c1]; exact kn1) (by omega) (by omega), ?_⟩
        have e1 : B (B 0 1) (50 + l) = B 1 (50 + l) := by rw [c1]
        refine ⟨tM_19 (r := B 0 31) (by rw [c31]; omega) (by rw [c31]; exact kn19) (by omega) (by omega) rfl, ?_⟩
        exact ⟨rfl, h0, rfl⟩
theorem al_33 {y : Int} {E : pm_A} (hy1 : y = 0 ∨ y = 1) (hE : RI E) (hlE : y ≠ 0 → E 0 26 ≤ 100) : Tm pmt (an_sh wM) o_X10_all 33 ([(2, 0), (0, y), (9, 0), (9, 0)], [], E) ri_post := by
  have hg := hE.g
  have p26 := fM_0_26 hg (r := 0) (by omega) km0
  rcases hy1 with rfl | rfl
  · refine wq_ok srt_Mall (fr := []) (cuts := [55]) (J := fun _ _ => False) ?_ 8 33 _ ?_
    · intro pc st h; exact h.elim
    · refine ⟨fun hh => absurd hh (by decide), fun _ => ?_⟩
      exact ⟨rfl, ⟨_, rfl⟩, hE⟩
  · have hl := hlE (by omega)
    have u29 : pm_upd E 0 29 1 0 26 = E 0 26 := upd_o (by omega)
    have hR1 := hE.upd (uM_0_29 hg (x := 1) (by omega) (by omega)) (by omega) (by omega)
    have hR2 := hR1.upd (uM_0_30 hR1.g (x := E 0 26) (by omega) (by omega)) (by omega) (by omega)
    refine wq_ok srt_Mall (fr := []) (cuts := [55]) (J := fun pc st => (pc = 55 ∧ st = ([(2, 0), (0, 1), (0, 0), (9, 0)], [], pm_upd (pm_upd E 0 29 1) 0 30 ((pm_upd E 0 29 1) 0 26)))) ?_ 16 33 _ ?_
    · rintro pc st (⟨rfl, rfl⟩)
      rw [u29]
      exact al_55 _ 0 _ _ (Nat.lt_succ_self _) (by omega) (by omega) ⟨hR2, by rw [upd_o (by omega), u29]; exact hl⟩
    · refine ⟨fun _ => ?_, fun hh => absurd hh (by decide)⟩
      refine ⟨oM_0 (by omega) km0 29 rfl, ?_⟩
      refine ⟨oM_0 (by omega) km0 26 rfl, ?_⟩
      refine ⟨oM_0 (by omega) km0 30 rfl, ?_⟩
      exact ⟨rfl, rfl⟩
theorem mall_ct {A : pm_A} (h : RI A) : Cl pmt (an_sh wM) 123 [(2, 0)] A ri_post := by
  have hg := h.g
  have p7 := fM_0_7 hg (r := 0) (by omega) km0
  refine Cl.of (Nat.le_of_ble_eq_true rfl) ?_
  refine wq_ok (full := o_X10_all) srt_Mall (fr := []) (cuts := [6]) (J := fun pc st => (pc = 6 ∧ ∃ C, savesJ A C 30 72 ∧ st = ([(2, 0), (9, 0), (9, 0), (9, 0)], [], C))) ?_ 7 0 _ ?_
  · rintro pc st (⟨rfl, C, hC, rfl⟩)
    have s1 : ∀ r j : Int, r ≠ 22 → (∀ t : Int, 30 ≤ t → t ≤ 35 → ¬ inS t r j) → C r j = A r j := fun r j hr hn => hC.2.1 r j (fun t t0 t1 ht => hn (30 + t) (by omega) (by omega) ht) hr
    have hCT : ∃ s ks, Tru s ks C := by
      obtain ⟨⟨s, ks, hT⟩, _⟩ := id h
      exact ⟨s, ks, hT.same hC.1 (s1 0 7 (by omega) (fun t t0 t1 ht => by unfold inS at ht; omega)) (s1 0 8 (by omega) (fun t t0 t1 ht => by unfold inS at ht; omega)) (fun i _ _ => s1 5 i (by omega) (fun t t0 t1 ht => by unfold inS at ht; omega)) (fun p p0 p1 r i hr => s1 r i (by unfold inS at hr; omega) (fun t t0 t1 ht => by unfold inS at *; omega))⟩
    refine wq_ok srt_Mall (fr := []) (cuts := [10]) (J := fun pc st => (pc = 10 ∧ ∃ B y, gtF C B ∧ (y = 0 ∨ (y = 1 ∧ B 0 26 ≤ 100)) ∧ st = ([(2, 0), (9, 0), (9, 0), (9, 0)], [(0, y)], B))) ?_ 6 6 _ ?_
    · rintro pc st (⟨rfl, B, y, hB, hy, rfl⟩)
      refine wq_ok srt_Mall (fr := []) (cuts := [17]) (J := fun pc st => (pc = 17 ∧ ∃ D, restoresJ B D 30 72 ∧ st = ([(2, 0), (0, y), (9, 0), (9, 0)], [], D))) ?_ 8 10 _ ?_
      · rintro pc st (⟨rfl, D, hD, rfl⟩)
        have hRI : RI D := restored h hC hB.1 (fun r j j0 j1 hr => hB.2 r j (by omega) (by omega) j0 j1 (fun t t0 ht => by unfold inS at ht; omega) (by omega) (by omega)) (fun p p0 p1 r j hr => hB.2 r j (by unfold inS at hr; omega) (by unfold inS at hr; omega) (by unfold inS at hr; omega) (by unfold inS at hr; omega) (fun t t0 ht => by unfold inS at *; omega) (by unfold inS at hr; omega) (by unfold inS at hr; omega)) hD
        have hgD := hRI.g
        have p24 := fM_0_24 hgD (r := 0) (by omega) km0
        have hl : y ≠ 0 → D 0 26 ≤ 100 := fun hne => by rw [hD.2.1 0 26 (fun t t0 t1 ht => by unfold inS at ht; omega) (by omega)]; rcases hy with e | e; exact absurd e hne; exact e.2
        have h33 : ∀ E, RI E → (y ≠ 0 → E 0 26 ≤ 100) → Tm pmt (an_sh wM) o_X10_all 33 ([(2, 0), (0, y), (9, 0), (9, 0)], [], E) ri_post := fun E hE hlE => by
          have hy1 : y = 0 ∨ y = 1 := by rcases hy with e | e; exact Or.inl e; exact Or.inr e.1
          exact al_33 hy1 hE hlE
        refine wq_ok srt_Mall (fr := []) (cuts := [33]) (J := fun pc st => (pc = 33 ∧ (y = 0) ∧ st = ([(2, 0), (0, y), (9, 0), (9, 0)], [], pm_upd D 0 25 0)) ∨ (pc = 33 ∧ (¬ y = 0) ∧ st = ([(2, 0), (0, y), (9, 0), (9, 0)], [], pm_upd D 0 25 (D 0 24)))) ?_ 12 17 _ ?_
        · rintro pc st (⟨rfl, h0, rfl⟩ | ⟨rfl, h0, rfl⟩)
          · have hR2 := hRI.upd (uM_0_25 hgD (x := 0) (by omega) (by omega)) (by omega) (by omega)
            exact h33 _ hR2 (fun hy1 => by rw [upd_o (by omega)]; exact hl hy1)
          · have hR2 := hRI.upd (uM_0_25 hgD (x := D 0 24) (by omega) (by omega)) (by omega) (by omega)
            exact h33 _ hR2 (fun hy1 => by rw [upd_o (by omega)]; exact hl hy1)
        · refine ⟨fun h0 => ?_, fun h0 => ?_⟩
          · refine ⟨oM_0 (by omega) km0 25 rfl, ?_⟩
            exact Or.inl (⟨rfl, h0, rfl⟩)
          · refine ⟨oM_0 (by omega) km0 24 rfl, ?_⟩
            refine ⟨oM_0 (by omega) km0 25 rfl, ?_⟩
            exact Or.inr (⟨rfl, h0, rfl⟩)
      · refine ⟨rM_0 (by omega) km0, ?_⟩
        refine (restores_ex (p := 30) hB.1 (by omega) (by omega)).imp ?_
        rintro ⟨r1, D⟩ ⟨q1, q2⟩
        simp only at q1 q2
        subst q1
        exact ⟨rfl, D, q2, rfl⟩
    · refine ⟨rM_0 (by omega) km0, ?_⟩
      refine (goesThrough_ex hCT).imp ?_
      rintro ⟨r1, B⟩ ⟨q1, q2⟩
      simp only at q1 q2
      rcases q2 with q2 | ⟨q2, q3⟩
      · subst q2
        exact ⟨rfl, B, 0, q1, Or.inl rfl, rfl⟩
      · subst q2
        exact ⟨rfl, B, 1, q1, Or.inr ⟨rfl, q3⟩, rfl⟩
  · refine ⟨rM_0 (by omega) km0, ?_⟩
    refine (saves_ex (p := 30) hg (by omega) (by omega)).imp ?_
    rintro ⟨r1, C⟩ ⟨q1, q2⟩
    simp only at q1 q2
    subst q1
    exact ⟨rfl, C, q2, rfl⟩
