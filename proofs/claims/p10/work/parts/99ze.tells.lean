/-! tells, searches, finite -/
def fms : List Nat := [1040, 1041, 1042, 10005, 10012, 10024, 10025, 10026, 10027, 10028, 10029]
def fF (A B : pm_A) : Prop := gH wM B ∧ gFr wM fms A B
theorem fF.tr {A B C : pm_A} {ms : List Nat} (h : fF A B) (hC : gH wM C) (g : gFr wM ms B C) (hs : ∀ x ∈ ms, x ∈ fms) : fF A C := ⟨hC, gFr_tr h.2 g hs⟩
theorem fF.p7 {A B : pm_A} (h : fF A B) : B 0 7 = A 0 7 := h.2 0 7 (by omega) (by omega) (by rw [mc_0]; decide)
def FL (B : pm_A) : Prop := (∀ h : Int, 0 ≤ h → h < 4096 → B 28 h < B 0 40) ∧ ∀ t : Int, 0 ≤ t → t < B 0 40 → B 29 t < t ∧ B 25 t < t
def te_post (A : pm_A) (B : pm_A) (r : pm_R) : Prop := ∃ x, r.1 = some (0, x) ∧ (0 ≤ x ∧ x ≤ 3) ∧ fF A r.2 ∧ FL r.2 ∧ B 0 40 ≤ r.2 0 40
theorem srt_tells : pm_srt o_X10_tells = true := by decide +kernel
theorem te_174 {A B C : pm_A} {w1 w2 w3 w4 : pm_V} (hF : fF A C) (h40 : C 0 40 < 3000) (hm : C 0 40 = B 0 40) (h1 : ∀ h : Int, 0 ≤ h → h < 4096 → C 28 h ≤ C 0 40) (h2 : ∀ t : Int, 0 ≤ t → t ≤ C 0 40 → C 29 t < t ∧ C 25 t < t) : Tm pmt (an_sh wM) o_X10_tells 174 ([(2, 0), w1, w2, w3, w4], [], C) (te_post A B) := by
  have p40 := fM_0_40 hF.1 (r := 0) (by omega) km0
  have hfin : te_post A B (some (0, 1), pm_upd C 0 40 (C 0 40 + 1)) := by
    have e : pm_upd C 0 40 (C 0 40 + 1) 0 40 = C 0 40 + 1 := upd_at
    refine ⟨1, rfl, ⟨by omega, by omega⟩, ⟨uM_0_40 hF.1 (by omega) (by omega), gFr_upd hF.2 (by rw [mc_0]; decide)⟩, ⟨fun h h0 h3 => ?_, fun t t0 t1 => ?_⟩, ?_⟩
    · show pm_upd C 0 40 (C 0 40 + 1) 28 h < pm_upd C 0 40 (C 0 40 + 1) 0 40
      rw [e, upd_o (by omega)]; have := h1 h h0 h3; omega
    · have t1 : t < pm_upd C 0 40 (C 0 40 + 1) 0 40 := t1
      rw [e] at t1
      show pm_upd C 0 40 (C 0 40 + 1) 29 t < t ∧ pm_upd C 0 40 (C 0 40 + 1) 25 t < t
      rw [upd_o (by omega), upd_o (by omega)]; exact h2 t t0 (by omega)
    · show B 0 40 ≤ pm_upd C 0 40 (C 0 40 + 1) 0 40
      rw [e]; omega
  refine wq_ok srt_tells (fr := []) (cuts := []) (J := fun _ _ => False) ?_ 12 174 _ ?_
  · intro pc st h; exact h.elim
  · refine ⟨oM_0 (by omega) km0 40 rfl, ?_⟩
    refine ⟨⟨by omega, by omega⟩, ?_⟩
    refine ⟨oM_0 (by omega) km0 40 rfl, ?_⟩
    exact ⟨rfl, hfin⟩
theorem te_164 {A B C : pm_A} {h : Int} {w1 w2 w4 : pm_V} (hF : fF A C) (h0 : 0 ≤ h) (h01 : h ≤ 4095) (h40 : C 0 40 < 3000) (hm : C 0 40 = B 0 40) (h1 : ∀ h : Int, 0 ≤ h → h < 4096 → C 28 h < C 0 40) (h2 : ∀ t : Int, 0 ≤ t → t ≤ C 0 40 → C 29 t < t ∧ C 25 t < t) : Tm pmt (an_sh wM) o_X10_tells 164 ([(2, 0), w1, w2, (0, h), w4], [], C) (te_post A B) := by
  have p40 := fM_0_40 hF.1 (r := 0) (by omega) km0
  have c44 := pM_44 hF.1
  refine wq_ok srt_tells (fr := []) (cuts := [174]) (J := fun pc st => (pc = 174 ∧ st = ([(2, 0), w1, w2, (0, h), w4], [], pm_upd C (C 0 44) h (C 0 40)))) ?_ 11 164 _ ?_
  · rintro pc st (⟨rfl, rfl⟩)
    rw [c44]
    have e40 : pm_upd C 28 h (C 0 40) 0 40 = C 0 40 := upd_o (by omega)
    refine te_174 ⟨uM_28 hF.1 kn28 (by omega) (by omega), gFr_upd hF.2 (mM_28 kn28 rfl)⟩ (by rw [e40]; exact h40) (by rw [e40]; exact hm) (fun i i0 i1 => ?_) (fun t t0 t1 => ?_)
    · rw [e40]
      by_cases e : i = h
      · rw [e, upd_at]; omega
      · rw [upd_o (by omega)]; have := h1 i i0 i1; omega
    · rw [e40] at t1; rw [upd_o (by omega), upd_o (by omega)]; exact h2 t t0 t1
  · refine ⟨oM_0 (by omega) km0 44 rfl, ?_⟩
    refine ⟨oM_0 (by omega) km0 40 rfl, ?_⟩
    refine ⟨tM_28 (r := C 0 44) (by rw [c44]; omega) (by rw [c44]; exact kn28) (by omega) (by omega) rfl, ?_⟩
    exact ⟨rfl, rfl⟩
theorem te_149 {A B C : pm_A} {h : Int} {w1 w2 w4 : pm_V} (hF : fF A C) (h0 : 0 ≤ h) (h01 : h ≤ 4095) (h40 : C 0 40 < 3000) (hm : C 0 40 = B 0 40) (h1 : ∀ h : Int, 0 ≤ h → h < 4096 → C 28 h < C 0 40) (h2 : ∀ t : Int, 0 ≤ t → t < C 0 40 → C 29 t < t) (h3 : ∀ t : Int, 0 ≤ t → t ≤ C 0 40 → C 25 t < t) : Tm pmt (an_sh wM) o_X10_tells 149 ([(2, 0), w1, w2, (0, h), w4], [], C) (te_post A B) := by
  have p40 := fM_0_40 hF.1 (r := 0) (by omega) km0
  have c44 := pM_44 hF.1
  have c45 := pM_45 hF.1
  have b28 := eM_28 hF.1 (r := 28) (by omega) kn28 h0 (show h < 4096 by omega)
  have hh := h1 h h0 (by omega)
  refine wq_ok srt_tells (fr := []) (cuts := [164]) (J := fun pc st => (pc = 164 ∧ st = ([(2, 0), w1, w2, (0, h), w4], [], pm_upd C (C 0 45) (C 0 40) (C (C 0 44) h)))) ?_ 14 149 _ ?_
  · rintro pc st (⟨rfl, rfl⟩)
    rw [c45, c44]
    have e40 : pm_upd C 29 (C 0 40) (C 28 h) 0 40 = C 0 40 := upd_o (by omega)
    refine te_164 ⟨uM_29 hF.1 kn29 (by omega) (by omega), gFr_upd hF.2 (mM_29 kn29 rfl)⟩ h0 h01 (by rw [e40]; exact h40) (by rw [e40]; exact hm) (fun i i0 i1 => ?_) (fun t t0 t1 => ?_)
    · rw [e40, upd_o (by omega)]; exact h1 i i0 i1
    · rw [e40] at t1
      rw [upd_o (show ¬ ((25 : Int) = 29 ∧ t = C 0 40) by omega)]
      refine ⟨?_, h3 t t0 t1⟩
      by_cases e : t = C 0 40
      · rw [e, upd_at]; omega
      · rw [upd_o (by omega)]; exact h2 t t0 (by omega)
  · refine ⟨oM_0 (by omega) km0 45 rfl, ?_⟩
    refine ⟨oM_0 (by omega) km0 40 rfl, ?_⟩
    refine ⟨oM_0 (by omega) km0 44 rfl, ?_⟩
    refine ⟨aM_28 (r := C 0 44) (by rw [c44]; omega) (by rw [c44]; exact kn28) (by omega) (by omega), ?_⟩
    have e1 : C (C 0 44) h = C 28 h := by rw [c44]
    refine ⟨tM_29 (r := C 0 45) (by rw [c45]; omega) (by rw [c45]; exact kn29) (by omega) (by omega) rfl, ?_⟩
    exact ⟨rfl, rfl⟩
theorem te_129 {A B C : pm_A} {h fr bb : Int} {w4 : pm_V} (hF : fF A C) (h0 : 0 ≤ h) (h01 : h ≤ 4095) (h40 : C 0 40 < 3000) (hm : C 0 40 = B 0 40) (hL : FL C) (hfr : -1 ≤ fr) (hfr2 : fr < C 0 40) (hbb : r32 bb) : Tm pmt (an_sh wM) o_X10_tells 129 ([(2, 0), (0, fr), (0, bb), (0, h), w4], [], C) (te_post A B) := by
  have p40 := fM_0_40 hF.1 (r := 0) (by omega) km0
  have c38 := pM_38 hF.1
  have c39 : pm_upd C (C 0 38) (C 0 40) fr 0 39 = 26 := by rw [c38, upd_o (by omega)]; exact pM_39 hF.1
  have f40 : pm_upd C (C 0 38) (C 0 40) fr 0 40 = C 0 40 := by rw [c38, upd_o (by omega)]
  refine wq_ok srt_tells (fr := []) (cuts := [149]) (J := fun pc st => (pc = 149 ∧ st = ([(2, 0), (0, fr), (0, bb), (0, h), w4], [], pm_upd (pm_upd C (C 0 38) (C 0 40) fr) ((pm_upd C (C 0 38) (C 0 40) fr) 0 39) ((pm_upd C (C 0 38) (C 0 40) fr) 0 40) bb))) ?_ 17 129 _ ?_
  · rintro pc st (⟨rfl, rfl⟩)
    rw [c39, f40, c38]
    have e40 : pm_upd (pm_upd C 25 (C 0 40) fr) 26 (C 0 40) bb 0 40 = C 0 40 := by rw [upd_o (by omega), upd_o (by omega)]
    have g1 := uM_25 hF.1 kn25 (i := C 0 40) hfr (show fr ≤ 2999 by omega)
    refine te_149 ⟨uM_26 g1 kn26 hbb.1 hbb.2, gFr_upd (gFr_upd hF.2 (mM_25 kn25 rfl)) (mM_26 kn26 rfl)⟩ h0 h01 (by rw [e40]; exact h40) (by rw [e40]; exact hm) (fun i i0 i1 => ?_) (fun t t0 t1 => ?_) (fun t t0 t1 => ?_)
    · rw [e40, upd_o (by omega), upd_o (by omega)]; exact hL.1 i i0 i1
    · rw [e40] at t1; rw [upd_o (by omega), upd_o (by omega)]; exact (hL.2 t t0 t1).1
    · rw [e40] at t1
      rw [upd_o (by omega)]
      by_cases e : t = C 0 40
      · rw [e, upd_at]; exact hfr2
      · rw [upd_o (by omega)]; exact (hL.2 t t0 (by omega)).2
  · refine ⟨oM_0 (by omega) km0 38 rfl, ?_⟩
    refine ⟨oM_0 (by omega) km0 40 rfl, ?_⟩
    refine ⟨tM_25 (r := C 0 38) (by rw [c38]; omega) (by rw [c38]; exact kn25) (by omega) (by omega) rfl, ?_⟩
    refine ⟨oM_0 (by omega) km0 39 rfl, ?_⟩
    refine ⟨oM_0 (by omega) km0 40 rfl, ?_⟩
    refine ⟨tM_26 (r := (pm_upd C (C 0 38) (C 0 40) fr) 0 39) (by rw [c39]; omega) (by rw [c39]; exact kn26) (by rw [f40]; omega) (by rw [f40]; omega) rfl, ?_⟩
    exact ⟨rfl, rfl⟩
theorem te_66 {A B : pm_A} {h fr bb : Int} (g0 : 0 ≤ h) (g1 : h ≤ 4095) (hfr : -1 ≤ fr) (hfr2 : fr < B 0 40) (hbb : r32 bb) : ∀ (m : Nat) (i : Int) (C : pm_A), (36 - i).toNat < m → 0 ≤ i → i ≤ 36 → fF A C → FL C → C 0 40 < 3000 → C 0 40 = B 0 40 → Tm pmt (an_sh wM) o_X10_tells 66 ([(2, 0), (0, fr), (0, bb), (0, h), (0, i)], [], C) (te_post A B) := by
  intro m
  induction m with
  | zero => intro i C h; omega
  | succ m ih =>
    intro i C hm i0 i1 hF hL h40 he
    have p40 := fM_0_40 hF.1 (r := 0) (by omega) km0
    have p7 := fM_0_7 hF.1 (r := 0) (by omega) km0
    have c37 := pM_37 hF.1
    have c9 := pM_9 hF.1
    have b5 : i < 36 → -2147483648 ≤ C 5 i ∧ C 5 i ≤ 2147483647 := fun h => eM_5 hF.1 (r := 5) (by omega) kn5 i0 (by omega)
    have hstep : ∀ x, -2147483648 ≤ x → x ≤ 2147483647 → i < 36 → Tm pmt (an_sh wM) o_X10_tells 66 ([(2, 0), (0, fr), (0, bb), (0, h), (0, i + 1)], [], pm_upd C 24 (36 * C 0 40 + i) x) (te_post A B) := fun x x0 x1 hi => by
      have e40 : pm_upd C 24 (36 * C 0 40 + i) x 0 40 = C 0 40 := upd_o (by omega)
      refine ih (i + 1) _ (by omega) (by omega) (by omega) ⟨uM_24 hF.1 kn24 x0 x1, gFr_upd hF.2 (mM_24 kn24 rfl)⟩ ⟨fun j j0 j1 => ?_, fun t t0 t1 => ?_⟩ (by rw [e40]; exact h40) (by rw [e40]; exact he)
      · rw [e40, upd_o (by omega)]; exact hL.1 j j0 j1
      · rw [e40] at t1; rw [upd_o (by omega), upd_o (by omega)]; exact hL.2 t t0 t1
    refine wq_ok srt_tells (fr := []) (cuts := [66, 129]) (J := fun pc st => (pc = 129 ∧ (36 ≤ i) ∧ st = ([(2, 0), (0, fr), (0, bb), (0, h), (0, i)], [], C)) ∨ (pc = 66 ∧ (i < 36) ∧ ((C 0 7) ≤ (i / 6)) ∧ st = ([(2, 0), (0, fr), (0, bb), (0, h), (0, i + 1)], [], pm_upd C (C 0 37) ((36 * (C 0 40)) + i) 0)) ∨ (pc = 66 ∧ (i < 36) ∧ ((i / 6) < (C 0 7)) ∧ ((C 0 7) ≤ (i % 6)) ∧ st = ([(2, 0), (0, fr), (0, bb), (0, h), (0, i + 1)], [], pm_upd C (C 0 37) ((36 * (C 0 40)) + i) 0)) ∨ (pc = 66 ∧ (i < 36) ∧ ((i / 6) < (C 0 7)) ∧ ((i % 6) < (C 0 7)) ∧ st = ([(2, 0), (0, fr), (0, bb), (0, h), (0, i + 1)], [], pm_upd C (C 0 37) ((36 * (C 0 40)) + i) (C (C 0 9) i)))) ?_ 36 66 _ ?_
    · rintro pc st (⟨rfl, h0, rfl⟩ | ⟨rfl, h0, h1, rfl⟩ | ⟨rfl, h0, h1, h2, rfl⟩ | ⟨rfl, h0, h1, h2, rfl⟩)
      · exact te_129 hF g0 g1 h40 he hL hfr (by omega) hbb
      · rw [c37]
        exact hstep 0 (by omega) (by omega) (by omega)
      · rw [c37]
        exact hstep 0 (by omega) (by omega) (by omega)
      · rw [c37, c9]
        have b := b5 (by omega)
        exact hstep _ b.1 b.2 (by omega)
    · refine ⟨fun h0 => ?_, fun h0 => ?_⟩
      · exact Or.inl (⟨rfl, h0, rfl⟩)
      · refine ⟨oM_0 (by omega) km0 37 rfl, ?_⟩
        refine ⟨oM_0 (by omega) km0 40 rfl, ?_⟩
        refine ⟨⟨by omega, by omega⟩, ?_⟩
        refine ⟨⟨by omega, by omega⟩, ?_⟩
        refine ⟨⟨by omega, by omega, by omega, by omega⟩, ?_⟩
        refine ⟨oM_0 (by omega) km0 7 rfl, ?_⟩
        refine ⟨fun h1 => ?_, fun h1 => ?_⟩
        · refine ⟨tM_24 (r := C 0 37) (by rw [c37]; omega) (by rw [c37]; exact kn24) (by omega) (by omega) rfl, ?_⟩
          refine ⟨⟨by omega, by omega⟩, ?_⟩
          exact Or.inr (Or.inl (⟨rfl, h0, h1, rfl⟩))
        · refine ⟨⟨by omega, by omega, by omega, by omega⟩, ?_⟩
          refine ⟨oM_0 (by omega) km0 7 rfl, ?_⟩
          refine ⟨fun h2 => ?_, fun h2 => ?_⟩
          · refine ⟨tM_24 (r := C 0 37) (by rw [c37]; omega) (by rw [c37]; exact kn24) (by omega) (by omega) rfl, ?_⟩
            refine ⟨⟨by omega, by omega⟩, ?_⟩
            exact Or.inr (Or.inr (Or.inl (⟨rfl, h0, h1, h2, rfl⟩)))
          · refine ⟨oM_0 (by omega) km0 9 rfl, ?_⟩
            refine ⟨aM_5 (r := C 0 9) (by rw [c9]; omega) (by rw [c9]; exact kn5) (by omega) (by omega), ?_⟩
            have e1 : C (C 0 9) i = C 5 i := by rw [c9]
            refine ⟨tM_24 (r := C 0 37) (by rw [c37]; omega) (by rw [c37]; exact kn24) (by omega) (by omega) rfl, ?_⟩
            refine ⟨⟨by omega, by omega⟩, ?_⟩
            exact Or.inr (Or.inr (Or.inr (⟨rfl, h0, h1, h2, rfl⟩)))
theorem te_42 {A B : pm_A} {h fr bb : Int} {w4 : pm_V} (hF : fF A B) (hL : FL B) (g0 : 0 ≤ h) (g1 : h ≤ 4095) (hfr : -1 ≤ fr) (hfr2 : fr < B 0 40) (hbb : r32 bb) : Tm pmt (an_sh wM) o_X10_tells 42 ([(2, 0), (0, fr), (0, bb), (0, h), w4], [], B) (te_post A B) := by
  refine wq_ok srt_tells (fr := []) (cuts := [46]) (J := fun pc st => (pc = 46 ∧ ∃ C x, gH wM C ∧ gFr wM [] B C ∧ st = ([(2, 0), (0, fr), (0, bb), (0, h), w4], [(0, x)], C))) ?_ 6 42 _ ?_
  · rintro pc st (⟨rfl, C, x, f2, f3, rfl⟩)
    have hFC : fF A C := hF.tr f2 f3 (fun x hx => by simp at hx)
    have ec : ∀ r j : Int, 0 ≤ r → 0 ≤ j → C r j = B r j := fun r j r0 j0 => f3 r j r0 j0 (by simp)
    have e40 := ec 0 40 (by omega) (by omega)
    have p40 := fM_0_40 f2 (r := 0) (by omega) km0
    have hLC : FL C := ⟨fun i i0 i1 => by rw [ec 28 i (by omega) i0, e40]; exact hL.1 i i0 i1, fun t t0 t1 => by rw [ec 29 t (by omega) t0, ec 25 t (by omega) t0]; exact hL.2 t t0 (by omega)⟩
    refine wq_ok srt_tells (fr := []) (cuts := [66]) (J := fun pc st => (pc = 66 ∧ (x = 0) ∧ (¬ (C 0 40) = 3000) ∧ st = ([(2, 0), (0, fr), (0, bb), (0, h), (0, 0)], [], C))) ?_ 12 46 _ ?_
    · rintro pc st (⟨rfl, h0, h1, rfl⟩)
      exact te_66 g0 g1 hfr hfr2 hbb _ 0 C (Nat.lt_succ_self _) (by omega) (by omega) hFC hLC (by omega) e40
    · refine ⟨fun h0 => ?_, fun h0 => ?_⟩
      · refine ⟨oM_0 (by omega) km0 40 rfl, ?_⟩
        refine ⟨fun h1 => ?_, fun h1 => ?_⟩
        · exact ⟨rfl, h0, h1, rfl⟩
        · exact ⟨rfl, 3, rfl, ⟨by omega, by omega⟩, hFC, hLC, by show B 0 40 ≤ C 0 40; omega⟩
      · exact ⟨rfl, 2, rfl, ⟨by omega, by omega⟩, hFC, hLC, by show B 0 40 ≤ C 0 40; omega⟩
  · refine ⟨rM_0 (by omega) km0, ?_⟩
    refine Cl.gct q_X10_isWild_0 (A := B) (a := [(2, 0)]) ⟨gv_ref (by omega) km0, trivial⟩ hF.1 ?_
    rintro ⟨r1, C⟩ f1 f2 f3
    simp only at f1 f2 f3
    match r1, f1 with
    | some (0, x), fx => exact ⟨rfl, C, x, f2, f3, rfl⟩
    | some (n + 1, x), ⟨⟨q, _⟩, _⟩ => exact absurd q (by intro q; cases q)
    | none, q => exact absurd q (by intro q; cases q)
theorem te_13 {A B0 : pm_A} {h fr bb : Int} (g0 : 0 ≤ h) (g1 : h ≤ 4095) (hfr : -1 ≤ fr) (hfr2 : fr < B0 0 40) (hbb : r32 bb) : ∀ (m : Nat) (t : Int) (B : pm_A), (t + 1).toNat < m → -1 ≤ t → t < B 0 40 → fF A B → FL B → B 0 40 = B0 0 40 → Tm pmt (an_sh wM) o_X10_tells 13 ([(2, 0), (0, fr), (0, bb), (0, h), (0, t)], [], B) (te_post A B0) := by
  intro m
  induction m with
  | zero => intro t B h; omega
  | succ m ih =>
    intro t B hm t0 t1 hF hL he
    have p40 := fM_0_40 hF.1 (r := 0) (by omega) km0
    refine wq_ok srt_tells (fr := []) (cuts := [25, 42]) (J := fun pc st => (pc = 42 ∧ (t = ((-1))) ∧ st = ([(2, 0), (0, fr), (0, bb), (0, h), (0, t)], [], B)) ∨ (pc = 25 ∧ ¬ t = (-1) ∧ ∃ C x, gH wM C ∧ gFr wM [] B C ∧ st = ([(2, 0), (0, fr), (0, bb), (0, h), (0, t)], [(0, x)], C))) ?_ 10 13 _ ?_
    · rintro pc st (⟨rfl, h0, rfl⟩ | ⟨rfl, hne, C, x, f2, f3, rfl⟩)
      · have hfr3 : fr < B 0 40 := by omega
        refine Tm.imp (te_42 hF hL g0 g1 hfr hfr3 hbb) (fun r hr => ?_)
        obtain ⟨y, y1, y2, y3, y4, y5⟩ := hr
        exact ⟨y, y1, y2, y3, y4, by omega⟩
      · have hFC : fF A C := hF.tr f2 f3 (fun x hx => by simp at hx)
        have ec : ∀ r j : Int, 0 ≤ r → 0 ≤ j → C r j = B r j := fun r j r0 j0 => f3 r j r0 j0 (by simp)
        have e40 := ec 0 40 (by omega) (by omega)
        have c45 := pM_45 f2
        have hLC : FL C := ⟨fun i i0 i1 => by rw [ec 28 i (by omega) i0, e40]; exact hL.1 i i0 i1, fun t t0 t1 => by rw [ec 29 t (by omega) t0, ec 25 t (by omega) t0]; exact hL.2 t t0 (by omega)⟩
        refine wq_ok srt_tells (fr := []) (cuts := [13]) (J := fun pc st => (pc = 13 ∧ (x = 0) ∧ st = ([(2, 0), (0, fr), (0, bb), (0, h), (0, C (C 0 45) t)], [], C))) ?_ 12 25 _ ?_
        · rintro pc st (⟨rfl, h0, rfl⟩)
          rw [c45]
          have hl := (hLC.2 t (by omega) (by omega)).1
          have b := eM_29 f2 (r := 29) (by omega) kn29 (j := t) (by omega) (by omega)
          exact ih _ C (by omega) b.1 (by omega) hFC hLC (by omega)
        · refine ⟨fun h0 => ?_, fun h0 => ?_⟩
          · refine ⟨oM_0 (by omega) km0 45 rfl, ?_⟩
            refine ⟨aM_29 (r := C 0 45) (by rw [c45]; omega) (by rw [c45]; exact kn29) (by omega) (by omega), ?_⟩
            have e1 : C (C 0 45) t = C 29 t := by rw [c45]
            exact ⟨rfl, h0, rfl⟩
          · exact ⟨rfl, 0, rfl, ⟨by omega, by omega⟩, hFC, hLC, by show B0 0 40 ≤ C 0 40; omega⟩
    · refine ⟨fun h0 => ?_, fun h0 => ?_⟩
      · exact Or.inl (⟨rfl, h0, rfl⟩)
      · refine ⟨rM_0 (by omega) km0, ?_⟩
        refine Cl.gct q_X10_isTable_0 (A := B) (a := [(2, 0), (0, t)]) ⟨gv_ref (by omega) km0, ⟨rfl, by simp only; omega, by simp only; omega⟩, trivial⟩ hF.1 ?_
        rintro ⟨r1, C⟩ f1 f2 f3
        simp only at f1 f2 f3
        match r1, f1 with
        | some (0, x), fx => exact Or.inr (⟨rfl, h0, C, x, f2, f3, rfl⟩)
        | some (n + 1, x), ⟨⟨q, _⟩, _⟩ => exact absurd q (by intro q; cases q)
        | none, q => exact absurd q (by intro q; cases q)
theorem tells_ex {A B : pm_A} {fr bb : Int} (hF : fF A B) (hL : FL B) (hfr : -1 ≤ fr) (hfr2 : fr < B 0 40 ∨ fr = -1) (hbb : r32 bb) : Cl pmt (an_sh wM) 192 [(2, 0), (0, fr), (0, bb)] B (te_post A B) := by
  have p40 := fM_0_40 hF.1 (r := 0) (by omega) km0
  refine Cl.of (Nat.le_of_ble_eq_true rfl) ?_
  refine wq_ok (full := o_X10_tells) srt_tells (fr := []) (cuts := [4]) (J := fun pc st => (pc = 4 ∧ ∃ C x, gH wM C ∧ gFr wM [] B C ∧ (0 ≤ x ∧ x ≤ 4095) ∧ st = ([(2, 0), (0, fr), (0, bb), (9, 0), (9, 0)], [(0, x)], C))) ?_ 6 0 _ ?_
  · rintro pc st (⟨rfl, C, x, f2, f3, hx, rfl⟩)
    have hFC : fF A C := hF.tr f2 f3 (fun x hx => by simp at hx)
    have ec : ∀ r j : Int, 0 ≤ r → 0 ≤ j → C r j = B r j := fun r j r0 j0 => f3 r j r0 j0 (by simp)
    have e40 := ec 0 40 (by omega) (by omega)
    have c44 := pM_44 f2
    have hLC : FL C := ⟨fun i i0 i1 => by rw [ec 28 i (by omega) i0, e40]; exact hL.1 i i0 i1, fun t t0 t1 => by rw [ec 29 t (by omega) t0, ec 25 t (by omega) t0]; exact hL.2 t t0 (by omega)⟩
    refine wq_ok srt_tells (fr := []) (cuts := [13]) (J := fun pc st => (pc = 13 ∧ st = ([(2, 0), (0, fr), (0, bb), (0, x), (0, C (C 0 44) x)], [], C))) ?_ 11 4 _ ?_
    · rintro pc st (⟨rfl, rfl⟩)
      rw [c44]
      have hh := hLC.1 x hx.1 (by omega)
      have b := eM_28 f2 (r := 28) (by omega) kn28 hx.1 (show x < 4096 by omega)
      exact te_13 hx.1 hx.2 hfr (by omega) hbb _ _ C (Nat.lt_succ_self _) b.1 hh hFC hLC e40
    · refine ⟨oM_0 (by omega) km0 44 rfl, ?_⟩
      refine ⟨aM_28 (r := C 0 44) (by rw [c44]; omega) (by rw [c44]; exact kn28) (by omega) (by omega), ?_⟩
      have e1 : C (C 0 44) x = C 28 x := by rw [c44]
      exact ⟨rfl, rfl⟩
  · refine ⟨rM_0 (by omega) km0, ?_⟩
    refine Cl.gct q_X10_tableHash_0 (A := B) (a := [(2, 0)]) ⟨gv_ref (by omega) km0, trivial⟩ hF.1 ?_
    rintro ⟨r1, C⟩ f1 f2 f3
    simp only at f1 f2 f3
    match r1, f1 with
    | some (0, x), fx => exact ⟨rfl, C, x, f2, f3, ⟨fx.1.2.1, fx.1.2.2⟩, rfl⟩
    | some (n + 1, x), ⟨⟨q, _⟩, _⟩ => exact absurd q (by intro q; cases q)
    | none, q => exact absurd q (by intro q; cases q)
