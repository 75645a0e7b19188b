/-! ringOf and frieze on both sides -/
theorem srt_MringOf : pm_srt o_X10_ringOf = true := by decide +kernel
theorem rsw {A : pm_A} {L : List pm_V} {x : Int} {Q : pm_R → Prop} (h0 : x = 0 → Tm pmt (an_sh wM) o_X10_ringOf 36 (L, [], A) Q) (h1 : x = 1 → Tm pmt (an_sh wM) o_X10_ringOf 43 (L, [], A) Q) (h2 : x = 2 → Tm pmt (an_sh wM) o_X10_ringOf 49 (L, [], A) Q) (h3 : ¬ (0 ≤ x ∧ x ≤ 2) → Tm pmt (an_sh wM) o_X10_ringOf 63 (L, [], A) Q) : Tm pmt (an_sh wM) o_X10_ringOf 11 (L, [(0, x)], A) Q := by
  by_cases e0 : x = 0
  · refine Tm.step srt_MringOf (n0 := 0) rfl (pc' := 36) (s' := (L, [], A)) ?_ (h0 e0)
    rw [e0]; rfl
  · by_cases e1 : x = 1
    · refine Tm.step srt_MringOf (n0 := 0) rfl (pc' := 43) (s' := (L, [], A)) ?_ (h1 e1)
      rw [e1]; rfl
    · by_cases e2 : x = 2
      · refine Tm.step srt_MringOf (n0 := 0) rfl (pc' := 49) (s' := (L, [], A)) ?_ (h2 e2)
        rw [e2]; rfl
      · refine Tm.step srt_MringOf (n0 := 0) rfl (pc' := 63) (s' := (L, [], A)) ?_ (h3 (by omega))
        exact if_pos (show x < 0 ∨ (0 : Int) + ((3 : Nat) : Int) - 1 < x by omega)
theorem mringOf_ex {A : pm_A} {sl w : Int} (hA : gH wM A) (w0 : r32 w) : Cl pmt (an_sh wM) 178 [(2, 0), (0, sl), (0, w)] A (fun q => (q = (some (0, -1), A) ∧ ¬ (sl = 0 ∨ sl = 1)) ∨ ((sl = 0 ∨ sl = 1) ∧ tlP A (A 31 sl) (fcs A sl) w q)) := by
  have c48 := pM_48 hA
  unfold r32 at w0
  have e48 : A (A 0 48) sl = A 31 sl := by rw [c48]
  have b31 : sl = 0 ∨ sl = 1 → 4 ≤ A 31 sl ∧ A 31 sl ≤ 10 := fun hs => eM_31 hA (r := 31) (by omega) kn31 (j := sl) (by omega) (by omega)
  have hb := cntF_b (fcs A sl) 100
  have h36 : sl = 0 ∨ sl = 1 → w = 0 → Tm pmt (an_sh wM) o_X10_ringOf 36 ([(2, 0), (0, sl), (0, w)], [], A) (fun q => (q = (some (0, -1), A) ∧ ¬ (sl = 0 ∨ sl = 1)) ∨ ((sl = 0 ∨ sl = 1) ∧ tlP A (A 31 sl) (fcs A sl) w q)) := fun hs k0 => by
    have b31 := b31 hs
    refine wq_ok srt_MringOf (fr := []) (cuts := []) (J := fun _ _ => False) ?_ 9 36 _ ?_
    · intro pc st h; exact h.elim
    · refine ⟨oM_0 (by omega) km0 48 rfl, ?_⟩
      refine ⟨aM_31 (r := A 0 48) (by rw [c48]; omega) (by rw [c48]; exact kn31) (by omega) (by omega), ?_⟩
      have e1 : A (A 0 48) sl = A 31 sl := by rw [c48]
      exact ⟨rfl, Or.inr ⟨hs, rfl, _, rfl, Or.inl ⟨k0, e48⟩⟩⟩
  have h43 : sl = 0 ∨ sl = 1 → w = 1 → Tm pmt (an_sh wM) o_X10_ringOf 43 ([(2, 0), (0, sl), (0, w)], [], A) (fun q => (q = (some (0, -1), A) ∧ ¬ (sl = 0 ∨ sl = 1)) ∨ ((sl = 0 ∨ sl = 1) ∧ tlP A (A 31 sl) (fcs A sl) w q)) := fun hs k0 => by
    have b31 := b31 hs
    refine wq_ok srt_MringOf (fr := []) (cuts := [48]) (J := fun pc st => (pc = 48 ∧ st = ([(2, 0), (0, sl), (0, w)], [(0, cntF (fcs A sl) 100)], A))) ?_ 7 43 _ ?_
    · rintro pc st (⟨rfl, rfl⟩)
      refine wq_ok srt_MringOf (fr := []) (cuts := []) (J := fun _ _ => False) ?_ 5 48 _ ?_
      · intro pc st h; exact h.elim
      · exact ⟨rfl, Or.inr ⟨hs, rfl, _, rfl, Or.inr (Or.inl ⟨k0, rfl⟩)⟩⟩
    · refine ⟨rM_0 (by omega) km0, ?_⟩
      refine (fences_ex hA (by omega) (by omega)).imp ?_
      rintro r rfl
      exact ⟨rfl, rfl⟩
  have h49 : sl = 0 ∨ sl = 1 → w = 2 → Tm pmt (an_sh wM) o_X10_ringOf 49 ([(2, 0), (0, sl), (0, w)], [], A) (fun q => (q = (some (0, -1), A) ∧ ¬ (sl = 0 ∨ sl = 1)) ∨ ((sl = 0 ∨ sl = 1) ∧ tlP A (A 31 sl) (fcs A sl) w q)) := fun hs k0 => by
    have b31 := b31 hs
    refine wq_ok srt_MringOf (fr := []) (cuts := [54]) (J := fun pc st => (pc = 54 ∧ ∃ x : Int, ((x = 1 ∧ cntF (fcs A sl) 100 = A 31 sl - 3) ∨ (x = 0 ∧ ¬ cntF (fcs A sl) 100 = A 31 sl - 3)) ∧ st = ([(2, 0), (0, sl), (0, w)], [(0, x)], A))) ?_ 7 49 _ ?_
    · rintro pc st (⟨rfl, x, hx, rfl⟩)
      refine wq_ok srt_MringOf (fr := []) (cuts := []) (J := fun _ _ => False) ?_ 8 54 _ ?_
      · intro pc st h; exact h.elim
      · refine ⟨fun h0 => ?_, fun h0 => ?_⟩
        · exact ⟨rfl, Or.inr ⟨hs, rfl, _, rfl, Or.inr (Or.inr (Or.inr (Or.inl ⟨k0, (by rcases hx with ⟨e, _⟩ | ⟨_, e⟩; omega; exact e), rfl⟩)))⟩⟩
        · exact ⟨rfl, Or.inr ⟨hs, rfl, _, rfl, Or.inr (Or.inr (Or.inl ⟨k0, (by rcases hx with ⟨_, e⟩ | ⟨e, _⟩; exact e; omega), rfl⟩))⟩⟩
    · refine ⟨rM_0 (by omega) km0, ?_⟩
      refine (isCutting_ex hA (by omega) (by omega)).imp ?_
      rintro ⟨r1, C⟩ ⟨q1, x, q2, hx⟩
      simp only at q1 q2
      subst q1
      subst q2
      exact ⟨rfl, x, hx, rfl⟩
  have h63 : sl = 0 ∨ sl = 1 → ¬ (0 ≤ w ∧ w ≤ 2) → Tm pmt (an_sh wM) o_X10_ringOf 63 ([(2, 0), (0, sl), (0, w)], [], A) (fun q => (q = (some (0, -1), A) ∧ ¬ (sl = 0 ∨ sl = 1)) ∨ ((sl = 0 ∨ sl = 1) ∧ tlP A (A 31 sl) (fcs A sl) w q)) := fun hs k0 => by
    have b31 := b31 hs
    refine wq_ok srt_MringOf (fr := []) (cuts := [91, 106]) (J := fun pc st => (pc = 106 ∧ (w < 10) ∧ (100 ≤ w) ∧ st = ([(2, 0), (0, sl), (0, w)], [(0, cntF (fcs A sl) 100), (0, 100), (0, w)], A)) ∨ (pc = 106 ∧ (10 ≤ w) ∧ ((10 + (A (A 0 48) sl)) ≤ w) ∧ (100 ≤ w) ∧ st = ([(2, 0), (0, sl), (0, w)], [(0, cntF (fcs A sl) 100), (0, 100), (0, w)], A)) ∨ (pc = 91 ∧ (10 ≤ w) ∧ (w < (10 + (A (A 0 48) sl))) ∧ st = ([(2, 0), (0, sl), (0, w)], [(0, 1 + cntF (tG (fcs A sl) (w - 10)) 100)], A))) ?_ 23 63 _ ?_
    · rintro pc st (⟨rfl, h0, h1, rfl⟩ | ⟨rfl, h0, h1, h2, rfl⟩ | ⟨rfl, h0, h1, rfl⟩)
      · have k1 : ¬ (10 ≤ w ∧ w < 10 + A 31 sl) := by omega
        have k2 : 100 ≤ w := by assumption
        refine wq_ok srt_MringOf (fr := []) (cuts := [119]) (J := fun pc st => (pc = 119 ∧ (w < (100 + (cntF (fcs A sl) 100))) ∧ ∃ f : Int, (nthF (fcs A sl) (w - 100) f) ∧ st = ([(2, 0), (0, sl), (0, w)], [(0, f)], A))) ?_ 12 106 _ ?_
        · rintro pc st (⟨rfl, h0, f, hz, rfl⟩)
          clear h0
          refine wq_ok srt_MringOf (fr := []) (cuts := [122]) (J := fun pc st => (pc = 122 ∧ st = ([(2, 0), (0, sl), (0, w)], [(0, 100 * (f / 10) + f % 10)], A))) ?_ 5 119 _ ?_
          · rintro pc st (⟨rfl, rfl⟩)
            refine wq_ok srt_MringOf (fr := []) (cuts := []) (J := fun _ _ => False) ?_ 6 122 _ ?_
            · intro pc st h; exact h.elim
            · exact ⟨rfl, Or.inr ⟨hs, rfl, _, rfl, Or.inr (Or.inr (Or.inr (Or.inr (Or.inr ⟨k0, by omega, Or.inl ⟨f, hz, rfl⟩⟩))))⟩⟩
          · refine ⟨rfl, ?_⟩
            refine (named_eq (f := f) hz.1 (by have := hz.2.1; omega)).imp ?_
            rintro r rfl
            exact ⟨rfl, rfl⟩
        · refine ⟨⟨by omega, by omega⟩, ?_⟩
          refine ⟨fun h0 => ?_, fun h0 => ?_⟩
          · exact ⟨rfl, Or.inr ⟨hs, rfl, _, rfl, Or.inr (Or.inr (Or.inr (Or.inr (Or.inr ⟨k0, by omega, Or.inr ⟨fun f k => (by have := nthF_b k; omega), rfl⟩⟩))))⟩⟩
          · refine ⟨⟨by omega, by omega⟩, ?_⟩
            refine ⟨rM_0 (by omega) km0, ?_⟩
            refine (mfenceAt_ex hA (by omega) (by omega) (i := w - 100) (by omega) (by omega)).imp ?_
            rintro ⟨r1, C⟩ ⟨q1, f, hz, q2⟩
            simp only at q1 q2
            subst q1
            subst q2
            exact ⟨rfl, h0, f, hz, rfl⟩
      · have k1 : ¬ (10 ≤ w ∧ w < 10 + A 31 sl) := by omega
        have k2 : 100 ≤ w := by assumption
        refine wq_ok srt_MringOf (fr := []) (cuts := [119]) (J := fun pc st => (pc = 119 ∧ (w < (100 + (cntF (fcs A sl) 100))) ∧ ∃ f : Int, (nthF (fcs A sl) (w - 100) f) ∧ st = ([(2, 0), (0, sl), (0, w)], [(0, f)], A))) ?_ 12 106 _ ?_
        · rintro pc st (⟨rfl, h0, f, hz, rfl⟩)
          clear h0
          refine wq_ok srt_MringOf (fr := []) (cuts := [122]) (J := fun pc st => (pc = 122 ∧ st = ([(2, 0), (0, sl), (0, w)], [(0, 100 * (f / 10) + f % 10)], A))) ?_ 5 119 _ ?_
          · rintro pc st (⟨rfl, rfl⟩)
            refine wq_ok srt_MringOf (fr := []) (cuts := []) (J := fun _ _ => False) ?_ 6 122 _ ?_
            · intro pc st h; exact h.elim
            · exact ⟨rfl, Or.inr ⟨hs, rfl, _, rfl, Or.inr (Or.inr (Or.inr (Or.inr (Or.inr ⟨k0, by omega, Or.inl ⟨f, hz, rfl⟩⟩))))⟩⟩
          · refine ⟨rfl, ?_⟩
            refine (named_eq (f := f) hz.1 (by have := hz.2.1; omega)).imp ?_
            rintro r rfl
            exact ⟨rfl, rfl⟩
        · refine ⟨⟨by omega, by omega⟩, ?_⟩
          refine ⟨fun h0 => ?_, fun h0 => ?_⟩
          · exact ⟨rfl, Or.inr ⟨hs, rfl, _, rfl, Or.inr (Or.inr (Or.inr (Or.inr (Or.inr ⟨k0, by omega, Or.inr ⟨fun f k => (by have := nthF_b k; omega), rfl⟩⟩))))⟩⟩
          · refine ⟨⟨by omega, by omega⟩, ?_⟩
            refine ⟨rM_0 (by omega) km0, ?_⟩
            refine (mfenceAt_ex hA (by omega) (by omega) (i := w - 100) (by omega) (by omega)).imp ?_
            rintro ⟨r1, C⟩ ⟨q1, f, hz, q2⟩
            simp only at q1 q2
            subst q1
            subst q2
            exact ⟨rfl, h0, f, hz, rfl⟩
      · refine wq_ok srt_MringOf (fr := []) (cuts := []) (J := fun _ _ => False) ?_ 5 91 _ ?_
        · intro pc st h; exact h.elim
        · exact ⟨rfl, Or.inr ⟨hs, rfl, _, rfl, Or.inr (Or.inr (Or.inr (Or.inr (Or.inl ⟨by omega, by omega, rfl⟩))))⟩⟩
    · refine ⟨fun h0 => ?_, fun h0 => ?_⟩
      · refine ⟨fun h1 => ?_, fun h1 => ?_⟩
        · exact ⟨rfl, Or.inr ⟨hs, rfl, _, rfl, Or.inr (Or.inr (Or.inr (Or.inr (Or.inr ⟨k0, by omega, Or.inr ⟨fun f k => (by have := nthF_b k; omega), rfl⟩⟩))))⟩⟩
        · refine ⟨rM_0 (by omega) km0, ?_⟩
          refine (fences_ex hA (by omega) (by omega)).imp ?_
          rintro r rfl
          exact Or.inl (⟨rfl, h0, h1, rfl⟩)
      · refine ⟨oM_0 (by omega) km0 48 rfl, ?_⟩
        refine ⟨aM_31 (r := A 0 48) (by rw [c48]; omega) (by rw [c48]; exact kn31) (by omega) (by omega), ?_⟩
        have e1 : A (A 0 48) sl = A 31 sl := by rw [c48]
        refine ⟨⟨by omega, by omega⟩, ?_⟩
        refine ⟨fun h1 => ?_, fun h1 => ?_⟩
        · refine ⟨fun h2 => ?_, fun h2 => ?_⟩
          · exact ⟨rfl, Or.inr ⟨hs, rfl, _, rfl, Or.inr (Or.inr (Or.inr (Or.inr (Or.inr ⟨k0, by omega, Or.inr ⟨fun f k => (by have := nthF_b k; omega), rfl⟩⟩))))⟩⟩
          · refine ⟨rM_0 (by omega) km0, ?_⟩
            refine (fences_ex hA (by omega) (by omega)).imp ?_
            rintro r rfl
            exact Or.inr (Or.inl (⟨rfl, h0, h1, h2, rfl⟩))
        · refine ⟨⟨by omega, by omega⟩, ?_⟩
          refine ⟨rM_0 (by omega) km0, ?_⟩
          refine (mthirds_ex hA (by omega) (by omega)).imp ?_
          rintro r rfl
          exact Or.inr (Or.inr (⟨rfl, h0, h1, rfl⟩))
  refine Cl.of (Nat.le_of_ble_eq_true rfl) ?_
  refine wq_ok (full := o_X10_ringOf) srt_MringOf (fr := []) (cuts := [5]) (J := fun pc st => (pc = 5 ∧ ∃ x : Int, ((x = 1 ∧ (sl = 0 ∨ sl = 1)) ∨ (x = 0 ∧ ¬ (sl = 0 ∨ sl = 1))) ∧ st = ([(2, 0), (0, sl), (0, w)], [(0, x)], A))) ?_ 7 0 _ ?_
  · rintro pc st (⟨rfl, x, hx, rfl⟩)
    refine wq_ok srt_MringOf (fr := []) (cuts := [11]) (J := fun pc st => (pc = 11 ∧ (¬ x = 0) ∧ st = ([(2, 0), (0, sl), (0, w)], [(0, w)], A))) ?_ 7 5 _ ?_
    · rintro pc st (⟨rfl, h0, rfl⟩)
      have hs : sl = 0 ∨ sl = 1 := (by rcases hx with ⟨_, e⟩ | ⟨e, _⟩; exact e; omega)
      exact rsw (h36 hs) (h43 hs) (h49 hs) (h63 hs)
    · refine ⟨fun h0 => ?_, fun h0 => ?_⟩
      · exact ⟨rfl, h0, rfl⟩
      · exact ⟨rfl, Or.inl ⟨rfl, (by rcases hx with ⟨e, _⟩ | ⟨_, e⟩; omega; exact e)⟩⟩
  · refine ⟨rM_0 (by omega) km0, ?_⟩
    refine (MisSlot_ex).imp ?_
    rintro ⟨r1, C⟩ ⟨q1, x, q2, hx⟩
    simp only at q1 q2
    subst q1
    subst q2
    exact ⟨rfl, x, hx, rfl⟩
theorem srt_XringOf : pm_srt o_X9_ringOf = true := by decide +kernel
theorem xringOf_ex {A : pm_A} {n s w : Int} {F : Int → Int} (hA : gH wX A) (h : s = 0 ∨ s = 1 → rgX A (A (A 0 13) s) n F ∧ rgS n F) (w0 : r32 w) : Cl pmt (an_sh wX) 104 [(2, 0), (0, s), (0, w)] A (fun q => (q = (some (0, -1), A) ∧ ¬ (s = 0 ∨ s = 1)) ∨ ((s = 0 ∨ s = 1) ∧ tlP A n F w q)) := by
  have p0 := fX_0_13 hA (Int.le_refl 0) kk0
  have h7 : s = 0 ∨ s = 1 → Tm pmt (an_sh wX) o_X9_ringOf 7 ([(2, 0), (0, s), (0, w)], [], A) (fun q => (q = (some (0, -1), A) ∧ ¬ (s = 0 ∨ s = 1)) ∨ ((s = 0 ∨ s = 1) ∧ tlP A n F w q)) := fun hs => by
    have e0 := eX_34 hA p0.1 p0.2 (j := s) (by omega) (by omega)
    refine wq_ok srt_XringOf (fr := []) (cuts := [17]) (J := fun pc st => (pc = 17 ∧ ∃ z : Int, (rOf n F w z) ∧ st = ([(2, 0), (0, s), (0, w)], [(0, z)], A))) ?_ 10 7 _ ?_
    · rintro pc st (⟨rfl, z, hz, rfl⟩)
      refine wq_ok srt_XringOf (fr := []) (cuts := []) (J := fun _ _ => False) ?_ 6 17 _ ?_
      · intro pc st h; exact h.elim
      · exact ⟨rfl, Or.inr ⟨hs, rfl, z, rfl, hz⟩⟩
    · refine ⟨oX_0 (Int.le_refl 0) kk0 13 rfl, ?_⟩
      refine ⟨aX_34 (fX_0_13 hA (Int.le_refl 0) kk0).1 (fX_0_13 hA (Int.le_refl 0) kk0).2 (by omega) (by omega), ?_⟩
      refine ⟨rX_9 (eX_34 hA (fX_0_13 hA (Int.le_refl 0) kk0).1 (fX_0_13 hA (Int.le_refl 0) kk0).2 (j := s) (by omega) (by omega)).1 (eX_34 hA (fX_0_13 hA (Int.le_refl 0) kk0).1 (fX_0_13 hA (Int.le_refl 0) kk0).2 (j := s) (by omega) (by omega)).2, ?_⟩
      refine (xtell_ex e0.1 e0.2 (h hs).1 (h hs).2 w0).imp ?_
      rintro ⟨r1, C⟩ ⟨q1, z, q2, hz⟩
      simp only at q1 q2
      subst q1
      subst q2
      exact ⟨rfl, z, hz, rfl⟩
  refine Cl.of (Nat.le_of_ble_eq_true rfl) ?_
  refine wq_ok (full := o_X9_ringOf) srt_XringOf (fr := []) (cuts := [4]) (J := fun pc st => (pc = 4 ∧ ∃ x : Int, ((x = 1 ∧ (s = 0 ∨ s = 1)) ∨ (x = 0 ∧ ¬ (s = 0 ∨ s = 1))) ∧ st = ([(2, 0), (0, s), (0, w)], [(0, x)], A))) ?_ 6 0 _ ?_
  · rintro pc st (⟨rfl, x, hx, rfl⟩)
    refine wq_ok srt_XringOf (fr := []) (cuts := [7]) (J := fun pc st => (pc = 7 ∧ (¬ x = 0) ∧ st = ([(2, 0), (0, s), (0, w)], [], A))) ?_ 7 4 _ ?_
    · rintro pc st (⟨rfl, h0, rfl⟩)
      exact h7 (by rcases hx with ⟨_, e⟩ | ⟨e, _⟩; exact e; omega)
    · refine ⟨fun h0 => ?_, fun h0 => ?_⟩
      · exact ⟨rfl, Or.inl ⟨rfl, (by rcases hx with ⟨e, _⟩ | ⟨_, e⟩; omega; exact e)⟩⟩
      · exact ⟨rfl, h0, rfl⟩
  · refine ⟨rfl, ?_⟩
    refine (xa_isSlot).imp ?_
    rintro ⟨r1, C⟩ ⟨q1, x, q2, hx⟩
    simp only at q1 q2
    subst q1
    subst q2
    exact ⟨rfl, x, hx, rfl⟩
theorem rr_ringOf {AX AM : pm_A} {s w : Int} {q r : pm_R} (h : RR AX AM) (hq : (q = (some (0, -1), AX) ∧ ¬ (s = 0 ∨ s = 1)) ∨ ((s = 0 ∨ s = 1) ∧ tlP AX (AM 31 s) (fcs AM s) w q)) (hr : (r = (some (0, -1), AM) ∧ ¬ (s = 0 ∨ s = 1)) ∨ ((s = 0 ∨ s = 1) ∧ tlP AM (AM 31 s) (fcs AM s) w r)) : RR q.2 r.2 ∧ q.1 = r.1 := by
  rcases hq with ⟨rfl, no⟩ | ⟨hs, q1, z, q2, hz⟩
  · rcases hr with ⟨rfl, _⟩ | ⟨ok, _⟩
    · exact ⟨h, rfl⟩
    · exact absurd ok no
  · rcases hr with ⟨rfl, no⟩ | ⟨_, r1, y, r2, hy⟩
    · exact absurd hs no
    · rw [q1, r1, q2, r2, rOf_uniq hz hy]
      exact ⟨h, rfl⟩
