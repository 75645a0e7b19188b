/-- before and now, after k steps from corner i -/
def fzS (n : Int) (F : Int → Int) (i : Int) : Nat → Int × Int
  | 0 => (0, 1)
  | k + 1 => ((fzS n F i k).2, pp_lb 1 (pp_lb 2 (1 + cntF (tG F ((i + k + 1) % n)) 100) (fzS n F i k).2) (fzS n F i k).1)
theorem srt_Xfriezen : pm_srt o_X6_friezeNumber = true := by decide +kernel
theorem xfn_17 {A : pm_A} {r n i j : Int} {F : Int → Int} (r0 : 0 ≤ r) (rk : wX.2 r = 9) (h : rgX A r n F) (hS : rgS n F) (i0 : 0 ≤ i) (i1 : i < n) (ij : i ≤ j) (jn : j ≤ i + n) : ∀ (m : Nat) (k : Nat), (j - i).toNat - k < m → i + k ≤ j → ∀ (b c : Int), (b, c) = fzS n F i k → ∀ w8 : pm_V, Tm pmt (an_sh wX) o_X6_friezeNumber 17 ([(2, r), (0, i), (0, j), (1, b), (9, 0), (1, c), (9, 0), (0, i + k), w8, (9, 0)], [], A) (fun q => q = (some (1, (fzS n F i (j - i).toNat).1), A)) := by
  have e0 := h.1
  have hn := hS.1
  intro m
  induction m with
  | zero => intro k h; omega
  | succ m ih =>
    intro k hm k1 b c hbc w8
    have hm2 : 0 ≤ (i + k + 1) % n ∧ (i + k + 1) % n < n := ⟨Int.emod_nonneg _ (by omega), Int.emod_lt_of_pos _ (by omega)⟩
    have hb1 : (fzS n F i k).1 = b := by rw [← hbc]
    have hb2 : (fzS n F i k).2 = c := by rw [← hbc]
    have nx : (c, pp_lb 1 (pp_lb 2 (1 + cntF (tG F ((i + k + 1) % n)) 100) c) b) = fzS n F i (k + 1) := by
      show _ = ((fzS n F i k).2, pp_lb 1 (pp_lb 2 (1 + cntF (tG F ((i + k + 1) % n)) 100) (fzS n F i k).2) (fzS n F i k).1)
      rw [hb1, hb2]
    refine wq_ok srt_Xfriezen (fr := []) (cuts := [36]) (J := fun pc st => (pc = 36 ∧ ((i + k) < j) ∧ st = ([(2, r), (0, i), (0, j), (1, b), (9, 0), (1, c), (9, 0), (0, i + k), w8, (9, 0)], [(0, 1 + cntF (tG F ((i + k + 1) % n)) 100)], A))) ?_ 15 17 _ ?_
    · rintro pc st (⟨rfl, h0, rfl⟩)
      refine wq_ok srt_Xfriezen (fr := [39, 41]) (cuts := [17]) (J := fun pc st => (pc = 17 ∧ st = ([(2, r), (0, i), (0, j), (1, c), (9, 0), (1, pp_lb 1 (pp_lb 2 (1 + cntF (tG F ((i + k + 1) % n)) 100) c) b), (9, 0), (0, (i + k) + 1), (1, pp_lb 1 (pp_lb 2 (1 + cntF (tG F ((i + k + 1) % n)) 100) c) b), (9, 0)], [], A))) ?_ 17 36 _ ?_
      · rintro pc st (⟨rfl, rfl⟩)
        have := ih (k + 1) (by omega) (by omega) _ _ nx (1, pp_lb 1 (pp_lb 2 (1 + cntF (tG F ((i + k + 1) % n)) 100) c) b)
        rw [show i + ((k + 1 : Nat) : Int) = i + k + 1 by omega] at this
        exact this
      · refine ⟨⟨by omega, by omega⟩, ?_⟩
        exact ⟨rfl, rfl⟩
    · refine ⟨fun h0 => ?_, fun h0 => ?_⟩
      · exact ⟨rfl, by rw [show (j - i).toNat = k by omega, ← hbc]⟩
      · refine ⟨⟨by omega, by omega⟩, ?_⟩
        refine ⟨oX_9 r0 rk 0 rfl, ?_⟩
        refine ⟨⟨by omega, by omega, by omega, by omega⟩, ?_⟩
        refine ⟨rX_9 r0 rk, ?_⟩
        rw [e0]
        refine (xthirds_ex r0 rk h hS (c := (i + k + 1) % n) hm2.1 hm2.2).imp ?_
        rintro r rfl
        exact ⟨rfl, h0, rfl⟩
theorem xfriezen_ex {A : pm_A} {r n i j : Int} {F : Int → Int} (r0 : 0 ≤ r) (rk : wX.2 r = 9) (h : rgX A r n F) (hS : rgS n F) (i0 : 0 ≤ i) (i1 : i < n) (ij : i ≤ j) (jn : j ≤ i + n) : Cl pmt (an_sh wX) 54 [(2, r), (0, i), (0, j)] A (fun q => q = (some (1, (fzS n F i (j - i).toNat).1), A)) := by
  have e0 := h.1
  have hn := hS.1
  refine Cl.of (Nat.le_of_ble_eq_true rfl) ?_
  refine wq_ok (full := o_X6_friezeNumber) srt_Xfriezen (fr := []) (cuts := [17]) (J := fun pc st => (pc = 17 ∧ (¬ (A r 0) = 0) ∧ st = ([(2, r), (0, i), (0, j), (1, 0), (9, 0), (1, 1), (9, 0), (0, i), (9, 0), (9, 0)], [], A))) ?_ 14 0 _ ?_
  · rintro pc st (⟨rfl, h0, rfl⟩)
    have := xfn_17 r0 rk h hS i0 i1 ij jn _ 0 (Nat.lt_succ_self _) (by omega) 0 1 rfl (9, 0)
    rw [show i + ((0 : Nat) : Int) = i by omega] at this
    exact this
  · refine ⟨oX_9 r0 rk 0 rfl, ?_⟩
    refine ⟨fun h0 => ?_, fun h0 => ?_⟩
    · exact ⟨rfl, h0, rfl⟩
    · exact absurd h0 (by omega)
def okFz (s n : Int) (F : Int → Int) (i j : Int) : Prop := (s = 0 ∨ s = 1) ∧ cntF F 100 = n - 3 ∧ inC n i ∧ i ≤ j ∧ j ≤ i + n
def frP (A : pm_A) (s n : Int) (F : Int → Int) (i j : Int) (q : pm_R) : Prop := (q = (some (1, 0), A) ∧ ¬ okFz s n F i j) ∨ (okFz s n F i j ∧ q = (some (1, (fzS n F i (j - i).toNat).1), A))
theorem srt_Xfrieze : pm_srt o_X9_frieze = true := by decide +kernel
theorem xfrieze_ex {A : pm_A} {n s i j : Int} {F : Int → Int} (hA : gH wX A) (h : s = 0 ∨ s = 1 → rgX A (A (A 0 13) s) n F ∧ rgS n F) : Cl pmt (an_sh wX) 92 [(2, 0), (0, s), (0, i), (0, j)] A (frP A s n F i j) := by
  have p0 := fX_0_13 hA (Int.le_refl 0) kk0
  have h7 : s = 0 ∨ s = 1 → Tm pmt (an_sh wX) o_X9_frieze 7 ([(2, 0), (0, s), (0, i), (0, j)], [], A) (frP A s n F i j) := fun hs => by
    have e0 := eX_34 hA p0.1 p0.2 (j := s) (by omega) (by omega)
    have en : A (A (A 0 13) s) 0 = n := (h hs).1.1
    have hn := (h hs).2.1
    refine wq_ok srt_Xfrieze (fr := []) (cuts := [16]) (J := fun pc st => (pc = 16 ∧ ∃ z1 : Int, ((z1 = 1 ∧ cntF F 100 = n - 3) ∨ (z1 = 0 ∧ ¬ cntF F 100 = n - 3)) ∧ st = ([(2, 0), (0, s), (0, i), (0, j)], [(0, z1)], A))) ?_ 9 7 _ ?_
    · rintro pc st (⟨rfl, z1, hz1, rfl⟩)
      refine wq_ok srt_Xfrieze (fr := []) (cuts := [29]) (J := fun pc st => (pc = 29 ∧ (¬ z1 = 0) ∧ ∃ z2 : Int, ((z2 = 1 ∧ (0 ≤ i ∧ i < n)) ∨ (z2 = 0 ∧ ¬ (0 ≤ i ∧ i < n))) ∧ st = ([(2, 0), (0, s), (0, i), (0, j)], [(0, z2)], A))) ?_ 11 16 _ ?_
      · rintro pc st (⟨rfl, h0, z2, hz2, rfl⟩)
        have k1 : cntF F 100 = n - 3 := (by rcases hz1 with ⟨_, e⟩ | ⟨e, _⟩; exact e; omega)
        refine wq_ok srt_Xfrieze (fr := []) (cuts := [67]) (J := fun pc st => (pc = 67 ∧ (¬ z2 = 0) ∧ (i ≤ j) ∧ (j ≤ (i + (A (A (A 0 13) s) 0))) ∧ st = ([(2, 0), (0, s), (0, i), (0, j)], [(1, (fzS n F i (j - i).toNat).1)], A))) ?_ 24 29 _ ?_
        · rintro pc st (⟨rfl, h0, h1, h2, rfl⟩)
          have k2 : inC n i := (by rcases hz2 with ⟨_, e⟩ | ⟨e, _⟩; exact e; omega)
          refine wq_ok srt_Xfrieze (fr := []) (cuts := []) (J := fun _ _ => False) ?_ 5 67 _ ?_
          · intro pc st h; exact h.elim
          · exact ⟨rfl, Or.inr ⟨⟨hs, k1, k2, by omega, by omega⟩, rfl⟩⟩
        · refine ⟨fun h0 => ?_, fun h0 => ?_⟩
          · refine ⟨fun h1 => ?_, fun h1 => ?_⟩
            · exact ⟨rfl, Or.inl ⟨rfl, fun q => by have := q.2.2.2; omega⟩⟩
            · refine ⟨oX_0 (Int.le_refl 0) kk0 13 rfl, ?_⟩
              refine ⟨aX_34 (fX_0_13 hA (Int.le_refl 0) kk0).1 (fX_0_13 hA (Int.le_refl 0) kk0).2 (by omega) (by omega), ?_⟩
              refine ⟨oX_9 (eX_34 hA (fX_0_13 hA (Int.le_refl 0) kk0).1 (fX_0_13 hA (Int.le_refl 0) kk0).2 (j := s) (by omega) (by omega)).1 (eX_34 hA (fX_0_13 hA (Int.le_refl 0) kk0).1 (fX_0_13 hA (Int.le_refl 0) kk0).2 (j := s) (by omega) (by omega)).2 0 rfl, ?_⟩
              refine ⟨⟨by omega, by omega⟩, ?_⟩
              refine ⟨fun h2 => ?_, fun h2 => ?_⟩
              · refine ⟨oX_0 (Int.le_refl 0) kk0 13 rfl, ?_⟩
                refine ⟨aX_34 (fX_0_13 hA (Int.le_refl 0) kk0).1 (fX_0_13 hA (Int.le_refl 0) kk0).2 (by omega) (by omega), ?_⟩
                refine ⟨rX_9 (eX_34 hA (fX_0_13 hA (Int.le_refl 0) kk0).1 (fX_0_13 hA (Int.le_refl 0) kk0).2 (j := s) (by omega) (by omega)).1 (eX_34 hA (fX_0_13 hA (Int.le_refl 0) kk0).1 (fX_0_13 hA (Int.le_refl 0) kk0).2 (j := s) (by omega) (by omega)).2, ?_⟩
                have k2 : inC n i := (by rcases hz2 with ⟨_, e⟩ | ⟨e, _⟩; exact e; omega)
                refine (xfriezen_ex e0.1 e0.2 (h hs).1 (h hs).2 k2.1 k2.2 (by omega) (by omega)).imp ?_
                rintro r rfl
                exact ⟨rfl, h0, h1, h2, rfl⟩
              · exact ⟨rfl, Or.inl ⟨rfl, fun q => by have := q.2.2.2; omega⟩⟩
          · exact ⟨rfl, Or.inl ⟨rfl, fun q => absurd q.2.2.1 (by rcases hz2 with ⟨e, _⟩ | ⟨_, e⟩; omega; exact e)⟩⟩
      · refine ⟨fun h0 => ?_, fun h0 => ?_⟩
        · exact ⟨rfl, Or.inl ⟨rfl, fun q => absurd q.2.1 (by rcases hz1 with ⟨e, _⟩ | ⟨_, e⟩; omega; exact e)⟩⟩
        · refine ⟨oX_0 (Int.le_refl 0) kk0 13 rfl, ?_⟩
          refine ⟨aX_34 (fX_0_13 hA (Int.le_refl 0) kk0).1 (fX_0_13 hA (Int.le_refl 0) kk0).2 (by omega) (by omega), ?_⟩
          refine ⟨rX_9 (eX_34 hA (fX_0_13 hA (Int.le_refl 0) kk0).1 (fX_0_13 hA (Int.le_refl 0) kk0).2 (j := s) (by omega) (by omega)).1 (eX_34 hA (fX_0_13 hA (Int.le_refl 0) kk0).1 (fX_0_13 hA (Int.le_refl 0) kk0).2 (j := s) (by omega) (by omega)).2, ?_⟩
          refine (xcorner_ex e0.1 e0.2 (h hs).1 (a := i)).imp ?_
          rintro ⟨r1, C⟩ ⟨q1, z2, q2, hz2⟩
          simp only at q1 q2
          subst q1
          subst q2
          exact ⟨rfl, h0, z2, hz2, rfl⟩
    · refine ⟨oX_0 (Int.le_refl 0) kk0 13 rfl, ?_⟩
      refine ⟨aX_34 (fX_0_13 hA (Int.le_refl 0) kk0).1 (fX_0_13 hA (Int.le_refl 0) kk0).2 (by omega) (by omega), ?_⟩
      refine ⟨rX_9 (eX_34 hA (fX_0_13 hA (Int.le_refl 0) kk0).1 (fX_0_13 hA (Int.le_refl 0) kk0).2 (j := s) (by omega) (by omega)).1 (eX_34 hA (fX_0_13 hA (Int.le_refl 0) kk0).1 (fX_0_13 hA (Int.le_refl 0) kk0).2 (j := s) (by omega) (by omega)).2, ?_⟩
      refine (xcut_ex e0.1 e0.2 (h hs).1 (h hs).2).imp ?_
      rintro ⟨r1, C⟩ ⟨q1, z1, q2, hz1⟩
      simp only at q1 q2
      subst q1
      subst q2
      exact ⟨rfl, z1, hz1, rfl⟩
  refine Cl.of (Nat.le_of_ble_eq_true rfl) ?_
  refine wq_ok (full := o_X9_frieze) srt_Xfrieze (fr := []) (cuts := [4]) (J := fun pc st => (pc = 4 ∧ ∃ x : Int, ((x = 1 ∧ (s = 0 ∨ s = 1)) ∨ (x = 0 ∧ ¬ (s = 0 ∨ s = 1))) ∧ st = ([(2, 0), (0, s), (0, i), (0, j)], [(0, x)], A))) ?_ 6 0 _ ?_
  · rintro pc st (⟨rfl, x, hx, rfl⟩)
    refine wq_ok srt_Xfrieze (fr := []) (cuts := [7]) (J := fun pc st => (pc = 7 ∧ (¬ x = 0) ∧ st = ([(2, 0), (0, s), (0, i), (0, j)], [], A))) ?_ 7 4 _ ?_
    · rintro pc st (⟨rfl, h0, rfl⟩)
      exact h7 (by rcases hx with ⟨_, e⟩ | ⟨e, _⟩; exact e; omega)
    · refine ⟨fun h0 => ?_, fun h0 => ?_⟩
      · exact ⟨rfl, Or.inl ⟨rfl, fun q => absurd q.1 (by rcases hx with ⟨e, _⟩ | ⟨_, e⟩; omega; exact e)⟩⟩
      · exact ⟨rfl, h0, rfl⟩
  · refine ⟨rfl, ?_⟩
    refine (xa_isSlot).imp ?_
    rintro ⟨r1, C⟩ ⟨q1, x, q2, hx⟩
    simp only at q1 q2
    subst q1
    subst q2
    exact ⟨rfl, x, hx, rfl⟩
theorem srt_Mfrieze : pm_srt o_X10_frieze = true := by decide +kernel
theorem mfz_67 {A : pm_A} {sl i j : Int} (hA : gH wM A) (hs : sl = 0 ∨ sl = 1) (ho : okFz sl (A 31 sl) (fcs A sl) i j) : ∀ (m : Nat) (k : Nat), (j - i).toNat - k < m → i + k + 1 ≤ j → ∀ (b c : Int), (b, c) = fzS (A 31 sl) (fcs A sl) i k → ∀ w9 : pm_V, Tm pmt (an_sh wM) o_X10_frieze 67 ([(2, 0), (0, sl), (0, i), (0, j), (1, b), (9, 0), (1, c), (9, 0), (0, i + k + 1), w9, (9, 0)], [], A) (frP A sl (A 31 sl) (fcs A sl) i j) := by
  have c48 := pM_48 hA
  have b31 := eM_31 hA (r := 31) (by omega) kn31 (j := sl) (by omega) (by omega)
  have ho2 := ho.2.2
  unfold inC at ho2
  intro m
  induction m with
  | zero => intro k h; omega
  | succ m ih =>
    intro k hm k1 b c hbc w9
    have hb1 : (fzS (A 31 sl) (fcs A sl) i k).1 = b := by rw [← hbc]
    have hb2 : (fzS (A 31 sl) (fcs A sl) i k).2 = c := by rw [← hbc]
    have nx : (c, pp_lb 1 (pp_lb 2 (1 + cntF (tG (fcs A sl) ((i + k + 1) % A 31 sl)) 100) c) b) = fzS (A 31 sl) (fcs A sl) i (k + 1) := by
      show _ = ((fzS (A 31 sl) (fcs A sl) i k).2, pp_lb 1 (pp_lb 2 (1 + cntF (tG (fcs A sl) ((i + k + 1) % A 31 sl)) 100) (fzS (A 31 sl) (fcs A sl) i k).2) (fzS (A 31 sl) (fcs A sl) i k).1)
      rw [hb1, hb2]
    have fin : j ≤ i + k + 1 → c = (fzS (A 31 sl) (fcs A sl) i (j - i).toNat).1 := fun e => by
      rw [show (j - i).toNat = k + 1 by omega, ← nx]
    refine wq_ok srt_Mfrieze (fr := []) (cuts := [87]) (J := fun pc st => (pc = 87 ∧ ((i + k + 1) < j) ∧ st = ([(2, 0), (0, sl), (0, i), (0, j), (1, b), (9, 0), (1, c), (9, 0), (0, i + k + 1), w9, (9, 0)], [(0, 1 + cntF (tG (fcs A sl) ((i + k + 1) % A 31 sl)) 100)], A))) ?_ 16 67 _ ?_
    · rintro pc st (⟨rfl, h0, rfl⟩)
      refine wq_ok srt_Mfrieze (fr := [90, 93]) (cuts := [67]) (J := fun pc st => (pc = 67 ∧ st = ([(2, 0), (0, sl), (0, i), (0, j), (1, c), (9, 0), (1, pp_lb 1 (pp_lb 2 (1 + cntF (tG (fcs A sl) ((i + k + 1) % A 31 sl)) 100) c) b), (9, 0), (0, (i + k + 1) + 1), (1, pp_lb 1 (pp_lb 2 (1 + cntF (tG (fcs A sl) ((i + k + 1) % A 31 sl)) 100) c) b), (9, 0)], [], A))) ?_ 17 87 _ ?_
      · rintro pc st (⟨rfl, rfl⟩)
        have := ih (k + 1) (by omega) (by omega) _ _ nx (1, pp_lb 1 (pp_lb 2 (1 + cntF (tG (fcs A sl) ((i + k + 1) % A 31 sl)) 100) c) b)
        rw [show i + ((k + 1 : Nat) : Int) = i + k + 1 by omega] at this
        exact this
      · refine ⟨⟨by omega, by omega⟩, ?_⟩
        exact ⟨rfl, rfl⟩
    · refine ⟨fun h0 => ?_, fun h0 => ?_⟩
      · exact ⟨rfl, Or.inr ⟨ho, by rw [fin (by omega)]⟩⟩
      · refine ⟨oM_0 (by omega) km0 48 rfl, ?_⟩
        refine ⟨aM_31 (r := A 0 48) (by rw [c48]; omega) (by rw [c48]; exact kn31) (by omega) (by omega), ?_⟩
        have e1 : A (A 0 48) sl = A 31 sl := by rw [c48]
        refine ⟨⟨by omega, by omega, by omega, by omega⟩, ?_⟩
        refine ⟨rM_0 (by omega) km0, ?_⟩
        rw [c48]
        refine (mthirds_ex hA (by omega) (by omega)).imp ?_
        rintro r rfl
        exact ⟨rfl, h0, rfl⟩
theorem mfrieze_ex {A : pm_A} {sl i j : Int} (hA : gH wM A) : Cl pmt (an_sh wM) 145 [(2, 0), (0, sl), (0, i), (0, j)] A (frP A sl (A 31 sl) (fcs A sl) i j) := by
  have c48 := pM_48 hA
  have e48 : A (A 0 48) sl = A 31 sl := by rw [c48]
  have b31 : sl = 0 ∨ sl = 1 → 4 ≤ A 31 sl ∧ A 31 sl ≤ 10 := fun hs => eM_31 hA (r := 31) (by omega) kn31 (j := sl) (by omega) (by omega)
  have h49 : okFz sl (A 31 sl) (fcs A sl) i j → Tm pmt (an_sh wM) o_X10_frieze 49 ([(2, 0), (0, sl), (0, i), (0, j), (9, 0), (9, 0), (9, 0), (9, 0), (9, 0), (9, 0), (9, 0)], [], A) (frP A sl (A 31 sl) (fcs A sl) i j) := fun ho => by
    have ho2 := ho.2.2
    unfold inC at ho2
    have b31 := b31 ho.1
    refine wq_ok srt_Mfrieze (fr := []) (cuts := [67]) (J := fun pc st => (pc = 67 ∧ (¬ j = i) ∧ st = ([(2, 0), (0, sl), (0, i), (0, j), (1, 0), (9, 0), (1, 1), (9, 0), (0, i + 1), (9, 0), (9, 0)], [], A))) ?_ 16 49 _ ?_
    · rintro pc st (⟨rfl, h0, rfl⟩)
      have := mfz_67 hA ho.1 ho _ 0 (Nat.lt_succ_self _) (by omega) 0 1 rfl (9, 0)
      rw [show i + ((0 : Nat) : Int) + 1 = i + 1 by omega] at this
      exact this
    · refine ⟨fun h0 => ?_, fun h0 => ?_⟩
      · refine ⟨⟨by omega, by omega⟩, ?_⟩
        exact ⟨rfl, h0, rfl⟩
      · exact ⟨rfl, Or.inr ⟨ho, by rw [show (j - i).toNat = 0 by omega]; rfl⟩⟩
  refine Cl.of (Nat.le_of_ble_eq_true rfl) ?_
  refine wq_ok (full := o_X10_frieze) srt_Mfrieze (fr := []) (cuts := [5]) (J := fun pc st => (pc = 5 ∧ ∃ x : Int, ((x = 1 ∧ (sl = 0 ∨ sl = 1)) ∨ (x = 0 ∧ ¬ (sl = 0 ∨ sl = 1))) ∧ st = ([(2, 0), (0, sl), (0, i), (0, j), (9, 0), (9, 0), (9, 0), (9, 0), (9, 0), (9, 0), (9, 0)], [(0, x)], A))) ?_ 7 0 _ ?_
  · rintro pc st (⟨rfl, x, hx, rfl⟩)
    refine wq_ok srt_Mfrieze (fr := []) (cuts := [13]) (J := fun pc st => (pc = 13 ∧ (¬ x = 0) ∧ ∃ y : Int, ((y = 1 ∧ cntF (fcs A sl) 100 = A 31 sl - 3) ∨ (y = 0 ∧ ¬ cntF (fcs A sl) 100 = A 31 sl - 3)) ∧ st = ([(2, 0), (0, sl), (0, i), (0, j), (9, 0), (9, 0), (9, 0), (9, 0), (9, 0), (9, 0), (9, 0)], [(0, y)], A))) ?_ 8 5 _ ?_
    · rintro pc st (⟨rfl, h0, y, hy, rfl⟩)
      have hs : sl = 0 ∨ sl = 1 := (by rcases hx with ⟨_, e⟩ | ⟨e, _⟩; exact e; omega)
      have b31 := b31 hs
      clear h0
      refine wq_ok srt_Mfrieze (fr := []) (cuts := [49]) (J := fun pc st => (pc = 49 ∧ (¬ y = 0) ∧ (0 ≤ i) ∧ (i < (A (A 0 48) sl)) ∧ (i ≤ j) ∧ (j ≤ (i + (A (A 0 48) sl))) ∧ st = ([(2, 0), (0, sl), (0, i), (0, j), (9, 0), (9, 0), (9, 0), (9, 0), (9, 0), (9, 0), (9, 0)], [], A))) ?_ 26 13 _ ?_
      · rintro pc st (⟨rfl, h0, h1, h2, h3, h4, rfl⟩)
        exact h49 ⟨hs, (by rcases hy with ⟨_, e⟩ | ⟨e, _⟩; exact e; omega), ⟨by omega, by omega⟩, by omega, by omega⟩
      · refine ⟨fun h0 => ?_, fun h0 => ?_⟩
        · exact ⟨rfl, Or.inl ⟨rfl, fun q => absurd q.2.1 (by rcases hy with ⟨e, _⟩ | ⟨_, e⟩; omega; exact e)⟩⟩
        · refine ⟨fun h1 => ?_, fun h1 => ?_⟩
          · exact ⟨rfl, Or.inl ⟨rfl, fun q => by have := q.2.2; unfold inC at this; omega⟩⟩
          · refine ⟨oM_0 (by omega) km0 48 rfl, ?_⟩
            refine ⟨aM_31 (r := A 0 48) (by rw [c48]; omega) (by rw [c48]; exact kn31) (by omega) (by omega), ?_⟩
            have e1 : A (A 0 48) sl = A 31 sl := by rw [c48]
            refine ⟨fun h2 => ?_, fun h2 => ?_⟩
            · exact ⟨rfl, Or.inl ⟨rfl, fun q => by have := q.2.2; unfold inC at this; omega⟩⟩
            · refine ⟨fun h3 => ?_, fun h3 => ?_⟩
              · exact ⟨rfl, Or.inl ⟨rfl, fun q => by have := q.2.2; unfold inC at this; omega⟩⟩
              · refine ⟨oM_0 (by omega) km0 48 rfl, ?_⟩
                refine ⟨aM_31 (r := A 0 48) (by rw [c48]; omega) (by rw [c48]; exact kn31) (by omega) (by omega), ?_⟩
                have e2 : A (A 0 48) sl = A 31 sl := by rw [c48]
                refine ⟨⟨by omega, by omega⟩, ?_⟩
                refine ⟨fun h4 => ?_, fun h4 => ?_⟩
                · exact ⟨rfl, h0, h1, h2, h3, h4, rfl⟩
                · exact ⟨rfl, Or.inl ⟨rfl, fun q => by have := q.2.2; unfold inC at this; omega⟩⟩
    · refine ⟨fun h0 => ?_, fun h0 => ?_⟩
      · exact ⟨rfl, Or.inl ⟨rfl, fun q => absurd q.1 (by rcases hx with ⟨e, _⟩ | ⟨_, e⟩; omega; exact e)⟩⟩
      · refine ⟨rM_0 (by omega) km0, ?_⟩
        refine (isCutting_ex hA (by have := hx; omega) (by have := hx; omega)).imp ?_
        rintro ⟨r1, C⟩ ⟨q1, y, q2, hy⟩
        simp only at q1 q2
        subst q1
        subst q2
        exact ⟨rfl, h0, y, hy, rfl⟩
  · refine ⟨rM_0 (by omega) km0, ?_⟩
    refine (MisSlot_ex).imp ?_
    rintro ⟨r1, C⟩ ⟨q1, x, q2, hx⟩
    simp only at q1 q2
    subst q1
    subst q2
    exact ⟨rfl, x, hx, rfl⟩
theorem rr_frieze {AX AM : pm_A} {s i j : Int} {q r : pm_R} (h : RR AX AM) (hq : frP AX s (AM 31 s) (fcs AM s) i j q) (hr : frP AM s (AM 31 s) (fcs AM s) i j r) : RR q.2 r.2 ∧ q.1 = r.1 := by
  rcases hq with ⟨rfl, no⟩ | ⟨ok, rfl⟩
  · rcases hr with ⟨rfl, _⟩ | ⟨ok, _⟩
    · exact ⟨h, rfl⟩
    · exact absurd ok no
  · rcases hr with ⟨rfl, no⟩ | ⟨_, rfl⟩
    · exact absurd ok no
    · exact ⟨h, rfl⟩
