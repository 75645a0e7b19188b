/-! the class's ring: what its methods answer -/
theorem mul19 {a : Int} (a0 : 0 ≤ a) (a9 : a ≤ 9) : 0 ≤ a * (19 - a) ∧ a * (19 - a) ≤ 90 := by
  rcases (show a = 0 ∨ a = 1 ∨ a = 2 ∨ a = 3 ∨ a = 4 ∨ a = 5 ∨ a = 6 ∨ a = 7 ∨ a = 8 ∨ a = 9 by omega) with rfl | rfl | rfl | rfl | rfl | rfl | rfl | rfl | rfl | rfl <;> omega
theorem srt_Xbit : pm_srt o_X6_bit = true := by decide +kernel
theorem xb_22 {A : pm_A} {x y lo hi : Int} (l0 : 0 ≤ lo) (l9 : lo ≤ 9) (h0 : 0 ≤ hi) (h9 : hi ≤ 9) : Tm pmt (an_sh wX) o_X6_bit 22 ([(0, x), (0, y), (0, lo), (0, hi)], [], A) (fun r => r = (some (1, shl1 (bI lo hi)), A)) := by
  have m := mul19 l0 l9
  refine wq_ok srt_Xbit (fr := []) (cuts := []) (J := fun _ _ => False) ?_ 20 22 _ ?_
  · intro pc st h; exact h.elim
  · refine ⟨⟨by omega, by omega⟩, ?_⟩
    refine ⟨⟨by omega, by omega⟩, ?_⟩
    refine ⟨⟨by omega, by omega, by omega, by omega⟩, ?_⟩
    refine ⟨(show r32 (((lo * (19 - lo)) / 2) + hi : Int) from ⟨by omega, by omega⟩), ?_⟩
    refine ⟨(show r32 ((((lo * (19 - lo)) / 2) + hi) - lo : Int) from ⟨by omega, by omega⟩), ?_⟩
    refine ⟨(show r32 (((((lo * (19 - lo)) / 2) + hi) - lo) - 1 : Int) from ⟨by omega, by omega⟩), ?_⟩
    exact ⟨rfl, rfl⟩
theorem xbit_ex {A : pm_A} {a b : Int} (a0 : 0 ≤ a) (a9 : a ≤ 9) (b0 : 0 ≤ b) (b9 : b ≤ 9) : Cl pmt (an_sh wX) 51 [(0, a), (0, b)] A (fun r => r = (some (1, shl1 (bI (min a b) (max a b))), A)) := by
  refine Cl.of (Nat.le_of_ble_eq_true rfl) ?_
  refine wq_ok (full := o_X6_bit) srt_Xbit (fr := []) (cuts := [22]) (J := fun pc st => (pc = 22 ∧ (b ≤ a) ∧ (b ≤ a) ∧ st = ([(0, a), (0, b), (0, b), (0, a)], [], A)) ∨ (pc = 22 ∧ (b ≤ a) ∧ (a < b) ∧ st = ([(0, a), (0, b), (0, b), (0, b)], [], A)) ∨ (pc = 22 ∧ (a < b) ∧ (b ≤ a) ∧ st = ([(0, a), (0, b), (0, a), (0, a)], [], A)) ∨ (pc = 22 ∧ (a < b) ∧ (a < b) ∧ st = ([(0, a), (0, b), (0, a), (0, b)], [], A))) ?_ 17 0 _ ?_
  · rintro pc st (⟨rfl, h0, h1, rfl⟩ | ⟨rfl, h0, h1, rfl⟩ | ⟨rfl, h0, h1, rfl⟩ | ⟨rfl, h0, h1, rfl⟩)
    · have e1 : min a b = b := by omega
      have e2 : max a b = a := by omega
      rw [e1, e2]
      exact xb_22 (by omega) (by omega) (by omega) (by omega)
    · have e1 : min a b = b := by omega
      have e2 : max a b = b := by omega
      rw [e1, e2]
      exact xb_22 (by omega) (by omega) (by omega) (by omega)
    · have e1 : min a b = a := by omega
      have e2 : max a b = a := by omega
      rw [e1, e2]
      exact xb_22 (by omega) (by omega) (by omega) (by omega)
    · have e1 : min a b = a := by omega
      have e2 : max a b = b := by omega
      rw [e1, e2]
      exact xb_22 (by omega) (by omega) (by omega) (by omega)
  · refine ⟨fun h0 => ?_, fun h0 => ?_⟩
    · refine ⟨fun h1 => ?_, fun h1 => ?_⟩
      · exact Or.inl (⟨rfl, h0, h1, rfl⟩)
      · exact Or.inr (Or.inl (⟨rfl, h0, h1, rfl⟩))
    · refine ⟨fun h1 => ?_, fun h1 => ?_⟩
      · exact Or.inr (Or.inr (Or.inl (⟨rfl, h0, h1, rfl⟩)))
      · exact Or.inr (Or.inr (Or.inr (⟨rfl, h0, h1, rfl⟩)))
def inC (n a : Int) : Prop := 0 ≤ a ∧ a < n
theorem srt_XisCorner : pm_srt o_X6_isCorner = true := by decide +kernel
theorem xcorner_ex {A : pm_A} {r n a : Int} {F : Int → Int} (r0 : 0 ≤ r) (rk : wX.2 r = 9) (h : rgX A r n F) : Cl pmt (an_sh wX) 57 [(2, r), (0, a)] A (bp A (inC n a)) := by
  have e0 := h.1
  refine Cl.of (Nat.le_of_ble_eq_true rfl) ?_
  refine wq_ok (full := o_X6_isCorner) srt_XisCorner (fr := []) (cuts := []) (J := fun _ _ => False) ?_ 13 0 _ ?_
  · intro pc st h; exact h.elim
  · refine ⟨fun h0 => ?_, fun h0 => ?_⟩
    · exact ⟨rfl, rfl, 0, rfl, Or.inr ⟨rfl, fun hp => by unfold inC at hp; omega⟩⟩
    · refine ⟨oX_9 r0 rk 0 rfl, ?_⟩
      refine ⟨fun h1 => ?_, fun h1 => ?_⟩
      · exact ⟨rfl, rfl, 0, rfl, Or.inr ⟨rfl, fun hp => by unfold inC at hp; omega⟩⟩
      · exact ⟨rfl, rfl, 1, rfl, Or.inl ⟨rfl, by unfold inC; omega⟩⟩
theorem srt_Xngb : pm_srt o_X6_areNeighbours = true := by decide +kernel
theorem xngb_ex {A : pm_A} {r n a b : Int} {F : Int → Int} (r0 : 0 ≤ r) (rk : wX.2 r = 9) (h : rgX A r n F) (n0 : 4 ≤ n) (n1 : n ≤ 10) (a0 : 0 ≤ a) (a1 : a < n) (b0 : 0 ≤ b) (b1 : b < n) : Cl pmt (an_sh wX) 50 [(2, r), (0, a), (0, b)] A (bp A (neigh n a b)) := by
  have e0 := h.1
  refine Cl.of (Nat.le_of_ble_eq_true rfl) ?_
  refine wq_ok (full := o_X6_areNeighbours) srt_Xngb (fr := []) (cuts := []) (J := fun _ _ => False) ?_ 21 0 _ ?_
  · intro pc st h; exact h.elim
  · refine ⟨⟨by omega, by omega⟩, ?_⟩
    refine ⟨⟨by omega, by omega⟩, ?_⟩
    refine ⟨fun h0 => ?_, fun h0 => ?_⟩
    · exact ⟨rfl, rfl, 1, rfl, Or.inl ⟨rfl, by unfold neigh; omega⟩⟩
    · refine ⟨oX_9 r0 rk 0 rfl, ?_⟩
      refine ⟨⟨by omega, by omega⟩, ?_⟩
      refine ⟨fun h1 => ?_, fun h1 => ?_⟩
      · exact ⟨rfl, rfl, 0, rfl, Or.inr ⟨rfl, fun hp => by unfold neigh at hp; omega⟩⟩
      · exact ⟨rfl, rfl, 1, rfl, Or.inl ⟨rfl, by unfold neigh; omega⟩⟩
theorem srt_Xhas : pm_srt o_X6_has = true := by decide +kernel
def hsP (F : Int → Int) (a b : Int) : Prop := ¬ a = b ∧ F (fcd a b) = 1
theorem xhas_ex {A : pm_A} {r n a b : Int} {F : Int → Int} (r0 : 0 ≤ r) (rk : wX.2 r = 9) (h : rgX A r n F) (a0 : 0 ≤ a) (a9 : a ≤ 9) (b0 : 0 ≤ b) (b9 : b ≤ 9) : Cl pmt (an_sh wX) 55 [(2, r), (0, a), (0, b)] A (bp A (hsP F a b)) := by
  obtain ⟨e0, V, e1, hV⟩ := h
  have key : ¬ a = b → ((¬ pp_lb 3 (A r 1) (shl1 (bI (min a b) (max a b))) = 0) ↔ F (fcd a b) = 1) := fun hne => by
    rw [e1]
    exact rgV_has hV (by omega) (by omega) (by omega)
  refine Cl.of (Nat.le_of_ble_eq_true rfl) ?_
  refine wq_ok (full := o_X6_has) srt_Xhas (fr := []) (cuts := [14]) (J := fun pc st => (pc = 14 ∧ (¬ a = b) ∧ st = ([(2, r), (0, a), (0, b)], [(1, shl1 (bI (min a b) (max a b))), (1, A r 1)], A))) ?_ 12 0 _ ?_
  · rintro pc st (⟨rfl, h0, rfl⟩)
    have h0_ := h0
    clear h0
    refine wq_ok srt_Xhas (fr := []) (cuts := []) (J := fun _ _ => False) ?_ 11 14 _ ?_
    · intro pc st h; exact h.elim
    · refine ⟨fun h0 => ?_, fun h0 => ?_, fun h0 => ?_⟩
      · refine ⟨fun hh => absurd hh (by decide), fun _ => ?_⟩
        exact ⟨rfl, rfl, 1, rfl, Or.inl ⟨rfl, by exact ⟨h0_, (key h0_).mp (by first | exact Int.ne_of_gt h0 | exact Int.ne_of_lt h0)⟩⟩⟩
      · refine ⟨fun _ => ?_, fun hh => absurd hh (by decide)⟩
        exact ⟨rfl, rfl, 0, rfl, Or.inr ⟨rfl, fun hp => by exact (key h0_).mpr hp.2 h0⟩⟩
      · refine ⟨fun hh => absurd hh (by decide), fun _ => ?_⟩
        exact ⟨rfl, rfl, 1, rfl, Or.inl ⟨rfl, by exact ⟨h0_, (key h0_).mp (by first | exact Int.ne_of_gt h0 | exact Int.ne_of_lt h0)⟩⟩⟩
  · refine ⟨fun h0 => ?_, fun h0 => ?_⟩
    · exact ⟨rfl, rfl, 0, rfl, Or.inr ⟨rfl, fun hp => by exact hp.1 (by omega)⟩⟩
    · refine ⟨oX_9 r0 rk 1 rfl, ?_⟩
      refine ⟨rfl, ?_⟩
      refine (xbit_ex a0 a9 b0 b9).imp ?_
      rintro r rfl
      exact ⟨rfl, h0, rfl⟩
theorem srt_Xlinked : pm_srt o_X6_areLinked = true := by decide +kernel
theorem xlinked_ex {A : pm_A} {r n a b : Int} {F : Int → Int} (r0 : 0 ≤ r) (rk : wX.2 r = 9) (h : rgX A r n F) (hS : rgS n F) (a0 : 0 ≤ a) (a1 : a < n) (b0 : 0 ≤ b) (b1 : b < n) : Cl pmt (an_sh wX) 49 [(2, r), (0, a), (0, b)] A (bp A (side n F a b)) := by
  have hn := hS.1
  have hsd : side n F a b ↔ (neigh n a b ∨ hsP F a b) := by
    refine or_congr Iff.rfl ⟨fun e => ⟨fun eab => ?_, e⟩, fun e => e.2⟩
    have := (hS.2.2 _ (by omega) (by omega) e).1.1
    omega
  refine Cl.of (Nat.le_of_ble_eq_true rfl) ?_
  refine wq_ok (full := o_X6_areLinked) srt_Xlinked (fr := []) (cuts := [6]) (J := fun pc st => (pc = 6 ∧ ∃ x1 : Int, ((x1 = 1 ∧ neigh n a b) ∨ (x1 = 0 ∧ ¬ neigh n a b)) ∧ st = ([(2, r), (0, a), (0, b)], [(0, x1)], A))) ?_ 8 0 _ ?_
  · rintro pc st (⟨rfl, x1, hx1, rfl⟩)
    refine wq_ok srt_Xlinked (fr := []) (cuts := [15]) (J := fun pc st => (pc = 15 ∧ (x1 = 0) ∧ ∃ x2 : Int, ((x2 = 1 ∧ hsP F a b) ∨ (x2 = 0 ∧ ¬ hsP F a b)) ∧ st = ([(2, r), (0, a), (0, b)], [(0, x2)], A))) ?_ 9 6 _ ?_
    · rintro pc st (⟨rfl, h0, x2, hx2, rfl⟩)
      have hn1 : ¬ neigh n a b := (by rcases hx1 with ⟨e, _⟩ | ⟨_, e⟩; omega; exact e)
      refine wq_ok srt_Xlinked (fr := []) (cuts := []) (J := fun _ _ => False) ?_ 8 15 _ ?_
      · intro pc st h; exact h.elim
      · refine ⟨fun h0 => ?_, fun h0 => ?_⟩
        · exact ⟨rfl, rfl, 0, rfl, Or.inr ⟨rfl, fun hp => by exact (hsd.mp hp).elim hn1 (by rcases hx2 with ⟨e, _⟩ | ⟨_, e⟩; omega; exact e)⟩⟩
        · exact ⟨rfl, rfl, 1, rfl, Or.inl ⟨rfl, by exact hsd.mpr (Or.inr (by rcases hx2 with ⟨_, e⟩ | ⟨e, _⟩; exact e; omega))⟩⟩
    · refine ⟨fun h0 => ?_, fun h0 => ?_⟩
      · exact ⟨rfl, rfl, 1, rfl, Or.inl ⟨rfl, by exact hsd.mpr (Or.inl (by rcases hx1 with ⟨_, e⟩ | ⟨e, _⟩; exact e; omega))⟩⟩
      · refine ⟨rX_9 r0 rk, ?_⟩
        refine (xhas_ex r0 rk h a0 (by omega) b0 (by omega)).imp ?_
        rintro ⟨r1, C⟩ ⟨q1, x2, q2, hx2⟩
        simp only at q1 q2
        subst q1
        subst q2
        exact ⟨rfl, h0, x2, hx2, rfl⟩
  · refine ⟨rX_9 r0 rk, ?_⟩
    refine (xngb_ex r0 rk h hn.1 hn.2 a0 a1 b0 b1).imp ?_
    rintro ⟨r1, C⟩ ⟨q1, x1, q2, hx1⟩
    simp only at q1 q2
    subst q1
    subst q2
    exact ⟨rfl, x1, hx1, rfl⟩
theorem srt_Xcount : pm_srt o_X6_fenceCount = true := by decide +kernel
theorem xcount_ex {A : pm_A} {r n : Int} {F : Int → Int} (r0 : 0 ≤ r) (rk : wX.2 r = 9) (h : rgX A r n F) (hS : rgS n F) : Cl pmt (an_sh wX) 53 [(2, r)] A (fun q => q = (some (0, cntF F 100), A)) := by
  obtain ⟨e0, V, e1, hV⟩ := h
  rw [cnt_all hV hS]
  refine Cl.of (Nat.le_of_ble_eq_true rfl) ?_
  refine wq_ok (full := o_X6_fenceCount) srt_Xcount (fr := []) (cuts := [7]) (J := fun pc st => (pc = 7 ∧ st = ([(2, r)], [(0, (popS V 64 : Int))], A))) ?_ 7 0 _ ?_
  · rintro pc st (⟨rfl, rfl⟩)
    refine wq_ok srt_Xcount (fr := []) (cuts := []) (J := fun _ _ => False) ?_ 5 7 _ ?_
    · intro pc st h; exact h.elim
    · exact ⟨rfl, rfl⟩
  · refine ⟨oX_9 r0 rk 1 rfl, ?_⟩
    refine ⟨rfl, ?_⟩
    rw [e1]
    refine (bitCount_ex hV.1).imp ?_
    rintro r rfl
    exact ⟨rfl, rfl⟩
theorem srt_Xcut : pm_srt o_X6_isCut = true := by decide +kernel
theorem xcut_ex {A : pm_A} {r n : Int} {F : Int → Int} (r0 : 0 ≤ r) (rk : wX.2 r = 9) (h : rgX A r n F) (hS : rgS n F) : Cl pmt (an_sh wX) 59 [(2, r)] A (bp A (cntF F 100 = n - 3)) := by
  have e0 := h.1
  have hn := hS.1
  refine Cl.of (Nat.le_of_ble_eq_true rfl) ?_
  refine wq_ok (full := o_X6_isCut) srt_Xcut (fr := []) (cuts := [4]) (J := fun pc st => (pc = 4 ∧ st = ([(2, r)], [(0, cntF F 100)], A))) ?_ 6 0 _ ?_
  · rintro pc st (⟨rfl, rfl⟩)
    refine wq_ok srt_Xcut (fr := []) (cuts := []) (J := fun _ _ => False) ?_ 12 4 _ ?_
    · intro pc st h; exact h.elim
    · refine ⟨oX_9 r0 rk 0 rfl, ?_⟩
      refine ⟨⟨by omega, by omega⟩, ?_⟩
      refine ⟨fun h0 => ?_, fun h0 => ?_⟩
      · exact ⟨rfl, rfl, 0, rfl, Or.inr ⟨rfl, fun hp => by omega⟩⟩
      · exact ⟨rfl, rfl, 1, rfl, Or.inl ⟨rfl, by omega⟩⟩
  · refine ⟨rX_9 r0 rk, ?_⟩
    refine (xcount_ex r0 rk h hS).imp ?_
    rintro r rfl
    exact ⟨rfl, rfl⟩
