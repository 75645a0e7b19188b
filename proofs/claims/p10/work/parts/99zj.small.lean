/-! the small methods of the rings, exactly -/
def bp (A : pm_A) (P : Prop) (r : pm_R) : Prop := r.2 = A ∧ ∃ x : Int, r.1 = some (0, x) ∧ ((x = 1 ∧ P) ∨ (x = 0 ∧ ¬ P))
theorem srt_MisSlot : pm_srt o_X10_isSlot = true := by decide +kernel
theorem MisSlot_ex {A : pm_A} {s : Int} : Cl pmt (an_sh wM) 156 [(2, 0), (0, s)] A (bp A (s = 0 ∨ s = 1)) := by
  refine Cl.of (Nat.le_of_ble_eq_true rfl) ?_
  refine wq_ok (full := o_X10_isSlot) srt_MisSlot (fr := []) (cuts := []) (J := fun _ _ => False) ?_ 12 0 _ ?_
  · intro pc st h; exact h.elim
  · refine ⟨fun h0 => ?_, fun h0 => ?_⟩
    · exact ⟨rfl, rfl, 1, rfl, Or.inl ⟨rfl, by omega⟩⟩
    · refine ⟨fun h1 => ?_, fun h1 => ?_⟩
      · exact ⟨rfl, rfl, 0, rfl, Or.inr ⟨rfl, fun hp => by omega⟩⟩
      · exact ⟨rfl, rfl, 1, rfl, Or.inl ⟨rfl, by omega⟩⟩
theorem srt_MareNeighbours : pm_srt o_X10_areNeighbours = true := by decide +kernel
theorem MareNeighbours_ex {A : pm_A} {n x y : Int} (n0 : 4 ≤ n) (n1 : n ≤ 10) (x0 : 0 ≤ x) (x1 : x ≤ 9) (y0 : 0 ≤ y) (y1 : y ≤ 9) : Cl pmt (an_sh wM) 125 [(0, n), (0, x), (0, y)] A (bp A (neigh n x y)) := by
  refine Cl.of (Nat.le_of_ble_eq_true rfl) ?_
  refine wq_ok (full := o_X10_areNeighbours) srt_MareNeighbours (fr := []) (cuts := []) (J := fun _ _ => False) ?_ 31 0 _ ?_
  · intro pc st h; exact h.elim
  · refine ⟨⟨by omega, by omega⟩, ?_⟩
    refine ⟨fun h0 => ?_, fun h0 => ?_⟩
    · exact ⟨rfl, rfl, 1, rfl, Or.inl ⟨rfl, by unfold neigh; omega⟩⟩
    · refine ⟨⟨by omega, by omega⟩, ?_⟩
      refine ⟨fun h1 => ?_, fun h1 => ?_⟩
      · exact ⟨rfl, rfl, 1, rfl, Or.inl ⟨rfl, by unfold neigh; omega⟩⟩
      · refine ⟨fun h2 => ?_, fun h2 => ?_⟩
        · refine ⟨fun h3 => ?_, fun h3 => ?_⟩
          · exact ⟨rfl, rfl, 0, rfl, Or.inr ⟨rfl, fun hp => by unfold neigh at hp; omega⟩⟩
          · refine ⟨⟨by omega, by omega⟩, ?_⟩
            refine ⟨fun h4 => ?_, fun h4 => ?_⟩
            · exact ⟨rfl, rfl, 0, rfl, Or.inr ⟨rfl, fun hp => by unfold neigh at hp; omega⟩⟩
            · exact ⟨rfl, rfl, 1, rfl, Or.inl ⟨rfl, by unfold neigh; omega⟩⟩
        · refine ⟨⟨by omega, by omega⟩, ?_⟩
          refine ⟨fun h3 => ?_, fun h3 => ?_⟩
          · exact ⟨rfl, rfl, 1, rfl, Or.inl ⟨rfl, by unfold neigh; omega⟩⟩
          · refine ⟨fun h4 => ?_, fun h4 => ?_⟩
            · exact ⟨rfl, rfl, 0, rfl, Or.inr ⟨rfl, fun hp => by unfold neigh at hp; omega⟩⟩
            · refine ⟨⟨by omega, by omega⟩, ?_⟩
              refine ⟨fun h5 => ?_, fun h5 => ?_⟩
              · exact ⟨rfl, rfl, 0, rfl, Or.inr ⟨rfl, fun hp => by unfold neigh at hp; omega⟩⟩
              · exact ⟨rfl, rfl, 1, rfl, Or.inl ⟨rfl, by unfold neigh; omega⟩⟩
theorem srt_Mcross : pm_srt o_X10_cross = true := by decide +kernel
theorem Mcross_ex {A : pm_A} {a b c d : Int} : Cl pmt (an_sh wM) 136 [(0, a), (0, b), (0, c), (0, d)] A (bp A (crossd a b c d)) := by
  refine Cl.of (Nat.le_of_ble_eq_true rfl) ?_
  refine wq_ok (full := o_X10_cross) srt_Mcross (fr := []) (cuts := []) (J := fun _ _ => False) ?_ 25 0 _ ?_
  · intro pc st h; exact h.elim
  · refine ⟨fun h0 => ?_, fun h0 => ?_⟩
    · refine ⟨fun h1 => ?_, fun h1 => ?_⟩
      · exact ⟨rfl, rfl, 0, rfl, Or.inr ⟨rfl, fun hp => by unfold crossd at hp; omega⟩⟩
      · refine ⟨fun h2 => ?_, fun h2 => ?_⟩
        · exact ⟨rfl, rfl, 0, rfl, Or.inr ⟨rfl, fun hp => by unfold crossd at hp; omega⟩⟩
        · refine ⟨fun h3 => ?_, fun h3 => ?_⟩
          · exact ⟨rfl, rfl, 0, rfl, Or.inr ⟨rfl, fun hp => by unfold crossd at hp; omega⟩⟩
          · exact ⟨rfl, rfl, 1, rfl, Or.inl ⟨rfl, by unfold crossd; omega⟩⟩
    · refine ⟨fun h1 => ?_, fun h1 => ?_⟩
      · refine ⟨fun h2 => ?_, fun h2 => ?_⟩
        · exact ⟨rfl, rfl, 0, rfl, Or.inr ⟨rfl, fun hp => by unfold crossd at hp; omega⟩⟩
        · refine ⟨fun h3 => ?_, fun h3 => ?_⟩
          · exact ⟨rfl, rfl, 0, rfl, Or.inr ⟨rfl, fun hp => by unfold crossd at hp; omega⟩⟩
          · refine ⟨fun h4 => ?_, fun h4 => ?_⟩
            · exact ⟨rfl, rfl, 0, rfl, Or.inr ⟨rfl, fun hp => by unfold crossd at hp; omega⟩⟩
            · exact ⟨rfl, rfl, 1, rfl, Or.inl ⟨rfl, by unfold crossd; omega⟩⟩
      · refine ⟨fun h2 => ?_, fun h2 => ?_⟩
        · exact ⟨rfl, rfl, 1, rfl, Or.inl ⟨rfl, by unfold crossd; omega⟩⟩
        · refine ⟨fun h3 => ?_, fun h3 => ?_⟩
          · exact ⟨rfl, rfl, 0, rfl, Or.inr ⟨rfl, fun hp => by unfold crossd at hp; omega⟩⟩
          · refine ⟨fun h4 => ?_, fun h4 => ?_⟩
            · exact ⟨rfl, rfl, 0, rfl, Or.inr ⟨rfl, fun hp => by unfold crossd at hp; omega⟩⟩
            · refine ⟨fun h5 => ?_, fun h5 => ?_⟩
              · exact ⟨rfl, rfl, 0, rfl, Or.inr ⟨rfl, fun hp => by unfold crossd at hp; omega⟩⟩
              · exact ⟨rfl, rfl, 1, rfl, Or.inl ⟨rfl, by unfold crossd; omega⟩⟩
theorem srt_Mlesser : pm_srt o_X10_lesser = true := by decide +kernel
theorem lesser_ex {A : pm_A} {a b : Int} : Cl pmt (an_sh wM) 165 [(0, a), (0, b)] A (fun r => r = (some (0, min a b), A)) := by
  refine Cl.of (Nat.le_of_ble_eq_true rfl) ?_
  refine wq_ok (full := o_X10_lesser) srt_Mlesser (fr := []) (cuts := []) (J := fun _ _ => False) ?_ 10 0 _ ?_
  · intro pc st h; exact h.elim
  · refine ⟨fun h0 => ?_, fun h0 => ?_⟩
    · exact ⟨rfl, (by rw [show min a b = b by omega])⟩
    · exact ⟨rfl, (by rw [show min a b = a by omega])⟩
theorem srt_Mgreater : pm_srt o_X10_greater = true := by decide +kernel
theorem greater_ex {A : pm_A} {a b : Int} : Cl pmt (an_sh wM) 148 [(0, a), (0, b)] A (fun r => r = (some (0, max a b), A)) := by
  refine Cl.of (Nat.le_of_ble_eq_true rfl) ?_
  refine wq_ok (full := o_X10_greater) srt_Mgreater (fr := []) (cuts := []) (J := fun _ _ => False) ?_ 10 0 _ ?_
  · intro pc st h; exact h.elim
  · refine ⟨fun h0 => ?_, fun h0 => ?_⟩
    · exact ⟨rfl, (by rw [show max a b = b by omega])⟩
    · exact ⟨rfl, (by rw [show max a b = a by omega])⟩
theorem srt_Mnamed : pm_srt o_X10_named = true := by decide +kernel
theorem named_ex {A : pm_A} {f : Int} (f0 : 0 ≤ f) (f1 : f ≤ 99) : Cl pmt (an_sh wM) 167 [(0, f)] A (fun r => r.2 = A ∧ ∃ x, r.1 = some (0, x) ∧ 0 ≤ x ∧ x ≤ 999) := by
  refine Cl.of (Nat.le_of_ble_eq_true rfl) ?_
  refine wq_ok (full := o_X10_named) srt_Mnamed (fr := []) (cuts := []) (J := fun _ _ => False) ?_ 14 0 _ ?_
  · intro pc st h; exact h.elim
  · refine ⟨⟨by omega, by omega, by omega, by omega⟩, ?_⟩
    refine ⟨(show r32 (100 * (f / 10) : Int) from ⟨by omega, by omega⟩), ?_⟩
    refine ⟨⟨by omega, by omega, by omega, by omega⟩, ?_⟩
    refine ⟨(show r32 ((100 * (f / 10)) + (f % 10) : Int) from ⟨by omega, by omega⟩), ?_⟩
    exact ⟨rfl, rfl, 100 * (f / 10) + f % 10, rfl, by omega, by omega⟩
def cntF (F : Int → Int) : Nat → Int
  | 0 => 0
  | f + 1 => cntF F f + (if F f = 0 then 0 else 1)
theorem cntF_b (F : Int → Int) : ∀ n : Nat, 0 ≤ cntF F n ∧ cntF F n ≤ n
  | 0 => by show (0 : Int) ≤ 0 ∧ (0 : Int) ≤ ((0 : Nat) : Int); omega
  | n + 1 => by
    have := cntF_b F n
    rw [cntF]
    split <;> omega
theorem cntF_add (F : Int → Int) (n : Nat) : ∀ k : Nat, cntF F n ≤ cntF F (n + k)
  | 0 => Int.le_refl _
  | k + 1 => by
    have := cntF_add F n k
    rw [show n + (k + 1) = (n + k) + 1 by omega, cntF]
    split <;> omega
theorem cntF_mono (F : Int → Int) {n m : Nat} (h : n ≤ m) : cntF F n ≤ cntF F m := by
  have := cntF_add F n (m - n)
  rwa [show n + (m - n) = m by omega] at this
theorem cntF_lt (F : Int → Int) {n m : Nat} (h : n < m) (hn : ¬ F n = 0) : cntF F n < cntF F m := by
  have h1 := cntF_mono F (show n + 1 ≤ m by omega)
  rw [cntF, if_neg hn] at h1
  omega
theorem cntF_congr {F G : Int → Int} : ∀ n : Nat, (∀ f : Int, 0 ≤ f → f < n → F f = G f) → cntF F n = cntF G n
  | 0, _ => rfl
  | n + 1, h => by rw [cntF, cntF, cntF_congr n (fun f f0 f1 => h f f0 (by omega)), h n (by omega) (by omega)]
def fcs (A : pm_A) (sl : Int) : Int → Int := fun f => A 32 (100 * sl + f)
theorem fcs_b {A : pm_A} (hA : gH wM A) {sl f : Int} (s0 : 0 ≤ sl) (s1 : sl ≤ 1) (f0 : 0 ≤ f) (f1 : f < 100) : 0 ≤ fcs A sl f ∧ fcs A sl f ≤ 1 := eM_32 hA (r := 32) (by omega) kn32 (show 0 ≤ 100 * sl + f by omega) (by omega)
theorem srt_Mfences : pm_srt o_X10_fences = true := by decide +kernel
theorem fences_4 {A : pm_A} {sl : Int} (hA : gH wM A) (s0 : 0 ≤ sl) (s1 : sl ≤ 1) : ∀ (m : Nat) (i : Nat), 100 - i < m → i ≤ 100 → Tm pmt (an_sh wM) o_X10_fences 4 ([(2, 0), (0, sl), (0, cntF (fcs A sl) i), (0, (i : Int))], [], A) (fun r => r = (some (0, cntF (fcs A sl) 100), A)) := by
  have c49 := pM_49 hA
  intro m
  induction m with
  | zero => intro i h; omega
  | succ m ih =>
    intro i hm i1
    have hb := cntF_b (fcs A sl) i
    have st : cntF (fcs A sl) (i + 1) = cntF (fcs A sl) i + (if fcs A sl i = 0 then 0 else 1) := rfl
    refine wq_ok srt_Mfences (fr := []) (cuts := [4]) (J := fun pc st => (pc = 4 ∧ (((i : Int)) < 100) ∧ ((A (A 0 49) ((100 * sl) + ((i : Int)))) = 0) ∧ st = ([(2, 0), (0, sl), (0, cntF (fcs A sl) i), (0, ((i : Int)) + 1)], [], A)) ∨ (pc = 4 ∧ (((i : Int)) < 100) ∧ (¬ (A (A 0 49) ((100 * sl) + ((i : Int)))) = 0) ∧ st = ([(2, 0), (0, sl), (0, (cntF (fcs A sl) i) + 1), (0, ((i : Int)) + 1)], [], A))) ?_ 20 4 _ ?_
    · rintro pc st (⟨rfl, h0, h1, rfl⟩ | ⟨rfl, h0, h1, rfl⟩)
      · rw [c49] at h1
        have h1 : fcs A sl i = 0 := h1
        rw [if_pos h1] at st
        have e : cntF (fcs A sl) i = cntF (fcs A sl) (i + 1) := by omega
        rw [e, show (i : Int) + 1 = ((i + 1 : Nat) : Int) by omega]
        exact ih (i + 1) (by omega) (by omega)
      · rw [c49] at h1
        have h1 : ¬ fcs A sl i = 0 := h1
        rw [if_neg h1] at st
        have e : cntF (fcs A sl) i + 1 = cntF (fcs A sl) (i + 1) := by omega
        rw [e, show (i : Int) + 1 = ((i + 1 : Nat) : Int) by omega]
        exact ih (i + 1) (by omega) (by omega)
    · refine ⟨fun h0 => ?_, fun h0 => ?_⟩
      · exact ⟨rfl, (by rw [show i = 100 by omega])⟩
      · refine ⟨oM_0 (by omega) km0 49 rfl, ?_⟩
        refine ⟨⟨by omega, by omega⟩, ?_⟩
        refine ⟨⟨by omega, by omega⟩, ?_⟩
        refine ⟨aM_32 (r := A 0 49) (by rw [c49]; omega) (by rw [c49]; exact kn32) (by omega) (by omega), ?_⟩
        have e1 : A (A 0 49) ((100 * sl) + ((i : Int))) = A 32 ((100 * sl) + ((i : Int))) := by rw [c49]
        refine ⟨fun h1 => ?_, fun h1 => ?_⟩
        · refine ⟨⟨by omega, by omega⟩, ?_⟩
          exact Or.inl (⟨rfl, h0, h1, rfl⟩)
        · refine ⟨⟨by omega, by omega⟩, ?_⟩
          refine ⟨⟨by omega, by omega⟩, ?_⟩
          exact Or.inr (⟨rfl, h0, h1, rfl⟩)
theorem fences_ex {A : pm_A} {sl : Int} (hA : gH wM A) (s0 : 0 ≤ sl) (s1 : sl ≤ 1) : Cl pmt (an_sh wM) 140 [(2, 0), (0, sl)] A (fun r => r = (some (0, cntF (fcs A sl) 100), A)) := by
  refine Cl.of (Nat.le_of_ble_eq_true rfl) ?_
  refine wq_ok (full := o_X10_fences) srt_Mfences (fr := []) (cuts := [4]) (J := fun pc st => (pc = 4 ∧ st = ([(2, 0), (0, sl), (0, 0), (0, 0)], [], A))) ?_ 9 0 _ ?_
  · rintro pc st (⟨rfl, rfl⟩)
    exact fences_4 hA s0 s1 _ 0 (Nat.lt_succ_self _) (by omega)
  · exact ⟨rfl, rfl⟩
theorem srt_MisCutting : pm_srt o_X10_isCutting = true := by decide +kernel
theorem isCutting_ex {A : pm_A} {sl : Int} (hA : gH wM A) (s0 : 0 ≤ sl) (s1 : sl ≤ 1) : Cl pmt (an_sh wM) 154 [(2, 0), (0, sl)] A (bp A (cntF (fcs A sl) 100 = A 31 sl - 3)) := by
  have c48 := pM_48 hA
  have b31 := eM_31 hA (r := 31) (by omega) kn31 s0 (show sl < 2 by omega)
  refine Cl.of (Nat.le_of_ble_eq_true rfl) ?_
  refine wq_ok (full := o_X10_isCutting) srt_MisCutting (fr := []) (cuts := [5]) (J := fun pc st => (pc = 5 ∧ st = ([(2, 0), (0, sl)], [(0, cntF (fcs A sl) 100)], A))) ?_ 7 0 _ ?_
  · rintro pc st (⟨rfl, rfl⟩)
    refine wq_ok srt_MisCutting (fr := []) (cuts := []) (J := fun _ _ => False) ?_ 14 5 _ ?_
    · intro pc st h; exact h.elim
    · refine ⟨oM_0 (by omega) km0 48 rfl, ?_⟩
      refine ⟨aM_31 (r := A 0 48) (by rw [c48]; omega) (by rw [c48]; exact kn31) (by omega) (by omega), ?_⟩
      have e1 : A (A 0 48) sl = A 31 sl := by rw [c48]
      refine ⟨⟨by omega, by omega⟩, ?_⟩
      refine ⟨fun h0 => ?_, fun h0 => ?_⟩
      · exact ⟨rfl, rfl, 0, rfl, Or.inr ⟨rfl, by rw [c48] at h0; exact h0⟩⟩
      · exact ⟨rfl, rfl, 1, rfl, Or.inl ⟨rfl, by rw [c48] at h0; exact h0⟩⟩
  · refine ⟨rM_0 (by omega) km0, ?_⟩
    refine (fences_ex hA s0 s1).imp ?_
    rintro r rfl
    exact ⟨rfl, rfl⟩
def side (n : Int) (F : Int → Int) (x y : Int) : Prop := neigh n x y ∨ F (10 * min x y + max x y) = 1
theorem srt_MisSide : pm_srt o_X10_isSide = true := by decide +kernel
theorem isSide_ex {A : pm_A} {sl x y : Int} (hA : gH wM A) (s0 : 0 ≤ sl) (s1 : sl ≤ 1) (x0 : 0 ≤ x) (x1 : x ≤ 9) (y0 : 0 ≤ y) (y1 : y ≤ 9) : Cl pmt (an_sh wM) 155 [(2, 0), (0, sl), (0, x), (0, y)] A (bp A (side (A 31 sl) (fcs A sl) x y)) := by
  have c48 := pM_48 hA
  have c49 := pM_49 hA
  have b31 := eM_31 hA (r := 31) (by omega) kn31 s0 (show sl < 2 by omega)
  refine Cl.of (Nat.le_of_ble_eq_true rfl) ?_
  refine wq_ok (full := o_X10_isSide) srt_MisSide (fr := []) (cuts := [11]) (J := fun pc st => (pc = 11 ∧ ∃ z : Int, ((z = 1 ∧ neigh (A 31 sl) x y) ∨ (z = 0 ∧ ¬ neigh (A 31 sl) x y)) ∧ st = ([(2, 0), (0, sl), (0, x), (0, y)], [(0, z)], A))) ?_ 11 0 _ ?_
  · rintro pc st (⟨rfl, z, hz, rfl⟩)
    refine wq_ok srt_MisSide (fr := []) (cuts := [29]) (J := fun pc st => (pc = 29 ∧ (z = 0) ∧ st = ([(2, 0), (0, sl), (0, x), (0, y)], [(0, min x y), (0, 10), (0, 100 * sl), (2, A 0 49)], A))) ?_ 14 11 _ ?_
    · rintro pc st (⟨rfl, h0, rfl⟩)
      have hn : ¬ neigh (A 31 sl) x y := by
        rcases hz with ⟨e, _⟩ | ⟨_, e⟩
        · omega
        · exact e
      refine wq_ok srt_MisSide (fr := []) (cuts := [36]) (J := fun pc st => (pc = 36 ∧ st = ([(2, 0), (0, sl), (0, x), (0, y)], [(0, max x y), (0, (100 * sl) + (10 * (min x y))), (2, A 0 49)], A))) ?_ 9 29 _ ?_
      · rintro pc st (⟨rfl, rfl⟩)
        refine wq_ok srt_MisSide (fr := []) (cuts := []) (J := fun _ _ => False) ?_ 10 36 _ ?_
        · intro pc st h; exact h.elim
        · refine ⟨⟨by omega, by omega⟩, ?_⟩
          refine ⟨aM_32 (r := A 0 49) (by rw [c49]; omega) (by rw [c49]; exact kn32) (by omega) (by omega), ?_⟩
          have e1 : A (A 0 49) (((100 * sl) + (10 * (min x y))) + (max x y)) = A 32 (((100 * sl) + (10 * (min x y))) + (max x y)) := by rw [c49]
          refine ⟨fun h0 => ?_, fun h0 => ?_⟩
          · exact ⟨rfl, rfl, 0, rfl, Or.inr ⟨rfl, fun hp => hp.elim hn (fun hp => by unfold fcs at hp; rw [c49, show 100 * sl + 10 * min x y + max x y = 100 * sl + (10 * min x y + max x y) by omega] at h0; omega)⟩⟩
          · exact ⟨rfl, rfl, 1, rfl, Or.inl ⟨rfl, Or.inr (by unfold fcs; have b := eM_32 hA (r := 32) (by omega) kn32 (show 0 ≤ 100 * sl + (10 * min x y + max x y) by omega) (by omega); rw [c49, show 100 * sl + 10 * min x y + max x y = 100 * sl + (10 * min x y + max x y) by omega] at h0; omega)⟩⟩
      · refine ⟨⟨by omega, by omega⟩, ?_⟩
        refine ⟨⟨by omega, by omega⟩, ?_⟩
        refine ⟨rfl, ?_⟩
        refine (greater_ex).imp ?_
        rintro r rfl
        exact ⟨rfl, rfl⟩
    · refine ⟨fun h0 => ?_, fun h0 => ?_⟩
      · exact ⟨rfl, rfl, 1, rfl, Or.inl ⟨rfl, Or.inl (by rcases hz with ⟨_, e⟩ | ⟨e, _⟩; exact e; omega)⟩⟩
      · refine ⟨oM_0 (by omega) km0 49 rfl, ?_⟩
        refine ⟨⟨by omega, by omega⟩, ?_⟩
        refine ⟨rfl, ?_⟩
        refine (lesser_ex).imp ?_
        rintro r rfl
        exact ⟨rfl, h0, rfl⟩
  · refine ⟨oM_0 (by omega) km0 48 rfl, ?_⟩
    refine ⟨aM_31 (r := A 0 48) (by rw [c48]; omega) (by rw [c48]; exact kn31) (by omega) (by omega), ?_⟩
    have e1 : A (A 0 48) sl = A 31 sl := by rw [c48]
    refine ⟨rfl, ?_⟩
    rw [c48]
    refine (MareNeighbours_ex (n := A 31 sl) (x := x) (y := y) b31.1 b31.2 x0 x1 y0 y1).imp ?_
    rintro ⟨r1, C⟩ ⟨q1, z, q2, hz⟩
    simp only at q1 q2
    subst q1
    subst q2
    exact ⟨rfl, z, hz, rfl⟩
