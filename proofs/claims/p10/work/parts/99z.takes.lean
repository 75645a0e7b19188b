/-! areAlike, letterOf, takes, comes -/
theorem srt_areAlike : pm_srt o_X10_areAlike = true := by decide +kernel
def mal_post (A : pm_A) (a b : Int) (r : pm_R) : Prop := r.2 = A ∧ (r.1 = some (0, 0) ∨ (r.1 = some (0, 1) ∧ LSm A a = LSm A b))
theorem ala_v {A : pm_A} {a b t : Int} (hA : gH wM A) (ha : 0 ≤ a ∧ a ≤ 151) (hb : 0 ≤ b ∧ b ≤ 151) (ht : 0 ≤ t ∧ t ≤ 199) {z : pm_R → Prop} (H0 : z (some (0, 0), A)) (H : (∀ v : Int, 0 ≤ v → v < 12 → A 3 (12 * (200 * a + t) + v) = A 3 (12 * (200 * b + t) + v)) → ∀ w4, Tm pmt (an_sh wM) o_X10_areAlike 19 ([(2, 0), (0, a), (0, b), (0, t + 1), w4], [], A) z) : ∀ (m : Nat) (v : Int), (12 - v).toNat < m → 0 ≤ v → v ≤ 12 → (∀ i : Int, 0 ≤ i → i < v → A 3 (12 * (200 * a + t) + i) = A 3 (12 * (200 * b + t) + i)) → Tm pmt (an_sh wM) o_X10_areAlike 62 ([(2, 0), (0, a), (0, b), (0, t), (0, v)], [], A) z := by
  have c3 := pM_3 hA
  intro m
  induction m with
  | zero => intro v h; omega
  | succ m ih =>
    intro v hm v0 v1 hv
    refine wq_ok srt_areAlike (fr := []) (cuts := [19, 62]) (J := fun pc st => (pc = 19 ∧ (12 ≤ v) ∧ st = ([(2, 0), (0, a), (0, b), (0, t + 1), (0, v)], [], A)) ∨ (pc = 62 ∧ (v < 12) ∧ ((A (A 0 3) ((12 * ((200 * a) + t)) + v)) = (A (A 0 3) ((12 * ((200 * b) + t)) + v))) ∧ st = ([(2, 0), (0, a), (0, b), (0, t), (0, v + 1)], [], A))) ?_ 35 62 _ ?_
    · rintro pc st (⟨rfl, h0, rfl⟩ | ⟨rfl, h0, h1, rfl⟩)
      · exact H (fun i i0 i1 => hv i i0 (by omega)) _
      · rw [c3] at h1
        refine ih (v + 1) (by omega) (by omega) (by omega) (fun i i0 i1 => ?_)
        by_cases e : i = v
        · rw [e]; exact h1
        · exact hv i i0 (by omega)
    · refine ⟨fun h0 => ?_, fun h0 => ?_⟩
      · refine ⟨⟨by omega, by omega⟩, ?_⟩
        exact Or.inl (⟨rfl, h0, rfl⟩)
      · refine ⟨oM_0 (by omega) km0 3 rfl, ?_⟩
        refine ⟨⟨by omega, by omega⟩, ?_⟩
        refine ⟨⟨by omega, by omega⟩, ?_⟩
        refine ⟨⟨by omega, by omega⟩, ?_⟩
        refine ⟨⟨by omega, by omega⟩, ?_⟩
        refine ⟨aM_3 (r := A 0 3) (by rw [c3]; omega) (by rw [c3]; exact kn3) (by omega) (by omega), ?_⟩
        have e1 : A (A 0 3) ((12 * ((200 * a) + t)) + v) = A 3 ((12 * ((200 * a) + t)) + v) := by rw [c3]
        refine ⟨oM_0 (by omega) km0 3 rfl, ?_⟩
        refine ⟨⟨by omega, by omega⟩, ?_⟩
        refine ⟨⟨by omega, by omega⟩, ?_⟩
        refine ⟨⟨by omega, by omega⟩, ?_⟩
        refine ⟨⟨by omega, by omega⟩, ?_⟩
        refine ⟨aM_3 (r := A 0 3) (by rw [c3]; omega) (by rw [c3]; exact kn3) (by omega) (by omega), ?_⟩
        have e2 : A (A 0 3) ((12 * ((200 * b) + t)) + v) = A 3 ((12 * ((200 * b) + t)) + v) := by rw [c3]
        refine ⟨fun h1 => ?_, fun h1 => ?_⟩
        · refine ⟨⟨by omega, by omega⟩, ?_⟩
          exact Or.inr (⟨rfl, h0, h1, rfl⟩)
        · exact ⟨rfl, H0⟩
theorem ala_19 {A : pm_A} {a b : Int} (hA : gH wM A) (ha : 0 ≤ a ∧ a ≤ 151) (hb : 0 ≤ b ∧ b ≤ 151) (hm0 : A 1 a = A 1 b) : ∀ (m : Nat) (t : Int) (w4 : pm_V), (A 1 a - t).toNat < m → 0 ≤ t → t ≤ A 1 a → (∀ q v : Int, 0 ≤ q → q < t → 0 ≤ v → v < 12 → A 2 (200 * a + q) = A 2 (200 * b + q) ∧ A 3 (12 * (200 * a + q) + v) = A 3 (12 * (200 * b + q) + v)) → Tm pmt (an_sh wM) o_X10_areAlike 19 ([(2, 0), (0, a), (0, b), (0, t), w4], [], A) (mal_post A a b) := by
  have c1 := pM_1 hA
  have c2 := pM_2 hA
  have ma := eM_1 hA (r := 1) (by omega) kn1 ha.1 (show a < 152 by omega)
  intro m
  induction m with
  | zero => intro t w4 h; omega
  | succ m ih =>
    intro t w4 hm t0 t1 hq
    refine wq_ok srt_areAlike (fr := []) (cuts := [62]) (J := fun pc st => (pc = 62 ∧ (t < (A (A 0 1) a)) ∧ ((A (A 0 2) ((200 * a) + t)) = (A (A 0 2) ((200 * b) + t))) ∧ st = ([(2, 0), (0, a), (0, b), (0, t), (0, 0)], [], A))) ?_ 31 19 _ ?_
    · rintro pc st (⟨rfl, h0, h1, rfl⟩)
      rw [c1] at h0
      rw [c2] at h1
      refine ala_v hA ha hb ⟨t0, by omega⟩ ⟨rfl, Or.inl rfl⟩ (fun hv w4 => ih (t + 1) w4 (by omega) (by omega) (by omega) (fun q v q0 q1 v0 v1 => ?_)) _ 0 (Nat.lt_succ_self _) (by omega) (by omega) (fun i i0 i1 => by omega)
      by_cases e : q = t
      · rw [e]; exact ⟨h1, hv v v0 v1⟩
      · exact hq q v q0 (by omega) v0 v1
    · refine ⟨oM_0 (by omega) km0 1 rfl, ?_⟩
      refine ⟨aM_1 (r := A 0 1) (by rw [c1]; omega) (by rw [c1]; exact kn1) (by omega) (by omega), ?_⟩
      have e1 : A (A 0 1) a = A 1 a := by rw [c1]
      refine ⟨fun h0 => ?_, fun h0 => ?_⟩
      · exact ⟨rfl, rfl, Or.inr ⟨rfl, LSm_ext hm0 (fun q v q0 q1 v0 v1 => hq q v q0 (by rw [c1] at h0; omega) v0 v1)⟩⟩
      · refine ⟨oM_0 (by omega) km0 2 rfl, ?_⟩
        refine ⟨⟨by omega, by omega⟩, ?_⟩
        refine ⟨⟨by omega, by omega⟩, ?_⟩
        refine ⟨aM_2 (r := A 0 2) (by rw [c2]; omega) (by rw [c2]; exact kn2) (by omega) (by omega), ?_⟩
        have e2 : A (A 0 2) ((200 * a) + t) = A 2 ((200 * a) + t) := by rw [c2]
        refine ⟨oM_0 (by omega) km0 2 rfl, ?_⟩
        refine ⟨⟨by omega, by omega⟩, ?_⟩
        refine ⟨⟨by omega, by omega⟩, ?_⟩
        refine ⟨aM_2 (r := A 0 2) (by rw [c2]; omega) (by rw [c2]; exact kn2) (by omega) (by omega), ?_⟩
        have e3 : A (A 0 2) ((200 * b) + t) = A 2 ((200 * b) + t) := by rw [c2]
        refine ⟨fun h1 => ?_, fun h1 => ?_, fun h1 => ?_⟩
        · refine ⟨fun hh => absurd hh (by decide), fun _ => ?_⟩
          exact ⟨rfl, rfl, Or.inl rfl⟩
        · refine ⟨fun _ => ?_, fun hh => absurd hh (by decide)⟩
          exact ⟨rfl, h0, h1, rfl⟩
        · refine ⟨fun hh => absurd hh (by decide), fun _ => ?_⟩
          exact ⟨rfl, rfl, Or.inl rfl⟩
theorem areAlike_ex {A : pm_A} {a b : Int} (hA : gH wM A) (ha : 0 ≤ a ∧ a ≤ 151) (hb : 0 ≤ b ∧ b ≤ 151) : Cl pmt (an_sh wM) 124 [(2, 0), (0, a), (0, b)] A (mal_post A a b) := by
  have c1 := pM_1 hA
  have ma := eM_1 hA (r := 1) (by omega) kn1 ha.1 (show a < 152 by omega)
  refine Cl.of (Nat.le_of_ble_eq_true rfl) ?_
  refine wq_ok (full := o_X10_areAlike) srt_areAlike (fr := []) (cuts := [19]) (J := fun pc st => (pc = 19 ∧ ((A (A 0 1) a) = (A (A 0 1) b)) ∧ st = ([(2, 0), (0, a), (0, b), (0, 0), (9, 0)], [], A))) ?_ 16 0 _ ?_
  · rintro pc st (⟨rfl, h0, rfl⟩)
    rw [c1] at h0
    exact ala_19 hA ha hb h0 _ 0 _ (Nat.lt_succ_self _) (by omega) (by omega) (fun q v q0 q1 v0 v1 => by omega)
  · refine ⟨oM_0 (by omega) km0 1 rfl, ?_⟩
    refine ⟨aM_1 (r := A 0 1) (by rw [c1]; omega) (by rw [c1]; exact kn1) (by omega) (by omega), ?_⟩
    have e1 : A (A 0 1) a = A 1 a := by rw [c1]
    refine ⟨oM_0 (by omega) km0 1 rfl, ?_⟩
    refine ⟨aM_1 (r := A 0 1) (by rw [c1]; omega) (by rw [c1]; exact kn1) (by omega) (by omega), ?_⟩
    have e2 : A (A 0 1) b = A 1 b := by rw [c1]
    refine ⟨fun h0 => ?_, fun h0 => ?_⟩
    · exact ⟨rfl, h0, rfl⟩
    · exact ⟨rfl, rfl, Or.inl rfl⟩
theorem srt_letterOf : pm_srt o_X10_letterOf = true := by decide +kernel
def lo_post (A : pm_A) (s : Int) (r : pm_R) : Prop := ∃ l, r.1 = some (0, l) ∧ gH wM r.2 ∧ (∀ q j, ¬ inS (50 + A 0 26) q j → ¬ (q = 0 ∧ j = 26) → r.2 q j = A q j) ∧ (0 ≤ l ∧ l < r.2 0 26) ∧ (A 0 26 ≤ r.2 0 26 ∧ r.2 0 26 ≤ A 0 26 + 1) ∧ LSm r.2 (50 + l) = LSm A s
theorem lo_2 {A : pm_A} {s : Int} (hA : gH wM A) (hs : 0 ≤ s ∧ s ≤ 49) (hl : A 0 26 ≤ 100) : ∀ (m : Nat) (l : Int), (102 - l).toNat < m → 0 ≤ l → l ≤ A 0 26 → Tm pmt (an_sh wM) o_X10_letterOf 2 ([(2, 0), (0, s), (0, l)], [], A) (lo_post A s) := by
  have p26 := fM_0_26 hA (r := 0) (by omega) km0
  intro m
  induction m with
  | zero => intro l h; omega
  | succ m ih =>
    intro l hm l0 l1
    refine wq_ok srt_letterOf (fr := []) (cuts := [19, 42]) (J := fun pc st => (pc = 42 ∧ ∃ C, gH wM C ∧ (∀ q j, ¬ inS (50 + A 0 26) q j → C q j = A q j) ∧ LSm C (50 + A 0 26) = LSm A s ∧ st = ([(2, 0), (0, s), (0, l)], [], C)) ∨ (pc = 19 ∧ l < A 0 26 ∧ ∃ y, (y = 0 ∨ (y = 1 ∧ LSm A (50 + l) = LSm A s)) ∧ st = ([(2, 0), (0, s), (0, l)], [(0, y)], A))) ?_ 15 2 _ ?_
    · rintro pc st (⟨rfl, C, q2, q3, q4, rfl⟩ | ⟨rfl, hl2, y, hy, rfl⟩)
      · have e26 : C 0 26 = A 0 26 := q3 0 26 (by unfold inS; omega)
        have hfin : lo_post A s (some (0, pm_upd C 0 26 (C 0 26 + 1) 0 26 - 1), pm_upd C 0 26 (C 0 26 + 1)) := by
          have f : pm_upd C 0 26 (C 0 26 + 1) 0 26 = A 0 26 + 1 := by rw [upd_at, e26]
          have hLC : LSm (pm_upd C 0 26 (C 0 26 + 1)) (50 + A 0 26) = LSm A s := (LSm_ext (upd_o (by omega)) (fun q v q0 q1 v0 v1 => ⟨upd_o (by omega), upd_o (by omega)⟩)).trans q4
          refine ⟨A 0 26, ?_, uM_0_26 q2 (by omega) (by omega), fun q j h1 h2 => ?_, ⟨by omega, ?_⟩, ⟨?_, ?_⟩, hLC⟩
          · show some (0, pm_upd C 0 26 (C 0 26 + 1) 0 26 - 1) = some (0, A 0 26); rw [f]; congr 2; omega
          · show pm_upd C 0 26 (C 0 26 + 1) q j = A q j; rw [upd_o (fun e => h2 ⟨e.1, e.2⟩)]; exact q3 q j h1
          · show A 0 26 < pm_upd C 0 26 (C 0 26 + 1) 0 26; rw [f]; omega
          · show A 0 26 ≤ pm_upd C 0 26 (C 0 26 + 1) 0 26; rw [f]; omega
          · show pm_upd C 0 26 (C 0 26 + 1) 0 26 ≤ A 0 26 + 1; rw [f]; omega
        refine wq_ok srt_letterOf (fr := []) (cuts := []) (J := fun _ _ => False) ?_ 15 42 _ ?_
        · intro pc st h; exact h.elim
        · refine ⟨oM_0 (by omega) km0 26 rfl, ?_⟩
          refine ⟨⟨by omega, by omega⟩, ?_⟩
          refine ⟨oM_0 (by omega) km0 26 rfl, ?_⟩
          refine ⟨oM_0 (by omega) km0 26 rfl, ?_⟩
          refine ⟨(by show r32 (pm_upd C 0 26 (C 0 26 + 1) 0 26 - 1); rw [upd_at]; exact ⟨by omega, by omega⟩), ?_⟩
          exact ⟨rfl, hfin⟩
      · refine wq_ok srt_letterOf (fr := []) (cuts := [2]) (J := fun pc st => (pc = 2 ∧ (y = 0) ∧ st = ([(2, 0), (0, s), (0, l + 1)], [], A))) ?_ 8 19 _ ?_
        · rintro pc st (⟨rfl, h0, rfl⟩)
          exact ih (l + 1) (by omega) (by omega) (by omega)
        · refine ⟨fun h0 => ?_, fun h0 => ?_⟩
          · refine ⟨⟨by omega, by omega⟩, ?_⟩
            exact ⟨rfl, h0, rfl⟩
          · exact ⟨rfl, l, rfl, hA, fun _ _ _ _ => rfl, ⟨l0, hl2⟩, ⟨by show A 0 26 ≤ A 0 26; omega, by show A 0 26 ≤ A 0 26 + 1; omega⟩, by rcases hy with h | h; exact absurd h h0; exact h.2⟩
    · refine ⟨oM_0 (by omega) km0 26 rfl, ?_⟩
      refine ⟨fun h0 => ?_, fun h0 => ?_⟩
      · refine ⟨oM_0 (by omega) km0 26 rfl, ?_⟩
        refine ⟨⟨by omega, by omega⟩, ?_⟩
        refine ⟨rM_0 (by omega) km0, ?_⟩
        refine (copy_ex (to := 50 + A 0 26) (fr := s) hA (by omega) (by omega) (by omega) (by omega) (by omega)).imp ?_
        rintro ⟨r1, C⟩ ⟨q1, q2, q3, q4⟩
        simp only at q1 q2 q3 q4
        subst q1
        exact Or.inl (⟨rfl, C, q2, q3, q4, rfl⟩)
      · refine ⟨⟨by omega, by omega⟩, ?_⟩
        refine ⟨rM_0 (by omega) km0, ?_⟩
        refine (areAlike_ex (a := 50 + l) (b := s) hA (by omega) (by omega)).imp ?_
        rintro ⟨r1, C⟩ ⟨q1, q2⟩
        simp only at q1 q2
        subst q1
        rcases q2 with q2 | ⟨q2, q3⟩
        · subst q2
          exact Or.inr (⟨rfl, by omega, 0, Or.inl rfl, rfl⟩)
        · subst q2
          exact Or.inr (⟨rfl, by omega, 1, Or.inr ⟨rfl, q3⟩, rfl⟩)
theorem letterOf_ex {A : pm_A} {s : Int} (hA : gH wM A) (hs : 0 ≤ s ∧ s ≤ 49) (hl : A 0 26 ≤ 100) : Cl pmt (an_sh wM) 166 [(2, 0), (0, s)] A (lo_post A s) := by
  have p26 := fM_0_26 hA (r := 0) (by omega) km0
  refine Cl.of (Nat.le_of_ble_eq_true rfl) ?_
  refine wq_ok (full := o_X10_letterOf) srt_letterOf (fr := []) (cuts := [2]) (J := fun pc st => (pc = 2 ∧ st = ([(2, 0), (0, s), (0, 0)], [], A))) ?_ 7 0 _ ?_
  · rintro pc st (⟨rfl, rfl⟩)
    exact lo_2 hA hs hl _ 0 (Nat.lt_succ_self _) (by omega) (by omega)
  · exact ⟨rfl, rfl⟩
theorem srt_takes : pm_srt o_X10_takes = true := by decide +kernel
def tkI (A B : pm_A) (s i : Int) : Prop := gH wM B ∧ (∀ r j, (∀ t : Int, 0 ≤ t → t ≤ 5 → ¬ inS t r j) → B r j = A r j) ∧ ∀ t : Int, 0 ≤ t → t < i → LSm B t = LSm A (50 + A 17 (6 * s + t))
def tkJ (A B : pm_A) (s i : Int) : Prop := gH wM B ∧ (∀ r j, (∀ t : Int, 0 ≤ t → t ≤ 5 → ¬ inS t r j) → r ≠ 5 → B r j = A r j) ∧ (∀ t : Int, 0 ≤ t → t < A 0 7 → LSm B t = LSm A (50 + A 17 (6 * s + t))) ∧ ∀ j : Int, 0 ≤ j → j < i → B 5 j = A 18 (72 * s + j)
def mtk_post (A : pm_A) (s : Int) (r : pm_R) : Prop := r.1 = none ∧ tkJ A r.2 s 72
theorem tk_37 {A : pm_A} {s : Int} (s0 : 0 ≤ s) (s1 : s ≤ 149) (p7 : A 0 7 ≤ 6) : ∀ (m : Nat) (i : Int) (B : pm_A), (72 - i).toNat < m → 0 ≤ i → i ≤ 72 → tkJ A B s i → Tm pmt (an_sh wM) o_X10_takes 37 ([(2, 0), (0, s), (0, i)], [], B) (mtk_post A s) := by
  intro m
  induction m with
  | zero => intro i B h; omega
  | succ m ih =>
    intro i B hm i0 i1 hJ
    obtain ⟨g1, g2, g3, g4⟩ := hJ
    have c9 := pM_9 g1
    have c28 := pM_28 g1
    have e18 : B 18 (72 * s + i) = A 18 (72 * s + i) := g2 18 _ (fun t t0 t1 ht => by unfold inS at ht; omega) (by omega)
    refine wq_ok srt_takes (fr := []) (cuts := [37]) (J := fun pc st => (pc = 37 ∧ (i < 72) ∧ st = ([(2, 0), (0, s), (0, i + 1)], [], pm_upd B (B 0 9) i (B (B 0 28) ((72 * s) + i))))) ?_ 22 37 _ ?_
    · rintro pc st (⟨rfl, h0, rfl⟩)
      rw [c9, c28]
      have b := eM_18 g1 (r := 18) (by omega) kn18 (j := 72 * s + i) (by omega) (by omega)
      refine ih (i + 1) _ (by omega) (by omega) (by omega) ⟨uM_5 g1 kn5 b.1 b.2, fun r j hr h5 => by rw [upd_o (by omega)]; exact g2 r j hr h5, fun t t0 t1 => ?_, fun j j0 j1 => ?_⟩
      · exact (LSm_ext (upd_o (by omega)) (fun q v q0 q1 v0 v1 => ⟨upd_o (by omega), upd_o (by omega)⟩)).trans (g3 t t0 t1)
      · by_cases hj : j = i
        · rw [hj, upd_at]; exact e18
        · rw [upd_o (by omega)]; exact g4 j j0 (by omega)
    · refine ⟨fun h0 => ?_, fun h0 => ?_⟩
      · exact ⟨rfl, g1, g2, g3, fun j j0 j1 => g4 j j0 (by omega)⟩
      · refine ⟨oM_0 (by omega) km0 9 rfl, ?_⟩
        refine ⟨oM_0 (by omega) km0 28 rfl, ?_⟩
        refine ⟨⟨by omega, by omega⟩, ?_⟩
        refine ⟨⟨by omega, by omega⟩, ?_⟩
        refine ⟨aM_18 (r := B 0 28) (by rw [c28]; omega) (by rw [c28]; exact kn18) (by omega) (by omega), ?_⟩
        have e1 : B (B 0 28) ((72 * s) + i) = B 18 ((72 * s) + i) := by rw [c28]
        refine ⟨tM_5 (r := B 0 9) (by rw [c9]; omega) (by rw [c9]; exact kn5) (by omega) (by omega) rfl, ?_⟩
        refine ⟨⟨by omega, by omega⟩, ?_⟩
        exact ⟨rfl, h0, rfl⟩
theorem tk_2 {A : pm_A} {s : Int} (hA : gH wM A) (s0 : 0 ≤ s) (s1 : s ≤ 149) : ∀ (m : Nat) (i : Int) (B : pm_A), (6 - i).toNat < m → 0 ≤ i → i ≤ A 0 7 → tkI A B s i → Tm pmt (an_sh wM) o_X10_takes 2 ([(2, 0), (0, s), (0, i)], [], B) (mtk_post A s) := by
  have p7 := fM_0_7 hA (r := 0) (by omega) km0
  intro m
  induction m with
  | zero => intro i B h; omega
  | succ m ih =>
    intro i B hm i0 i1 hI
    obtain ⟨g1, g2, g3⟩ := hI
    have c27 := pM_27 g1
    have e7 : B 0 7 = A 0 7 := g2 0 7 (fun t t0 t1 ht => by unfold inS at ht; omega)
    have e17 : B 17 (6 * s + i) = A 17 (6 * s + i) := g2 17 _ (fun t t0 t1 ht => by unfold inS at ht; omega)
    have b17 : i < A 0 7 → 0 ≤ A 17 (6 * s + i) ∧ A 17 (6 * s + i) ≤ 100 := fun h => eM_17 hA (r := 17) (by omega) kn17 (by omega) (by omega)
    refine wq_ok srt_takes (fr := []) (cuts := [29, 37]) (J := fun pc st => (pc = 37 ∧ ((B 0 7) ≤ i) ∧ st = ([(2, 0), (0, s), (0, 0)], [], B)) ∨ (pc = 29 ∧ i < B 0 7 ∧ ∃ C, gH wM C ∧ (∀ q j, ¬ inS i q j → C q j = B q j) ∧ LSm C i = LSm B (50 + A 17 (6 * s + i)) ∧ st = ([(2, 0), (0, s), (0, i)], [], C))) ?_ 21 2 _ ?_
    · rintro pc st (⟨rfl, h0, rfl⟩ | ⟨rfl, h0, C, q2, q3, q4, rfl⟩)
      · exact tk_37 s0 s1 p7.2 _ 0 B (Nat.lt_succ_self _) (by omega) (by omega) ⟨g1, fun r j hr _ => g2 r j hr, fun t t0 t1 => g3 t t0 (by omega), fun j j0 j1 => by omega⟩
      · rw [e7] at h0
        refine wq_ok srt_takes (fr := []) (cuts := [2]) (J := fun pc st => (pc = 2 ∧ st = ([(2, 0), (0, s), (0, i + 1)], [], C))) ?_ 7 29 _ ?_
        · rintro pc st (⟨rfl, rfl⟩)
          have b := b17 h0
          refine ih (i + 1) C (by omega) (by omega) (by omega) ⟨q2, fun r j hr => by rw [q3 r j (hr i i0 (by omega))]; exact g2 r j hr, fun t t0 t1 => ?_⟩
          by_cases ht : t = i
          · have mf := eM_1 hA (r := 1) (by omega) kn1 (j := 50 + A 17 (6 * s + i)) (by omega) (by omega)
            rw [ht, q4]; exact LSm_same mf.2 (fun r j hr => g2 r j (fun t t0 t1 ht => by unfold inS at *; omega))
          · have mt := eM_1 g1 (r := 1) (by omega) kn1 (j := t) (by omega) (by omega)
            rw [LSm_same mt.2 (fun r j hr => q3 r j (by unfold inS at *; omega))]; exact g3 t t0 (by omega)
        · refine ⟨⟨by omega, by omega⟩, ?_⟩
          exact ⟨rfl, rfl⟩
    · refine ⟨oM_0 (by omega) km0 7 rfl, ?_⟩
      refine ⟨fun h0 => ?_, fun h0 => ?_⟩
      · exact Or.inl (⟨rfl, h0, rfl⟩)
      · refine ⟨oM_0 (by omega) km0 27 rfl, ?_⟩
        refine ⟨⟨by omega, by omega⟩, ?_⟩
        refine ⟨⟨by omega, by omega⟩, ?_⟩
        refine ⟨aM_17 (r := B 0 27) (by rw [c27]; omega) (by rw [c27]; exact kn17) (by omega) (by omega), ?_⟩
        have e1 : B (B 0 27) ((6 * s) + i) = B 17 ((6 * s) + i) := by rw [c27]
        refine ⟨(by have b := b17 (by omega); exact ⟨by omega, by omega⟩), ?_⟩
        refine ⟨rM_0 (by omega) km0, ?_⟩
        have b := b17 (by omega)
        have hst : 50 + B (B 0 27) ((6 * s) + i) = 50 + A 17 (6 * s + i) := by rw [c27, e17]
        show Cl pmt (an_sh wM) 134 [(2, 0), (0, i), (0, 50 + B (B 0 27) ((6 * s) + i))] B _
        rw [hst]
        refine (copy_ex (to := i) (fr := 50 + A 17 (6 * s + i)) g1 (by omega) (by omega) (by omega) (by omega) (by omega)).imp ?_
        rintro ⟨r1, C⟩ ⟨q1, q2, q3, q4⟩
        simp only at q1 q2 q3 q4
        subst q1
        exact Or.inr (⟨rfl, h0, C, q2, q3, q4, rfl⟩)
theorem takes_ex {A : pm_A} {s : Int} (hA : gH wM A) (s0 : 0 ≤ s) (s1 : s ≤ 149) : Cl pmt (an_sh wM) 190 [(2, 0), (0, s)] A (mtk_post A s) := by
  have p7 := fM_0_7 hA (r := 0) (by omega) km0
  refine Cl.of (Nat.le_of_ble_eq_true rfl) ?_
  refine wq_ok (full := o_X10_takes) srt_takes (fr := []) (cuts := [2]) (J := fun pc st => (pc = 2 ∧ st = ([(2, 0), (0, s), (0, 0)], [], A))) ?_ 7 0 _ ?_
  · rintro pc st (⟨rfl, rfl⟩)
    exact tk_2 hA s0 s1 _ 0 A (Nat.lt_succ_self _) (by omega) (by omega) ⟨hA, fun _ _ _ => rfl, fun t t0 t1 => by omega⟩
  · exact ⟨rfl, rfl⟩
