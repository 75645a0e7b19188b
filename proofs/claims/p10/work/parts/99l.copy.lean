/-! copy, one, heldSlot -/
theorem upd_o {A : pm_A} {k i v k2 j : Int} (h : ¬ (k2 = k ∧ j = i)) : pm_upd A k i v k2 j = A k2 j := by unfold pm_upd; rw [if_neg h]
def inS (t r j : Int) : Prop := (r = 1 ∧ j = t) ∨ (r = 2 ∧ 200 * t ≤ j ∧ j < 200 * t + 200) ∨ (r = 3 ∧ 2400 * t ≤ j ∧ j < 2400 * t + 2400)
theorem LSm_ext {A B : pm_A} {p p' : Int} (h1 : B 1 p' = A 1 p) (h2 : ∀ q v : Int, 0 ≤ q → q < A 1 p → 0 ≤ v → v < 12 → B 2 (200 * p' + q) = A 2 (200 * p + q) ∧ B 3 (12 * (200 * p' + q) + v) = A 3 (12 * (200 * p + q) + v)) : LSm B p' = LSm A p := by
  unfold LSm
  rw [h1]
  refine List.map_congr_left (fun q hq => ?_)
  have hq := List.mem_range.1 hq
  refine Prod.ext (h2 q 0 (by omega) (by omega) (by omega) (by omega)).1 (funext fun v => ?_)
  exact (h2 q v.1 (by omega) (by omega) (by omega) (by have := v.2; omega)).2
theorem LSm_len (A : pm_A) (p : Int) : (LSm A p).length = (A 1 p).toNat := by unfold LSm; rw [List.length_map, List.length_range]
theorem LSm_same {A B : pm_A} {p : Int} (hm : A 1 p ≤ 200) (h : ∀ r j, inS p r j → B r j = A r j) : LSm B p = LSm A p :=
  LSm_ext (h 1 p (Or.inl ⟨rfl, rfl⟩)) (fun q v q0 q1 v0 v1 => ⟨h _ _ (by unfold inS; omega), h _ _ (by unfold inS; omega)⟩)
theorem srt_copy : pm_srt o_X10_copy = true := by decide +kernel
def cpI (A B : pm_A) (to fr t : Int) : Prop := gH wM B ∧ (∀ r j, ¬ inS to r j → B r j = A r j) ∧ B 1 to = A 1 fr ∧ ∀ q v : Int, 0 ≤ q → q < t → 0 ≤ v → v < 12 → B 2 (200 * to + q) = A 2 (200 * fr + q) ∧ B 3 (12 * (200 * to + q) + v) = A 3 (12 * (200 * fr + q) + v)
def cpJ (A B : pm_A) (to fr t u : Int) : Prop := cpI A B to fr t ∧ B 2 (200 * to + t) = A 2 (200 * fr + t) ∧ ∀ v : Int, 0 ≤ v → v < u → B 3 (12 * (200 * to + t) + v) = A 3 (12 * (200 * fr + t) + v)
def cp_post (A : pm_A) (to fr : Int) (r : pm_R) : Prop := r.1 = none ∧ gH wM r.2 ∧ (∀ q j, ¬ inS to q j → r.2 q j = A q j) ∧ LSm r.2 to = LSm A fr
theorem cp_51 {A : pm_A} {to fr t : Int} (hne : to ≠ fr) (p0 : 0 ≤ to) (p1 : to ≤ 151) (f0 : 0 ≤ fr) (f1 : fr ≤ 151) (t0 : 0 ≤ t) (t1 : t ≤ 199) (H : ∀ C v4, cpI A C to fr (t + 1) → Tm pmt (an_sh wM) o_X10_copy 14 ([(2, 0), (0, to), (0, fr), (0, t + 1), v4], [], C) (cp_post A to fr)) : ∀ (n : Nat) (u : Int) (B : pm_A), (12 - u).toNat < n → 0 ≤ u → u ≤ 12 → cpJ A B to fr t u → Tm pmt (an_sh wM) o_X10_copy 51 ([(2, 0), (0, to), (0, fr), (0, t), (0, u)], [], B) (cp_post A to fr) := by
  intro n
  induction n with
  | zero => intro u B h; omega
  | succ n ih =>
    intro u B hn u0 u1 hJ
    obtain ⟨⟨g1, g2, g3, g4⟩, g5, g6⟩ := hJ
    have c3 := pM_3 g1
    refine wq_ok srt_copy (fr := []) (cuts := [14, 51]) (J := fun pc st => (pc = 14 ∧ (12 ≤ u) ∧ st = ([(2, 0), (0, to), (0, fr), (0, t + 1), (0, u)], [], B)) ∨ (pc = 51 ∧ (u < 12) ∧ st = ([(2, 0), (0, to), (0, fr), (0, t), (0, u + 1)], [], pm_upd B (B 0 3) ((12 * ((200 * to) + t)) + u) (B (B 0 3) ((12 * ((200 * fr) + t)) + u))))) ?_ 34 51 _ ?_
    · rintro pc st (⟨rfl, h0, rfl⟩ | ⟨rfl, h0, rfl⟩)
      · refine H B _ ⟨g1, g2, g3, fun q v q0 q1 v0 v1 => ?_⟩
        by_cases hq : q = t
        · rw [hq]; exact ⟨g5, g6 v v0 (by omega)⟩
        · exact g4 q v q0 (by omega) v0 v1
      · rw [c3]
        have b3 := eM_3 g1 (r := 3) (by omega) kn3 (j := 12 * (200 * fr + t) + u) (by omega) (by omega)
        refine ih (u + 1) _ (by omega) (by omega) (by omega) ⟨⟨uM_3 g1 kn3 b3.1 b3.2, fun r j hr => ?_, ?_, fun q v q0 q1 v0 v1 => ?_⟩, ?_, fun v v0 v1 => ?_⟩
        · rw [upd_o (fun e => hr (by unfold inS; omega))]; exact g2 r j hr
        · rw [upd_o (by omega)]; exact g3
        · rw [upd_o (by omega), upd_o (by omega)]; exact g4 q v q0 q1 v0 v1
        · rw [upd_o (by omega)]; exact g5
        · by_cases hv : v = u
          · rw [hv, upd_at]; exact g2 _ _ (by unfold inS; omega)
          · rw [upd_o (by omega)]; exact g6 v v0 (by omega)
    · refine ⟨fun h0 => ?_, fun h0 => ?_⟩
      · refine ⟨⟨by omega, by omega⟩, ?_⟩
        exact Or.inl (⟨rfl, h0, rfl⟩)
      · refine ⟨oM_0 (by omega) km0 3 rfl, ?_⟩
        refine ⟨⟨by omega, by omega⟩, ?_⟩
        refine ⟨⟨by omega, by omega⟩, ?_⟩
        refine ⟨⟨by omega, by omega⟩, ?_⟩
        refine ⟨⟨by omega, by omega⟩, ?_⟩
        refine ⟨oM_0 (by omega) km0 3 rfl, ?_⟩
        refine ⟨⟨by omega, by omega⟩, ?_⟩
        refine ⟨⟨by omega, by omega⟩, ?_⟩
        refine ⟨⟨by omega, by omega⟩, ?_⟩
        refine ⟨⟨by omega, by omega⟩, ?_⟩
        refine ⟨aM_3 (r := B 0 3) (by rw [c3]; omega) (by rw [c3]; exact kn3) (by omega) (by omega), ?_⟩
        have e1 : B (B 0 3) ((12 * ((200 * fr) + t)) + u) = B 3 ((12 * ((200 * fr) + t)) + u) := by rw [c3]
        refine ⟨tM_3 (r := B 0 3) (by rw [c3]; omega) (by rw [c3]; exact kn3) (by omega) (by omega) rfl, ?_⟩
        refine ⟨⟨by omega, by omega⟩, ?_⟩
        exact Or.inr (⟨rfl, h0, rfl⟩)
theorem cp_14 {A : pm_A} {to fr : Int} (hA : gH wM A) (hne : to ≠ fr) (p0 : 0 ≤ to) (p1 : to ≤ 151) (f0 : 0 ≤ fr) (f1 : fr ≤ 151) : ∀ (n : Nat) (t : Int) (v4 : pm_V) (B : pm_A), (A 1 fr - t).toNat < n → 0 ≤ t → t ≤ A 1 fr → cpI A B to fr t → Tm pmt (an_sh wM) o_X10_copy 14 ([(2, 0), (0, to), (0, fr), (0, t), v4], [], B) (cp_post A to fr) := by
  have m1 := eM_1 hA (r := 1) (by omega) kn1 f0 (show fr < 152 by omega)
  intro n
  induction n with
  | zero => intro t v4 B h; omega
  | succ n ih =>
    intro t v4 B hn t0 t1 hI
    have hI0 := hI
    obtain ⟨g1, g2, g3, g4⟩ := hI
    have c1 := pM_1 g1
    have c2 := pM_2 g1
    have mB : B 1 fr = A 1 fr := g2 1 fr (by unfold inS; omega)
    refine wq_ok srt_copy (fr := []) (cuts := [51]) (J := fun pc st => (pc = 51 ∧ (t < (B (B 0 1) fr)) ∧ st = ([(2, 0), (0, to), (0, fr), (0, t), (0, 0)], [], pm_upd B (B 0 2) ((200 * to) + t) (B (B 0 2) ((200 * fr) + t))))) ?_ 29 14 _ ?_
    · rintro pc st (⟨rfl, h0, rfl⟩)
      rw [c2]
      rw [c1, mB] at h0
      have b2 := eM_2 g1 (r := 2) (by omega) kn2 (j := 200 * fr + t) (by omega) (by omega)
      refine cp_51 hne p0 p1 f0 f1 t0 (by omega) (fun C v4 hC => ih (t + 1) v4 C (by omega) (by omega) (by omega) hC) _ 0 _ (Nat.lt_succ_self _) (by omega) (by omega) ⟨⟨uM_2 g1 kn2 b2.1 b2.2, fun r j hr => ?_, ?_, fun q v q0 q1 v0 v1 => ?_⟩, ?_, fun v v0 v1 => by omega⟩
      · rw [upd_o (fun e => hr (by unfold inS; omega))]; exact g2 r j hr
      · rw [upd_o (by omega)]; exact g3
      · rw [upd_o (by omega), upd_o (by omega)]; exact g4 q v q0 q1 v0 v1
      · rw [upd_at]; exact g2 _ _ (by unfold inS; omega)
    · refine ⟨oM_0 (by omega) km0 1 rfl, ?_⟩
      refine ⟨aM_1 (r := B 0 1) (by rw [c1]; omega) (by rw [c1]; exact kn1) (by omega) (by omega), ?_⟩
      have e1 : B (B 0 1) fr = B 1 fr := by rw [c1]
      refine ⟨fun h0 => ?_, fun h0 => ?_⟩
      · exact ⟨rfl, g1, g2, LSm_ext g3 (fun q v q0 q1 v0 v1 => g4 q v q0 (by rw [c1, mB] at h0; omega) v0 v1)⟩
      · refine ⟨oM_0 (by omega) km0 2 rfl, ?_⟩
        refine ⟨⟨by omega, by omega⟩, ?_⟩
        refine ⟨⟨by omega, by omega⟩, ?_⟩
        refine ⟨oM_0 (by omega) km0 2 rfl, ?_⟩
        refine ⟨⟨by omega, by omega⟩, ?_⟩
        refine ⟨⟨by omega, by omega⟩, ?_⟩
        refine ⟨aM_2 (r := B 0 2) (by rw [c2]; omega) (by rw [c2]; exact kn2) (by omega) (by omega), ?_⟩
        have e2 : B (B 0 2) ((200 * fr) + t) = B 2 ((200 * fr) + t) := by rw [c2]
        refine ⟨tM_2 (r := B 0 2) (by rw [c2]; omega) (by rw [c2]; exact kn2) (by omega) (by omega) rfl, ?_⟩
        exact ⟨rfl, h0, rfl⟩
theorem copy_ex {A : pm_A} {to fr : Int} (hA : gH wM A) (hne : to ≠ fr) (p0 : 0 ≤ to) (p1 : to ≤ 151) (f0 : 0 ≤ fr) (f1 : fr ≤ 151) : Cl pmt (an_sh wM) 134 [(2, 0), (0, to), (0, fr)] A (cp_post A to fr) := by
  have c1 := pM_1 hA
  have m1 := eM_1 hA (r := 1) (by omega) kn1 f0 (show fr < 152 by omega)
  refine Cl.of (Nat.le_of_ble_eq_true rfl) ?_
  refine wq_ok (full := o_X10_copy) srt_copy (fr := []) (cuts := [14]) (J := fun pc st => (pc = 14 ∧ st = ([(2, 0), (0, to), (0, fr), (0, 0), (9, 0)], [], pm_upd A (A 0 1) to (A (A 0 1) fr)))) ?_ 15 0 _ ?_
  · rintro pc st (⟨rfl, rfl⟩)
    rw [c1]
    refine cp_14 hA hne p0 p1 f0 f1 _ 0 _ _ (Nat.lt_succ_self _) (by omega) (by omega) ⟨uM_1 hA kn1 m1.1 m1.2, fun r j hr => ?_, ?_, fun q v q0 q1 v0 v1 => by omega⟩
    · rw [upd_o (fun e => hr (by unfold inS; omega))]
    · rw [upd_at]
  · refine ⟨oM_0 (by omega) km0 1 rfl, ?_⟩
    refine ⟨oM_0 (by omega) km0 1 rfl, ?_⟩
    refine ⟨aM_1 (r := A 0 1) (by rw [c1]; omega) (by rw [c1]; exact kn1) (by omega) (by omega), ?_⟩
    have e1 : A (A 0 1) fr = A 1 fr := by rw [c1]
    refine ⟨tM_1 (r := A 0 1) (by rw [c1]; omega) (by rw [c1]; exact kn1) (by omega) (by omega) rfl, ?_⟩
    exact ⟨rfl, rfl⟩
theorem srt_one : pm_srt o_X10_one = true := by decide +kernel
def on_post (A : pm_A) (p : Int) (r : pm_R) : Prop := r.1 = none ∧ gH wM r.2 ∧ (∀ q j, ¬ inS p q j → r.2 q j = A q j) ∧ LSm r.2 p = [(1, fun _ => 0)]
def onI (A B : pm_A) (p u : Int) : Prop := gH wM B ∧ (∀ r j, ¬ inS p r j → B r j = A r j) ∧ B 1 p = 1 ∧ B 2 (200 * p) = 1 ∧ ∀ v : Int, 0 ≤ v → v < u → B 3 (2400 * p + v) = 0
theorem on_20 {A : pm_A} {p : Int} (p0 : 0 ≤ p) (p1 : p ≤ 151) : ∀ (n : Nat) (u : Int) (B : pm_A), (12 - u).toNat < n → 0 ≤ u → u ≤ 12 → onI A B p u → Tm pmt (an_sh wM) o_X10_one 20 ([(2, 0), (0, p), (0, u)], [], B) (on_post A p) := by
  intro n
  induction n with
  | zero => intro u B h; omega
  | succ n ih =>
    intro u B hn u0 u1 hJ
    obtain ⟨g1, g2, g3, g4, g5⟩ := hJ
    have c3 := pM_3 g1
    have hls : 12 ≤ u → LSm B p = [(1, fun _ => 0)] := fun hu => by
      unfold LSm
      rw [g3]
      show [(B 2 (200 * p + ((0 : Nat) : Int)), xe B p ((0 : Nat) : Int))] = _
      rw [show (200 * p + ((0 : Nat) : Int)) = 200 * p by omega, g4]
      refine congrArg (fun z => [((1 : Int), z)]) (funext fun v => ?_)
      show B 3 (12 * (200 * p + ((0 : Nat) : Int)) + (v.1 : Int)) = 0
      rw [show 12 * (200 * p + ((0 : Nat) : Int)) + (v.1 : Int) = 2400 * p + v.1 by omega]
      exact g5 v.1 (by omega) (by have := v.2; omega)
    refine wq_ok srt_one (fr := []) (cuts := [20]) (J := fun pc st => (pc = 20 ∧ (u < 12) ∧ st = ([(2, 0), (0, p), (0, u + 1)], [], pm_upd B (B 0 3) ((2400 * p) + u) 0))) ?_ 19 20 _ ?_
    · rintro pc st (⟨rfl, h0, rfl⟩)
      rw [c3]
      refine ih (u + 1) _ (by omega) (by omega) (by omega) ⟨uM_3 g1 kn3 (by omega) (by omega), fun r j hr => ?_, ?_, ?_, fun v v0 v1 => ?_⟩
      · rw [upd_o (fun e => hr (by unfold inS; omega))]; exact g2 r j hr
      · rw [upd_o (by omega)]; exact g3
      · rw [upd_o (by omega)]; exact g4
      · by_cases hv : v = u
        · rw [hv, upd_at]
        · rw [upd_o (by omega)]; exact g5 v v0 (by omega)
    · refine ⟨fun h0 => ?_, fun h0 => ?_⟩
      · exact ⟨rfl, g1, g2, hls h0⟩
      · refine ⟨oM_0 (by omega) km0 3 rfl, ?_⟩
        refine ⟨⟨by omega, by omega⟩, ?_⟩
        refine ⟨⟨by omega, by omega⟩, ?_⟩
        refine ⟨tM_3 (r := B 0 3) (by rw [c3]; omega) (by rw [c3]; exact kn3) (by omega) (by omega) rfl, ?_⟩
        refine ⟨⟨by omega, by omega⟩, ?_⟩
        exact ⟨rfl, h0, rfl⟩
theorem one_ex {A : pm_A} {p : Int} (hA : gH wM A) (p0 : 0 ≤ p) (p1 : p ≤ 151) : Cl pmt (an_sh wM) 168 [(2, 0), (0, p)] A (on_post A p) := by
  have c1 := pM_1 hA
  have c2 : pm_upd A (A 0 1) p 1 0 2 = 2 := by rw [c1, upd_o (by omega)]; exact pM_2 hA
  refine Cl.of (Nat.le_of_ble_eq_true rfl) ?_
  refine wq_ok (full := o_X10_one) srt_one (fr := []) (cuts := [20]) (J := fun pc st => (pc = 20 ∧ st = ([(2, 0), (0, p), (0, 0)], [], pm_upd (pm_upd A (A 0 1) p 1) ((pm_upd A (A 0 1) p 1) 0 2) (200 * p) 1))) ?_ 19 0 _ ?_
  · rintro pc st (⟨rfl, rfl⟩)
    rw [c2, c1]
    refine on_20 p0 p1 _ 0 _ (Nat.lt_succ_self _) (by omega) (by omega) ⟨uM_2 (uM_1 hA kn1 (by omega) (by omega)) kn2 (by omega) (by omega), fun r j hr => ?_, ?_, ?_, fun v v0 v1 => by omega⟩
    · rw [upd_o (fun e => hr (by unfold inS; omega)), upd_o (fun e => hr (by unfold inS; omega))]
    · rw [upd_o (by omega), upd_at]
    · rw [upd_at]
  · refine ⟨oM_0 (by omega) km0 1 rfl, ?_⟩
    refine ⟨tM_1 (r := A 0 1) (by rw [c1]; omega) (by rw [c1]; exact kn1) (by omega) (by omega) rfl, ?_⟩
    refine ⟨oM_0 (by omega) km0 2 rfl, ?_⟩
    refine ⟨⟨by omega, by omega⟩, ?_⟩
    refine ⟨tM_2 (r := (pm_upd A (A 0 1) p 1) 0 2) (by rw [c2]; omega) (by rw [c2]; exact kn2) (by omega) (by omega) rfl, ?_⟩
    exact ⟨rfl, rfl⟩
