/-! Mill.divide -/
theorem srt_divide : pm_srt o_X5_divide = true := by decide +kernel
def dv_M : List Nat := [800, 801, 10014, 10015, 10018]
def dv_post (A : pm_A) (r : pm_R) : Prop := ∃ x, r.1 = some (0, x) ∧ 0 ≤ x ∧ x ≤ 1 ∧ gH wX r.2 ∧ gFr wX dv_M A r.2
def dv_H (A : pm_A) (m s d w : Int) : Prop := gH wX A ∧ (0 ≤ m ∧ wX.2 m = 4) ∧ (0 ≤ s ∧ wX.2 s = 2) ∧ (0 ≤ d ∧ wX.2 d = 2) ∧ (0 ≤ w ∧ w ≤ 12) ∧ ¬ A (A m 0) 2 = A d 2 ∧ ¬ A s 2 = A d 2
def dv_I (A B : pm_A) (d : Int) : Prop := gH wX B ∧ gFr wX dv_M A B ∧ 1 ≤ B (A d 2) 0
theorem dv_sub {ms : List Nat} (h : ms.all (fun x => dv_M.contains x) = true) : ∀ x ∈ ms, x ∈ dv_M := fun x hx => List.contains_iff_mem.mp (List.all_eq_true.mp h x hx)
theorem dv_same {A B : pm_A} {m s d w : Int} (hh : dv_H A m s d w) (hF : gFr wX dv_M A B) : B m 0 = A m 0 ∧ B (A m 0) 2 = A (A m 0) 2 ∧ B s 2 = A s 2 ∧ B d 2 = A d 2 := by
  obtain ⟨hA, ⟨m0, mk⟩, ⟨s0, sk⟩, ⟨d0, dk⟩, _⟩ := hh
  have f0 := fX_4_0 hA m0 mk
  refine ⟨hF m 0 m0 (by omega) ?_, hF _ 2 f0.1 (by omega) ?_, hF s 2 s0 (by omega) ?_, hF d 2 d0 (by omega) ?_⟩
  · unfold mcode; rw [shX_4 mk]; show ¬ 500 ∈ dv_M; decide
  · unfold mcode; rw [shX_2 f0.2]; show ¬ 802 ∈ dv_M; decide
  · unfold mcode; rw [shX_2 sk]; show ¬ 802 ∈ dv_M; decide
  · unfold mcode; rw [shX_2 dk]; show ¬ 802 ∈ dv_M; decide
theorem dv_138 {A B : pm_A} {m s d w l n x : Int} {v6 : pm_V} (hh : dv_H A m s d w) (hI : dv_I A B d) (hl0 : 0 ≤ l) (hl1 : l ≤ 199) (hn : r64 n) (H : ∀ C v5 v6, dv_I A C d → Tm pmt (an_sh wX) o_X5_divide 36 ([(2, m), (2, s), (2, d), (0, w), (0, l + 1), v5, v6], [], C) (dv_post A)) : Tm pmt (an_sh wX) o_X5_divide 138 ([(2, m), (2, s), (2, d), (0, w), (0, l), (1, n), v6], [(0, x)], B) (dv_post A) := by
  have hh0 := hh
  obtain ⟨hA, ⟨m0, mk⟩, ⟨s0, sk⟩, ⟨d0, dk⟩, hw, ne1, ne2⟩ := hh
  obtain ⟨h1, h2, h3⟩ := hI
  obtain ⟨em, ef, es, ed⟩ := dv_same hh0 h2
  have n0 := fX_2_2 hA d0 dk
  refine wq_ok srt_divide (fr := []) (cuts := [36]) (J := fun pc st => pc = 36 ∧ ∃ C, dv_I A C d ∧ st = ([(2, m), (2, s), (2, d), (0, w), (0, l + 1), (1, n), v6], [], C)) ?_ 30 138 _ ?_
  · rintro pc st ⟨rfl, C, hC, rfl⟩
    exact H C _ _ hC
  · refine ⟨fun h => ?_, fun h => ?_⟩
    · exact ⟨rfl, 0, rfl, by omega, by omega, h1, h2⟩
    · refine ⟨rX_4 m0 mk, ?_⟩
      refine (take_ct h1 ⟨m0, mk⟩ ⟨s0, sk⟩ ⟨d0, dk⟩ ⟨hl0, hl1⟩ hn).imp ?_
      rintro ⟨r1, C⟩ ⟨y, e, y0, y1, c1, c2, c3⟩
      simp only at e c1 c2 c3
      subst e
      have hF := gFr_tr h2 c2 (dv_sub rfl)
      refine ⟨fun h => ?_, fun h => ?_⟩
      · refine ⟨⟨by omega, by omega⟩, ?_⟩
        refine ⟨rfl, C, ⟨c1, hF, ?_⟩, rfl⟩
        rw [c3 (A d 2) 0 n0.2 (by rw [es]; exact fun q => ne2 q.symm)]
        exact h3
      · exact ⟨rfl, 0, rfl, by omega, by omega, c1, hF⟩
theorem dv_102 {A B : pm_A} {m s d w l : Int} {v5 v6 : pm_V} (hh : dv_H A m s d w) (hI : dv_I A B d) (hl0 : 0 ≤ l) (hl1 : l ≤ 199) (H : ∀ C v5 v6, dv_I A C d → Tm pmt (an_sh wX) o_X5_divide 36 ([(2, m), (2, s), (2, d), (0, w), (0, l + 1), v5, v6], [], C) (dv_post A)) : Tm pmt (an_sh wX) o_X5_divide 102 ([(2, m), (2, s), (2, d), (0, w), (0, l), v5, v6], [], B) (dv_post A) := by
  have hh0 := hh
  have hI0 := hI
  obtain ⟨hA, ⟨m0, mk⟩, ⟨s0, sk⟩, ⟨d0, dk⟩, hw, ne1, ne2⟩ := hh
  obtain ⟨h1, h2, h3⟩ := hI
  obtain ⟨em, ef, es, ed⟩ := dv_same hh0 h2
  have f0 := fX_4_0 h1 m0 mk
  have g0 := fX_4_6 h1 m0 mk
  have n0 := fX_2_2 h1 s0 sk
  have n1 := fX_2_2 h1 d0 dk
  have fl := fX_2_1 h1 f0.1 f0.2
  have v0 := eX_14 h1 n0.1 n0.2 hl0 (show l < 200 by omega)
  have v1 := eX_14 h1 n1.1 n1.2 (show (0 : Int) ≤ 0 by omega) (show (0 : Int) < 200 by omega)
  have hp : 1 ≤ B (B d 2) 0 := by rw [ed]; exact h3
  have hq := (i64_quo (x := B (B s 2) l) (y := B (B d 2) 0) v0 v1 (by omega) (fun _ => by omega)).1
  refine wq_ok srt_divide (fr := []) (cuts := [138]) (J := fun pc st => pc = 138 ∧ ∃ x C, dv_I A C d ∧ st = ([(2, m), (2, s), (2, d), (0, w), (0, l), (1, (B (B s 2) l).tdiv (B (B d 2) 0)), (9, 0)], [(0, x)], C)) ?_ 30 102 _ ?_
  · rintro pc st ⟨rfl, x, C, hC, rfl⟩
    exact dv_138 hh0 hC hl0 hl1 hq H
  · refine ⟨oX_2 s0 sk 2 rfl, ?_⟩
    refine ⟨aX_14 n0.1 n0.2 hl0 (by omega), ?_⟩
    refine ⟨oX_2 d0 dk 2 rfl, ?_⟩
    refine ⟨aX_14 n1.1 n1.2 (by omega) (by omega), ?_⟩
    refine ⟨⟨by omega, v0, v1, fun _ => by omega⟩, ?_⟩
    refine ⟨oX_4 m0 mk 0 rfl, ?_⟩
    refine ⟨oX_4 m0 mk 6 rfl, ?_⟩
    refine ⟨oX_4 m0 mk 0 rfl, ?_⟩
    refine ⟨oX_2 f0.1 f0.2 1 rfl, ?_⟩
    refine ⟨rX_2 f0.1 f0.2, ?_⟩
    refine (add_ct h1 (s := B m 0) (c := B m 6) (f := B (B m 0) 1) (n := (B (B s 2) l).tdiv (B (B d 2) 0)) f0.1 f0.2 g0.1 g0.2 hq fl.1 (by omega)).imp ?_
    rintro ⟨r1, C⟩ ⟨x, e, x0, x1, c1, c2, c3, c4⟩
    simp only at e c1 c2 c4
    subst e
    refine ⟨rfl, x, C, ⟨c1, gFr_tr h2 c2 (dv_sub rfl), ?_⟩, rfl⟩
    have nA := fX_2_2 hA d0 dk
    have p0 := fX_2_3 h1 f0.1 f0.2
    rw [c4 (A d 2) 0 (fun q => by rw [q, f0.2] at nA; exact absurd nA.2 (by decide)) (by rw [em, ef]; exact fun q => ne1 q.symm) (fun q => by rw [q, p0.2] at nA; exact absurd nA.2 (by decide))]
    exact h3
theorem dv_63 {A : pm_A} {m s d w l : Int} (hh : dv_H A m s d w) (hl0 : 0 ≤ l) (hl1 : l ≤ 199) (H : ∀ C v5 v6, dv_I A C d → Tm pmt (an_sh wX) o_X5_divide 36 ([(2, m), (2, s), (2, d), (0, w), (0, l + 1), v5, v6], [], C) (dv_post A)) : ∀ (k : Nat) (v : Int) (v6 : pm_V) (B : pm_A), (w - v).toNat < k → 0 ≤ v → v ≤ w → dv_I A B d → Tm pmt (an_sh wX) o_X5_divide 63 ([(2, m), (2, s), (2, d), (0, w), (0, l), (0, v), v6], [], B) (dv_post A) := by
  have hh0 := hh
  obtain ⟨hA, ⟨m0, mk⟩, ⟨s0, sk⟩, ⟨d0, dk⟩, hw, ne1, ne2⟩ := hh
  have nA := fX_2_2 hA d0 dk
  intro k
  induction k with
  | zero => intro v v6 B h; omega
  | succ k ih =>
    intro v v6 B hk hv0 hv1 hI
    have hI0 := hI
    obtain ⟨h1, h2, h3⟩ := hI
    have g0 := fX_4_6 h1 m0 mk
    have p0 := fX_2_3 h1 s0 sk
    have p1 := fX_2_3 h1 d0 dk
    refine wq_ok srt_divide (fr := [94]) (cuts := [63, 102]) (J := fun pc st => (pc = 102 ∧ st = ([(2, m), (2, s), (2, d), (0, w), (0, l), (0, v), v6], [], B)) ∨ (pc = 63 ∧ v < w ∧ st = ([(2, m), (2, s), (2, d), (0, w), (0, l), (0, v + 1), v6], [], pm_upd B (B m 6) v (pp_bi 1 (B (B s 3) (l * w + v)) (B (B d 3) v))))) ?_ 30 63 _ ?_
    · rintro pc st (⟨rfl, rfl⟩ | ⟨rfl, hv, rfl⟩)
      · exact dv_102 hh0 hI0 hl0 hl1 H
      · refine ih (v + 1) v6 _ (by omega) (by omega) (by omega) ⟨uX_18 h1 g0.2 (pp_bi_s _ _).1 (pp_bi_s _ _).2, gFr_upd h2 (mX_18 g0.2 rfl), ?_⟩
        rw [upd_ne (fun e => by rw [e, g0.2] at nA; exact absurd nA.2 (by decide))]
        exact h3
    · refine ⟨fun h => Or.inl ⟨rfl, rfl⟩, fun h => ?_⟩
      obtain ⟨q0, q1, q2⟩ := mul_lt hl0 hl1 hw.1 hw.2 hv0 h
      refine ⟨oX_4 m0 mk 6 rfl, ?_⟩
      refine ⟨oX_2 s0 sk 3 rfl, ?_⟩
      refine ⟨⟨by omega, by omega⟩, ?_⟩
      refine ⟨⟨by omega, by omega⟩, ?_⟩
      refine ⟨aX_15 p0.1 p0.2 (by omega) (by omega), ?_⟩
      refine ⟨oX_2 d0 dk 3 rfl, ?_⟩
      refine ⟨aX_15 p1.1 p1.2 hv0 (by omega), ?_⟩
      refine ⟨tX_18 g0.1 g0.2 hv0 (by omega) rfl, ?_⟩
      refine ⟨⟨by omega, by omega⟩, ?_⟩
      exact Or.inr ⟨rfl, h, rfl⟩
theorem dv_36 {A : pm_A} {m s d w : Int} (hh : dv_H A m s d w) : ∀ (k : Nat) (l : Int) (v5 v6 : pm_V) (B : pm_A), (200 - l).toNat < k → 0 ≤ l → l ≤ 200 → dv_I A B d → Tm pmt (an_sh wX) o_X5_divide 36 ([(2, m), (2, s), (2, d), (0, w), (0, l), v5, v6], [], B) (dv_post A) := by
  have hh0 := hh
  obtain ⟨hA, ⟨m0, mk⟩, ⟨s0, sk⟩, ⟨d0, dk⟩, hw, ne1, ne2⟩ := hh
  intro k
  induction k with
  | zero => intro l v5 v6 B h; omega
  | succ k ih =>
    intro l v5 v6 B hk hl0 hl1 hI
    have hI0 := hI
    obtain ⟨h1, h2, h3⟩ := hI
    have l0 := fX_2_1 h1 s0 sk
    have n0 := fX_2_2 h1 s0 sk
    refine wq_ok srt_divide (fr := []) (cuts := [36, 63]) (J := fun pc st => l < B s 1 ∧ ((pc = 36 ∧ st = ([(2, m), (2, s), (2, d), (0, w), (0, l + 1), v5, v6], [], B)) ∨ (pc = 63 ∧ st = ([(2, m), (2, s), (2, d), (0, w), (0, l), (0, 0), v6], [], B)))) ?_ 30 36 _ ?_
    · rintro pc st ⟨hl, ⟨rfl, rfl⟩ | ⟨rfl, rfl⟩⟩
      · exact ih (l + 1) v5 v6 B (by omega) (by omega) (by omega) hI0
      · exact dv_63 hh0 hl0 (by omega) (fun C v5 v6 hC => ih (l + 1) v5 v6 C (by omega) (by omega) (by omega) hC) _ 0 v6 B (Nat.lt_succ_self _) (by omega) hw.1 hI0
    · refine ⟨oX_2 s0 sk 1 rfl, ?_⟩
      refine ⟨fun h => ?_, fun h => ?_⟩
      · exact ⟨rfl, 1, rfl, by omega, by omega, h1, h2⟩
      · have hl : l < B s 1 := h
        refine ⟨oX_2 s0 sk 2 rfl, ?_⟩
        refine ⟨aX_14 n0.1 n0.2 hl0 (by omega), ?_⟩
        refine ⟨fun _ => ?_, fun _ => ?_, fun _ => ?_⟩
        · refine ⟨fun _ => ?_, fun q => absurd q (by decide)⟩
          exact ⟨hl, Or.inr ⟨rfl, rfl⟩⟩
        · refine ⟨fun q => absurd rfl q, fun _ => ?_⟩
          refine ⟨⟨by omega, by omega⟩, ?_⟩
          exact ⟨hl, Or.inl ⟨rfl, rfl⟩⟩
        · refine ⟨fun _ => ?_, fun q => absurd q (by decide)⟩
          exact ⟨hl, Or.inr ⟨rfl, rfl⟩⟩
theorem dv_13 {A B : pm_A} {m s d w : Int} {v4 v5 v6 : pm_V} (hh : dv_H A m s d w) (h1 : gH wX B) (h2 : gFr wX dv_M A B) : Tm pmt (an_sh wX) o_X5_divide 13 ([(2, m), (2, s), (2, d), (0, w), v4, v5, v6], [], B) (dv_post A) := by
  have hh0 := hh
  obtain ⟨hA, ⟨m0, mk⟩, ⟨s0, sk⟩, ⟨d0, dk⟩, hw, ne1, ne2⟩ := hh
  obtain ⟨em, ef, es, ed⟩ := dv_same hh0 h2
  have n1 := fX_2_2 h1 d0 dk
  refine wq_ok srt_divide (fr := []) (cuts := [36]) (J := fun pc st => pc = 36 ∧ 0 < B (B d 2) 0 ∧ st = ([(2, m), (2, s), (2, d), (0, w), (0, 0), v5, v6], [], B)) ?_ 30 13 _ ?_
  · rintro pc st ⟨rfl, hp, rfl⟩
    refine dv_36 hh0 _ 0 v5 v6 B (Nat.lt_succ_self _) (by omega) (by omega) ⟨h1, h2, ?_⟩
    rw [← ed]; omega
  · refine ⟨oX_2 d0 dk 1 rfl, ?_⟩
    refine ⟨fun h => ?_, fun h => ?_⟩
    · exact ⟨rfl, 0, rfl, by omega, by omega, h1, h2⟩
    · refine ⟨oX_2 d0 dk 2 rfl, ?_⟩
      refine ⟨aX_14 n1.1 n1.2 (by omega) (by omega), ?_⟩
      refine ⟨fun q => ?_, fun _ => ?_, fun _ => ?_⟩
      · refine ⟨fun _ => ?_, fun q => absurd q (by decide)⟩
        exact ⟨rfl, q, rfl⟩
      · refine ⟨fun q => absurd q (by decide), fun _ => ?_⟩
        exact ⟨rfl, 0, rfl, by omega, by omega, h1, h2⟩
      · refine ⟨fun q => absurd q (by decide), fun _ => ?_⟩
        exact ⟨rfl, 0, rfl, by omega, by omega, h1, h2⟩
theorem divide_ct {A : pm_A} {m s d : Int} (hA : gH wX A) (hm : 0 ≤ m ∧ wX.2 m = 4) (hs : 0 ≤ s ∧ wX.2 s = 2) (hd : 0 ≤ d ∧ wX.2 d = 2) (ne1 : ¬ A (A m 0) 2 = A d 2) (ne2 : ¬ A s 2 = A d 2) : Cl pmt (an_sh wX) 41 [(2, m), (2, s), (2, d)] A (dv_post A) := by
  have w0 := fX_2_0 hA hs.1 hs.2
  have f0 := fX_4_0 hA hm.1 hm.2
  refine Cl.of (Nat.le_of_ble_eq_true rfl) ?_
  refine wq_ok (full := o_X5_divide) srt_divide (fr := []) (cuts := [13]) (J := fun pc st => pc = 13 ∧ ∃ C v4 v5 v6, gH wX C ∧ gFr wX dv_M A C ∧ st = ([(2, m), (2, s), (2, d), (0, A s 0), v4, v5, v6], [], C)) ?_ 20 0 _ ?_
  · rintro pc st ⟨rfl, C, v4, v5, v6, c1, c2, rfl⟩
    exact dv_13 ⟨hA, hm, hs, hd, w0, ne1, ne2⟩ c1 c2
  · refine ⟨oX_2 hs.1 hs.2 0 rfl, ?_⟩
    refine ⟨oX_4 hm.1 hm.2 0 rfl, ?_⟩
    refine ⟨rX_2 f0.1 f0.2, ?_⟩
    refine Cl.gct q_X8_clear_0 (A := A) (a := [(2, A m 0), (0, A s 0)]) ⟨gv_ref f0.1 f0.2, ⟨rfl, w0.1, w0.2⟩, trivial⟩ hA ?_
    rintro ⟨r1, C⟩ g1 g2 g3
    simp only at g1 g2 g3
    cases r1 with
    | some v => exact absurd g1 (by intro q; cases q)
    | none => exact ⟨rfl, C, _, _, _, g2, gFr_tr (fun _ _ _ _ _ => rfl) g3 (dv_sub rfl), rfl⟩
