/-! Mill.exchange -/
def ex_H (A : pm_A) (m s k : Int) : Prop := gH wX A ∧ (0 ≤ m ∧ wX.2 m = 4) ∧ (0 ≤ s ∧ wX.2 s = 1) ∧ (0 ≤ k ∧ k ≤ 5) ∧ ∀ j, 0 ≤ j → j ≤ 2 → ¬ A (A m j) 2 = A (A (A s 4) k) 2
theorem ex_same {A B : pm_A} {m s k : Int} (hh : ex_H A m s k) (hF : gFr wX dv_M A B) : (∀ j, 0 ≤ j → j ≤ 99 → B m j = A m j) ∧ (∀ j, 0 ≤ j → j ≤ 99 → B s j = A s j) ∧ B (A s 4) k = A (A s 4) k ∧ ∀ q, 0 ≤ q → wX.2 q = 2 → B q 2 = A q 2 := by
  obtain ⟨hA, ⟨m0, mk⟩, ⟨s0, sk⟩, hk, _⟩ := hh
  have l0 := fX_1_4 hA s0 sk
  have big : ∀ x : Nat, (500 ≤ x ∧ x ≤ 799) → ¬ x ∈ dv_M := fun x hx q => by
    have h : ∀ y ∈ dv_M, 800 ≤ y := by decide
    have := h x q
    omega
  refine ⟨fun j j0 j1 => hF m j m0 j0 ?_, fun j j0 j1 => hF s j s0 j0 ?_, hF _ k l0.1 hk.1 ?_, fun q q0 qk => hF q 2 q0 (by omega) ?_⟩
  · unfold mcode; rw [shX_4 mk]; show ¬ (100 * 5 + j.toNat) ∈ dv_M; exact big _ (by omega)
  · unfold mcode; rw [shX_1 sk]; show ¬ (100 * 7 + j.toNat) ∈ dv_M; exact big _ (by omega)
  · unfold mcode; rw [shX_12 l0.2]; show ¬ (10000 + wX.2 (A s 4) : Nat) ∈ dv_M; rw [l0.2]; decide
  · unfold mcode; rw [shX_2 qk]; show ¬ 802 ∈ dv_M; decide
theorem ex_80 {A B : pm_A} {m s k x : Int} {v4 : pm_V} (hh : ex_H A m s k) (h1 : gH wX B) (h2 : gFr wX dv_M A B) (hx : x = A m 1 ∨ x = A m 2) : Tm pmt (an_sh wX) o_X5_exchange 80 ([(2, m), (2, s), (0, k), (2, x), v4], [], B) (dv_post A) := by
  obtain ⟨em, es, el, e2⟩ := ex_same hh h2
  obtain ⟨hA, ⟨m0, mk⟩, ⟨s0, sk⟩, hk, hne⟩ := hh
  have l0 := fX_1_4 h1 s0 sk
  have e0 := eX_12 h1 l0.1 l0.2 hk.1 (show k < 6 by omega)
  have f0 := fX_4_0 hA m0 mk
  have o1 := fX_4_1 hA m0 mk
  have o2 := fX_4_2 hA m0 mk
  have lA := fX_1_4 hA s0 sk
  have eA := eX_12 hA lA.1 lA.2 hk.1 (show k < 6 by omega)
  have xk : 0 ≤ x ∧ wX.2 x = 2 := by rcases hx with e | e <;> rw [e] <;> assumption
  have hel : B (B s 4) k = A (A s 4) k := by rw [es 4 (by omega) (by omega)]; exact el
  refine wq_ok srt_exchange (fr := []) (cuts := []) (J := fun pc st => False) (fun _ _ h => h.elim) 20 80 _ ?_
  refine ⟨oX_1 s0 sk 4 rfl, ?_⟩
  refine ⟨aX_12 l0.1 l0.2 hk.1 (by omega), ?_⟩
  refine ⟨rX_4 m0 mk, ?_⟩
  refine (divide_ct (A := B) (m := m) (s := x) (d := B (B s 4) k) h1 ⟨m0, mk⟩ xk e0 ?_ ?_).imp ?_
  · rw [hel, em 0 (by omega) (by omega), e2 _ f0.1 f0.2, e2 _ eA.1 eA.2]
    exact hne 0 (by omega) (by omega)
  · rw [hel, e2 _ xk.1 xk.2, e2 _ eA.1 eA.2]
    rcases hx with e | e
    · rw [e]; exact hne 1 (by omega) (by omega)
    · rw [e]; exact hne 2 (by omega) (by omega)
  · rintro ⟨r1, C⟩ ⟨y, e, y0, y1, c1, c2⟩
    simp only at e c1 c2
    subst e
    have hy : y = 0 ∨ y = 1 := by omega
    rcases hy with rfl | rfl
    · exact ⟨rfl, 0, rfl, y0, y1, c1, gFr_tr h2 c2 (fun _ hx => hx)⟩
    · exact ⟨rfl, 1, rfl, y0, y1, c1, gFr_tr h2 c2 (fun _ hx => hx)⟩
theorem ex_59 {A B : pm_A} {m s k x y : Int} (hh : ex_H A m s k) (h1 : gH wX B) (h2 : gFr wX dv_M A B) (hx : x = -1 ∨ x = A m 1 ∨ x = A m 2) (hy : y = -1 ∨ y = A m 3 ∨ y = A m 4) : Tm pmt (an_sh wX) o_X5_exchange 59 ([(2, m), (2, s), (0, k), (2, x), (2, y)], [], B) (dv_post A) := by
  have hh0 := hh
  obtain ⟨hA, ⟨m0, mk⟩, ⟨s0, sk⟩, hk, hne⟩ := hh
  have o1 := fX_4_1 hA m0 mk
  have o2 := fX_4_2 hA m0 mk
  have o3 := fX_4_3 hA m0 mk
  have o4 := fX_4_4 hA m0 mk
  refine wq_ok srt_exchange (fr := []) (cuts := [80]) (J := fun pc st => pc = 80 ∧ 0 ≤ x ∧ ∃ C, gH wX C ∧ gFr wX dv_M A C ∧ st = ([(2, m), (2, s), (0, k), (2, x), (2, y)], [], C)) ?_ 20 59 _ ?_
  · rintro pc st ⟨rfl, x0, C, c1, c2, rfl⟩
    exact ex_80 hh0 c1 c2 (by rcases hx with e | e; omega; exact e)
  · refine ⟨fun _ => ?_, fun x0 => ?_⟩
    · exact ⟨rfl, 0, rfl, by omega, by omega, h1, h2⟩
    · refine ⟨fun _ => ?_, fun y0 => ?_⟩
      · exact ⟨rfl, 0, rfl, by omega, by omega, h1, h2⟩
      · have xk : wX.2 x = 2 := by
          rcases hx with e | e | e
          · omega
          · rw [e]; exact o1.2
          · rw [e]; exact o2.2
        have yk : wX.2 y = 2 := by
          rcases hy with e | e | e
          · omega
          · rw [e]; exact o3.2
          · rw [e]; exact o4.2
        refine ⟨rX_4 m0 mk, ?_⟩
        refine Cl.gct q_X5_addAll_0 (A := B) (a := [(2, m), (2, x), (2, y)]) ⟨gv_ref m0 mk, gv_ref x0 xk, gv_ref y0 yk, trivial⟩ h1 ?_
        rintro ⟨r1, C⟩ g1 g2 g3
        simp only at g1 g2 g3
        have hF := gFr_tr h2 g3 (dv_sub rfl)
        match r1, g1 with
        | some (0, z), _ =>
          refine ⟨fun _ => ?_, fun _ => ?_⟩
          · exact ⟨rfl, x0, C, g2, hF, rfl⟩
          · exact ⟨rfl, 0, rfl, by omega, by omega, g2, hF⟩
        | some (n + 1, x), ⟨⟨q, _⟩, _⟩ => exact absurd q (by intro q; cases q)
        | none, q => exact absurd q (by intro q; cases q)
theorem ex_42 {A B : pm_A} {m s k x : Int} {v4 : pm_V} (hh : ex_H A m s k) (h1 : gH wX B) (h2 : gFr wX dv_M A B) (hx : x = -1 ∨ x = A m 1 ∨ x = A m 2) : Tm pmt (an_sh wX) o_X5_exchange 42 ([(2, m), (2, s), (0, k), (2, x), v4], [], B) (dv_post A) := by
  have hh0 := hh
  obtain ⟨em, es, el, e2⟩ := ex_same hh h2
  obtain ⟨hA, ⟨m0, mk⟩, ⟨s0, sk⟩, hk, hne⟩ := hh
  have o3 := fX_4_3 h1 m0 mk
  have o4 := fX_4_4 h1 m0 mk
  refine wq_ok srt_exchange (fr := []) (cuts := [59]) (J := fun pc st => pc = 59 ∧ ∃ y C, gH wX C ∧ gFr wX dv_M A C ∧ (y = -1 ∨ y = A m 3 ∨ y = A m 4) ∧ st = ([(2, m), (2, s), (0, k), (2, x), (2, y)], [], C)) ?_ 20 42 _ ?_
  · rintro pc st ⟨rfl, y, C, c1, c2, hy, rfl⟩
    exact ex_59 hh0 c1 c2 hx hy
  · refine ⟨oX_4 m0 mk 3 rfl, ?_⟩
    refine ⟨oX_4 m0 mk 4 rfl, ?_⟩
    refine ⟨rX_4 m0 mk, ?_⟩
    refine (product_ct h1 (m := m) (s := s) (k := k) (g := -1) (b := B m 3) (o := B m 4) ⟨⟨m0, mk⟩, ⟨s0, sk⟩, hk, ⟨by omega, by omega⟩, o3, o4⟩).imp ?_
    rintro ⟨r1, C⟩ ⟨y, e, hy, c1, c2⟩
    simp only at e c1 c2
    subst e
    rw [em 3 (by omega) (by omega), em 4 (by omega) (by omega)] at hy
    exact ⟨rfl, y, C, c1, gFr_tr h2 c2 (fun _ hx => hx), hy, rfl⟩
theorem ex_26 {A B : pm_A} {m s k : Int} {v3 v4 : pm_V} (hh : ex_H A m s k) (h1 : gH wX B) (h2 : gFr wX dv_M A B) : Tm pmt (an_sh wX) o_X5_exchange 26 ([(2, m), (2, s), (0, k), v3, v4], [], B) (dv_post A) := by
  have hh0 := hh
  obtain ⟨em, es, el, e2⟩ := ex_same hh h2
  obtain ⟨hA, ⟨m0, mk⟩, ⟨s0, sk⟩, hk, hne⟩ := hh
  have o1 := fX_4_1 h1 m0 mk
  have o2 := fX_4_2 h1 m0 mk
  refine wq_ok srt_exchange (fr := []) (cuts := [42]) (J := fun pc st => pc = 42 ∧ ∃ y C, gH wX C ∧ gFr wX dv_M A C ∧ (y = -1 ∨ y = A m 1 ∨ y = A m 2) ∧ st = ([(2, m), (2, s), (0, k), (2, y), v4], [], C)) ?_ 20 26 _ ?_
  · rintro pc st ⟨rfl, y, C, c1, c2, hy, rfl⟩
    exact ex_42 hh0 c1 c2 hy
  · refine ⟨oX_4 m0 mk 1 rfl, ?_⟩
    refine ⟨oX_4 m0 mk 2 rfl, ?_⟩
    refine ⟨rX_4 m0 mk, ?_⟩
    refine (product_ct h1 (m := m) (s := s) (k := k) (g := 1) (b := B m 1) (o := B m 2) ⟨⟨m0, mk⟩, ⟨s0, sk⟩, hk, ⟨by omega, by omega⟩, o1, o2⟩).imp ?_
    rintro ⟨r1, C⟩ ⟨y, e, hy, c1, c2⟩
    simp only at e c1 c2
    subst e
    rw [em 1 (by omega) (by omega), em 2 (by omega) (by omega)] at hy
    exact ⟨rfl, y, C, c1, gFr_tr h2 c2 (fun _ hx => hx), hy, rfl⟩
theorem exchange_ct {A : pm_A} {m s k : Int} (hh : ex_H A m s k) : Cl pmt (an_sh wX) 42 [(2, m), (2, s), (0, k)] A (dv_post A) := by
  have hh0 := hh
  obtain ⟨hA, ⟨m0, mk⟩, ⟨s0, sk⟩, hk, hne⟩ := hh
  have t0 := fX_1_2 hA s0 sk
  have p0 := fX_1_0 hA s0 sk
  have q0 := fX_1_1 hA s0 sk
  refine Cl.of (Nat.le_of_ble_eq_true rfl) ?_
  refine wq_ok (full := o_X5_exchange) srt_exchange (fr := []) (cuts := [26]) (J := fun pc st => pc = 26 ∧ ∃ C v3 v4, gH wX C ∧ gFr wX dv_M A C ∧ st = ([(2, m), (2, s), (0, k), v3, v4], [], C)) ?_ 20 0 _ ?_
  · rintro pc st ⟨rfl, C, v3, v4, c1, c2, rfl⟩
    exact ex_26 hh0 c1 c2
  · refine ⟨oX_1 s0 sk 2 rfl, ?_⟩
    refine ⟨oX_1 s0 sk 0 rfl, ?_⟩
    refine ⟨oX_1 s0 sk 1 rfl, ?_⟩
    refine ⟨⟨by omega, by omega⟩, ?_⟩
    refine ⟨oX_1 s0 sk 0 rfl, ?_⟩
    refine ⟨rfl, ?_⟩
    refine Cl.gct q_X9_isTableTurnable_0 (A := A) (a := [(2, A s 2), (0, A s 0 + A s 1), (0, A s 0), (0, k)]) ⟨gv_ref t0.1 t0.2, ⟨rfl, by simp only; omega, by simp only; omega⟩, ⟨rfl, p0.1, p0.2⟩, ⟨rfl, hk.1, hk.2⟩, trivial⟩ hA ?_
    rintro ⟨r1, C⟩ g1 g2 g3
    simp only at g1 g2 g3
    have hF : gFr wX dv_M A C := gFr_tr (fun _ _ _ _ _ => rfl) g3 (dv_sub rfl)
    match r1, g1 with
    | some (0, z), _ =>
      refine ⟨fun _ => ?_, fun _ => ?_⟩
      · exact ⟨rfl, C, _, _, g2, hF, rfl⟩
      · exact ⟨rfl, 0, rfl, by omega, by omega, g2, hF⟩
    | some (n + 1, x), ⟨⟨q, _⟩, _⟩ => exact absurd q (by intro q; cases q)
    | none, q => exact absurd q (by intro q; cases q)
