/-! Atlas.enterFirst, Atlas.explore, all -/
theorem srt_enterFirst : pm_srt o_X0_enterFirst = true := by decide +kernel
theorem srt_explore : pm_srt o_X0_explore = true := by decide +kernel
theorem srt_all : pm_srt o_X9_all = true := by decide +kernel
theorem z1 : (0 : Int) ≤ 1 := by omega
theorem z28 : (0 : Int) ≤ 28 := by omega
theorem put5 {B : pm_A} {t : Int} (hB : St B) (t0 : 0 ≤ t) (t1 : t ≤ 100) : St (pm_upd B 72 1 t) ∧ St (pm_upd B 72 7 t) := by
  refine ⟨hB.keep (ms := [1]) ?_ (gFr_upd (fun _ _ _ _ _ => rfl) ?_) rfl, hB.keep (ms := [7]) ?_ (gFr_upd (fun _ _ _ _ _ => rfl) ?_) rfl⟩
  · refine gH_upd hB.1 (k := (0, 0, 18, [(2, 22, 0), (0, 0, 100), (2, 23, 0), (2, 24, 0), (2, 25, 0), (2, 26, 0), (2, 26, 0), (0, 0, 150), (2, 1, 0), (2, 27, 0), (1, (-9223372036854775808), 9223372036854775807), (1, (-9223372036854775808), 9223372036854775807), (2, 17, 0), (0, (-1), 100), (0, 0, 12), (2, 19, 0), (2, 28, 0), (2, 29, 0)])) (by rw [kk72]; rfl) (fun _ j v hj ej => ?_) (fun q => by cases q)
    have : j = 1 := by omega
    subst this
    cases hj
    exact ⟨rfl, t0, t1⟩
  · unfold mcode; rw [shX_5 kk72]; show 1 ∈ [1]; decide
  · refine gH_upd hB.1 (k := (0, 0, 18, [(2, 22, 0), (0, 0, 100), (2, 23, 0), (2, 24, 0), (2, 25, 0), (2, 26, 0), (2, 26, 0), (0, 0, 150), (2, 1, 0), (2, 27, 0), (1, (-9223372036854775808), 9223372036854775807), (1, (-9223372036854775808), 9223372036854775807), (2, 17, 0), (0, (-1), 100), (0, 0, 12), (2, 19, 0), (2, 28, 0), (2, 29, 0)])) (by rw [kk72]; rfl) (fun _ j v hj ej => ?_) (fun q => by cases q)
    have : j = 7 := by omega
    subst this
    cases hj
    exact ⟨rfl, t0, by simp only; omega⟩
  · unfold mcode; rw [shX_5 kk72]; show 7 ∈ [7]; decide
theorem put79 {B : pm_A} {t : Int} (hB : St B) (t0 : 0 ≤ t) (t1 : t ≤ 6) : St (pm_upd B 79 0 t) ∧ St (pm_upd B 79 1 t) := by
  refine ⟨hB.keep (ms := [700]) ?_ (gFr_upd (fun _ _ _ _ _ => rfl) ?_) rfl, hB.keep (ms := [701]) ?_ (gFr_upd (fun _ _ _ _ _ => rfl) ?_) rfl⟩
  · refine gH_upd hB.1 (k := (0, 7, 6, [(0, 0, 6), (0, 0, 6), (2, 10, 0), (2, 11, 0), (2, 12, 0), (2, 13, 0)])) (by rw [kk79]; rfl) (fun _ j v hj ej => ?_) (fun q => by cases q)
    have : j = 0 := by omega
    subst this
    cases hj
    exact ⟨rfl, t0, t1⟩
  · unfold mcode; rw [shX_1 kk79]; show 700 ∈ [700]; decide
  · refine gH_upd hB.1 (k := (0, 7, 6, [(0, 0, 6), (0, 0, 6), (2, 10, 0), (2, 11, 0), (2, 12, 0), (2, 13, 0)])) (by rw [kk79]; rfl) (fun _ j v hj ej => ?_) (fun q => by cases q)
    have : j = 1 := by omega
    subst this
    cases hj
    exact ⟨rfl, t0, t1⟩
  · unfold mcode; rw [shX_1 kk79]; show 701 ∈ [701]; decide
/-- a number of a letter -/
theorem numb_ct {A : pm_A} {q : Int} (hA : St A) (hq : 0 ≤ q ∧ wX.2 q = 2) : Cl pmt (an_sh wX) 11 [(2, 72), (2, q)] A (fun r => ∃ x, r.1 = some (0, x) ∧ (-1 ≤ x ∧ x ≤ 99) ∧ St r.2 ∧ gFr wX [1, 800, 801, 10014, 10015] A r.2) := by
  refine Cl.gct q_X0_numberOf_0 (A := A) (a := [(2, 72), (2, q)]) ⟨gv_ref z72 kk72, gv_ref hq.1 hq.2, trivial⟩ hA.1 ?_
  rintro ⟨r1, C⟩ g1 g2 g3
  simp only at g1 g2 g3
  match r1, g1 with
  | some (0, x), ⟨⟨_, q1, q2⟩, _⟩ => exact ⟨x, rfl, ⟨q1, q2⟩, hA.keep g2 g3 rfl, g3⟩
  | some (n + 1, x), ⟨⟨q, _⟩, _⟩ => exact absurd q (by intro q; cases q)
  | none, q => exact absurd q (by intro q; cases q)
theorem ef_94 {B : pm_A} {i : Int} (hB : St B) (hs : sat B 72) : Tm pmt (an_sh wX) o_X0_enterFirst 94 ([(2, 72), (2, 1), (0, i)], [], B) (st_post 0 1) := by
  refine wq_ok srt_enterFirst (fr := []) (cuts := [98]) (J := fun pc st => pc = 98 ∧ ∃ C, St C ∧ sat C 72 ∧ st = ([(2, 72), (2, 1), (0, i)], [], C)) ?_ 30 94 _ ?_
  · rintro pc st ⟨rfl, C, hC, hC2, rfl⟩
    refine wq_ok srt_enterFirst (fr := []) (cuts := []) (J := fun pc st => False) (fun _ _ h => h.elim) 20 98 _ ?_
    refine ⟨rX_5 z72 kk72, ?_⟩
    refine (enter_ct hC.1 z72 kk72 hC2).imp ?_
    rintro ⟨r1, D⟩ ⟨x, e, x0, x1, d1, d2, d3⟩
    simp only at e d1 d2
    subst e
    have hD := hC.keep d1 d2 rfl
    have hx : x = 0 ∨ x = 1 := by omega
    rcases hx with rfl | rfl
    · exact ⟨rfl, 0, rfl, ⟨by omega, by omega⟩, hD⟩
    · exact ⟨rfl, 1, rfl, ⟨by omega, by omega⟩, hD⟩
  · refine ⟨rX_5 z72 kk72, ?_⟩
    refine Cl.gct q_X0_gatherLetters_0 (A := B) (a := [(2, 72)]) ⟨gv_ref z72 kk72, trivial⟩ hB.1 ?_
    rintro ⟨r1, C⟩ g1 g2 g3
    simp only at g1 g2 g3
    cases r1 with
    | some v => exact absurd g1 (by intro q; cases q)
    | none => exact ⟨rfl, C, hB.keep g2 g3 rfl, ar_keep hB.1 z72 kk72 g3 rfl hs, rfl⟩
theorem ef_52 : ∀ (n : Nat) (i : Int) (B : pm_A), (6 - i).toNat < n → 0 ≤ i → i ≤ 6 → St B → satn B i → B 79 0 = B 1 0 → Tm pmt (an_sh wX) o_X0_enterFirst 52 ([(2, 72), (2, 1), (0, i)], [], B) (st_post 0 1) := by
  intro n
  induction n with
  | zero => intro i B h; omega
  | succ n ih =>
    intro i B hn i0 i1 hB hs hp
    have p0 := fX_1_0 hB.1 z1 kk1
    have l0 := fX_1_4 hB.1 z1 kk1
    have s0 := fX_5_9 hB.1 z72 kk72
    have a7 : B 72 8 = 79 := hB.2.1.2.2.2.2.2.2.1
    refine wq_ok srt_enterFirst (fr := []) (cuts := [75, 94]) (J := fun pc st => (pc = 94 ∧ B 1 0 ≤ i ∧ st = ([(2, 72), (2, 1), (0, i)], [], B)) ∨ (pc = 75 ∧ i < B 1 0 ∧ ∃ x C, (-1 ≤ x ∧ x ≤ 99) ∧ St C ∧ gFr wX [1, 800, 801, 10014, 10015] B C ∧ st = ([(2, 72), (2, 1), (0, i)], [(0, x), (0, i), (2, B 72 9)], C))) ?_ 30 52 _ ?_
    · rintro pc st (⟨rfl, hi, rfl⟩ | ⟨rfl, hi, x, C, hx, hC, hF, rfl⟩)
      · refine ef_94 hB (fun j j0 j1 => hs j j0 ?_)
        rw [a7, hp] at j1
        omega
      · have e9 : C 72 9 = B 72 9 := hF 72 9 z72 (by omega) (by unfold mcode; rw [shX_5 kk72]; show ¬ 9 ∈ [1, 800, 801, 10014, 10015]; decide)
        have e1 : C 1 0 = B 1 0 := hF 1 0 z1 (by omega) (by unfold mcode; rw [shX_1 kk1]; show ¬ 700 ∈ [1, 800, 801, 10014, 10015]; decide)
        have e2 : C 79 0 = B 79 0 := hF 79 0 z79 (by omega) (by unfold mcode; rw [shX_1 kk79]; show ¬ 700 ∈ [1, 800, 801, 10014, 10015]; decide)
        have es : ∀ j, 0 ≤ j → C (B 72 9) j = B (B 72 9) j := fun j j0 => hF _ j s0.1 j0 (by unfold mcode; rw [shX_27 s0.2]; show ¬ (10000 + wX.2 (B 72 9) : Nat) ∈ [1, 800, 801, 10014, 10015]; rw [s0.2]; decide)
        have n72 : ¬ (72 : Int) = B 72 9 := fun q => by rw [← q, kk72] at s0; exact absurd s0.2 (by decide)
        have n1 : ¬ (1 : Int) = B 72 9 := fun q => by rw [← q, kk1] at s0; exact absurd s0.2 (by decide)
        have n79 : ¬ (79 : Int) = B 72 9 := fun q => by rw [← q, kk79] at s0; exact absurd s0.2 (by decide)
        have hD : St (pm_upd C (B 72 9) i x) := hC.keep (ms := [10027]) (uX_27 hC.1 s0.2 hx.1 hx.2) (gFr_upd (fun _ _ _ _ _ => rfl) (mX_27 s0.2 rfl)) rfl
        have d9 : pm_upd C (B 72 9) i x 72 9 = B 72 9 := by rw [upd_ne n72]; exact e9
        refine wq_ok srt_enterFirst (fr := []) (cuts := [52]) (J := fun pc st => pc = 52 ∧ ¬ x = -1 ∧ st = ([(2, 72), (2, 1), (0, i + 1)], [], pm_upd C (B 72 9) i x)) ?_ 30 75 _ ?_
        · rintro pc st ⟨rfl, hx1, rfl⟩
          refine ih (i + 1) _ (by omega) (by omega) (by omega) hD (fun j j0 j1 => ?_) (by rw [upd_ne n79, upd_ne n1, e1, e2]; exact hp)
          rw [d9]
          by_cases w : j = i
          · rw [w, upd_at]; omega
          · rw [upd_n2 w, es j j0]; exact hs j j0 (by omega)
        · refine ⟨tX_27 s0.1 s0.2 i0 (by omega) rfl, ?_⟩
          refine ⟨oX_5 z72 kk72 9 rfl, ?_⟩
          refine ⟨aX_27 (r := pm_upd C (B 72 9) i x 72 9) (by rw [d9]; exact s0.1) (by rw [d9]; exact s0.2) i0 (by omega), ?_⟩
          refine ⟨fun q => ?_, fun q => ?_⟩
          · refine ⟨⟨by omega, by omega⟩, ?_⟩
            have q2 : ¬ pm_upd C (B 72 9) i x (pm_upd C (B 72 9) i x 72 9) i = -1 := q
            rw [d9, upd_at] at q2
            exact ⟨rfl, q2, rfl⟩
          · exact ⟨rfl, 0, rfl, ⟨by omega, by omega⟩, hD⟩
    · refine ⟨oX_1 z1 kk1 0 rfl, ?_⟩
      refine ⟨fun h => Or.inl ⟨rfl, h, rfl⟩, fun h => ?_⟩
      have hi : i < B 1 0 := h
      have x0 := eX_12 hB.1 l0.1 l0.2 i0 (show i < 6 by omega)
      refine ⟨oX_5 z72 kk72 9 rfl, ?_⟩
      refine ⟨oX_1 z1 kk1 4 rfl, ?_⟩
      refine ⟨aX_12 l0.1 l0.2 i0 (by omega), ?_⟩
      refine ⟨rX_5 z72 kk72, ?_⟩
      refine (numb_ct hB x0).imp ?_
      rintro ⟨r1, C⟩ ⟨x, e, hx, hC, hF⟩
      simp only at e hC hF
      subst e
      exact Or.inr ⟨rfl, hi, x, C, hx, hC, hF, rfl⟩
