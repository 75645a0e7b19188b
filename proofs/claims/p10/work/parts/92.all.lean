/-! Atlas.enterFirst from its start, Atlas.explore, all -/
theorem ef_32 {B : pm_A} {v : pm_V} (hB : St B) (hp : B 79 0 = B 1 0) : Tm pmt (an_sh wX) o_X0_enterFirst 32 ([(2, 72), (2, 1), v], [], B) (st_post 0 1) := by
  have a7 : B 72 8 = 79 := hB.2.1.2.2.2.2.2.2.1
  have u0 := fX_1_2 hB.1 z1 kk1
  have w0 := fX_1_2 hB.1 z79 kk79
  have e1 := shX_10 u0.2
  have e2 := shX_10 w0.2
  have n79 : ¬ (79 : Int) = B 79 2 := fun q => by rw [← q, kk79] at w0; exact absurd w0.2 (by decide)
  have n1 : ¬ (1 : Int) = B 79 2 := fun q => by rw [← q, kk1] at w0; exact absurd w0.2 (by decide)
  refine wq_ok srt_enterFirst (fr := []) (cuts := [52]) (J := fun pc st => pc = 52 ∧ st = ([(2, 72), (2, 1), (0, 0)], [], pm_cpy B (B 1 2) 0 (B (B 72 8) 2) 0 72)) ?_ 30 32 _ ?_
  · rintro pc st ⟨rfl, rfl⟩
    rw [a7]
    refine ef_52 _ 0 _ (Nat.lt_succ_self _) (by omega) (by omega) (hB.keep (ms := [10010]) (gH_cpy hB.1 (ka := (1, 0, 72, [(0, -2147483648, 2147483647)])) (kb := (1, 0, 72, [(0, -2147483648, 2147483647)])) u0.1 (by rw [u0.2]; rfl) (by rw [w0.2]; rfl) rfl rfl rfl rfl rfl rfl (by omega) (by omega) (by simp only; omega)) (gFr_cpy (fun _ _ _ _ _ => rfl) (fun j => mX_10 w0.2 rfl)) rfl) (fun j j0 j1 => by omega) ?_
    rw [cpy_ne n79, cpy_ne n1]; exact hp
  · refine ⟨oX_1 z1 kk1 2 rfl, ?_⟩
    refine ⟨oX_5 z72 kk72 8 rfl, ?_⟩
    refine ⟨oX_1 (r := B 72 8) (by rw [a7]; omega) (by rw [a7]; exact kk79) 2 rfl, ?_⟩
    refine ⟨⟨u0.1, by rw [a7]; exact w0.1, by rw [e1], by rw [e1], by rw [a7, e2], by rw [a7, e2], by omega, by omega, by omega, by rw [e1]; simp only; omega, by rw [a7, e2]; simp only; omega⟩, ?_⟩
    exact ⟨rfl, rfl⟩
theorem ef_21 {B : pm_A} {v : pm_V} (hB : St B) (hp : B 79 0 = B 1 0) : Tm pmt (an_sh wX) o_X0_enterFirst 21 ([(2, 72), (2, 1), v], [], B) (st_post 0 1) := by
  have a7 : B 72 8 = 79 := hB.2.1.2.2.2.2.2.2.1
  have q0 := fX_1_1 hB.1 z1 kk1
  refine wq_ok srt_enterFirst (fr := []) (cuts := [32]) (J := fun pc st => pc = 32 ∧ st = ([(2, 72), (2, 1), v], [], pm_upd B (B 72 8) 1 (B 1 1))) ?_ 30 21 _ ?_
  · rintro pc st ⟨rfl, rfl⟩
    rw [a7]
    exact ef_32 (put79 hB q0.1 q0.2).2 (by rw [upd_n2 (by omega), upd_n2 (by omega)]; exact hp)
  · refine ⟨oX_5 z72 kk72 8 rfl, ?_⟩
    refine ⟨oX_1 z1 kk1 1 rfl, ?_⟩
    refine ⟨oX_1 (r := B 72 8) (by rw [a7]; omega) (by rw [a7]; exact kk79) 1 rfl, ?_⟩
    exact ⟨rfl, rfl⟩
theorem ef_10 {B : pm_A} {v : pm_V} (hB : St B) : Tm pmt (an_sh wX) o_X0_enterFirst 10 ([(2, 72), (2, 1), v], [], B) (st_post 0 1) := by
  have a7 : B 72 8 = 79 := hB.2.1.2.2.2.2.2.2.1
  have q0 := fX_1_0 hB.1 z1 kk1
  refine wq_ok srt_enterFirst (fr := []) (cuts := [21]) (J := fun pc st => pc = 21 ∧ st = ([(2, 72), (2, 1), v], [], pm_upd B (B 72 8) 0 (B 1 0))) ?_ 30 10 _ ?_
  · rintro pc st ⟨rfl, rfl⟩
    rw [a7]
    exact ef_21 (put79 hB q0.1 q0.2).1 (by rw [upd_at, upd_ne (by omega)])
  · refine ⟨oX_5 z72 kk72 8 rfl, ?_⟩
    refine ⟨oX_1 z1 kk1 0 rfl, ?_⟩
    refine ⟨oX_1 (r := B 72 8) (by rw [a7]; omega) (by rw [a7]; exact kk79) 0 rfl, ?_⟩
    exact ⟨rfl, rfl⟩
theorem enterFirst_ct {A : pm_A} (hA : St A) : Cl pmt (an_sh wX) 6 [(2, 72), (2, 1)] A (st_post 0 1) := by
  refine Cl.of (Nat.le_of_ble_eq_true rfl) ?_
  refine wq_ok (full := o_X0_enterFirst) srt_enterFirst (fr := []) (cuts := [10]) (J := fun pc st => pc = 10 ∧ ∃ v, st = ([(2, 72), (2, 1), v], [], pm_upd (pm_upd A 72 1 0) 72 7 0)) ?_ 30 0 _ ?_
  · rintro pc st ⟨rfl, v, rfl⟩
    exact ef_10 (put5 (put5 hA (by omega) (by omega)).1 (by omega) (by omega)).2
  · refine ⟨oX_5 z72 kk72 1 rfl, ?_⟩
    refine ⟨oX_5 z72 kk72 7 rfl, ?_⟩
    exact ⟨rfl, _, rfl⟩
def xp_post : pm_R → Prop := st_post (-2147483648) 2147483647
theorem xp_130 {C : pm_A} {r k x : Int} (hC : St C) (hs : sat C 72) (hx : -1 ≤ x ∧ x ≤ 99) (k0 : 0 ≤ k) (k1 : k ≤ 5) (H : ∀ D, St D → Tm pmt (an_sh wX) o_X0_explore 154 ([(2, 72), (2, 1), (2, 28), (0, r), (0, k)], [], D) xp_post) : Tm pmt (an_sh wX) o_X0_explore 130 ([(2, 72), (2, 1), (2, 28), (0, r), (0, k)], [(0, x), (0, k), (2, C 72 9)], C) xp_post := by
  have s0 := fX_5_9 hC.1 z72 kk72
  have t0 := fX_5_8 hC.1 z72 kk72
  have n72 : ¬ (72 : Int) = C 72 9 := fun q => by rw [← q, kk72] at s0; exact absurd s0.2 (by decide)
  have n8 : ¬ C 72 8 = C 72 9 := fun q => by rw [← q, t0.2] at s0; exact absurd s0.2 (by decide)
  have hD : St (pm_upd C (C 72 9) k x) := hC.keep (ms := [10027]) (uX_27 hC.1 s0.2 hx.1 hx.2) (gFr_upd (fun _ _ _ _ _ => rfl) (mX_27 s0.2 rfl)) rfl
  have d9 : pm_upd C (C 72 9) k x 72 9 = C 72 9 := upd_ne n72
  have d8 : pm_upd C (C 72 9) k x 72 8 = C 72 8 := upd_ne n72
  refine wq_ok srt_explore (fr := []) (cuts := [154]) (J := fun pc st => pc = 154 ∧ ∃ D, St D ∧ st = ([(2, 72), (2, 1), (2, 28), (0, r), (0, k)], [], D)) ?_ 30 130 _ ?_
  · rintro pc st ⟨rfl, D, hD, rfl⟩
    exact H D hD
  · refine ⟨tX_27 s0.1 s0.2 k0 (by omega) rfl, ?_⟩
    refine ⟨oX_5 z72 kk72 9 rfl, ?_⟩
    refine ⟨aX_27 (r := pm_upd C (C 72 9) k x 72 9) (by rw [d9]; exact s0.1) (by rw [d9]; exact s0.2) k0 (by omega), ?_⟩
    refine ⟨fun q => ?_, fun q => ?_⟩
    · exact ⟨rfl, -2, rfl, ⟨by omega, by omega⟩, hD⟩
    · have q2 : ¬ pm_upd C (C 72 9) k x (pm_upd C (C 72 9) k x 72 9) k = -1 := q
      rw [d9, upd_at] at q2
      refine ⟨rX_5 z72 kk72, ?_⟩
      refine (arrive_ct hD.1 z72 kk72 k0 k1 (fun j j0 j1 => ?_)).imp ?_
      · rw [d9]
        by_cases w : j = k
        · rw [w, upd_at]; omega
        · rw [upd_n2 w]
          rw [d8, upd_ne n8] at j1
          exact hs j j0 j1
      · rintro ⟨r1, E⟩ ⟨y, e, y0, y1, c1, c2⟩
        simp only at e c1 c2
        subst e
        have hE := hD.keep c1 c2 rfl
        refine ⟨fun _ => ?_, fun _ => ?_⟩
        · exact ⟨rfl, E, hE, rfl⟩
        · exact ⟨rfl, -2, rfl, ⟨by omega, by omega⟩, hE⟩
theorem xp_116 {B : pm_A} {r k : Int} (hB : St B) (hs : sat B 72) (k0 : 0 ≤ k) (k1 : k ≤ 5) (H : ∀ D, St D → Tm pmt (an_sh wX) o_X0_explore 154 ([(2, 72), (2, 1), (2, 28), (0, r), (0, k)], [], D) xp_post) : Tm pmt (an_sh wX) o_X0_explore 116 ([(2, 72), (2, 1), (2, 28), (0, r), (0, k)], [], B) xp_post := by
  have f0 := fX_4_0 hB.1 z28 kk28
  refine wq_ok srt_explore (fr := []) (cuts := [130]) (J := fun pc st => pc = 130 ∧ ∃ x C, (-1 ≤ x ∧ x ≤ 99) ∧ St C ∧ sat C 72 ∧ C 72 9 = B 72 9 ∧ st = ([(2, 72), (2, 1), (2, 28), (0, r), (0, k)], [(0, x), (0, k), (2, B 72 9)], C)) ?_ 30 116 _ ?_
  · rintro pc st ⟨rfl, x, C, hx, hC, hC2, e9, rfl⟩
    rw [← e9]
    exact xp_130 hC hC2 hx k0 k1 H
  · refine ⟨oX_5 z72 kk72 9 rfl, ?_⟩
    refine ⟨oX_4 z28 kk28 0 rfl, ?_⟩
    refine ⟨rX_5 z72 kk72, ?_⟩
    refine (numb_ct hB f0).imp ?_
    rintro ⟨r1, C⟩ ⟨x, e, hx, hC, hF⟩
    simp only at e hC hF
    subst e
    exact ⟨rfl, x, C, hx, hC, ar_keep hB.1 z72 kk72 hF rfl hs, hF 72 9 z72 (by omega) (by unfold mcode; rw [shX_5 kk72]; show ¬ 9 ∈ [1, 800, 801, 10014, 10015]; decide), rfl⟩
theorem xp_82 {B : pm_A} {r k : Int} (hB : St B) (hs : sat B 72) (k0 : 0 ≤ k) (k1 : k ≤ 5) (H : ∀ D, St D → Tm pmt (an_sh wX) o_X0_explore 154 ([(2, 72), (2, 1), (2, 28), (0, r), (0, k)], [], D) xp_post) : Tm pmt (an_sh wX) o_X0_explore 82 ([(2, 72), (2, 1), (2, 28), (0, r), (0, k)], [], B) xp_post := by
  have t0 := fX_5_8 hB.1 z72 kk72
  have u0 := fX_1_2 hB.1 t0.1 t0.2
  have p0 := fX_1_0 hB.1 t0.1 t0.2
  have q0 := fX_1_1 hB.1 t0.1 t0.2
  refine wq_ok srt_explore (fr := []) (cuts := [116]) (J := fun pc st => pc = 116 ∧ ∃ C, St C ∧ sat C 72 ∧ st = ([(2, 72), (2, 1), (2, 28), (0, r), (0, k)], [], C)) ?_ 30 82 _ ?_
  · rintro pc st ⟨rfl, C, hC, hC2, rfl⟩
    exact xp_116 hC hC2 k0 k1 H
  · refine ⟨oX_5 z72 kk72 8 rfl, ?_⟩
    refine ⟨oX_1 t0.1 t0.2 2 rfl, ?_⟩
    refine ⟨oX_5 z72 kk72 8 rfl, ?_⟩
    refine ⟨oX_1 t0.1 t0.2 0 rfl, ?_⟩
    refine ⟨oX_5 z72 kk72 8 rfl, ?_⟩
    refine ⟨oX_1 t0.1 t0.2 1 rfl, ?_⟩
    refine ⟨⟨by omega, by omega⟩, ?_⟩
    refine ⟨oX_5 z72 kk72 8 rfl, ?_⟩
    refine ⟨oX_1 t0.1 t0.2 0 rfl, ?_⟩
    refine ⟨rfl, ?_⟩
    refine Cl.gct q_X9_turnTable_0 (A := B) (a := [(2, B (B 72 8) 2), (0, B (B 72 8) 0 + B (B 72 8) 1), (0, B (B 72 8) 0), (0, k)]) ⟨gv_ref u0.1 u0.2, ⟨rfl, by simp only; omega, by simp only; omega⟩, ⟨rfl, p0.1, p0.2⟩, ⟨rfl, k0, k1⟩, trivial⟩ hB.1 ?_
    rintro ⟨r1, C⟩ g1 g2 g3
    simp only at g1 g2 g3
    cases r1 with
    | some v => exact absurd g1 (by intro q; cases q)
    | none => exact ⟨rfl, C, hB.keep g2 g3 rfl, ar_keep hB.1 z72 kk72 g3 rfl hs, rfl⟩
theorem xp_66 {B : pm_A} {r k : Int} (hB : St B) (hs : sat B 72) (k0 : 0 ≤ k) (k1 : k ≤ 5) (H : ∀ D, St D → Tm pmt (an_sh wX) o_X0_explore 154 ([(2, 72), (2, 1), (2, 28), (0, r), (0, k)], [], D) xp_post) : Tm pmt (an_sh wX) o_X0_explore 66 ([(2, 72), (2, 1), (2, 28), (0, r), (0, k)], [], B) xp_post := by
  have a7 : B 72 8 = 79 := hB.2.1.2.2.2.2.2.2.1
  refine wq_ok srt_explore (fr := []) (cuts := [82]) (J := fun pc st => pc = 82 ∧ ∃ C, St C ∧ sat C 72 ∧ st = ([(2, 72), (2, 1), (2, 28), (0, r), (0, k)], [], C)) ?_ 30 66 _ ?_
  · rintro pc st ⟨rfl, C, hC, hC2, rfl⟩
    exact xp_82 hC hC2 k0 k1 H
  · refine ⟨oX_5 z72 kk72 8 rfl, ?_⟩
    refine ⟨rX_4 z28 kk28, ?_⟩
    show Cl pmt (an_sh wX) 42 [(2, 28), (2, B 72 8), (0, k)] B _
    rw [a7]
    refine (exchange_ct (al_ex2 hB.1 hB.2 k0 k1)).imp ?_
    rintro ⟨r1, C⟩ ⟨x, e, x0, x1, c1, c2⟩
    simp only at e c1 c2
    subst e
    have hC := hB.keep c1 c2 rfl
    refine ⟨fun _ => ?_, fun _ => ?_⟩
    · exact ⟨rfl, C, hC, ar_keep hB.1 z72 kk72 c2 rfl hs, rfl⟩
    · exact ⟨rfl, -2, rfl, ⟨by omega, by omega⟩, hC⟩
theorem xp_31 {r : Int} (r0 : 0 ≤ r) (r1 : r ≤ 149) (H : ∀ D v, St D → Tm pmt (an_sh wX) o_X0_explore 160 ([(2, 72), (2, 1), (2, 28), (0, r), v], [], D) xp_post) : ∀ (n : Nat) (k : Int) (B : pm_A), (6 - k).toNat < n → 0 ≤ k → k ≤ 6 → St B → Tm pmt (an_sh wX) o_X0_explore 31 ([(2, 72), (2, 1), (2, 28), (0, r), (0, k)], [], B) xp_post := by
  intro n
  induction n with
  | zero => intro k B h; omega
  | succ n ih =>
    intro k B hn k0 k1 hB
    have t0 := fX_5_8 hB.1 z72 kk72
    have p0 := fX_1_0 hB.1 t0.1 t0.2
    have x0 := fX_5_3 hB.1 z72 kk72
    have step : k < 6 → ∀ D, St D → Tm pmt (an_sh wX) o_X0_explore 154 ([(2, 72), (2, 1), (2, 28), (0, r), (0, k)], [], D) xp_post := fun hk D hD => by
      refine wq_ok srt_explore (fr := []) (cuts := [31]) (J := fun pc st => pc = 31 ∧ st = ([(2, 72), (2, 1), (2, 28), (0, r), (0, k + 1)], [], D)) ?_ 30 154 _ ?_
      · rintro pc st ⟨rfl, rfl⟩
        exact ih (k + 1) D (by omega) (by omega) (by omega) hD
      · refine ⟨⟨by omega, by omega⟩, ?_⟩
        exact ⟨rfl, rfl⟩
    refine wq_ok srt_explore (fr := []) (cuts := [66, 154, 160]) (J := fun pc st => (pc = 160 ∧ st = ([(2, 72), (2, 1), (2, 28), (0, r), (0, k)], [], B)) ∨ (pc = 154 ∧ k < 6 ∧ st = ([(2, 72), (2, 1), (2, 28), (0, r), (0, k)], [], B)) ∨ (pc = 66 ∧ k < 6 ∧ ∃ C, St C ∧ sat C 72 ∧ st = ([(2, 72), (2, 1), (2, 28), (0, r), (0, k)], [], C))) ?_ 30 31 _ ?_
    · rintro pc st (⟨rfl, rfl⟩ | ⟨rfl, hk, rfl⟩ | ⟨rfl, hk, C, hC, hC2, rfl⟩)
      · exact H B _ hB
      · exact step hk B hB
      · exact xp_66 hC hC2 k0 (by omega) (step hk)
    · refine ⟨oX_5 z72 kk72 8 rfl, ?_⟩
      refine ⟨oX_1 t0.1 t0.2 0 rfl, ?_⟩
      refine ⟨fun h => Or.inl ⟨rfl, rfl⟩, fun h => ?_⟩
      have hk : k < 6 := by omega
      refine ⟨oX_5 z72 kk72 3 rfl, ?_⟩
      refine ⟨⟨by omega, by omega⟩, ?_⟩
      refine ⟨⟨by omega, by omega⟩, ?_⟩
      refine ⟨aX_24 x0.1 x0.2 (by omega) (by omega), ?_⟩
      refine ⟨fun _ => ?_, fun _ => ?_⟩
      · refine ⟨rX_5 z72 kk72, ?_⟩
        refine (load_ct hB r0 r1).imp ?_
        rintro ⟨q1, C⟩ ⟨e, hC, hC2⟩
        simp only at e hC hC2
        subst e
        exact Or.inr (Or.inr ⟨rfl, hk, C, hC, hC2, rfl⟩)
      · exact Or.inr (Or.inl ⟨rfl, hk, rfl⟩)
theorem xp_13 : ∀ (n : Nat) (r : Int) (v : pm_V) (B : pm_A), (150 - r).toNat < n → 0 ≤ r → r ≤ 150 → St B → Tm pmt (an_sh wX) o_X0_explore 13 ([(2, 72), (2, 1), (2, 28), (0, r), v], [], B) xp_post := by
  intro n
  induction n with
  | zero => intro r v B h; omega
  | succ n ih =>
    intro r v B hn r0 r1 hB
    have fin : Tm pmt (an_sh wX) o_X0_explore 166 ([(2, 72), (2, 1), (2, 28), (0, r), v], [], B) xp_post := by
      refine wq_ok srt_explore (fr := []) (cuts := []) (J := fun pc st => False) (fun _ _ h => h.elim) 20 166 _ ?_
      refine ⟨rX_5 z72 kk72, ?_⟩
      refine Cl.gct q_X0_remember_0 (A := B) (a := [(2, 72)]) ⟨gv_ref z72 kk72, trivial⟩ hB.1 ?_
      rintro ⟨q1, C⟩ g1 g2 g3
      simp only at g1 g2 g3
      cases q1 with
      | some v => exact absurd g1 (by intro q; cases q)
      | none =>
        have w0 := fX_5_7 g2 z72 kk72
        refine ⟨oX_5 z72 kk72 7 rfl, ?_⟩
        exact ⟨rfl, C 72 7, rfl, ⟨by omega, by omega⟩, hB.keep g2 g3 rfl⟩
    refine wq_ok srt_explore (fr := []) (cuts := [31, 166]) (J := fun pc st => (pc = 166 ∧ st = ([(2, 72), (2, 1), (2, 28), (0, r), v], [], B)) ∨ (pc = 31 ∧ r < 150 ∧ st = ([(2, 72), (2, 1), (2, 28), (0, r), (0, 0)], [], B))) ?_ 30 13 _ ?_
    · rintro pc st (⟨rfl, rfl⟩ | ⟨rfl, hr, rfl⟩)
      · exact fin
      · refine xp_31 r0 (by omega) (fun D v hD => ?_) _ 0 B (Nat.lt_succ_self _) (by omega) (by omega) hB
        refine wq_ok srt_explore (fr := []) (cuts := [13]) (J := fun pc st => pc = 13 ∧ st = ([(2, 72), (2, 1), (2, 28), (0, r + 1), v], [], D)) ?_ 30 160 _ ?_
        · rintro pc st ⟨rfl, rfl⟩
          exact ih (r + 1) v D (by omega) (by omega) (by omega) hD
        · refine ⟨⟨by omega, by omega⟩, ?_⟩
          exact ⟨rfl, rfl⟩
    · refine ⟨oX_5 z72 kk72 7 rfl, ?_⟩
      refine ⟨fun h => Or.inl ⟨rfl, rfl⟩, fun h => ?_⟩
      refine ⟨fun h2 => Or.inl ⟨rfl, rfl⟩, fun h2 => ?_⟩
      exact Or.inr ⟨rfl, h2, rfl⟩
theorem explore_ct {A : pm_A} (hA : St A) : Cl pmt (an_sh wX) 7 [(2, 72), (2, 1), (2, 28)] A xp_post := by
  refine Cl.of (Nat.le_of_ble_eq_true rfl) ?_
  refine wq_ok (full := o_X0_explore) srt_explore (fr := []) (cuts := [13]) (J := fun pc st => pc = 13 ∧ ∃ C v, St C ∧ st = ([(2, 72), (2, 1), (2, 28), (0, 0), v], [], C)) ?_ 30 0 _ ?_
  · rintro pc st ⟨rfl, C, v, hC, rfl⟩
    exact xp_13 _ 0 v C (Nat.lt_succ_self _) (by omega) (by omega) hC
  · refine ⟨rX_5 z72 kk72, ?_⟩
    refine (enterFirst_ct hA).imp ?_
    rintro ⟨r1, C⟩ ⟨x, e, hx, hC⟩
    simp only at e hC
    subst e
    refine ⟨fun _ => ?_, fun _ => ?_⟩
    · exact ⟨rfl, C, _, hC, rfl⟩
    · exact ⟨rfl, -2, rfl, ⟨by omega, by omega⟩, hC⟩
theorem put_all {B : pm_A} {t : Int} (hB : St B) (t0 : -2147483648 ≤ t) (t1 : t ≤ 2147483647) : St (pm_upd B 0 10 t) := by
  refine hB.keep (ms := [910]) ?_ (gFr_upd (fun _ _ _ _ _ => rfl) ?_) rfl
  · refine gH_upd hB.1 (k := (0, 9, 15, [(2, 1, 0), (2, 3, 0), (2, 4, 0), (2, 19, 0), (0, 0, 100), (2, 20, 0), (2, 21, 0), (0, 0, 12), (2, 1, 0), (2, 5, 0), (0, (-2147483648), 2147483647), (2, 6, 0), (2, 7, 0), (2, 34, 0), (2, 8, 0)])) (by rw [kk0]; rfl) (fun _ j a hj ej => ?_) (fun q => by cases q)
    have : j = 10 := by omega
    subst this
    cases hj
    exact ⟨rfl, t0, t1⟩
  · unfold mcode; rw [shX_0 kk0]; show 910 ∈ [910]; decide
theorem all_ct {A : pm_A} (hA : St A) : Cl pmt (an_sh wX) 83 [(2, 0)] A xp_post := by
  have a1 := hA.2.1.1
  have a2 := hA.2.1.2.1
  have a4 := hA.2.1.2.2.2.1
  refine Cl.of (Nat.le_of_ble_eq_true rfl) ?_
  refine wq_ok (full := o_X9_all) srt_all (fr := []) (cuts := [15]) (J := fun pc st => pc = 15 ∧ ∃ x C v, (-2147483648 ≤ x ∧ x ≤ 2147483647) ∧ St C ∧ st = ([(2, 0), v], [(0, x)], C)) ?_ 30 0 _ ?_
  · rintro pc st ⟨rfl, x, C, v, hx, hC, rfl⟩
    refine wq_ok srt_all (fr := []) (cuts := []) (J := fun pc st => False) (fun _ _ h => h.elim) 20 15 _ ?_
    refine ⟨oX_0 z0 kk0 10 rfl, ?_⟩
    exact ⟨rfl, x, rfl, hx, put_all (t := max x 0) hC (by omega) (by omega)⟩
  · refine ⟨oX_0 z0 kk0 9 rfl, ?_⟩
    refine ⟨oX_0 z0 kk0 0 rfl, ?_⟩
    refine ⟨oX_0 z0 kk0 2 rfl, ?_⟩
    refine ⟨rX_5 (r := A 0 9) (by rw [a4]; omega) (by rw [a4]; exact kk72), ?_⟩
    show Cl pmt (an_sh wX) 7 [(2, A 0 9), (2, A 0 0), (2, A 0 2)] A _
    rw [a1, a2, a4]
    refine (explore_ct hA).imp ?_
    rintro ⟨r1, C⟩ ⟨x, e, hx, hC⟩
    simp only at e hC
    subst e
    exact ⟨rfl, x, C, _, hx, hC, rfl⟩
