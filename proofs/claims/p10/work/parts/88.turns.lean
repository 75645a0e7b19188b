/-! turn, back, walkRow -/
theorem srt_turn : pm_srt o_X9_turn = true := by decide +kernel
theorem srt_back : pm_srt o_X9_back = true := by decide +kernel
theorem srt_walkRow : pm_srt o_X9_walkRow = true := by decide +kernel
def St (A : pm_A) : Prop := gH wX A ∧ AL A
def st_post (lo hi : Int) (r : pm_R) : Prop := ∃ x, r.1 = some (0, x) ∧ (lo ≤ x ∧ x ≤ hi) ∧ St r.2
theorem St.keep {A C : pm_A} {ms : List Nat} (h : St A) (hC : gH wX C) (hF : gFr wX ms A C) (hm : ms.all (fun x => !al_C.contains x) = true) : St C := ⟨hC, al_keep hF hm h.2⟩
theorem place_ct {A : pm_A} {k : Int} (hA : St A) (hk : r32 k) : Cl pmt (an_sh wX) 96 [(2, 0), (0, k)] A (fun r => ∃ x, r.1 = some (0, x) ∧ St r.2 ∧ gFr wX [] A r.2 ∧ (¬ x = 0 → 0 ≤ k ∧ k ≤ 5)) := by
  have key : ∀ (lo hi c : Int), c = 0 ∨ (0 ≤ lo ∧ hi ≤ 5) → gCt wX pmt 96 ([(2, 0, 0), (0, lo, hi)], some (0, 0, c), []) → lo ≤ k → k ≤ hi → Cl pmt (an_sh wX) 96 [(2, 0), (0, k)] A (fun r => ∃ x, r.1 = some (0, x) ∧ St r.2 ∧ gFr wX [] A r.2 ∧ (¬ x = 0 → 0 ≤ k ∧ k ≤ 5)) := by
    intro lo hi c hc hq h1 h2
    refine Cl.gct hq (A := A) (a := [(2, 0), (0, k)]) ⟨gv_ref (by omega) kk0, ⟨rfl, h1, h2⟩, trivial⟩ hA.1 ?_
    rintro ⟨r1, C⟩ g1 g2 g3
    simp only at g1 g2 g3
    match r1, g1 with
    | some (0, x), ⟨⟨_, q1, q2⟩, _⟩ =>
      simp only at q1 q2
      exact ⟨x, rfl, hA.keep g2 g3 rfl, g3, fun q => by omega⟩
    | some (n + 1, x), ⟨⟨q, _⟩, _⟩ => exact absurd q (by intro q; cases q)
    | none, q => exact absurd q (by intro q; cases q)
  unfold r32 at hk
  by_cases h1 : k < 0
  · exact key _ _ _ (Or.inl rfl) q_X9_isPlace_0 hk.1 (by omega)
  · by_cases h2 : k ≤ 5
    · exact key _ _ _ (Or.inr ⟨by omega, by omega⟩) q_X9_isPlace_1 (by omega) h2
    · exact key _ _ _ (Or.inl rfl) q_X9_isPlace_2 (by omega) hk.2
theorem exch_ct {A : pm_A} {s L o k : Int} (hA : St A) (ho : own s L o) (k0 : 0 ≤ k) (k1 : k ≤ 5) : Cl pmt (an_sh wX) 42 [(2, 28), (2, s), (0, k)] A (fun r => ∃ x, r.1 = some (0, x) ∧ (0 ≤ x ∧ x ≤ 1) ∧ St r.2 ∧ gFr wX dv_M A r.2) := by
  refine (exchange_ct (al_ex hA.1 hA.2 ho k0 k1)).imp ?_
  rintro ⟨r1, C⟩ ⟨x, e, x0, x1, c1, c2⟩
  simp only at e c1 c2
  subst e
  exact ⟨x, rfl, ⟨x0, x1⟩, hA.keep c1 c2 rfl, c2⟩
theorem put_turns {B : pm_A} {t : Int} (hB : St B) (t0 : 0 ≤ t) (t1 : t ≤ 100) : St (pm_upd B 0 4 t) := by
  refine hB.keep (ms := [904]) ?_ (gFr_upd (fun _ _ _ _ _ => rfl) ?_) rfl
  · refine gH_upd hB.1 (k := (0, 9, 15, [(2, 1, 0), (2, 3, 0), (2, 4, 0), (2, 19, 0), (0, 0, 100), (2, 20, 0), (2, 21, 0), (0, 0, 12), (2, 1, 0), (2, 5, 0), (0, (-2147483648), 2147483647), (2, 6, 0), (2, 7, 0), (2, 34, 0), (2, 8, 0)])) (by rw [kk0]; rfl) (fun _ j a hj ej => ?_) (fun q => by cases q)
    have : j = 4 := by omega
    subst this
    cases hj
    exact ⟨rfl, t0, t1⟩
  · unfold mcode; rw [shX_0 kk0]; show 904 ∈ [904]; decide
theorem own1 : own 1 4 0 := Or.inl ⟨rfl, rfl, rfl⟩
theorem own49 : own 49 52 6 := Or.inr ⟨rfl, rfl, rfl⟩
theorem z0 : (0 : Int) ≤ 0 := by omega
theorem tu_72 {B : pm_A} {k : Int} (hB : St B) (k0 : 0 ≤ k) (k1 : k ≤ 5) : Tm pmt (an_sh wX) o_X9_turn 72 ([(2, 0), (0, k)], [], B) (st_post (-3) 200) := by
  have s0 := fX_0_0 hB.1 z0 kk0
  have l0 := fX_1_4 hB.1 s0.1 s0.2
  have e0 := eX_12 hB.1 l0.1 l0.2 k0 (show k < 6 by omega)
  have n0 := fX_2_1 hB.1 e0.1 e0.2
  refine wq_ok srt_turn (fr := []) (cuts := []) (J := fun pc st => False) (fun _ _ h => h.elim) 20 72 _ ?_
  refine ⟨oX_0 z0 kk0 0 rfl, ?_⟩
  refine ⟨oX_1 s0.1 s0.2 4 rfl, ?_⟩
  refine ⟨aX_12 l0.1 l0.2 k0 (by omega), ?_⟩
  refine ⟨oX_2 e0.1 e0.2 1 rfl, ?_⟩
  exact ⟨rfl, _, rfl, ⟨by omega, n0.2⟩, hB⟩
theorem tu_62 {B : pm_A} {k : Int} (hB : St B) (k0 : 0 ≤ k) (k1 : k ≤ 5) (ht : B 0 4 < 100) : Tm pmt (an_sh wX) o_X9_turn 62 ([(2, 0), (0, k)], [], B) (st_post (-3) 200) := by
  have t0 := fX_0_4 hB.1 z0 kk0
  refine wq_ok srt_turn (fr := []) (cuts := [72]) (J := fun pc st => pc = 72 ∧ st = ([(2, 0), (0, k)], [], pm_upd B 0 4 (B 0 4 + 1))) ?_ 20 62 _ ?_
  · rintro pc st ⟨rfl, rfl⟩
    exact tu_72 (put_turns hB (by omega) (by omega)) k0 k1
  · refine ⟨oX_0 z0 kk0 4 rfl, ?_⟩
    refine ⟨⟨by omega, by omega⟩, ?_⟩
    refine ⟨oX_0 z0 kk0 4 rfl, ?_⟩
    exact ⟨rfl, rfl⟩
theorem tu_52 {B : pm_A} {k : Int} (hB : St B) (k0 : 0 ≤ k) (k1 : k ≤ 5) (ht : B 0 4 < 100) : Tm pmt (an_sh wX) o_X9_turn 52 ([(2, 0), (0, k)], [], B) (st_post (-3) 200) := by
  have t0 := fX_0_4 hB.1 z0 kk0
  have r0 := fX_0_3 hB.1 z0 kk0
  have ne : ¬ (0 : Int) = B 0 3 := fun q => by rw [← q, kk0] at r0; exact absurd r0.2 (by decide)
  refine wq_ok srt_turn (fr := []) (cuts := [62]) (J := fun pc st => pc = 62 ∧ st = ([(2, 0), (0, k)], [], pm_upd B (B 0 3) (B 0 4) k)) ?_ 20 52 _ ?_
  · rintro pc st ⟨rfl, rfl⟩
    exact tu_62 (hB.keep (ms := [10019]) (uX_19 hB.1 r0.2 (by omega) (by omega)) (gFr_upd (fun _ _ _ _ _ => rfl) (mX_19 r0.2 rfl)) rfl) k0 k1 (by rw [upd_ne ne]; exact ht)
  · refine ⟨oX_0 z0 kk0 3 rfl, ?_⟩
    refine ⟨oX_0 z0 kk0 4 rfl, ?_⟩
    refine ⟨tX_19 r0.1 r0.2 t0.1 ht rfl, ?_⟩
    exact ⟨rfl, rfl⟩
theorem tu_40 {B : pm_A} {k : Int} (hB : St B) (k0 : 0 ≤ k) (k1 : k ≤ 5) (ht : B 0 4 < 100) : Tm pmt (an_sh wX) o_X9_turn 40 ([(2, 0), (0, k)], [], B) (st_post (-3) 200) := by
  have a2 := hB.2.1.2.1
  have a1 := hB.2.1.1
  refine wq_ok srt_turn (fr := []) (cuts := [52]) (J := fun pc st => pc = 52 ∧ ∃ C, St C ∧ C 0 4 < 100 ∧ st = ([(2, 0), (0, k)], [], C)) ?_ 20 40 _ ?_
  · rintro pc st ⟨rfl, C, hC, hC2, rfl⟩
    exact tu_52 hC k0 k1 hC2
  · refine ⟨oX_0 z0 kk0 2 rfl, ?_⟩
    refine ⟨oX_0 z0 kk0 0 rfl, ?_⟩
    refine ⟨rX_4 (r := B 0 2) (by rw [a2]; omega) (by rw [a2]; exact kk28), ?_⟩
    show Cl pmt (an_sh wX) 47 [(2, B 0 2), (2, B 0 0), (0, k)] B _
    rw [a1, a2]
    refine (settle_ct hB.1 hB.2 own1 k0 k1).imp ?_
    rintro ⟨r1, C⟩ ⟨q1, q2, q3, q4⟩
    simp only at q1 q2 q3 q4
    subst q1
    refine ⟨rfl, C, ⟨q2, q3⟩, ?_, rfl⟩
    rw [q4 0 4 z0 (by omega) (by unfold mcode; rw [shX_0 kk0]; show ¬ 904 ∈ se_M; decide)]
    exact ht
theorem tu_10 {B : pm_A} {k : Int} (hB : St B) (k0 : 0 ≤ k) (k1 : k ≤ 5) : Tm pmt (an_sh wX) o_X9_turn 10 ([(2, 0), (0, k)], [], B) (st_post (-3) 200) := by
  have a2 := hB.2.1.2.1
  have a1 := hB.2.1.1
  refine wq_ok srt_turn (fr := []) (cuts := [28]) (J := fun pc st => pc = 28 ∧ ∃ C, St C ∧ st = ([(2, 0), (0, k)], [], C)) ?_ 20 10 _ ?_
  · rintro pc st ⟨rfl, C, hC, rfl⟩
    refine wq_ok srt_turn (fr := []) (cuts := [40]) (J := fun pc st => pc = 40 ∧ C 0 4 < 100 ∧ st = ([(2, 0), (0, k)], [], C)) ?_ 20 28 _ ?_
    · rintro pc st ⟨rfl, ht, rfl⟩
      exact tu_40 hC k0 k1 ht
    · refine ⟨oX_0 z0 kk0 4 rfl, ?_⟩
      refine ⟨fun h => ⟨rfl, h, rfl⟩, fun h => ?_⟩
      exact ⟨rfl, -3, rfl, ⟨by omega, by omega⟩, hC⟩
  · refine ⟨oX_0 z0 kk0 2 rfl, ?_⟩
    refine ⟨oX_0 z0 kk0 0 rfl, ?_⟩
    refine ⟨rX_4 (r := B 0 2) (by rw [a2]; omega) (by rw [a2]; exact kk28), ?_⟩
    show Cl pmt (an_sh wX) 42 [(2, B 0 2), (2, B 0 0), (0, k)] B _
    rw [a1, a2]
    refine (exch_ct hB own1 k0 k1).imp ?_
    rintro ⟨r1, C⟩ ⟨x, e, hx, hC, _⟩
    simp only at e hC
    subst e
    refine ⟨fun h => ?_, fun h => ?_⟩
    · exact ⟨rfl, C, hC, rfl⟩
    · exact ⟨rfl, -2, rfl, ⟨by omega, by omega⟩, hC⟩
theorem turn_ct {A : pm_A} {k : Int} (hA : St A) (hk : r32 k) : Cl pmt (an_sh wX) 115 [(2, 0), (0, k)] A (st_post (-3) 200) := by
  refine Cl.of (Nat.le_of_ble_eq_true rfl) ?_
  refine wq_ok (full := o_X9_turn) srt_turn (fr := []) (cuts := [10]) (J := fun pc st => pc = 10 ∧ (0 ≤ k ∧ k ≤ 5) ∧ ∃ C, St C ∧ st = ([(2, 0), (0, k)], [], C)) ?_ 20 0 _ ?_
  · rintro pc st ⟨rfl, hk, C, hC, rfl⟩
    exact tu_10 hC hk.1 hk.2
  · refine ⟨rX_0 z0 kk0, ?_⟩
    refine (place_ct hA hk).imp ?_
    rintro ⟨r1, C⟩ ⟨x, e, hC, _, hx⟩
    simp only at e hC
    subst e
    refine ⟨fun h => ?_, fun h => ?_⟩
    · exact ⟨rfl, hx h, C, hC, rfl⟩
    · exact ⟨rfl, -1, rfl, ⟨by omega, by omega⟩, hC⟩
theorem ba_56 {B : pm_A} {k : Int} (hB : St B) (k0 : 0 ≤ k) (k1 : k ≤ 5) (ht : 1 ≤ B 0 4) : Tm pmt (an_sh wX) o_X9_back 56 ([(2, 0), (0, k)], [], B) (st_post 0 1) := by
  have a2 := hB.2.1.2.1
  have a1 := hB.2.1.1
  refine wq_ok srt_back (fr := []) (cuts := [68]) (J := fun pc st => pc = 68 ∧ ∃ C, St C ∧ 1 ≤ C 0 4 ∧ st = ([(2, 0), (0, k)], [], C)) ?_ 20 56 _ ?_
  · rintro pc st ⟨rfl, C, hC, hC2, rfl⟩
    have t0 := fX_0_4 hC.1 z0 kk0
    refine wq_ok srt_back (fr := []) (cuts := []) (J := fun pc st => False) (fun _ _ h => h.elim) 20 68 _ ?_
    refine ⟨oX_0 z0 kk0 4 rfl, ?_⟩
    refine ⟨⟨by omega, by omega⟩, ?_⟩
    refine ⟨oX_0 z0 kk0 4 rfl, ?_⟩
    exact ⟨rfl, 1, rfl, ⟨by omega, by omega⟩, put_turns hC (by omega) (by omega)⟩
  · refine ⟨oX_0 z0 kk0 2 rfl, ?_⟩
    refine ⟨oX_0 z0 kk0 0 rfl, ?_⟩
    refine ⟨rX_4 (r := B 0 2) (by rw [a2]; omega) (by rw [a2]; exact kk28), ?_⟩
    show Cl pmt (an_sh wX) 47 [(2, B 0 2), (2, B 0 0), (0, k)] B _
    rw [a1, a2]
    refine (settle_ct hB.1 hB.2 own1 k0 k1).imp ?_
    rintro ⟨r1, C⟩ ⟨q1, q2, q3, q4⟩
    simp only at q1 q2 q3 q4
    subst q1
    refine ⟨rfl, C, ⟨q2, q3⟩, ?_, rfl⟩
    rw [q4 0 4 z0 (by omega) (by unfold mcode; rw [shX_0 kk0]; show ¬ 904 ∈ se_M; decide)]
    exact ht
theorem ba_39 {B : pm_A} {k : Int} (hB : St B) (k0 : 0 ≤ k) (k1 : k ≤ 5) (ht : 1 ≤ B 0 4) : Tm pmt (an_sh wX) o_X9_back 39 ([(2, 0), (0, k)], [], B) (st_post 0 1) := by
  have a2 := hB.2.1.2.1
  have a1 := hB.2.1.1
  refine wq_ok srt_back (fr := []) (cuts := [56]) (J := fun pc st => pc = 56 ∧ ∃ C, St C ∧ 1 ≤ C 0 4 ∧ st = ([(2, 0), (0, k)], [], C)) ?_ 20 39 _ ?_
  · rintro pc st ⟨rfl, C, hC, hC2, rfl⟩
    exact ba_56 hC k0 k1 hC2
  · refine ⟨oX_0 z0 kk0 2 rfl, ?_⟩
    refine ⟨oX_0 z0 kk0 0 rfl, ?_⟩
    refine ⟨rX_4 (r := B 0 2) (by rw [a2]; omega) (by rw [a2]; exact kk28), ?_⟩
    show Cl pmt (an_sh wX) 42 [(2, B 0 2), (2, B 0 0), (0, k)] B _
    rw [a1, a2]
    refine (exch_ct hB own1 k0 k1).imp ?_
    rintro ⟨r1, C⟩ ⟨x, e, hx, hC, hF⟩
    simp only at e hC hF
    subst e
    refine ⟨fun h => ?_, fun h => ?_⟩
    · refine ⟨rfl, C, hC, ?_, rfl⟩
      rw [hF 0 4 z0 (by omega) (by unfold mcode; rw [shX_0 kk0]; show ¬ 904 ∈ dv_M; decide)]
      exact ht
    · exact ⟨rfl, 0, rfl, ⟨by omega, by omega⟩, hC⟩
theorem back_ct {A : pm_A} (hA : St A) : Cl pmt (an_sh wX) 86 [(2, 0)] A (st_post 0 1) := by
  have t0 := fX_0_4 hA.1 z0 kk0
  have r0 := fX_0_3 hA.1 z0 kk0
  refine Cl.of (Nat.le_of_ble_eq_true rfl) ?_
  refine wq_ok (full := o_X9_back) srt_back (fr := []) (cuts := [31]) (J := fun pc st => pc = 31 ∧ 1 ≤ A 0 4 ∧ A 0 4 ≤ 100 ∧ st = ([(2, 0), (0, A (A 0 3) (A 0 4 - 1))], [], A)) ?_ 20 0 _ ?_
  · rintro pc st ⟨rfl, h1, h2, rfl⟩
    have e0 := eX_19 hA.1 r0.1 r0.2 (j := A 0 4 - 1) (by omega) (by omega)
    generalize A (A 0 3) (A 0 4 - 1) = k at e0
    refine wq_ok srt_back (fr := []) (cuts := [39]) (J := fun pc st => pc = 39 ∧ (0 ≤ k ∧ k ≤ 5) ∧ ∃ C, St C ∧ 1 ≤ C 0 4 ∧ st = ([(2, 0), (0, k)], [], C)) ?_ 20 31 _ ?_
    · rintro pc st ⟨rfl, hk, C, hC, hC2, rfl⟩
      exact ba_39 hC hk.1 hk.2 hC2
    · refine ⟨rX_0 z0 kk0, ?_⟩
      refine (place_ct hA e0).imp ?_
      rintro ⟨r1, C⟩ ⟨x, e, hC, hF, hx⟩
      simp only at e hC hF
      subst e
      refine ⟨fun h => ?_, fun h => ?_⟩
      · exact ⟨rfl, 0, rfl, ⟨by omega, by omega⟩, hC⟩
      · exact ⟨rfl, hx h, C, hC, by rw [hF 0 4 z0 (by omega) (fun q => by cases q)]; exact h1, rfl⟩
  · refine ⟨oX_0 z0 kk0 4 rfl, ?_⟩
    refine ⟨fun h => ?_, fun h => ?_⟩
    · exact ⟨rfl, 0, rfl, ⟨by omega, by omega⟩, hA⟩
    · refine ⟨oX_0 z0 kk0 4 rfl, ?_⟩
      refine ⟨fun h2 => ?_, fun h2 => ?_⟩
      · refine ⟨oX_0 z0 kk0 3 rfl, ?_⟩
        refine ⟨oX_0 z0 kk0 4 rfl, ?_⟩
        refine ⟨⟨by omega, by omega⟩, ?_⟩
        refine ⟨aX_19 r0.1 r0.2 (by omega) (by omega), ?_⟩
        exact ⟨rfl, h, h2, rfl⟩
      · exact ⟨rfl, 0, rfl, ⟨by omega, by omega⟩, hA⟩
