/-! Draft.restart to an empty table; the bench's seed -/
theorem srt_restart : pm_srt o_X2_restart = true := by decide +kernel
theorem srt_seed : pm_srt o_X9_seed = true := by decide +kernel
def rs_M : List Nat := [200, 201, 10016]
def rs_post (A : pm_A) (t : Int) (r : pm_R) : Prop := r.1 = none ∧ gH wX r.2 ∧ gFr wX rs_M A r.2 ∧ bnd r.2 t 0
theorem rs_put {A : pm_A} {d n : Int} (hA : gH wX A) (hdk : wX.2 d = 3) (h0 : 0 ≤ n) (h1 : n ≤ 6) : gH wX (pm_upd A d 0 n) ∧ gH wX (pm_upd A d 1 n) := by
  refine ⟨gH_upd hA (k := (0, 2, 5, [(0, 0, 6), (0, 0, 6), (2, 16, 0), (2, 11, 0), (2, 17, 0)])) (by rw [hdk]; rfl) (fun _ j a hj ej => ?_) (fun q => by cases q), gH_upd hA (k := (0, 2, 5, [(0, 0, 6), (0, 0, 6), (2, 16, 0), (2, 11, 0), (2, 17, 0)])) (by rw [hdk]; rfl) (fun _ j a hj ej => ?_) (fun q => by cases q)⟩
  · have : j = 0 := by omega
    subst this
    cases hj
    exact ⟨rfl, by simp only; omega, by simp only; omega⟩
  · have : j = 1 := by omega
    subst this
    cases hj
    exact ⟨rfl, by simp only; omega, by simp only; omega⟩
theorem restart_ct {A : pm_A} {d n m : Int} (hA : gH wX A) (hd0 : 0 ≤ d) (hdk : wX.2 d = 3) (h0 : 0 ≤ n) (h1 : n ≤ 6) (h2 : 0 ≤ m) (h3 : m ≤ 6) : Cl pmt (an_sh wX) 25 [(2, d), (0, n), (0, m)] A (rs_post A (A d 2)) := by
  have t0 := fX_3_2 hA hd0 hdk
  have hB := (rs_put (rs_put hA hdk h0 h1).1 hdk h2 h3).2
  have hF : gFr wX rs_M A (pm_upd (pm_upd A d 0 n) d 1 m) := by
    refine gFr_upd (gFr_upd (fun _ _ _ _ _ => rfl) ?_) ?_
    · unfold mcode; rw [shX_3 hdk]; show 200 ∈ rs_M; decide
    · unfold mcode; rw [shX_3 hdk]; show 201 ∈ rs_M; decide
  have e2 : pm_upd (pm_upd A d 0 n) d 1 m d 2 = A d 2 := by rw [upd_n2 (by decide), upd_n2 (by decide)]
  refine Cl.of (Nat.le_of_ble_eq_true rfl) ?_
  refine wq_ok (full := o_X2_restart) srt_restart (fr := []) (cuts := []) (J := fun pc st => False) (fun _ _ h => h.elim) 20 0 _ ?_
  refine ⟨oX_3 hd0 hdk 0 rfl, ?_⟩
  refine ⟨oX_3 hd0 hdk 1 rfl, ?_⟩
  refine ⟨oX_3 hd0 hdk 2 rfl, ?_⟩
  refine ⟨rfl, ?_⟩
  refine (fill_ct (r := pm_upd (pm_upd A d 0 n) d 1 m d 2) hB (by rw [e2]; exact t0.1) (by rw [e2]; exact t0.2)).imp ?_
  rintro ⟨r1, C⟩ ⟨q1, q2, q3, q4⟩
  simp only at q1 q2 q3 q4
  subst q1
  rw [e2] at q4
  exact ⟨rfl, q2, gFr_tr hF q3 (fun x hx => by
    cases hx with
    | head => exact List.Mem.tail _ (List.Mem.tail _ (List.Mem.head _))
    | tail _ q => cases q), q4⟩
def sd_M : List Nat := [200, 201, 700, 701, 800, 801, 904, 10010, 10011, 10014, 10015, 10016, 10017]
def sd_post (A : pm_A) (r : pm_R) : Prop := ∃ x, r.1 = some (0, x) ∧ 0 ≤ x ∧ x ≤ 1 ∧ gH wX r.2 ∧ gFr wX sd_M A r.2
theorem sd_sub {ms : List Nat} (h : ms.all (fun x => sd_M.contains x) = true) : ∀ x ∈ ms, x ∈ sd_M := fun x hx => List.contains_iff_mem.mp (List.all_eq_true.mp h x hx)
theorem sd_72 {A B : pm_A} {s k : Int} (hs0 : 0 ≤ s) (hsk : wX.2 s = 0) (hB : gH wX B) (hF : gFr wX sd_M A B) : Tm pmt (an_sh wX) o_X9_seed 72 ([(2, s), (0, k)], [], B) (sd_post A) := by
  have d0 := fX_0_1 hB hs0 hsk
  refine wq_ok srt_seed (fr := []) (cuts := []) (J := fun pc st => False) (fun _ _ h => h.elim) 20 72 _ ?_
  refine ⟨oX_0 hs0 hsk 1 rfl, ?_⟩
  refine ⟨rX_3 d0.1 d0.2, ?_⟩
  refine (fault_ct hB d0.1 d0.2).imp ?_
  rintro ⟨r1, C⟩ ⟨x, e, x0, x1, c1, c2⟩
  simp only at e c1 c2
  subst e
  have hFC := gFr_tr hF c2 (sd_sub rfl)
  refine ⟨fun h => ?_, fun h => ?_⟩
  · refine ⟨rX_0 hs0 hsk, ?_⟩
    refine Cl.gct q_X9_startSeed_0 (A := C) (a := [(2, s)]) ⟨gv_ref hs0 hsk, trivial⟩ c1 ?_
    rintro ⟨r1, D⟩ g1 g2 g3
    simp only at g1 g2 g3
    cases r1 with
    | some v => exact absurd g1 (by intro q; cases q)
    | none => exact ⟨rfl, 1, rfl, by omega, by omega, g2, gFr_tr hFC g3 (sd_sub rfl)⟩
  · exact ⟨rfl, 0, rfl, by omega, by omega, c1, hFC⟩
theorem sd_56 {A B : pm_A} {s k : Int} (hs0 : 0 ≤ s) (hsk : wX.2 s = 0) (hk0 : 0 ≤ k) (hk1 : k ≤ 1) (hB : gH wX B) (hF : gFr wX sd_M A B) (hz : bnd B (B (B s 1) 2) 0) : Tm pmt (an_sh wX) o_X9_seed 56 ([(2, s), (0, k)], [], B) (sd_post A) := by
  have d0 := fX_0_1 hB hs0 hsk
  have t0 := fX_3_2 hB d0.1 d0.2
  have r0 := fX_0_13 hB hs0 hsk
  have g0 := eX_34 hB r0.1 r0.2 hk0 (show k < 2 by omega)
  refine wq_ok srt_seed (fr := []) (cuts := [72]) (J := fun pc st => pc = 72 ∧ ∃ C, gH wX C ∧ gFr wX sd_M A C ∧ st = ([(2, s), (0, k)], [], C)) ?_ 20 56 _ ?_
  · rintro pc st ⟨rfl, C, hC, hC2, rfl⟩
    exact sd_72 hs0 hsk hC hC2
  · refine ⟨oX_0 hs0 hsk 13 rfl, ?_⟩
    refine ⟨aX_34 r0.1 r0.2 hk0 (by omega), ?_⟩
    refine ⟨oX_0 hs0 hsk 1 rfl, ?_⟩
    refine ⟨oX_3 d0.1 d0.2 2 rfl, ?_⟩
    refine ⟨rX_9 g0.1 g0.2, ?_⟩
    refine (tellArrows_ct hB ⟨⟨g0.1, g0.2⟩, ⟨t0.1, t0.2⟩⟩ hz).imp ?_
    rintro ⟨r1, C⟩ ⟨q1, q2, q3⟩
    simp only at q1 q2 q3
    subst q1
    exact ⟨rfl, C, q2, gFr_tr hF q3 (sd_sub rfl), rfl⟩
theorem sd_37 {A B : pm_A} {s k : Int} (hs0 : 0 ≤ s) (hsk : wX.2 s = 0) (hk0 : 0 ≤ k) (hk1 : k ≤ 1) (hB : gH wX B) (hF : gFr wX sd_M A B) (hc : B (B (B s 13) k) 0 ≤ 9) : Tm pmt (an_sh wX) o_X9_seed 37 ([(2, s), (0, k)], [], B) (sd_post A) := by
  have d0 := fX_0_1 hB hs0 hsk
  have r0 := fX_0_13 hB hs0 hsk
  have g0 := eX_34 hB r0.1 r0.2 hk0 (show k < 2 by omega)
  have c0 := fX_9_0 hB g0.1 g0.2
  refine wq_ok srt_seed (fr := []) (cuts := [56]) (J := fun pc st => pc = 56 ∧ ∃ C, gH wX C ∧ gFr wX sd_M A C ∧ bnd C (C (C s 1) 2) 0 ∧ st = ([(2, s), (0, k)], [], C)) ?_ 30 37 _ ?_
  · rintro pc st ⟨rfl, C, hC, hC2, hC3, rfl⟩
    exact sd_56 hs0 hsk hk0 hk1 hC hC2 hC3
  · refine ⟨oX_0 hs0 hsk 1 rfl, ?_⟩
    refine ⟨oX_0 hs0 hsk 13 rfl, ?_⟩
    refine ⟨aX_34 r0.1 r0.2 hk0 (by omega), ?_⟩
    refine ⟨oX_9 g0.1 g0.2 0 rfl, ?_⟩
    refine ⟨⟨by omega, by omega⟩, ?_⟩
    refine ⟨rX_3 d0.1 d0.2, ?_⟩
    refine (restart_ct hB d0.1 d0.2 (n := B (B (B s 13) k) 0 - 3) (m := 0) (by omega) (by omega) (by omega) (by omega)).imp ?_
    rintro ⟨r1, C⟩ ⟨q1, q2, q3, q4⟩
    simp only at q1 q2 q3 q4
    subst q1
    have e1 : C s 1 = B s 1 := q3 s 1 hs0 (by omega) (by unfold mcode; rw [shX_0 hsk]; show ¬ 901 ∈ rs_M; decide)
    have e2 : C (B s 1) 2 = B (B s 1) 2 := q3 _ 2 d0.1 (by omega) (by unfold mcode; rw [shX_3 d0.2]; show ¬ 202 ∈ rs_M; decide)
    exact ⟨rfl, C, q2, gFr_tr hF q3 (sd_sub rfl), by rw [e1, e2]; exact q4, rfl⟩
theorem sd_7 {A B : pm_A} {s k : Int} (hs0 : 0 ≤ s) (hsk : wX.2 s = 0) (hk0 : 0 ≤ k) (hk1 : k ≤ 1) (hB : gH wX B) (hF : gFr wX sd_M A B) : Tm pmt (an_sh wX) o_X9_seed 7 ([(2, s), (0, k)], [], B) (sd_post A) := by
  have r0 := fX_0_13 hB hs0 hsk
  have g0 := eX_34 hB r0.1 r0.2 hk0 (show k < 2 by omega)
  refine wq_ok srt_seed (fr := []) (cuts := [19]) (J := fun pc st => pc = 19 ∧ ∃ C, gH wX C ∧ gFr wX sd_M A C ∧ st = ([(2, s), (0, k)], [], C)) ?_ 30 7 _ ?_
  · rintro pc st ⟨rfl, C, hC, hC2, rfl⟩
    have r1 := fX_0_13 hC hs0 hsk
    have g1 := eX_34 hC r1.1 r1.2 hk0 (show k < 2 by omega)
    have c1 := fX_9_0 hC g1.1 g1.2
    refine wq_ok srt_seed (fr := []) (cuts := [37]) (J := fun pc st => pc = 37 ∧ C (C (C s 13) k) 0 ≤ 9 ∧ st = ([(2, s), (0, k)], [], C)) ?_ 30 19 _ ?_
    · rintro pc st ⟨rfl, hc, rfl⟩
      exact sd_37 hs0 hsk hk0 hk1 hC hC2 hc
    · refine ⟨oX_0 hs0 hsk 13 rfl, ?_⟩
      refine ⟨aX_34 r1.1 r1.2 hk0 (by omega), ?_⟩
      refine ⟨oX_9 g1.1 g1.2 0 rfl, ?_⟩
      refine ⟨⟨by omega, by omega⟩, ?_⟩
      refine ⟨fun h => ?_, fun h => ?_⟩
      · exact ⟨rfl, by omega, rfl⟩
      · exact ⟨rfl, 0, rfl, by omega, by omega, hC, hC2⟩
  · refine ⟨oX_0 hs0 hsk 13 rfl, ?_⟩
    refine ⟨aX_34 r0.1 r0.2 hk0 (by omega), ?_⟩
    refine ⟨rX_9 g0.1 g0.2, ?_⟩
    refine Cl.gct q_X6_isCut_0 (A := B) (a := [(2, B (B s 13) k)]) ⟨gv_ref g0.1 g0.2, trivial⟩ hB ?_
    rintro ⟨r1, C⟩ g1 g2 g3
    simp only at g1 g2 g3
    have hFC := gFr_tr hF g3 (sd_sub rfl)
    match r1, g1 with
    | some (0, x), _ =>
      refine ⟨fun h => ?_, fun h => ?_⟩
      · exact ⟨rfl, 0, rfl, by omega, by omega, g2, hFC⟩
      · exact ⟨rfl, C, g2, hFC, rfl⟩
    | some (n + 1, x), ⟨⟨q, _⟩, _⟩ => exact absurd q (by intro q; cases q)
    | none, q => exact absurd q (by intro q; cases q)
theorem slot_ct {A : pm_A} {k : Int} (hA : gH wX A) (hk : r32 k) : Cl pmt (an_sh wX) 97 [(0, k)] A (fun r => ∃ x, r.1 = some (0, x) ∧ gH wX r.2 ∧ gFr wX [] A r.2 ∧ (¬ x = 0 → 0 ≤ k ∧ k ≤ 1)) := by
  have key : ∀ (lo hi c : Int), c = 0 ∨ (0 ≤ lo ∧ hi ≤ 1) → gCt wX pmt 97 ([(0, lo, hi)], some (0, c, c), []) → lo ≤ k → k ≤ hi → Cl pmt (an_sh wX) 97 [(0, k)] A (fun r => ∃ x, r.1 = some (0, x) ∧ gH wX r.2 ∧ gFr wX [] A r.2 ∧ (¬ x = 0 → 0 ≤ k ∧ k ≤ 1)) := by
    intro lo hi c hc hq h1 h2
    refine Cl.gct hq (A := A) (a := [(0, k)]) ⟨⟨rfl, h1, h2⟩, trivial⟩ hA ?_
    rintro ⟨r1, C⟩ g1 g2 g3
    simp only at g1 g2 g3
    match r1, g1 with
    | some (0, x), ⟨⟨_, q1, q2⟩, _⟩ =>
      simp only at q1 q2
      exact ⟨x, rfl, g2, g3, fun q => by omega⟩
    | some (n + 1, x), ⟨⟨q, _⟩, _⟩ => exact absurd q (by intro q; cases q)
    | none, q => exact absurd q (by intro q; cases q)
  unfold r32 at hk
  by_cases h1 : k < 0
  · exact key _ _ _ (Or.inl rfl) q_X9_isSlot_0 hk.1 (by omega)
  · by_cases h2 : k ≤ 1
    · exact key _ _ _ (Or.inr ⟨by omega, by omega⟩) q_X9_isSlot_1 (by omega) h2
    · exact key _ _ _ (Or.inl rfl) q_X9_isSlot_2 (by omega) hk.2
theorem seed_ct {A : pm_A} {s k : Int} (hA : gH wX A) (hs0 : 0 ≤ s) (hsk : wX.2 s = 0) (hk : r32 k) : Cl pmt (an_sh wX) 107 [(2, s), (0, k)] A (sd_post A) := by
  refine Cl.of (Nat.le_of_ble_eq_true rfl) ?_
  refine wq_ok (full := o_X9_seed) srt_seed (fr := []) (cuts := [7]) (J := fun pc st => pc = 7 ∧ (0 ≤ k ∧ k ≤ 1) ∧ ∃ C, gH wX C ∧ gFr wX sd_M A C ∧ st = ([(2, s), (0, k)], [], C)) ?_ 30 0 _ ?_
  · rintro pc st ⟨rfl, hk, C, hC, hC2, rfl⟩
    exact sd_7 hs0 hsk hk.1 hk.2 hC hC2
  · refine ⟨rfl, ?_⟩
    refine (slot_ct hA hk).imp ?_
    rintro ⟨r1, C⟩ ⟨x, e, c1, c2, c3⟩
    simp only at e c1 c2
    subst e
    have hFC : gFr wX sd_M A C := gFr_tr (fun _ _ _ _ _ => rfl) c2 (fun x hx => by cases hx)
    refine ⟨fun h => ?_, fun h => ?_⟩
    · exact ⟨rfl, 0, rfl, by omega, by omega, c1, hFC⟩
    · exact ⟨rfl, c3 h, C, c1, hFC, rfl⟩
theorem q_X9_seed_0 : gCt wX pmt 107 Q_X9_seed_0 := by
  rintro l A ⟨hl, hA⟩
  match l, hl with
  | [x, (0, k)], ⟨h1, ⟨_, k1, k2⟩, _⟩ =>
    obtain ⟨s, rfl, hs0, hsk⟩ := gRf (a := (2, 0, 0)) rfl h1
    refine Cl.imp (Q := sd_post A) (seed_ct hA hs0 hsk ⟨k1, k2⟩) ?_
    rintro ⟨r, B⟩ ⟨x, e, k1, k2, k3, k4⟩
    simp only at e k3 k4
    subst e
    exact ⟨⟨⟨rfl, k1, k2⟩, Nat.lt_of_sub_eq_succ rfl⟩, k3, k4⟩
  | [x, (n + 1, k)], ⟨_, ⟨q, _⟩, _⟩ => exact absurd q (by intro q; cases q)
