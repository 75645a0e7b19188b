/-! Atlas: enter, arrive -/
theorem srt_enter : pm_srt o_X0_enter = true := by decide +kernel
theorem srt_arrive : pm_srt o_X0_arrive = true := by decide +kernel
def en_M : List Nat := [10017, 10023, 10024, 10025, 10026]
def en_N : List Nat := [7, 10017, 10023, 10024, 10025, 10026]
/-- the seats of the seed at hand are numbers of letters -/
def sat (A : pm_A) (a : Int) : Prop := ∀ i, 0 ≤ i → i < A (A a 8) 0 → 0 ≤ A (A a 9) i
def en_I (A B : pm_A) (a : Int) : Prop := gH wX B ∧ gFr wX en_M A B ∧ (0 ≤ a ∧ wX.2 a = 5) ∧ sat B a ∧ B a 7 < 150
theorem en_mc {a j : Int} (hk : wX.2 a = 5) (hj : j.toNat < 100) : ¬ mcode wX a j ∈ en_M := by
  unfold mcode; rw [shX_5 hk]
  show ¬ (100 * 0 + j.toNat) ∈ en_M
  intro q
  have h : ∀ x ∈ en_M, 10000 ≤ x := by decide
  have := h _ q
  omega
theorem en_keep {B C : pm_A} {a : Int} (hB : gH wX B) (ha0 : 0 ≤ a) (hak : wX.2 a = 5) (hF : gFr wX en_M B C) (hs : sat B a) : sat C a ∧ C a 7 = B a 7 := by
  have t0 := fX_5_8 hB ha0 hak
  have s0 := fX_5_9 hB ha0 hak
  have e8 : C a 8 = B a 8 := hF a 8 ha0 (by omega) (en_mc hak (by omega))
  have e9 : C a 9 = B a 9 := hF a 9 ha0 (by omega) (en_mc hak (by omega))
  have e7 : C a 7 = B a 7 := hF a 7 ha0 (by omega) (en_mc hak (by omega))
  have ep : C (B a 8) 0 = B (B a 8) 0 := hF _ 0 t0.1 (by omega) (by unfold mcode; rw [shX_1 t0.2]; show ¬ 700 ∈ en_M; decide)
  refine ⟨fun i i0 i1 => ?_, e7⟩
  rw [e8, ep] at i1
  have es : C (B a 9) i = B (B a 9) i := hF _ i s0.1 i0 (by unfold mcode; rw [shX_27 s0.2]; show ¬ (10000 + wX.2 (B a 9) : Nat) ∈ en_M; rw [s0.2]; decide)
  rw [e9, es]
  exact hs i i0 i1
theorem en_step {A B C : pm_A} {a : Int} (h : en_I A B a) (hC : gH wX C) (hF : gFr wX en_M B C) : en_I A C a := by
  obtain ⟨h1, h2, ⟨h3, h4⟩, h5, h6⟩ := h
  have k := en_keep h1 h3 h4 hF h5
  exact ⟨hC, gFr_tr h2 hF (fun _ hx => hx), ⟨h3, h4⟩, k.1, by rw [k.2]; exact h6⟩
theorem en_rfl {A : pm_A} : gFr wX en_M A A := fun _ _ _ _ _ => rfl
def en_post (A : pm_A) (a : Int) (r : pm_R) : Prop := ∃ x, r.1 = some (0, x) ∧ 0 ≤ x ∧ x ≤ 1 ∧ gH wX r.2 ∧ gFr wX en_N A r.2 ∧ (¬ x = 0 → A a 7 < 150)
theorem en_sub : ∀ x ∈ en_M, x ∈ en_N := fun x hx => List.Mem.tail _ hx
theorem en_123 {A B : pm_A} {a i : Int} (hI : en_I A B a) (hA : A a 7 < 150) : Tm pmt (an_sh wX) o_X0_enter 123 ([(2, a), (0, i)], [], B) (en_post A a) := by
  obtain ⟨h1, h2, ⟨h3, h4⟩, h5, h6⟩ := hI
  have r0 := fX_5_7 h1 h3 h4
  refine wq_ok srt_enter (fr := []) (cuts := []) (J := fun pc st => False) (fun _ _ h => h.elim) 20 123 _ ?_
  refine ⟨oX_5 h3 h4 7 rfl, ?_⟩
  refine ⟨⟨by omega, by omega⟩, ?_⟩
  refine ⟨oX_5 h3 h4 7 rfl, ?_⟩
  refine ⟨rfl, 1, rfl, by omega, by omega, ?_, ?_, fun _ => hA⟩
  · refine gH_upd h1 (k := (0, 0, 18, [(2, 22, 0), (0, 0, 100), (2, 23, 0), (2, 24, 0), (2, 25, 0), (2, 26, 0), (2, 26, 0), (0, 0, 150), (2, 1, 0), (2, 27, 0), (1, (-9223372036854775808), 9223372036854775807), (1, (-9223372036854775808), 9223372036854775807), (2, 17, 0), (0, (-1), 100), (0, 0, 12), (2, 19, 0), (2, 28, 0), (2, 29, 0)])) (by rw [h4]; rfl) (fun _ j v hj ej => ?_) (fun q => by cases q)
    have : j = 7 := by omega
    subst this
    cases hj
    exact ⟨rfl, by simp only; omega, by simp only; omega⟩
  · refine gFr_upd (gFr_tr (fun _ _ _ _ _ => rfl) h2 en_sub) ?_
    unfold mcode; rw [shX_5 h4]; show 7 ∈ en_N; decide
theorem en_110 {A B : pm_A} {a i : Int} (hI : en_I A B a) (hA : A a 7 < 150) : Tm pmt (an_sh wX) o_X0_enter 110 ([(2, a), (0, i)], [], B) (en_post A a) := by
  have hI0 := hI
  obtain ⟨h1, h2, ⟨h3, h4⟩, h5, h6⟩ := hI
  have r0 := fX_5_7 h1 h3 h4
  have l0 := fX_5_6 h1 h3 h4
  have v0 := fX_5_11 h1 h3 h4
  refine wq_ok srt_enter (fr := []) (cuts := [123]) (J := fun pc st => pc = 123 ∧ st = ([(2, a), (0, i)], [], pm_upd B (B a 6) (B a 7) (B a 11))) ?_ 20 110 _ ?_
  · rintro pc st ⟨rfl, rfl⟩
    exact en_123 (en_step hI0 (uX_26 h1 l0.2 v0.1 v0.2) (gFr_upd en_rfl (mX_26 l0.2 rfl))) hA
  · refine ⟨oX_5 h3 h4 6 rfl, ?_⟩
    refine ⟨oX_5 h3 h4 7 rfl, ?_⟩
    refine ⟨oX_5 h3 h4 11 rfl, ?_⟩
    refine ⟨tX_26 l0.1 l0.2 r0.1 h6 rfl, ?_⟩
    exact ⟨rfl, rfl⟩
theorem en_97 {A B : pm_A} {a i : Int} (hI : en_I A B a) (hA : A a 7 < 150) : Tm pmt (an_sh wX) o_X0_enter 97 ([(2, a), (0, i)], [], B) (en_post A a) := by
  have hI0 := hI
  obtain ⟨h1, h2, ⟨h3, h4⟩, h5, h6⟩ := hI
  have r0 := fX_5_7 h1 h3 h4
  have l0 := fX_5_5 h1 h3 h4
  have v0 := fX_5_10 h1 h3 h4
  refine wq_ok srt_enter (fr := []) (cuts := [110]) (J := fun pc st => pc = 110 ∧ st = ([(2, a), (0, i)], [], pm_upd B (B a 5) (B a 7) (B a 10))) ?_ 20 97 _ ?_
  · rintro pc st ⟨rfl, rfl⟩
    exact en_110 (en_step hI0 (uX_26 h1 l0.2 v0.1 v0.2) (gFr_upd en_rfl (mX_26 l0.2 rfl))) hA
  · refine ⟨oX_5 h3 h4 5 rfl, ?_⟩
    refine ⟨oX_5 h3 h4 7 rfl, ?_⟩
    refine ⟨oX_5 h3 h4 10 rfl, ?_⟩
    refine ⟨tX_26 l0.1 l0.2 r0.1 h6 rfl, ?_⟩
    exact ⟨rfl, rfl⟩
theorem en_73 {A B : pm_A} {a i : Int} (hI : en_I A B a) (hA : A a 7 < 150) : Tm pmt (an_sh wX) o_X0_enter 73 ([(2, a), (0, i)], [], B) (en_post A a) := by
  have hI0 := hI
  obtain ⟨h1, h2, ⟨h3, h4⟩, h5, h6⟩ := hI
  have r0 := fX_5_7 h1 h3 h4
  have s0 := fX_5_8 h1 h3 h4
  have t0 := fX_1_2 h1 s0.1 s0.2
  have o0 := fX_5_4 h1 h3 h4
  have e1 := shX_10 t0.2
  have e2 := shX_25 o0.2
  refine wq_ok srt_enter (fr := []) (cuts := [97]) (J := fun pc st => pc = 97 ∧ st = ([(2, a), (0, i)], [], pm_cpy B (B (B a 8) 2) 0 (B a 4) (B a 7 * 72) 72)) ?_ 20 73 _ ?_
  · rintro pc st ⟨rfl, rfl⟩
    exact en_97 (en_step hI0 (gH_cpy h1 (ka := (1, 0, 72, [(0, -2147483648, 2147483647)])) (kb := (1, 0, 10800, [(0, -2147483648, 2147483647)])) t0.1 (by rw [t0.2]; rfl) (by rw [o0.2]; rfl) rfl rfl rfl rfl rfl rfl (by omega) (by omega) (by simp only; omega)) (gFr_cpy en_rfl (fun j => mX_25 o0.2 rfl))) hA
  · refine ⟨oX_5 h3 h4 8 rfl, ?_⟩
    refine ⟨oX_1 s0.1 s0.2 2 rfl, ?_⟩
    refine ⟨oX_5 h3 h4 4 rfl, ?_⟩
    refine ⟨oX_5 h3 h4 7 rfl, ?_⟩
    refine ⟨⟨by omega, by omega⟩, ?_⟩
    refine ⟨⟨t0.1, o0.1, by rw [e1], by rw [e1], by rw [e2], by rw [e2], by omega, by omega, by omega, by rw [e1]; simp only; omega, by rw [e2]; simp only; omega⟩, ?_⟩
    exact ⟨rfl, rfl⟩
theorem en_52 {A B : pm_A} {a i : Int} (hI : en_I A B a) (hi0 : 0 ≤ i) (hi1 : i ≤ 5) (H : ∀ C, en_I A C a → Tm pmt (an_sh wX) o_X0_enter 14 ([(2, a), (0, i + 1)], [], C) (en_post A a)) : Tm pmt (an_sh wX) o_X0_enter 52 ([(2, a), (0, i)], [], B) (en_post A a) := by
  have hI0 := hI
  obtain ⟨h1, h2, ⟨h3, h4⟩, h5, h6⟩ := hI
  have r0 := fX_5_7 h1 h3 h4
  have l0 := fX_5_3 h1 h3 h4
  refine wq_ok srt_enter (fr := []) (cuts := [14]) (J := fun pc st => pc = 14 ∧ st = ([(2, a), (0, i + 1)], [], pm_upd B (B a 3) (B a 7 * 6 + i) 0)) ?_ 20 52 _ ?_
  · rintro pc st ⟨rfl, rfl⟩
    exact H _ (en_step hI0 (uX_24 h1 l0.2 (by omega) (by omega)) (gFr_upd en_rfl (mX_24 l0.2 rfl)))
  · refine ⟨oX_5 h3 h4 3 rfl, ?_⟩
    refine ⟨oX_5 h3 h4 7 rfl, ?_⟩
    refine ⟨⟨by omega, by omega⟩, ?_⟩
    refine ⟨⟨by omega, by omega⟩, ?_⟩
    refine ⟨tX_24 l0.1 l0.2 (by omega) (by omega) rfl, ?_⟩
    refine ⟨⟨by omega, by omega⟩, ?_⟩
    exact ⟨rfl, rfl⟩
theorem en_32 {A B : pm_A} {a i : Int} (hI : en_I A B a) (hi0 : 0 ≤ i) (hi : i < B (B a 8) 0) (H : ∀ C, en_I A C a → Tm pmt (an_sh wX) o_X0_enter 14 ([(2, a), (0, i + 1)], [], C) (en_post A a)) : Tm pmt (an_sh wX) o_X0_enter 32 ([(2, a), (0, i)], [], B) (en_post A a) := by
  have hI0 := hI
  obtain ⟨h1, h2, ⟨h3, h4⟩, h5, h6⟩ := hI
  have r0 := fX_5_7 h1 h3 h4
  have l0 := fX_5_2 h1 h3 h4
  have s0 := fX_5_9 h1 h3 h4
  have p0 := fX_5_8 h1 h3 h4
  have p6 := fX_1_0 h1 p0.1 p0.2
  have v0 := eX_27 h1 s0.1 s0.2 hi0 (by omega)
  have v1 := h5 i hi0 hi
  refine wq_ok srt_enter (fr := []) (cuts := [52]) (J := fun pc st => pc = 52 ∧ st = ([(2, a), (0, i)], [], pm_upd B (B a 2) (B a 7 * 6 + i) (B (B a 9) i))) ?_ 20 32 _ ?_
  · rintro pc st ⟨rfl, rfl⟩
    exact en_52 (en_step hI0 (uX_23 h1 l0.2 v1 v0.2) (gFr_upd en_rfl (mX_23 l0.2 rfl))) hi0 (by omega) H
  · refine ⟨oX_5 h3 h4 2 rfl, ?_⟩
    refine ⟨oX_5 h3 h4 7 rfl, ?_⟩
    refine ⟨⟨by omega, by omega⟩, ?_⟩
    refine ⟨⟨by omega, by omega⟩, ?_⟩
    refine ⟨oX_5 h3 h4 9 rfl, ?_⟩
    refine ⟨aX_27 s0.1 s0.2 hi0 (by omega), ?_⟩
    refine ⟨tX_23 l0.1 l0.2 (by omega) (by omega) rfl, ?_⟩
    exact ⟨rfl, rfl⟩
theorem en_14 {A : pm_A} {a : Int} (hA : A a 7 < 150) : ∀ (n : Nat) (i : Int) (B : pm_A), (7 - i).toNat < n → 0 ≤ i → i ≤ 6 → en_I A B a → Tm pmt (an_sh wX) o_X0_enter 14 ([(2, a), (0, i)], [], B) (en_post A a) := by
  intro n
  induction n with
  | zero => intro i B h; omega
  | succ n ih =>
    intro i B hn hi0 hi1 hI
    have hI0 := hI
    obtain ⟨h1, h2, ⟨h3, h4⟩, h5, h6⟩ := hI
    have l0 := fX_5_12 h1 h3 h4
    have p0 := fX_5_8 h1 h3 h4
    have p6 := fX_1_0 h1 p0.1 p0.2
    have nt : ¬ a = B a 12 := fun q => by rw [← q, h4] at l0; exact absurd l0.2 (by decide)
    have n8 : ¬ B a 8 = B a 12 := fun q => by rw [← q, p0.2] at l0; exact absurd l0.2 (by decide)
    refine wq_ok srt_enter (fr := []) (cuts := [32, 73]) (J := fun pc st => (pc = 73 ∧ st = ([(2, a), (0, i)], [], B)) ∨ (pc = 32 ∧ i < B (B a 8) 0 ∧ st = ([(2, a), (0, i)], [], pm_upd B (B a 12) i i))) ?_ 20 14 _ ?_
    · rintro pc st (⟨rfl, rfl⟩ | ⟨rfl, hi, rfl⟩)
      · exact en_73 hI0 hA
      · refine en_32 (en_step hI0 (uX_17 h1 l0.2 (by omega) (by omega)) (gFr_upd en_rfl (mX_17 l0.2 rfl))) hi0 (by rw [upd_ne nt, upd_ne n8]; exact hi) (fun C hC => ?_)
        exact ih (i + 1) C (by omega) (by omega) (by omega) hC
    · refine ⟨oX_5 h3 h4 8 rfl, ?_⟩
      refine ⟨oX_1 p0.1 p0.2 0 rfl, ?_⟩
      refine ⟨fun h => Or.inl ⟨rfl, rfl⟩, fun h => ?_⟩
      have hi : i < B (B a 8) 0 := h
      refine ⟨oX_5 h3 h4 12 rfl, ?_⟩
      refine ⟨tX_17 l0.1 l0.2 hi0 (by omega) rfl, ?_⟩
      exact Or.inr ⟨rfl, hi, rfl⟩
theorem enter_ct {A : pm_A} {a : Int} (hA : gH wX A) (ha0 : 0 ≤ a) (hak : wX.2 a = 5) (hs : sat A a) : Cl pmt (an_sh wX) 5 [(2, a)] A (en_post A a) := by
  refine Cl.of (Nat.le_of_ble_eq_true rfl) ?_
  refine wq_ok (full := o_X0_enter) srt_enter (fr := []) (cuts := [14]) (J := fun pc st => pc = 14 ∧ A a 7 < 150 ∧ st = ([(2, a), (0, 0)], [], A)) ?_ 20 0 _ ?_
  · rintro pc st ⟨rfl, h, rfl⟩
    exact en_14 h _ 0 A (Nat.lt_succ_self _) (by omega) (by omega) ⟨hA, en_rfl, ⟨ha0, hak⟩, hs, h⟩
  · refine ⟨oX_5 ha0 hak 7 rfl, ?_⟩
    refine ⟨fun h => ?_, fun h => ?_⟩
    · exact ⟨rfl, h, rfl⟩
    · exact ⟨rfl, 0, rfl, by omega, by omega, hA, fun _ _ _ _ _ => rfl, fun q => absurd rfl q⟩
def ar_M : List Nat := [7, 10, 11, 10017, 10023, 10024, 10025, 10026]
def ar_post (A : pm_A) (r : pm_R) : Prop := ∃ x, r.1 = some (0, x) ∧ 0 ≤ x ∧ x ≤ 1 ∧ gH wX r.2 ∧ gFr wX ar_M A r.2
theorem ar_sub {ms : List Nat} (h : ms.all (fun x => ar_M.contains x) = true) : ∀ x ∈ ms, x ∈ ar_M := fun x hx => List.contains_iff_mem.mp (List.all_eq_true.mp h x hx)
theorem ar_28 {A B : pm_A} {a k r : Int} (hB : gH wX B) (hF : gFr wX ar_M A B) (ha0 : 0 ≤ a) (hak : wX.2 a = 5) (hk0 : 0 ≤ k) (hk1 : k ≤ 5) (hr0 : 0 ≤ r) (hr1 : r ≤ 149) : Tm pmt (an_sh wX) o_X0_arrive 28 ([(2, a), (0, k), (0, r)], [], B) (ar_post A) := by
  have x0 := fX_5_3 hB ha0 hak
  have t0 := fX_5_12 hB ha0 hak
  have v0 := eX_17 hB t0.1 t0.2 hk0 (show k < 6 by omega)
  refine wq_ok srt_arrive (fr := []) (cuts := []) (J := fun pc st => False) (fun _ _ h => h.elim) 20 28 _ ?_
  refine ⟨oX_5 ha0 hak 3 rfl, ?_⟩
  refine ⟨⟨by omega, by omega⟩, ?_⟩
  refine ⟨oX_5 ha0 hak 12 rfl, ?_⟩
  refine ⟨aX_17 t0.1 t0.2 hk0 (by omega), ?_⟩
  refine ⟨⟨by omega, by omega⟩, ?_⟩
  refine ⟨tX_24 x0.1 x0.2 (by omega) (by omega) rfl, ?_⟩
  exact ⟨rfl, 1, rfl, by omega, by omega, uX_24 hB x0.2 (by omega) (by omega), gFr_upd hF (mX_24 x0.2 rfl)⟩
theorem ar_keep {B C : pm_A} {a : Int} {ms : List Nat} (hB : gH wX B) (ha0 : 0 ≤ a) (hak : wX.2 a = 5) (hF : gFr wX ms B C) (hm : (ms.contains 8 || ms.contains 9 || ms.contains 700 || ms.contains 10027) = false) (hs : sat B a) : sat C a := by
  have t0 := fX_5_8 hB ha0 hak
  have s0 := fX_5_9 hB ha0 hak
  simp only [Bool.or_eq_false_iff] at hm
  obtain ⟨⟨⟨m1, m2⟩, m3⟩, m4⟩ := hm
  have nm : ∀ {x : Nat}, ms.contains x = false → ¬ x ∈ ms := fun h q => by rw [List.contains_iff_mem.mpr q] at h; cases h
  have e8 : C a 8 = B a 8 := hF a 8 ha0 (by omega) (by unfold mcode; rw [shX_5 hak]; exact nm m1)
  have e9 : C a 9 = B a 9 := hF a 9 ha0 (by omega) (by unfold mcode; rw [shX_5 hak]; exact nm m2)
  have ep : C (B a 8) 0 = B (B a 8) 0 := hF _ 0 t0.1 (by omega) (by unfold mcode; rw [shX_1 t0.2]; exact nm m3)
  intro i i0 i1
  rw [e8, ep] at i1
  have es : C (B a 9) i = B (B a 9) i := hF _ i s0.1 i0 (by unfold mcode; rw [shX_27 s0.2]; show ¬ (10000 + wX.2 (B a 9) : Nat) ∈ ms; rw [s0.2]; exact nm m4)
  rw [e9, es]
  exact hs i i0 i1
theorem ar_4 {A B : pm_A} {a k : Int} {v2 : pm_V} (hB : gH wX B) (hF : gFr wX ar_M A B) (ha0 : 0 ≤ a) (hak : wX.2 a = 5) (hk0 : 0 ≤ k) (hk1 : k ≤ 5) (hs : sat B a) : Tm pmt (an_sh wX) o_X0_arrive 4 ([(2, a), (0, k), v2], [], B) (ar_post A) := by
  refine wq_ok srt_arrive (fr := []) (cuts := [14, 28]) (J := fun pc st => ∃ C, gH wX C ∧ gFr wX ar_M A C ∧ sat C a ∧ ((pc = 14 ∧ ∃ v2, st = ([(2, a), (0, k), v2], [], C)) ∨ (pc = 28 ∧ ∃ r : Int, (0 ≤ r ∧ r ≤ 149) ∧ st = ([(2, a), (0, k), (0, r)], [], C)))) ?_ 30 4 _ ?_
  · rintro pc st ⟨C, hC, hC2, hC3, ⟨rfl, v2, rfl⟩ | ⟨rfl, r, hr, rfl⟩⟩
    · have r0 := fX_5_7 hC ha0 hak
      refine wq_ok srt_arrive (fr := []) (cuts := [28]) (J := fun pc st => pc = 28 ∧ C a 7 < 150 ∧ ∃ D, gH wX D ∧ gFr wX ar_M A D ∧ st = ([(2, a), (0, k), (0, C a 7)], [], D)) ?_ 30 14 _ ?_
      · rintro pc st ⟨rfl, h, D, hD, hD2, rfl⟩
        exact ar_28 hD hD2 ha0 hak hk0 hk1 r0.1 (by omega)
      · refine ⟨oX_5 ha0 hak 7 rfl, ?_⟩
        refine ⟨rX_5 ha0 hak, ?_⟩
        refine (enter_ct hC ha0 hak hC3).imp ?_
        rintro ⟨r1, D⟩ ⟨x, e, x0, x1, d1, d2, d3⟩
        simp only at e d1 d2
        subst e
        have hD2 := gFr_tr hC2 d2 (ar_sub rfl)
        refine ⟨fun h => ?_, fun h => ?_⟩
        · exact ⟨rfl, d3 h, D, d1, hD2, rfl⟩
        · exact ⟨rfl, 0, rfl, by omega, by omega, d1, hD2⟩
    · exact ar_28 hC hC2 ha0 hak hk0 hk1 hr.1 hr.2
  · refine ⟨rX_5 ha0 hak, ?_⟩
    refine Cl.gct q_X0_rowOf_0 (A := B) (a := [(2, a)]) ⟨gv_ref ha0 hak, trivial⟩ hB ?_
    rintro ⟨r1, C⟩ g1 g2 g3
    simp only at g1 g2 g3
    have hC2 := gFr_tr hF g3 (ar_sub rfl)
    have hC3 := ar_keep hB ha0 hak g3 rfl hs
    match r1, g1 with
    | some (0, x), ⟨⟨_, q1, q2⟩, _⟩ =>
      simp only at q1 q2
      refine ⟨fun h => ?_, fun h => ?_⟩
      · exact ⟨C, g2, hC2, hC3, Or.inr ⟨rfl, x, ⟨by omega, q2⟩, rfl⟩⟩
      · exact ⟨C, g2, hC2, hC3, Or.inl ⟨rfl, _, rfl⟩⟩
    | some (n + 1, x), ⟨⟨q, _⟩, _⟩ => exact absurd q (by intro q; cases q)
    | none, q => exact absurd q (by intro q; cases q)
theorem arrive_ct {A : pm_A} {a k : Int} (hA : gH wX A) (ha0 : 0 ≤ a) (hak : wX.2 a = 5) (hk0 : 0 ≤ k) (hk1 : k ≤ 5) (hs : sat A a) : Cl pmt (an_sh wX) 4 [(2, a), (0, k)] A (ar_post A) := by
  refine Cl.of (Nat.le_of_ble_eq_true rfl) ?_
  refine wq_ok (full := o_X0_arrive) srt_arrive (fr := []) (cuts := [4]) (J := fun pc st => pc = 4 ∧ ∃ C v2, gH wX C ∧ gFr wX ar_M A C ∧ sat C a ∧ st = ([(2, a), (0, k), v2], [], C)) ?_ 20 0 _ ?_
  · rintro pc st ⟨rfl, C, v2, hC, hC2, hC3, rfl⟩
    exact ar_4 hC hC2 ha0 hak hk0 hk1 hC3
  · refine ⟨rX_5 ha0 hak, ?_⟩
    refine Cl.gct q_X0_gatherLetters_0 (A := A) (a := [(2, a)]) ⟨gv_ref ha0 hak, trivial⟩ hA ?_
    rintro ⟨r1, C⟩ g1 g2 g3
    simp only at g1 g2 g3
    cases r1 with
    | some v => exact absurd g1 (by intro q; cases q)
    | none => exact ⟨rfl, C, _, g2, gFr_tr (fun _ _ _ _ _ => rfl) g3 (ar_sub rfl), ar_keep hA ha0 hak g3 rfl hs, rfl⟩
