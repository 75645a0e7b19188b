/-! the atlas's cells; numberOf, load exactly -/
def AT (A : pm_A) : Prop := (A 72 0 = 73 ∧ A 72 2 = 74 ∧ A 72 3 = 75 ∧ A 72 4 = 76 ∧ A 72 5 = 77 ∧ A 72 6 = 78 ∧ A 72 8 = 79 ∧ A 72 9 = 102 ∧ A 72 12 = 103) ∧ (A 72 15 = 104 ∧ A 72 16 = 105 ∧ A 72 17 = 106) ∧ (A 79 2 = 80 ∧ A 79 4 = 82) ∧ ∀ x_z : Int, 0 ≤ x_z → x_z < 100 → A 73 x_z = 107 + 3 * x_z
theorem AT.of {A B : pm_A} (h : AT A) (e72 : ∀ j_z : Int, 0 ≤ j_z → ¬ j_z = 1 → ¬ j_z = 7 → ¬ j_z = 10 → ¬ j_z = 11 → ¬ j_z = 13 → ¬ j_z = 14 → B 72 j_z = A 72 j_z) (e79 : B 79 2 = A 79 2 ∧ B 79 4 = A 79 4) (e73 : ∀ j_z : Int, 0 ≤ j_z → B 73 j_z = A 73 j_z) : AT B := by
  obtain ⟨⟨a1_z, a2, a3, a4, a5, a6, a7, a8, a9⟩, ⟨b1, b2, b3⟩, ⟨c1_z, c2_z⟩, d_z⟩ := h
  refine ⟨⟨?_, ?_, ?_, ?_, ?_, ?_, ?_, ?_, ?_⟩, ⟨?_, ?_, ?_⟩, ⟨by rw [e79.1]; exact c1_z, by rw [e79.2]; exact c2_z⟩, fun x_z x0_z x1_z => by rw [e73 x_z x0_z]; exact d_z x_z x0_z x1_z⟩
  · rw [e72 0 (by omega) (by omega) (by omega) (by omega) (by omega) (by omega) (by omega)]; exact a1_z
  · rw [e72 2 (by omega) (by omega) (by omega) (by omega) (by omega) (by omega) (by omega)]; exact a2
  · rw [e72 3 (by omega) (by omega) (by omega) (by omega) (by omega) (by omega) (by omega)]; exact a3
  · rw [e72 4 (by omega) (by omega) (by omega) (by omega) (by omega) (by omega) (by omega)]; exact a4
  · rw [e72 5 (by omega) (by omega) (by omega) (by omega) (by omega) (by omega) (by omega)]; exact a5
  · rw [e72 6 (by omega) (by omega) (by omega) (by omega) (by omega) (by omega) (by omega)]; exact a6
  · rw [e72 8 (by omega) (by omega) (by omega) (by omega) (by omega) (by omega) (by omega)]; exact a7
  · rw [e72 9 (by omega) (by omega) (by omega) (by omega) (by omega) (by omega) (by omega)]; exact a8
  · rw [e72 12 (by omega) (by omega) (by omega) (by omega) (by omega) (by omega) (by omega)]; exact a9
  · rw [e72 15 (by omega) (by omega) (by omega) (by omega) (by omega) (by omega) (by omega)]; exact b1
  · rw [e72 16 (by omega) (by omega) (by omega) (by omega) (by omega) (by omega) (by omega)]; exact b2
  · rw [e72 17 (by omega) (by omega) (by omega) (by omega) (by omega) (by omega) (by omega)]; exact b3
theorem kk74 : wX.2 74 = 23 := by decide
theorem kk75 : wX.2 75 = 24 := by decide
theorem kk76 : wX.2 76 = 25 := by decide
theorem kk77 : wX.2 77 = 26 := by decide
theorem kk78 : wX.2 78 = 26 := by decide
theorem kk80 : wX.2 80 = 10 := by decide
theorem kk102 : wX.2 102 = 27 := by decide
theorem kk103 : wX.2 103 = 17 := by decide
theorem kkLt {x : Int} (x0 : 0 ≤ x) (x1 : x < 100) : wX.2 (107 + 3 * x) = 2 := by
  have h_z : ∀ k_z : Fin 100, wX.2 (107 + 3 * (k_z.1 : Int)) = 2 := by decide +kernel
  have := h_z ⟨x.toNat, by omega⟩
  rw [show (((⟨x.toNat, by omega⟩ : Fin 100).1 : Nat) : Int) = x by show ((x.toNat : Nat) : Int) = x; omega] at this
  exact this
theorem g5_1 {B : pm_A} {t : Int} (hB : gH wX B) (t0 : 0 ≤ t) (t1 : t ≤ 100) : gH wX (pm_upd B 72 1 t) := by
  refine gH_upd hB (k := (0, 0, 18, [(2, 22, 0), (0, 0, 100), (2, 23, 0), (2, 24, 0), (2, 25, 0), (2, 26, 0), (2, 26, 0), (0, 0, 150), (2, 1, 0), (2, 27, 0), (1, (-9223372036854775808), 9223372036854775807), (1, (-9223372036854775808), 9223372036854775807), (2, 17, 0), (0, (-1), 100), (0, 0, 12), (2, 19, 0), (2, 28, 0), (2, 29, 0)])) (by rw [kk72]; rfl) (fun _ j_z v_z hj ej => ?_) (fun q_z => by cases q_z)
  have : j_z = 1 := by omega
  subst this
  cases hj
  exact ⟨rfl, t0, t1⟩
theorem g5_7 {B : pm_A} {t : Int} (hB : gH wX B) (t0 : 0 ≤ t) (t1 : t ≤ 150) : gH wX (pm_upd B 72 7 t) := by
  refine gH_upd hB (k := (0, 0, 18, [(2, 22, 0), (0, 0, 100), (2, 23, 0), (2, 24, 0), (2, 25, 0), (2, 26, 0), (2, 26, 0), (0, 0, 150), (2, 1, 0), (2, 27, 0), (1, (-9223372036854775808), 9223372036854775807), (1, (-9223372036854775808), 9223372036854775807), (2, 17, 0), (0, (-1), 100), (0, 0, 12), (2, 19, 0), (2, 28, 0), (2, 29, 0)])) (by rw [kk72]; rfl) (fun _ j_z v_z hj ej => ?_) (fun q_z => by cases q_z)
  have : j_z = 7 := by omega
  subst this
  cases hj
  exact ⟨rfl, t0, t1⟩
theorem g5_10 {B : pm_A} {t : Int} (hB : gH wX B) (t0 : -9223372036854775808 ≤ t) (t1 : t ≤ 9223372036854775807) : gH wX (pm_upd B 72 10 t) ∧ gH wX (pm_upd B 72 11 t) := by
  refine ⟨gH_upd hB (k := (0, 0, 18, [(2, 22, 0), (0, 0, 100), (2, 23, 0), (2, 24, 0), (2, 25, 0), (2, 26, 0), (2, 26, 0), (0, 0, 150), (2, 1, 0), (2, 27, 0), (1, (-9223372036854775808), 9223372036854775807), (1, (-9223372036854775808), 9223372036854775807), (2, 17, 0), (0, (-1), 100), (0, 0, 12), (2, 19, 0), (2, 28, 0), (2, 29, 0)])) (by rw [kk72]; rfl) (fun _ j_z v_z hj ej => ?_) (fun q_z => by cases q_z), gH_upd hB (k := (0, 0, 18, [(2, 22, 0), (0, 0, 100), (2, 23, 0), (2, 24, 0), (2, 25, 0), (2, 26, 0), (2, 26, 0), (0, 0, 150), (2, 1, 0), (2, 27, 0), (1, (-9223372036854775808), 9223372036854775807), (1, (-9223372036854775808), 9223372036854775807), (2, 17, 0), (0, (-1), 100), (0, 0, 12), (2, 19, 0), (2, 28, 0), (2, 29, 0)])) (by rw [kk72]; rfl) (fun _ j_z v_z hj ej => ?_) (fun q_z => by cases q_z)⟩
  · have : j_z = 10 := by omega
    subst this
    cases hj
    exact ⟨rfl, t0, t1⟩
  · have : j_z = 11 := by omega
    subst this
    cases hj
    exact ⟨rfl, t0, t1⟩
theorem g79_0 {B : pm_A} {t : Int} (hB : gH wX B) (t0 : 0 ≤ t) (t1 : t ≤ 6) : gH wX (pm_upd B 79 0 t) ∧ gH wX (pm_upd B 79 1 t) := by
  refine ⟨gH_upd hB (k := (0, 7, 6, [(0, 0, 6), (0, 0, 6), (2, 10, 0), (2, 11, 0), (2, 12, 0), (2, 13, 0)])) (by rw [kk79]; rfl) (fun _ j_z v_z hj ej => ?_) (fun q_z => by cases q_z), gH_upd hB (k := (0, 7, 6, [(0, 0, 6), (0, 0, 6), (2, 10, 0), (2, 11, 0), (2, 12, 0), (2, 13, 0)])) (by rw [kk79]; rfl) (fun _ j_z v_z hj ej => ?_) (fun q_z => by cases q_z)⟩
  · have : j_z = 0 := by omega
    subst this
    cases hj
    exact ⟨rfl, t0, t1⟩
  · have : j_z = 1 := by omega
    subst this
    cases hj
    exact ⟨rfl, t0, t1⟩
theorem srt_numberOf : pm_srt o_X0_numberOf = true := by decide +kernel
def nbP (A : pm_A) (c : Int) (r : pm_R) : Prop := (∃ i_z : Int, (0 ≤ i_z ∧ i_z < A 72 1) ∧ lk A (107 + 3 * i_z) c ∧ r = (some (0, i_z), A)) ∨ ((∀ d_z : Int, 0 ≤ d_z → d_z < A 72 1 → ¬ lk A (107 + 3 * d_z) c) ∧ ((A 72 1 = 100 ∧ r = (some (0, -1), A)) ∨ (A 72 1 < 100 ∧ r.1 = some (0, A 72 1) ∧ gH wX r.2 ∧ ∃ C_z, cpP A (107 + 3 * A 72 1) c (none, C_z) ∧ r.2 = pm_upd C_z 72 1 (A 72 1 + 1))))
theorem nb_42 {A : pm_A} {c i : Int} (hA : gH wX A) (hT : AT A) (hs : ∀ a_z : Int, 0 ≤ a_z → wX.2 a_z = 2 → A a_z 2 = a_z + 1 ∧ A a_z 3 = a_z + 2) (hc : 0 ≤ c ∧ wX.2 c = 2) (hne : ∀ x_z : Int, 0 ≤ x_z → x_z < 100 → ¬ 107 + 3 * x_z = c) (hn : ∀ d_z : Int, 0 ≤ d_z → d_z < A 72 1 → ¬ lk A (107 + 3 * d_z) c) (h1 : A 72 1 < 100) : Tm pmt (an_sh wX) o_X0_numberOf 42 ([(2, 72), (2, c), (0, i)], [], A) (nbP A c) := by
  have f1_z := fX_5_1 hA z72 kk72
  have a0_z := hT.1.1
  have eL := hT.2.2.2 (A 72 1) f1_z.1 h1
  have hL : 0 ≤ 107 + 3 * A 72 1 ∧ wX.2 (107 + 3 * A 72 1) = 2 := ⟨by omega, kkLt f1_z.1 h1⟩
  refine wq_ok srt_numberOf (fr := []) (cuts := [55]) (J := fun pc st_z => pc = 55 ∧ ∃ C_z, cpP A (107 + 3 * A 72 1) c (none, C_z) ∧ st_z = ([(2, 72), (2, c), (0, i)], [], C_z)) ?_ 20 42 _ ?_
  · rintro pc st_z ⟨rfl, C_z, hC, rfl⟩
    have hC0 := hC
    obtain ⟨_, c1_z, c2_z, _⟩ := hC
    simp only at c1_z c2_z
    have e3 := hs _ hL.1 hL.2
    have e1 : C_z 72 1 = A 72 1 := c2_z 72 1 (by omega) (by omega) (by omega)
    refine wq_ok srt_numberOf (fr := []) (cuts := []) (J := fun _ _ => False) (fun _ _ h_z => h_z.elim) 20 55 _ ?_
    refine ⟨oX_5 z72 kk72 1 rfl, ?_⟩
    refine ⟨⟨by omega, by omega⟩, ?_⟩
    refine ⟨oX_5 z72 kk72 1 rfl, ?_⟩
    refine ⟨oX_5 z72 kk72 1 rfl, ?_⟩
    have e4_z : pm_upd C_z 72 1 (C_z 72 1 + 1) 72 1 = A 72 1 + 1 := by rw [upd_at, e1]
    refine ⟨⟨by rw [e4_z]; omega, by rw [e4_z]; omega⟩, ?_⟩
    refine ⟨rfl, Or.inr ⟨hn, Or.inr ⟨h1, ?_, ?_, C_z, hC0, ?_⟩⟩⟩
    · show some ((0 : Nat), pm_upd C_z 72 1 (C_z 72 1 + 1) 72 1 - 1) = some (0, A 72 1)
      rw [e4_z, show A 72 1 + 1 - 1 = A 72 1 by omega]
    · show gH wX (pm_upd C_z 72 1 (C_z 72 1 + 1))
      rw [e1]
      exact g5_1 c1_z (by omega) (by omega)
    · show pm_upd C_z 72 1 (C_z 72 1 + 1) = _
      rw [e1]
  · refine ⟨oX_5 z72 kk72 0 rfl, ?_⟩
    refine ⟨oX_5 z72 kk72 1 rfl, ?_⟩
    refine ⟨aX_22 (r := A 72 0) (by rw [a0_z]; omega) (by rw [a0_z]; exact kk73) f1_z.1 h1, ?_⟩
    refine ⟨rX_2 (r := A (A 72 0) (A 72 1)) (by rw [a0_z, eL]; exact hL.1) (by rw [a0_z, eL]; exact hL.2), ?_⟩
    show Cl pmt (an_sh wX) 76 [(2, A (A 72 0) (A 72 1)), (2, c)] A _
    rw [a0_z, eL]
    refine (copyS_ex hA hL hc (ds_of hs hL hc (hne _ f1_z.1 h1))).imp ?_
    rintro ⟨r1_z, C_z⟩ hC
    have hr1 : r1_z = none := hC.1
    subst hr1
    exact ⟨rfl, C_z, hC, rfl⟩
theorem nb_2 {A : pm_A} {c : Int} (hA : gH wX A) (hT : AT A) (hs : ∀ a_z : Int, 0 ≤ a_z → wX.2 a_z = 2 → A a_z 2 = a_z + 1 ∧ A a_z 3 = a_z + 2) (hc : 0 ≤ c ∧ wX.2 c = 2) (hne : ∀ x_z : Int, 0 ≤ x_z → x_z < 100 → ¬ 107 + 3 * x_z = c) : ∀ (m_z : Nat) (i_z : Int), (100 - i_z).toNat < m_z → 0 ≤ i_z → i_z ≤ A 72 1 → (∀ d_z : Int, 0 ≤ d_z → d_z < i_z → ¬ lk A (107 + 3 * d_z) c) → Tm pmt (an_sh wX) o_X0_numberOf 2 ([(2, 72), (2, c), (0, i_z)], [], A) (nbP A c) := by
  have f1_z := fX_5_1 hA z72 kk72
  have a0_z := hT.1.1
  intro m_z
  induction m_z with
  | zero => intro i_z h_z; omega
  | succ m_z ih_z =>
    intro i_z hm_z i0_z i1_z hd_z
    refine wq_ok srt_numberOf (fr := []) (cuts := [2, 42]) (J := fun pc st_z => (pc = 42 ∧ A 72 1 < 100 ∧ i_z = A 72 1 ∧ st_z = ([(2, 72), (2, c), (0, i_z)], [], A)) ∨ (pc = 2 ∧ (i_z < A 72 1 ∧ ¬ lk A (107 + 3 * i_z) c) ∧ st_z = ([(2, 72), (2, c), (0, i_z + 1)], [], A))) ?_ 30 2 _ ?_
    · rintro pc st_z (⟨rfl, h1, h2, rfl⟩ | ⟨rfl, h1, rfl⟩)
      · exact nb_42 hA hT hs hc hne (fun d_z d0_z d1_z => hd_z d_z d0_z (by omega)) h1
      · refine ih_z (i_z + 1) (by omega) (by omega) (by omega) (fun d_z d0_z d1_z => ?_)
        by_cases e_z : d_z = i_z
        · rw [e_z]; exact h1.2
        · exact hd_z d_z d0_z (by omega)
    · refine ⟨oX_5 z72 kk72 1 rfl, ?_⟩
      refine ⟨fun h_z => ?_, fun h_z => ?_⟩
      · refine ⟨oX_5 z72 kk72 1 rfl, ?_⟩
        refine ⟨fun h2 => ?_, fun h2 => ?_⟩
        · exact Or.inl ⟨rfl, h2, by omega, rfl⟩
        · exact ⟨rfl, Or.inr ⟨fun d_z d0_z d1_z => hd_z d_z d0_z (by omega), Or.inl ⟨by omega, rfl⟩⟩⟩
      · have eL := hT.2.2.2 i_z i0_z (by omega)
        have hL : 0 ≤ 107 + 3 * i_z ∧ wX.2 (107 + 3 * i_z) = 2 := ⟨by omega, kkLt i0_z (by omega)⟩
        refine ⟨oX_5 z72 kk72 0 rfl, ?_⟩
        refine ⟨aX_22 (r := A 72 0) (by rw [a0_z]; omega) (by rw [a0_z]; exact kk73) i0_z (by omega), ?_⟩
        refine ⟨rX_2 (r := A (A 72 0) i_z) (by rw [a0_z, eL]; exact hL.1) (by rw [a0_z, eL]; exact hL.2), ?_⟩
        show Cl pmt (an_sh wX) 80 [(2, A (A 72 0) i_z), (2, c)] A _
        rw [a0_z, eL]
        refine (isLike_ex hA hL hc).imp ?_
        rintro ⟨r1_z, C_z⟩ ⟨hC, hr⟩
        simp only at hC hr
        subst hC
        rcases hr with ⟨rfl, hl⟩ | ⟨rfl, hl⟩
        · refine ⟨fun hh => absurd hh (by decide), fun _ => ?_⟩
          exact ⟨rfl, Or.inl ⟨i_z, ⟨i0_z, h_z⟩, hl, rfl⟩⟩
        · refine ⟨fun _ => ?_, fun hh => absurd rfl hh⟩
          refine ⟨⟨by omega, by omega⟩, ?_⟩
          exact Or.inr ⟨rfl, ⟨h_z, hl⟩, rfl⟩
theorem numberOf_ex {A : pm_A} {c : Int} (hA : gH wX A) (hT : AT A) (hs : ∀ a_z : Int, 0 ≤ a_z → wX.2 a_z = 2 → A a_z 2 = a_z + 1 ∧ A a_z 3 = a_z + 2) (hc : 0 ≤ c ∧ wX.2 c = 2) (hne : ∀ x_z : Int, 0 ≤ x_z → x_z < 100 → ¬ 107 + 3 * x_z = c) : Cl pmt (an_sh wX) 11 [(2, 72), (2, c)] A (nbP A c) := by
  have f1_z := fX_5_1 hA z72 kk72
  refine Cl.of (Nat.le_of_ble_eq_true rfl) ?_
  refine wq_ok (full := o_X0_numberOf) srt_numberOf (fr := []) (cuts := [2]) (J := fun pc st_z => pc = 2 ∧ st_z = ([(2, 72), (2, c), (0, 0)], [], A)) ?_ 20 0 _ ?_
  · rintro pc st_z ⟨rfl, rfl⟩
    exact nb_2 hA hT hs hc hne _ 0 (Nat.lt_succ_self _) (by omega) f1_z.1 (fun d_z d0_z d1_z => by omega)
  · exact ⟨rfl, rfl⟩
def ldF (A B : pm_A) (r i : Int) : Prop := gH wX B ∧ (∀ q_z j_z : Int, ¬ q_z = 80 → ¬ q_z = 82 → ¬ q_z = 102 → B q_z j_z = A q_z j_z) ∧ (∀ j_z : Int, 0 ≤ j_z → j_z < 72 → B 80 j_z = A 76 (72 * r + j_z)) ∧ (∀ d_z : Int, i ≤ d_z → B 82 d_z = A 82 d_z) ∧ ∀ d_z : Int, 0 ≤ d_z → d_z < i → B 102 d_z = A 74 (6 * r + d_z) ∧ B 82 d_z = 107 + 3 * A 74 (6 * r + d_z)
def ldP (A : pm_A) (r : Int) (q : pm_R) : Prop := q.1 = none ∧ ldF A q.2 r (A 79 0)
theorem lx_51 {A B : pm_A} {r i : Int} (hT : AT A) (hA : gH wX A) (r0 : 0 ≤ r) (r1 : r ≤ 149) (i0 : 0 ≤ i) (i1 : i < A 79 0) (hB : gH wX B) (hf : ∀ q_z j_z : Int, ¬ q_z = 80 → ¬ q_z = 82 → ¬ q_z = 102 → B q_z j_z = A q_z j_z) (h80 : ∀ j_z : Int, 0 ≤ j_z → j_z < 72 → B 80 j_z = A 76 (72 * r + j_z)) (hd : ∀ d_z : Int, 0 ≤ d_z → d_z < i → B 102 d_z = A 74 (6 * r + d_z) ∧ B 82 d_z = 107 + 3 * A 74 (6 * r + d_z)) (hu : ∀ d_z : Int, i ≤ d_z → B 82 d_z = A 82 d_z) (hi : B 102 i = A 74 (6 * r + i)) (H : ∀ C_z, ldF A C_z r (i + 1) → Tm pmt (an_sh wX) o_X0_load 23 ([(2, 72), (0, r), (0, i + 1)], [], C_z) (ldP A r)) : Tm pmt (an_sh wX) o_X0_load 51 ([(2, 72), (0, r), (0, i)], [], B) (ldP A r) := by
  have b72 : ∀ j_z : Int, B 72 j_z = A 72 j_z := fun j_z => hf 72 j_z (by omega) (by omega) (by omega)
  have p6_z := fX_1_0 hA z79 kk79
  have a8 : B 72 8 = 79 := by rw [b72]; exact hT.1.2.2.2.2.2.2.1
  have a0_z : B 72 0 = 73 := by rw [b72]; exact hT.1.1
  have a9 : B 72 9 = 102 := by rw [b72]; exact hT.1.2.2.2.2.2.2.2.1
  have a4 : B 79 4 = 82 := by rw [hf 79 4 (by omega) (by omega) (by omega)]; exact hT.2.2.1.2
  have v0_z := eX_23 hA (r := 74) (by omega) kk74 (j := 6 * r + i) (by omega) (by omega)
  have hx : 0 ≤ B 102 i ∧ B 102 i < 100 := by rw [hi]; omega
  have eL : B 73 (B 102 i) = 107 + 3 * B 102 i := by rw [hf 73 _ (by omega) (by omega) (by omega)]; exact hT.2.2.2 _ hx.1 hx.2
  have hL : 0 ≤ 107 + 3 * B 102 i ∧ wX.2 (107 + 3 * B 102 i) = 2 := ⟨by omega, kkLt hx.1 hx.2⟩
  have s12 := shX_12 kk82
  have s2_z := shX_2 hL.2
  refine wq_ok srt_load (fr := []) (cuts := [23]) (J := fun pc st_z => pc = 23 ∧ st_z = ([(2, 72), (0, r), (0, i + 1)], [], pm_upd B (B (B 72 8) 4) i (B (B 72 0) (B (B 72 9) i)))) ?_ 30 51 _ ?_
  · rintro pc st_z ⟨rfl, rfl⟩
    rw [a8, a4, a0_z, a9, eL]
    refine H _ ⟨gH_upd hB (k := (1, 5, 6, [(2, 2, 0)])) (by rw [kk82]; rfl) (fun q_z => by cases q_z) (fun _ a_z ha_z => by cases ha_z; exact gv_ref hL.1 hL.2), fun q_z j_z h1 h2 h3 => ?_, fun j_z j0 j1 => ?_, fun d_z d0_z => ?_, fun d_z d0_z d1_z => ?_⟩
    · rw [upd_ne h2]; exact hf q_z j_z h1 h2 h3
    · rw [upd_ne (by omega)]; exact h80 j_z j0 j1
    · rw [upd_n2 (by omega)]; exact hu d_z (by omega)
    · rw [upd_ne (by omega)]
      by_cases e_z : d_z = i
      · rw [e_z, upd_at, hi]; exact ⟨rfl, rfl⟩
      · rw [upd_n2 e_z]; exact hd d_z d0_z (by omega)
  · refine ⟨oX_5 z72 kk72 8 rfl, ?_⟩
    refine ⟨oX_1 (r := B 72 8) (by rw [a8]; omega) (by rw [a8]; exact kk79) 4 rfl, ?_⟩
    refine ⟨oX_5 z72 kk72 0 rfl, ?_⟩
    refine ⟨oX_5 z72 kk72 9 rfl, ?_⟩
    refine ⟨aX_27 (r := B 72 9) (by rw [a9]; omega) (by rw [a9]; exact kk102) i0 (by omega), ?_⟩
    refine ⟨aX_22 (r := B 72 0) (by rw [a0_z]; omega) (by rw [a0_z]; exact kk73) (by rw [a9]; omega) (by rw [a9]; omega), ?_⟩
    refine ⟨⟨by rw [a8, a4]; omega, by rw [a8, a4, s12], by rw [a8, a4, s12], i0, by rw [a8, a4, s12]; simp only; omega, by rw [a0_z, a9, eL]; exact hL.1, by rw [a0_z, a9, eL, s2_z], by rw [a0_z, a9, eL, s2_z]⟩, ?_⟩
    refine ⟨⟨by omega, by omega⟩, ?_⟩
    exact ⟨rfl, rfl⟩
theorem lx_23 {A : pm_A} {r : Int} (hT : AT A) (hA : gH wX A) (r0 : 0 ≤ r) (r1 : r ≤ 149) : ∀ (n_z : Nat) (i_z : Int) (B_z : pm_A), (6 - i_z).toNat < n_z → 0 ≤ i_z → i_z ≤ A 79 0 → ldF A B_z r i_z → Tm pmt (an_sh wX) o_X0_load 23 ([(2, 72), (0, r), (0, i_z)], [], B_z) (ldP A r) := by
  have p6_z := fX_1_0 hA z79 kk79
  intro n_z
  induction n_z with
  | zero => intro i_z B_z h_z; omega
  | succ n_z ih_z =>
    intro i_z B_z hn i0_z i1_z hI
    have hI0 := hI
    obtain ⟨hB_z, hf, h80, hu, hd_z⟩ := hI
    have b72 : ∀ j_z : Int, B_z 72 j_z = A 72 j_z := fun j_z => hf 72 j_z (by omega) (by omega) (by omega)
    have a8 : B_z 72 8 = 79 := by rw [b72]; exact hT.1.2.2.2.2.2.2.1
    have a9 : B_z 72 9 = 102 := by rw [b72]; exact hT.1.2.2.2.2.2.2.2.1
    have a2 : B_z 72 2 = 74 := by rw [b72]; exact hT.1.2.1
    have b79 : B_z 79 0 = A 79 0 := hf 79 0 (by omega) (by omega) (by omega)
    have b74 : ∀ j_z : Int, B_z 74 j_z = A 74 j_z := fun j_z => hf 74 j_z (by omega) (by omega) (by omega)
    refine wq_ok srt_load (fr := []) (cuts := [51]) (J := fun pc st_z => pc = 51 ∧ i_z < A 79 0 ∧ st_z = ([(2, 72), (0, r), (0, i_z)], [], pm_upd B_z (B_z 72 9) i_z (B_z (B_z 72 2) (r * 6 + i_z)))) ?_ 30 23 _ ?_
    · rintro pc st_z ⟨rfl, hi_z, rfl⟩
      have v0_z := eX_23 hA (r := 74) (by omega) kk74 (j := 6 * r + i_z) (by omega) (by omega)
      rw [a9, a2, b74, show r * 6 + i_z = 6 * r + i_z by omega]
      refine lx_51 hT hA r0 r1 i0_z hi_z (uX_27 hB_z kk102 (by omega) (by omega)) (fun q_z j_z h1 h2 h3 => ?_) (fun j_z j0 j1 => ?_) (fun d_z d0_z d1_z => ?_) (fun d_z d0_z => by rw [upd_ne (by omega)]; exact hu d_z d0_z) upd_at (fun C_z hC => ih_z (i_z + 1) C_z (by omega) (by omega) (by omega) hC)
      · rw [upd_ne h3]; exact hf q_z j_z h1 h2 h3
      · rw [upd_ne (by omega)]; exact h80 j_z j0 j1
      · rw [upd_n2 (by omega), upd_ne (by omega)]; exact hd_z d_z d0_z d1_z
    · refine ⟨oX_5 z72 kk72 8 rfl, ?_⟩
      refine ⟨oX_1 (r := B_z 72 8) (by rw [a8]; omega) (by rw [a8]; exact kk79) 0 rfl, ?_⟩
      refine ⟨fun h_z => ?_, fun h_z => ?_⟩
      · rw [a8, b79] at h_z
        have e_z : i_z = A 79 0 := by omega
        rw [e_z] at hI0
        exact ⟨rfl, hI0⟩
      · rw [a8, b79] at h_z
        refine ⟨oX_5 z72 kk72 9 rfl, ?_⟩
        refine ⟨oX_5 z72 kk72 2 rfl, ?_⟩
        refine ⟨⟨by omega, by omega⟩, ?_⟩
        refine ⟨⟨by omega, by omega⟩, ?_⟩
        refine ⟨aX_23 (r := B_z 72 2) (by rw [a2]; omega) (by rw [a2]; exact kk74) (by omega) (by omega), ?_⟩
        refine ⟨tX_27 (r := B_z 72 9) (by rw [a9]; omega) (by rw [a9]; exact kk102) i0_z (by omega) rfl, ?_⟩
        exact ⟨rfl, h_z, rfl⟩
theorem load_ex {A : pm_A} {r : Int} (hT : AT A) (hA : gH wX A) (r0 : 0 ≤ r) (r1 : r ≤ 149) : Cl pmt (an_sh wX) 10 [(2, 72), (0, r)] A (ldP A r) := by
  have p6_z := fX_1_0 hA z79 kk79
  have a8 := hT.1.2.2.2.2.2.2.1
  have a4 := hT.1.2.2.2.1
  have t2_z := hT.2.2.1.1
  have e1 := shX_10 kk80
  have e2 := shX_25 kk76
  refine Cl.of (Nat.le_of_ble_eq_true rfl) ?_
  refine wq_ok (full := o_X0_load) srt_load (fr := []) (cuts := [23]) (J := fun pc st_z => pc = 23 ∧ st_z = ([(2, 72), (0, r), (0, 0)], [], pm_cpy A (A 72 4) (r * 72) (A (A 72 8) 2) 0 72)) ?_ 30 0 _ ?_
  · rintro pc st_z ⟨rfl, rfl⟩
    rw [a4, a8, t2_z]
    refine lx_23 hT hA r0 r1 _ 0 _ (Nat.lt_succ_self _) (by omega) p6_z.1 ⟨gH_cpy hA (ka := (1, 0, 10800, [(0, -2147483648, 2147483647)])) (kb := (1, 0, 72, [(0, -2147483648, 2147483647)])) (by omega) (by rw [kk76]; rfl) (by rw [kk80]; rfl) rfl rfl rfl rfl rfl rfl (by omega) (by omega) (by simp only; omega), fun q_z j_z h1 h2 h3 => cpy_ne h1, fun j_z j0 j1 => ?_, fun d_z _ => cpy_ne (by omega), fun d_z d0_z d1_z => by omega⟩
    rw [cpy_in ⟨by omega, by omega⟩]
    rw [show r * 72 + (j_z - 0) = 72 * r + j_z by omega]
  · refine ⟨oX_5 z72 kk72 4 rfl, ?_⟩
    refine ⟨⟨by omega, by omega⟩, ?_⟩
    refine ⟨oX_5 z72 kk72 8 rfl, ?_⟩
    refine ⟨oX_1 (r := A 72 8) (by rw [a8]; omega) (by rw [a8]; exact kk79) 2 rfl, ?_⟩
    refine ⟨⟨by rw [a4]; omega, by rw [a8, t2_z]; omega, by rw [a4, e2], by rw [a4, e2], by rw [a8, t2_z, e1], by rw [a8, t2_z, e1], by omega, by omega, by omega, by rw [a4, e2]; simp only; omega, by rw [a8, t2_z, e1]; simp only; omega⟩, ?_⟩
    exact ⟨rfl, rfl⟩
