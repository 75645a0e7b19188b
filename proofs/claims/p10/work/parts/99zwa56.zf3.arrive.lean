/-! the atlas's enter and arrive exactly -/
def enJ (A B : pm_A) (a b c : Int) : Prop := gH wX B ∧ (∀ q_z j_z : Int, ¬ q_z = 103 → ¬ q_z = 74 → ¬ q_z = 75 → B q_z j_z = A q_z j_z) ∧ (∀ j_z : Int, j_z < 6 * A 72 7 → B 74 j_z = A 74 j_z ∧ B 75 j_z = A 75 j_z) ∧ (∀ d_z : Int, 0 ≤ d_z → d_z < a → B 103 d_z = d_z) ∧ (∀ d_z : Int, 0 ≤ d_z → d_z < b → B 74 (6 * A 72 7 + d_z) = A 102 d_z) ∧ ∀ d_z : Int, 0 ≤ d_z → d_z < c → B 75 (6 * A 72 7 + d_z) = 0
def enF (A B : pm_A) : Prop := gH wX B ∧ (∀ q_z j_z : Int, ¬ (q_z = 72 ∧ j_z = 7) → ¬ q_z = 103 → ¬ q_z = 74 → ¬ q_z = 75 → ¬ q_z = 76 → ¬ q_z = 77 → ¬ q_z = 78 → B q_z j_z = A q_z j_z) ∧ (∀ j_z : Int, j_z < 6 * A 72 7 → B 74 j_z = A 74 j_z ∧ B 75 j_z = A 75 j_z) ∧ (∀ d_z : Int, 0 ≤ d_z → d_z < A 79 0 → B 103 d_z = d_z ∧ B 74 (6 * A 72 7 + d_z) = A 102 d_z ∧ B 75 (6 * A 72 7 + d_z) = 0) ∧ ((∀ j_z : Int, j_z < 72 * A 72 7 → B 76 j_z = A 76 j_z) ∧ ∀ j_z : Int, 0 ≤ j_z → j_z < 72 → B 76 (72 * A 72 7 + j_z) = A 80 j_z) ∧ ((∀ j_z : Int, ¬ j_z = A 72 7 → B 77 j_z = A 77 j_z ∧ B 78 j_z = A 78 j_z) ∧ B 77 (A 72 7) = A 72 10 ∧ B 78 (A 72 7) = A 72 11) ∧ B 72 7 = A 72 7 + 1
def enP (A : pm_A) (r : pm_R) : Prop := (r = (some (0, 0), A) ∧ ¬ A 72 7 < 150) ∨ (A 72 7 < 150 ∧ r.1 = some (0, 1) ∧ enF A r.2)
theorem eq_123 {A B : pm_A} {i : Int} (hA : gH wX A) (h7 : A 72 7 < 150) (hB : gH wX B) (h1 : ∀ q_z j_z : Int, ¬ q_z = 103 → ¬ q_z = 74 → ¬ q_z = 75 → ¬ q_z = 76 → ¬ q_z = 77 → ¬ q_z = 78 → B q_z j_z = A q_z j_z) (h2 : ∀ j_z : Int, j_z < 6 * A 72 7 → B 74 j_z = A 74 j_z ∧ B 75 j_z = A 75 j_z) (h3 : ∀ d_z : Int, 0 ≤ d_z → d_z < A 79 0 → B 103 d_z = d_z ∧ B 74 (6 * A 72 7 + d_z) = A 102 d_z ∧ B 75 (6 * A 72 7 + d_z) = 0) (h4 : (∀ j_z : Int, j_z < 72 * A 72 7 → B 76 j_z = A 76 j_z) ∧ ∀ j_z : Int, 0 ≤ j_z → j_z < 72 → B 76 (72 * A 72 7 + j_z) = A 80 j_z) (h5 : (∀ j_z : Int, ¬ j_z = A 72 7 → B 77 j_z = A 77 j_z ∧ B 78 j_z = A 78 j_z) ∧ B 77 (A 72 7) = A 72 10 ∧ B 78 (A 72 7) = A 72 11) : Tm pmt (an_sh wX) o_X0_enter 123 ([(2, 72), (0, i)], [], B) (enP A) := by
  have f7_z := fX_5_7 hA z72 kk72
  have e7_z : B 72 7 = A 72 7 := h1 72 7 (by omega) (by omega) (by omega) (by omega) (by omega) (by omega)
  refine wq_ok srt_enter (fr := []) (cuts := []) (J := fun pc st_z => False) (fun _ _ h_z => h_z.elim) 20 123 _ ?_
  refine ⟨oX_5 z72 kk72 7 rfl, ?_⟩
  refine ⟨⟨by omega, by omega⟩, ?_⟩
  refine ⟨oX_5 z72 kk72 7 rfl, ?_⟩
  refine ⟨rfl, Or.inr ⟨h7, rfl, ?_⟩⟩
  show enF A (pm_upd B 72 7 (B 72 7 + 1))
  rw [e7_z]
  refine ⟨g5_7 hB (by omega) (by omega), fun q_z j_z hq n1_z n2_z n3_z n4_z n5_z n6_z => ?_, fun j_z hj => ?_, fun d_z d0_z d1_z => ?_, ⟨fun j_z hj => ?_, fun j_z j0 j1 => ?_⟩, ⟨fun j_z hj => ?_, ?_, ?_⟩, upd_at⟩
  · by_cases e_z : q_z = 72
    · rw [e_z] at hq ⊢
      rw [upd_n2 (by omega)]; exact h1 72 j_z (by omega) (by omega) (by omega) (by omega) (by omega) (by omega)
    · rw [upd_ne e_z]; exact h1 q_z j_z n1_z n2_z n3_z n4_z n5_z n6_z
  · rw [upd_ne (by omega), upd_ne (by omega)]; exact h2 j_z hj
  · rw [upd_ne (by omega), upd_ne (by omega), upd_ne (by omega)]; exact h3 d_z d0_z d1_z
  · rw [upd_ne (by omega)]; exact h4.1 j_z hj
  · rw [upd_ne (by omega)]; exact h4.2 j_z j0 j1
  · rw [upd_ne (by omega), upd_ne (by omega)]; exact h5.1 j_z hj
  · rw [upd_ne (by omega)]; exact h5.2.1
  · rw [upd_ne (by omega)]; exact h5.2.2
theorem eq_73 {A B : pm_A} {i : Int} (hA : gH wX A) (hT : AT A) (h7 : A 72 7 < 150) (hI : enJ A B (A 79 0) (A 79 0) (A 79 0)) : Tm pmt (an_sh wX) o_X0_enter 73 ([(2, 72), (0, i)], [], B) (enP A) := by
  have f7_z := fX_5_7 hA z72 kk72
  have v10 := fX_5_10 hA z72 kk72
  have v11 := fX_5_11 hA z72 kk72
  obtain ⟨hB_z, h1, h2, g1, g2, g3_z⟩ := hI
  have b72 : ∀ j_z : Int, B 72 j_z = A 72 j_z := fun j_z => h1 72 j_z (by omega) (by omega) (by omega)
  have e7_z : B 72 7 = A 72 7 := b72 7
  have e8 : B 72 8 = 79 := by rw [b72]; exact hT.1.2.2.2.2.2.2.1
  have e4_z : B 72 4 = 76 := by rw [b72]; exact hT.1.2.2.2.1
  have t2_z : B 79 2 = 80 := by rw [h1 79 2 (by omega) (by omega) (by omega)]; exact hT.2.2.1.1
  have s1_z := shX_10 kk80
  have s2_z := shX_25 kk76
  refine wq_ok srt_enter (fr := []) (cuts := [97]) (J := fun pc st_z => pc = 97 ∧ st_z = ([(2, 72), (0, i)], [], pm_cpy B (B (B 72 8) 2) 0 (B 72 4) (B 72 7 * 72) 72)) ?_ 20 73 _ ?_
  · rintro pc st_z ⟨rfl, rfl⟩
    rw [e8, t2_z, e4_z, e7_z]
    have hC : gH wX (pm_cpy B 80 0 76 (A 72 7 * 72) 72) := gH_cpy hB_z (ka := (1, 0, 72, [(0, -2147483648, 2147483647)])) (kb := (1, 0, 10800, [(0, -2147483648, 2147483647)])) (by omega) (by rw [kk80]; rfl) (by rw [kk76]; rfl) rfl rfl rfl rfl rfl rfl (by omega) (by omega) (by simp only; omega)
    have c1_z : ∀ q_z j_z : Int, ¬ q_z = 76 → pm_cpy B 80 0 76 (A 72 7 * 72) 72 q_z j_z = B q_z j_z := fun q_z j_z hq => cpy_ne hq
    have c2_z : ∀ j_z : Int, j_z < 72 * A 72 7 → pm_cpy B 80 0 76 (A 72 7 * 72) 72 76 j_z = A 76 j_z := fun j_z hj => by
      rw [cpy_out (by omega)]; exact h1 76 j_z (by omega) (by omega) (by omega)
    have c3_z : ∀ j_z : Int, 0 ≤ j_z → j_z < 72 → pm_cpy B 80 0 76 (A 72 7 * 72) 72 76 (72 * A 72 7 + j_z) = A 80 j_z := fun j_z j0 j1 => by
      rw [cpy_in ⟨by omega, by omega⟩, show 0 + (72 * A 72 7 + j_z - A 72 7 * 72) = j_z by omega]
      exact h1 80 j_z (by omega) (by omega) (by omega)
    generalize pm_cpy B 80 0 76 (A 72 7 * 72) 72 = C_z at hC c1_z c2_z c3_z
    have d72_z : ∀ j_z : Int, C_z 72 j_z = A 72 j_z := fun j_z => (c1_z 72 j_z (by omega)).trans (b72 j_z)
    have k5_z : C_z 72 5 = 77 := by rw [d72_z]; exact hT.1.2.2.2.2.1
    have k6_z : C_z 72 6 = 78 := by rw [d72_z]; exact hT.1.2.2.2.2.2.1
    refine wq_ok srt_enter (fr := []) (cuts := [110]) (J := fun pc st_z => pc = 110 ∧ st_z = ([(2, 72), (0, i)], [], pm_upd C_z (C_z 72 5) (C_z 72 7) (C_z 72 10))) ?_ 20 97 _ ?_
    · rintro pc st_z ⟨rfl, rfl⟩
      rw [k5_z, d72_z 7, d72_z 10]
      have hD : gH wX (pm_upd C_z 77 (A 72 7) (A 72 10)) := uX_26 hC kk77 v10.1 v10.2
      have d1_z : ∀ q_z j_z : Int, ¬ q_z = 77 → pm_upd C_z 77 (A 72 7) (A 72 10) q_z j_z = C_z q_z j_z := fun q_z j_z hq => upd_ne hq
      have d2_z : ∀ j_z : Int, ¬ j_z = A 72 7 → pm_upd C_z 77 (A 72 7) (A 72 10) 77 j_z = C_z 77 j_z := fun j_z hj => upd_n2 hj
      have d3_z : pm_upd C_z 77 (A 72 7) (A 72 10) 77 (A 72 7) = A 72 10 := upd_at
      generalize pm_upd C_z 77 (A 72 7) (A 72 10) = D_z at hD d1_z d2_z d3_z
      have m72 : ∀ j_z : Int, D_z 72 j_z = A 72 j_z := fun j_z => (d1_z 72 j_z (by omega)).trans (d72_z j_z)
      have m6_z : D_z 72 6 = 78 := by rw [m72]; exact hT.1.2.2.2.2.2.1
      refine wq_ok srt_enter (fr := []) (cuts := [123]) (J := fun pc st_z => pc = 123 ∧ st_z = ([(2, 72), (0, i)], [], pm_upd D_z (D_z 72 6) (D_z 72 7) (D_z 72 11))) ?_ 20 110 _ ?_
      · rintro pc st_z ⟨rfl, rfl⟩
        rw [m6_z, m72 7, m72 11]
        have hE : gH wX (pm_upd D_z 78 (A 72 7) (A 72 11)) := uX_26 hD kk78 v11.1 v11.2
        refine eq_123 hA h7 hE (fun q_z j_z n1_z n2_z n3_z n4_z n5_z n6_z => ?_) (fun j_z hj => ?_) (fun d_z d0_z d4_z => ?_) ⟨fun j_z hj => ?_, fun j_z j0 j1 => ?_⟩ ⟨fun j_z hj => ⟨?_, ?_⟩, ?_, upd_at⟩
        · rw [upd_ne n6_z, d1_z q_z j_z n5_z, c1_z q_z j_z n4_z]; exact h1 q_z j_z n1_z n2_z n3_z
        · rw [upd_ne (by omega), upd_ne (by omega), d1_z 74 j_z (by omega), d1_z 75 j_z (by omega), c1_z 74 j_z (by omega), c1_z 75 j_z (by omega)]; exact h2 j_z hj
        · rw [upd_ne (by omega), upd_ne (by omega), upd_ne (by omega), d1_z 103 _ (by omega), d1_z 74 _ (by omega), d1_z 75 _ (by omega), c1_z 103 _ (by omega), c1_z 74 _ (by omega), c1_z 75 _ (by omega)]
          exact ⟨g1 d_z d0_z d4_z, g2 d_z d0_z d4_z, g3_z d_z d0_z d4_z⟩
        · rw [upd_ne (by omega), d1_z 76 j_z (by omega)]; exact c2_z j_z hj
        · rw [upd_ne (by omega), d1_z 76 _ (by omega)]; exact c3_z j_z j0 j1
        · rw [upd_ne (by omega), d2_z j_z hj, c1_z 77 j_z (by omega)]; exact h1 77 j_z (by omega) (by omega) (by omega)
        · rw [upd_n2 hj, d1_z 78 j_z (by omega), c1_z 78 j_z (by omega)]; exact h1 78 j_z (by omega) (by omega) (by omega)
        · rw [upd_ne (by omega)]; exact d3_z
      · refine ⟨oX_5 z72 kk72 6 rfl, ?_⟩
        refine ⟨oX_5 z72 kk72 7 rfl, ?_⟩
        refine ⟨oX_5 z72 kk72 11 rfl, ?_⟩
        refine ⟨tX_26 (r := D_z 72 6) (by rw [m6_z]; omega) (by rw [m6_z]; exact kk78) (by rw [m72]; exact f7_z.1) (by rw [m72]; exact h7) rfl, ?_⟩
        exact ⟨rfl, rfl⟩
    · refine ⟨oX_5 z72 kk72 5 rfl, ?_⟩
      refine ⟨oX_5 z72 kk72 7 rfl, ?_⟩
      refine ⟨oX_5 z72 kk72 10 rfl, ?_⟩
      refine ⟨tX_26 (r := C_z 72 5) (by rw [k5_z]; omega) (by rw [k5_z]; exact kk77) (by rw [d72_z]; exact f7_z.1) (by rw [d72_z]; exact h7) rfl, ?_⟩
      exact ⟨rfl, rfl⟩
  · refine ⟨oX_5 z72 kk72 8 rfl, ?_⟩
    refine ⟨oX_1 (r := B 72 8) (by rw [e8]; omega) (by rw [e8]; exact kk79) 2 rfl, ?_⟩
    refine ⟨oX_5 z72 kk72 4 rfl, ?_⟩
    refine ⟨oX_5 z72 kk72 7 rfl, ?_⟩
    refine ⟨⟨by omega, by omega⟩, ?_⟩
    refine ⟨⟨by rw [e8, t2_z]; omega, by rw [e4_z]; omega, by rw [e8, t2_z, s1_z], by rw [e8, t2_z, s1_z], by rw [e4_z, s2_z], by rw [e4_z, s2_z], by omega, by omega, by omega, by rw [e8, t2_z, s1_z]; simp only; omega, by rw [e4_z, s2_z]; simp only; omega⟩, ?_⟩
    exact ⟨rfl, rfl⟩
theorem eq_52 {A B : pm_A} {i : Int} (hA : gH wX A) (hT : AT A) (h7 : A 72 7 < 150) (i0 : 0 ≤ i) (i1 : i < A 79 0) (hI : enJ A B (i + 1) (i + 1) i) (H : ∀ C_z, enJ A C_z (i + 1) (i + 1) (i + 1) → Tm pmt (an_sh wX) o_X0_enter 14 ([(2, 72), (0, i + 1)], [], C_z) (enP A)) : Tm pmt (an_sh wX) o_X0_enter 52 ([(2, 72), (0, i)], [], B) (enP A) := by
  have f7_z := fX_5_7 hA z72 kk72
  have p6_z := fX_1_0 hA z79 kk79
  obtain ⟨hB_z, h1, h2, g1, g2, g3_z⟩ := hI
  have b72 : ∀ j_z : Int, B 72 j_z = A 72 j_z := fun j_z => h1 72 j_z (by omega) (by omega) (by omega)
  have e7_z : B 72 7 = A 72 7 := b72 7
  have e3 : B 72 3 = 75 := by rw [b72]; exact hT.1.2.2.1
  refine wq_ok srt_enter (fr := []) (cuts := [14]) (J := fun pc st_z => pc = 14 ∧ st_z = ([(2, 72), (0, i + 1)], [], pm_upd B (B 72 3) (B 72 7 * 6 + i) 0)) ?_ 20 52 _ ?_
  · rintro pc st_z ⟨rfl, rfl⟩
    rw [e3, e7_z, show A 72 7 * 6 + i = 6 * A 72 7 + i by omega]
    refine H _ ⟨uX_24 hB_z kk75 (by omega) (by omega), fun q_z j_z n1_z n2_z n3_z => ?_, fun j_z hj => ?_, fun d_z d0_z d1_z => ?_, fun d_z d0_z d1_z => ?_, fun d_z d0_z d1_z => ?_⟩
    · rw [upd_ne n3_z]; exact h1 q_z j_z n1_z n2_z n3_z
    · rw [upd_ne (by omega), upd_n2 (by omega)]; exact h2 j_z hj
    · rw [upd_ne (by omega)]; exact g1 d_z d0_z d1_z
    · rw [upd_ne (by omega)]; exact g2 d_z d0_z d1_z
    · by_cases e_z : d_z = i
      · rw [e_z, upd_at]
      · rw [upd_n2 (by omega)]; exact g3_z d_z d0_z (by omega)
  · refine ⟨oX_5 z72 kk72 3 rfl, ?_⟩
    refine ⟨oX_5 z72 kk72 7 rfl, ?_⟩
    refine ⟨⟨by omega, by omega⟩, ?_⟩
    refine ⟨⟨by omega, by omega⟩, ?_⟩
    refine ⟨tX_24 (r := B 72 3) (by rw [e3]; omega) (by rw [e3]; exact kk75) (by omega) (by omega) rfl, ?_⟩
    refine ⟨⟨by omega, by omega⟩, ?_⟩
    exact ⟨rfl, rfl⟩
theorem eq_32 {A B : pm_A} {i : Int} (hA : gH wX A) (hT : AT A) (h7 : A 72 7 < 150) (hs : ∀ d_z : Int, 0 ≤ d_z → d_z < A 79 0 → 0 ≤ A 102 d_z) (i0 : 0 ≤ i) (i1 : i < A 79 0) (hI : enJ A B (i + 1) i i) (H : ∀ C_z, enJ A C_z (i + 1) (i + 1) (i + 1) → Tm pmt (an_sh wX) o_X0_enter 14 ([(2, 72), (0, i + 1)], [], C_z) (enP A)) : Tm pmt (an_sh wX) o_X0_enter 32 ([(2, 72), (0, i)], [], B) (enP A) := by
  have f7_z := fX_5_7 hA z72 kk72
  have p6_z := fX_1_0 hA z79 kk79
  obtain ⟨hB_z, h1, h2, g1, g2, g3_z⟩ := hI
  have b72 : ∀ j_z : Int, B 72 j_z = A 72 j_z := fun j_z => h1 72 j_z (by omega) (by omega) (by omega)
  have e7_z : B 72 7 = A 72 7 := b72 7
  have e2 : B 72 2 = 74 := by rw [b72]; exact hT.1.2.1
  have e9_z : B 72 9 = 102 := by rw [b72]; exact hT.1.2.2.2.2.2.2.2.1
  have b102_z : B 102 i = A 102 i := h1 102 i (by omega) (by omega) (by omega)
  have v0_z := eX_27 hA (r := 102) (by omega) kk102 i0 (show i < 6 by omega)
  have v1_z := hs i i0 i1
  refine wq_ok srt_enter (fr := []) (cuts := [52]) (J := fun pc st_z => pc = 52 ∧ st_z = ([(2, 72), (0, i)], [], pm_upd B (B 72 2) (B 72 7 * 6 + i) (B (B 72 9) i))) ?_ 20 32 _ ?_
  · rintro pc st_z ⟨rfl, rfl⟩
    rw [e2, e7_z, e9_z, b102_z, show A 72 7 * 6 + i = 6 * A 72 7 + i by omega]
    refine eq_52 hA hT h7 i0 i1 ⟨uX_23 hB_z kk74 v1_z v0_z.2, fun q_z j_z n1_z n2_z n3_z => ?_, fun j_z hj => ?_, fun d_z d0_z d1_z => ?_, fun d_z d0_z d1_z => ?_, fun d_z d0_z d1_z => ?_⟩ H
    · rw [upd_ne n2_z]; exact h1 q_z j_z n1_z n2_z n3_z
    · rw [upd_n2 (by omega), upd_ne (by omega)]; exact h2 j_z hj
    · rw [upd_ne (by omega)]; exact g1 d_z d0_z d1_z
    · by_cases e_z : d_z = i
      · rw [e_z, upd_at]
      · rw [upd_n2 (by omega)]; exact g2 d_z d0_z (by omega)
    · rw [upd_ne (by omega)]; exact g3_z d_z d0_z d1_z
  · refine ⟨oX_5 z72 kk72 2 rfl, ?_⟩
    refine ⟨oX_5 z72 kk72 7 rfl, ?_⟩
    refine ⟨⟨by omega, by omega⟩, ?_⟩
    refine ⟨⟨by omega, by omega⟩, ?_⟩
    refine ⟨oX_5 z72 kk72 9 rfl, ?_⟩
    refine ⟨aX_27 (r := B 72 9) (by rw [e9_z]; omega) (by rw [e9_z]; exact kk102) i0 (by omega), ?_⟩
    refine ⟨tX_23 (r := B 72 2) (by rw [e2]; omega) (by rw [e2]; exact kk74) (by omega) (by omega) rfl, ?_⟩
    exact ⟨rfl, rfl⟩
theorem eq_14 {A : pm_A} (hA : gH wX A) (hT : AT A) (h7 : A 72 7 < 150) (hs : ∀ d_z : Int, 0 ≤ d_z → d_z < A 79 0 → 0 ≤ A 102 d_z) : ∀ (n_z : Nat) (i_z : Int) (B_z : pm_A), (7 - i_z).toNat < n_z → 0 ≤ i_z → i_z ≤ A 79 0 → enJ A B_z i_z i_z i_z → Tm pmt (an_sh wX) o_X0_enter 14 ([(2, 72), (0, i_z)], [], B_z) (enP A) := by
  have p6_z := fX_1_0 hA z79 kk79
  intro n_z
  induction n_z with
  | zero => intro i_z B_z h_z; omega
  | succ n_z ih_z =>
    intro i_z B_z hn i0_z i1_z hI
    have hI0 := hI
    obtain ⟨hB_z, h1, h2, g1, g2, g3_z⟩ := hI
    have b72 : ∀ j_z : Int, B_z 72 j_z = A 72 j_z := fun j_z => h1 72 j_z (by omega) (by omega) (by omega)
    have e8 : B_z 72 8 = 79 := by rw [b72]; exact hT.1.2.2.2.2.2.2.1
    have e12_z : B_z 72 12 = 103 := by rw [b72]; exact hT.1.2.2.2.2.2.2.2.2
    have b79 : B_z 79 0 = A 79 0 := h1 79 0 (by omega) (by omega) (by omega)
    refine wq_ok srt_enter (fr := []) (cuts := [32, 73]) (J := fun pc st_z => (pc = 73 ∧ i_z = A 79 0 ∧ st_z = ([(2, 72), (0, i_z)], [], B_z)) ∨ (pc = 32 ∧ i_z < A 79 0 ∧ st_z = ([(2, 72), (0, i_z)], [], pm_upd B_z (B_z 72 12) i_z i_z))) ?_ 20 14 _ ?_
    · rintro pc st_z (⟨rfl, hi_z, rfl⟩ | ⟨rfl, hi_z, rfl⟩)
      · rw [hi_z] at hI0
        exact eq_73 hA hT h7 hI0
      · rw [e12_z]
        refine eq_32 hA hT h7 hs i0_z hi_z ⟨uX_17 hB_z kk103 (by omega) (by omega), fun q_z j_z n1_z n2_z n3_z => ?_, fun j_z hj => ?_, fun d_z d0_z d1_z => ?_, fun d_z d0_z d1_z => ?_, fun d_z d0_z d1_z => ?_⟩ (fun C_z hC => ih_z (i_z + 1) C_z (by omega) (by omega) (by omega) hC)
        · rw [upd_ne n1_z]; exact h1 q_z j_z n1_z n2_z n3_z
        · rw [upd_ne (by omega), upd_ne (by omega)]; exact h2 j_z hj
        · by_cases e_z : d_z = i_z
          · rw [e_z, upd_at]
          · rw [upd_n2 e_z]; exact g1 d_z d0_z (by omega)
        · rw [upd_ne (by omega)]; exact g2 d_z d0_z d1_z
        · rw [upd_ne (by omega)]; exact g3_z d_z d0_z d1_z
    · refine ⟨oX_5 z72 kk72 8 rfl, ?_⟩
      refine ⟨oX_1 (r := B_z 72 8) (by rw [e8]; omega) (by rw [e8]; exact kk79) 0 rfl, ?_⟩
      refine ⟨fun h_z => ?_, fun h_z => ?_⟩
      · rw [e8, b79] at h_z
        exact Or.inl ⟨rfl, by omega, rfl⟩
      · rw [e8, b79] at h_z
        refine ⟨oX_5 z72 kk72 12 rfl, ?_⟩
        refine ⟨tX_17 (r := B_z 72 12) (by rw [e12_z]; omega) (by rw [e12_z]; exact kk103) i0_z (by omega) rfl, ?_⟩
        exact Or.inr ⟨rfl, h_z, rfl⟩
theorem enter_ex {A : pm_A} (hA : gH wX A) (hT : AT A) (hs : ∀ d_z : Int, 0 ≤ d_z → d_z < A 79 0 → 0 ≤ A 102 d_z) : Cl pmt (an_sh wX) 5 [(2, 72)] A (enP A) := by
  have p6_z := fX_1_0 hA z79 kk79
  refine Cl.of (Nat.le_of_ble_eq_true rfl) ?_
  refine wq_ok (full := o_X0_enter) srt_enter (fr := []) (cuts := [14]) (J := fun pc st_z => pc = 14 ∧ A 72 7 < 150 ∧ st_z = ([(2, 72), (0, 0)], [], A)) ?_ 20 0 _ ?_
  · rintro pc st_z ⟨rfl, h_z, rfl⟩
    exact eq_14 hA hT h_z hs _ 0 A (Nat.lt_succ_self _) (by omega) p6_z.1 ⟨hA, fun _ _ _ _ _ => rfl, fun _ _ => ⟨rfl, rfl⟩, fun d_z d0_z d1_z => by omega, fun d_z d0_z d1_z => by omega, fun d_z d0_z d1_z => by omega⟩
  · refine ⟨oX_5 z72 kk72 7 rfl, ?_⟩
    refine ⟨fun h_z => ?_, fun h_z => ?_⟩
    · exact ⟨rfl, h_z, rfl⟩
    · exact ⟨rfl, Or.inl ⟨rfl, by omega⟩⟩
/-- behind arrive: the masks are told anew, and the seed at hand is row r, its place k marked there -/
def avF (A B : pm_A) : Prop := gH wX B ∧ ∀ q_z j_z : Int, ¬ (q_z = 72 ∧ (j_z = 10 ∨ j_z = 11)) → ¬ q_z = 103 → B q_z j_z = A q_z j_z
def avP (A : pm_A) (k : Int) (q : pm_R) : Prop := ((∀ r_z : Int, 0 ≤ r_z → r_z < A 72 7 → ¬ ∃ M_z, thr A r_z M_z) ∧ ((¬ A 72 7 < 150 ∧ q.1 = some (0, 0) ∧ avF A q.2) ∨ (A 72 7 < 150 ∧ q.1 = some (0, 1) ∧ ∃ B_z C_z, (gaF A B_z (A 79 0).toNat ∧ smO B_z C_z) ∧ ∃ D_z, enF C_z D_z ∧ gH wX q.2 ∧ q.2 = pm_upd D_z 75 (6 * A 72 7 + k) 1))) ∨ ∃ r_z : Int, (0 ≤ r_z ∧ r_z < A 72 7) ∧ ∃ M_z, thr A r_z M_z ∧ q.1 = some (0, 1) ∧ ∃ C_z, avF A C_z ∧ gH wX q.2 ∧ q.2 = pm_upd C_z 75 (6 * r_z + M_z k) 1
theorem thr_c {A B : pm_A} {r : Int} {M : Int → Int} (e : ∀ q_z j_z : Int, ¬ (q_z = 72 ∧ (j_z = 10 ∨ j_z = 11)) → B q_z j_z = A q_z j_z) : thr B r M ↔ thr A r M := by
  have e74_z : B 74 = A 74 := funext fun j_z => e 74 j_z (by omega)
  have e102_z : B 102 = A 102 := funext fun j_z => e 102 j_z (by omega)
  have e80 : B 80 = A 80 := funext fun j_z => e 80 j_z (by omega)
  have e76 : B 76 = A 76 := funext fun j_z => e 76 j_z (by omega)
  unfold thr bgW
  rw [e74_z, e102_z, e80, e76, e 79 0 (by omega), e 79 1 (by omega)]
theorem av_28 {A C : pm_A} {k r : Int} {q : pm_R → Prop} (hT : AT A) (k0 : 0 ≤ k) (k1 : k ≤ 5) (r0 : 0 ≤ r) (r1 : r ≤ 149) (hC : gH wX C) (c72 : ∀ j_z : Int, j_z = 3 ∨ j_z = 12 → C 72 j_z = A 72 j_z) (hq : q (some (0, 1), pm_upd C 75 (6 * r + C 103 k) 1)) : Tm pmt (an_sh wX) o_X0_arrive 28 ([(2, 72), (0, k), (0, r)], [], C) q := by
  have e3 : C 72 3 = 75 := by rw [c72 3 (by omega)]; exact hT.1.2.2.1
  have e12_z : C 72 12 = 103 := by rw [c72 12 (by omega)]; exact hT.1.2.2.2.2.2.2.2.2
  have v0_z := eX_17 hC (r := 103) (by omega) kk103 k0 (show k < 6 by omega)
  refine wq_ok srt_arrive (fr := []) (cuts := []) (J := fun pc st_z => False) (fun _ _ h_z => h_z.elim) 20 28 _ ?_
  refine ⟨oX_5 z72 kk72 3 rfl, ?_⟩
  refine ⟨⟨by omega, by omega⟩, ?_⟩
  refine ⟨oX_5 z72 kk72 12 rfl, ?_⟩
  refine ⟨aX_17 (r := C 72 12) (by rw [e12_z]; omega) (by rw [e12_z]; exact kk103) k0 (by omega), ?_⟩
  have ev_z : C (C 72 12) k = C 103 k := by rw [e12_z]
  refine ⟨⟨by rw [ev_z]; omega, by rw [ev_z]; omega⟩, ?_⟩
  refine ⟨tX_24 (r := C 72 3) (by rw [e3]; omega) (by rw [e3]; exact kk75) (by rw [ev_z]; omega) (by rw [ev_z]; omega) rfl, ?_⟩
  refine ⟨rfl, ?_⟩
  show q (some (0, 1), pm_upd C (C 72 3) (r * 6 + C (C 72 12) k) 1)
  rw [e3, ev_z, show r * 6 + C 103 k = 6 * r + C 103 k by omega]
  exact hq
/-- what arrive wants of the rows -/
def avH (A : pm_A) : Prop := AT A ∧ dst (A 102) (A 79 0) ∧ ∀ r_z : Int, 0 ≤ r_z → r_z < A 72 7 → dst (fun j_z => A 74 (6 * r_z + j_z)) (A 79 0) ∧ A 77 r_z = loM (fun j_z => A 74 (6 * r_z + j_z)) (A 79 0).toNat ∧ A 78 r_z = hgM (fun j_z => A 74 (6 * r_z + j_z)) (A 79 0).toNat
theorem arrive_ex {A : pm_A} {k : Int} (hA : gH wX A) (hH : avH A) (k0 : 0 ≤ k) (k1 : k < A 79 0) : Cl pmt (an_sh wX) 4 [(2, 72), (0, k)] A (avP A k) := by
  have p6_z := fX_1_0 hA z79 kk79
  have f7_z := fX_5_7 hA z72 kk72
  obtain ⟨hT_z, hdS, hrow⟩ := hH
  refine Cl.of (Nat.le_of_ble_eq_true rfl) ?_
  refine wq_ok (full := o_X0_arrive) srt_arrive (fr := []) (cuts := [4]) (J := fun pc st_z => pc = 4 ∧ ∃ B_z v_z, gaF A B_z (A 79 0).toNat ∧ st_z = ([(2, 72), (0, k), v_z], [], B_z)) ?_ 20 0 _ ?_
  · rintro pc st_z ⟨rfl, B_z, v_z, hB_z, rfl⟩
    have hB0 := hB_z
    obtain ⟨b1, b2, b10, b11⟩ := hB_z
    have b72 : ∀ j_z : Int, ¬ j_z = 10 → ¬ j_z = 11 → B_z 72 j_z = A 72 j_z := fun j_z h1 h2 => b2 72 j_z (by omega)
    have hTB : AT B_z := hT_z.of (fun j_z _ _ _ n1_z n2_z _ _ => b72 j_z n1_z n2_z) ⟨b2 79 2 (by omega), b2 79 4 (by omega)⟩ (fun j_z _ => b2 73 j_z (by omega))
    have e102_z : B_z 102 = A 102 := funext fun j_z => b2 102 j_z (by omega)
    have e74_z : B_z 74 = A 74 := funext fun j_z => b2 74 j_z (by omega)
    have e79 : B_z 79 0 = A 79 0 := b2 79 0 (by omega)
    have hro : roH B_z := by
      unfold roH
      rw [e102_z, e79, e74_z, b10, b11, b72 7 (by omega) (by omega)]
      refine ⟨hTB, hdS, ⟨rfl, rfl⟩, fun r_z r0 r1_z => ?_⟩
      rw [b2 77 r_z (by omega), b2 78 r_z (by omega)]
      exact hrow r_z r0 r1_z
    refine wq_ok srt_arrive (fr := []) (cuts := [14, 28]) (J := fun pc st_z => (pc = 14 ∧ ∃ C_z, smO B_z C_z ∧ (∀ r_z : Int, 0 ≤ r_z → r_z < A 72 7 → ¬ ∃ M_z, thr A r_z M_z) ∧ ∃ v_z, st_z = ([(2, 72), (0, k), v_z], [], C_z)) ∨ (pc = 28 ∧ ∃ r_z C_z, (0 ≤ r_z ∧ r_z < A 72 7) ∧ smO B_z C_z ∧ thr A r_z (C_z 103) ∧ st_z = ([(2, 72), (0, k), (0, r_z)], [], C_z))) ?_ 30 4 _ ?_
    · rintro pc st_z (⟨rfl, C_z, hC, hno, v_z, rfl⟩ | ⟨rfl, r_z, C_z, hr, hC, hy, rfl⟩)
      · have cc : ∀ q_z j_z : Int, ¬ (q_z = 72 ∧ (j_z = 10 ∨ j_z = 11)) → ¬ q_z = 103 → C_z q_z j_z = A q_z j_z := fun q_z j_z h1 h2 => (hC.2 q_z j_z h2).trans (b2 q_z j_z h1)
        have c7_z : C_z 72 7 = A 72 7 := cc 72 7 (by omega) (by omega)
        have hTC : AT C_z := hTB.of (fun j_z _ _ _ _ _ _ _ => hC.2 72 j_z (by omega)) ⟨hC.2 79 2 (by omega), hC.2 79 4 (by omega)⟩ (fun j_z _ => hC.2 73 j_z (by omega))
        refine wq_ok srt_arrive (fr := []) (cuts := [28]) (J := fun pc st_z => pc = 28 ∧ A 72 7 < 150 ∧ ∃ D_z, enF C_z D_z ∧ st_z = ([(2, 72), (0, k), (0, C_z 72 7)], [], D_z)) ?_ 30 14 _ ?_
        · rintro pc st_z ⟨rfl, h7, D_z, hD, rfl⟩
          have d103_z : D_z 103 k = k := (hD.2.2.2.1 k k0 (by rw [cc 79 0 (by omega) (by omega)]; exact k1)).1
          rw [c7_z]
          refine av_28 hTC k0 (by omega) f7_z.1 (by omega) hD.1 (fun j_z hj => hD.2.1 72 j_z (by omega) (by omega) (by omega) (by omega) (by omega) (by omega) (by omega)) ?_
          rw [d103_z]
          exact Or.inl ⟨hno, Or.inr ⟨h7, rfl, B_z, C_z, ⟨hB0, hC⟩, D_z, hD, uX_24 hD.1 kk75 (by omega) (by omega), rfl⟩⟩
        · refine ⟨oX_5 z72 kk72 7 rfl, ?_⟩
          refine ⟨rX_5 z72 kk72, ?_⟩
          refine (enter_ex hC.1 hTC (fun d_z d0_z d1_z => ?_)).imp ?_
          · rw [cc 79 0 (by omega) (by omega)] at d1_z
            rw [cc 102 d_z (by omega) (by omega)]
            exact (hdS.1 d_z d0_z d1_z).1
          · rintro ⟨q1_z, D_z⟩ hD
            rcases hD with ⟨e_z, h7⟩ | ⟨h7, e_z, hD⟩
            · injection e_z with e1 e2
              subst e1
              subst e2
              refine ⟨fun hh => absurd rfl hh, fun _ => ?_⟩
              exact ⟨rfl, Or.inl ⟨hno, Or.inl ⟨by rw [← c7_z]; exact h7, rfl, hC.1, cc⟩⟩⟩
            · simp only at e_z hD
              subst e_z
              refine ⟨fun _ => ?_, fun hh => absurd hh (by decide)⟩
              exact ⟨rfl, by rw [← c7_z]; exact h7, D_z, hD, rfl⟩
      · refine av_28 hTB k0 (by omega) hr.1 (by omega) hC.1 (fun j_z hj => hC.2 72 j_z (by omega)) ?_
        exact Or.inr ⟨r_z, hr, C_z 103, hy, rfl, C_z, ⟨hC.1, fun q_z j_z h1 h2 => (hC.2 q_z j_z h2).trans (b2 q_z j_z h1)⟩, uX_24 hC.1 kk75 (by omega) (by omega), rfl⟩
    · refine ⟨rX_5 z72 kk72, ?_⟩
      refine (rowOf_ex b1 hro).imp ?_
      rintro ⟨q1_z, C_z⟩ ⟨hC, hr⟩
      simp only at hC hr
      rw [b72 7 (by omega) (by omega)] at hr
      rcases hr with ⟨rfl, hno⟩ | ⟨r_z, hr, rfl, hy⟩
      · refine ⟨fun hh => absurd rfl hh, fun _ => ?_⟩
        exact Or.inl ⟨rfl, C_z, hC, fun r_z r0 r1_z ⟨M_z, hM_z⟩ => hno r_z r0 r1_z ⟨M_z, (thr_c b2).2 hM_z⟩, _, rfl⟩
      · refine ⟨fun _ => ?_, fun hh => absurd hh (by omega)⟩
        exact Or.inr ⟨rfl, r_z, C_z, hr, hC, (thr_c b2).1 hy, rfl⟩
  · refine ⟨rX_5 z72 kk72, ?_⟩
    refine (gather_ex hA hT_z).imp ?_
    rintro ⟨q1_z, B_z⟩ hB_z
    have hr1 : q1_z = none := hB_z.1
    subst hr1
    exact ⟨rfl, B_z, _, hB_z.2, rfl⟩
