/-! the reference keeps its very seed: keep, same, finite, all -/
def RIk (s : cx_Sd 12) (ks : List (Fin 12)) (A : pm_A) : Prop := Tru s ks A ∧ RB A ∧ RG A
def rik_post (s : cx_Sd 12) (ks : List (Fin 12)) (r : pm_R) : Prop := (∃ z_z, r.1 = some (0, z_z)) ∧ RIk s ks r.2
theorem RIk.g {s : cx_Sd 12} {ks : List (Fin 12)} {A : pm_A} (h : RIk s ks A) : gH wM A := h.1.1
theorem RIk.ri {s : cx_Sd 12} {ks : List (Fin 12)} {A : pm_A} (h : RIk s ks A) : RI A := ⟨⟨s, ks, h.1⟩, h.2⟩
theorem RIk.typed {s : cx_Sd 12} {ks : List (Fin 12)} {A B : pm_A} {ms : List Nat} (h : RIk s ks A) (hB : gH wM B) (hF : gFr wM ms A B) (hm : (ms.all fun c_z => !([1007, 1008, 1010, 10001, 10002, 10003, 10005, 10006, 10007, 10031, 10032].contains c_z)) = true) : RIk s ks B := by
  have hno : ∀ c_z, c_z ∈ ([1007, 1008, 1010, 10001, 10002, 10003, 10005, 10006, 10007, 10031, 10032] : List Nat) → ¬ c_z ∈ ms := fun c_z hc_z hin => by
    have := List.all_eq_true.1 hm c_z hin
    rw [List.contains_iff_mem.mpr hc_z] at this
    exact absurd this (by decide)
  have f0_z : ∀ j_z : Int, j_z = 7 ∨ j_z = 8 ∨ j_z = 10 → B 0 j_z = A 0 j_z := fun j_z hj => hF 0 j_z (by omega) (by omega) (by rw [mc_0]; rcases hj with rfl | rfl | rfl <;> exact hno _ (by decide))
  have c1_z : ∀ j_z : Int, 0 ≤ j_z → B 1 j_z = A 1 j_z := fun j_z j0 => hF 1 j_z (by omega) j0 (by rw [mc_1]; exact hno _ (by decide))
  have c2_z : ∀ j_z : Int, 0 ≤ j_z → B 2 j_z = A 2 j_z := fun j_z j0 => hF 2 j_z (by omega) j0 (by rw [mc_2]; exact hno _ (by decide))
  have c3_z : ∀ j_z : Int, 0 ≤ j_z → B 3 j_z = A 3 j_z := fun j_z j0 => hF 3 j_z (by omega) j0 (by rw [mc_3]; exact hno _ (by decide))
  have c5_z : ∀ j_z : Int, 0 ≤ j_z → B 5 j_z = A 5 j_z := fun j_z j0 => hF 5 j_z (by omega) j0 (by rw [mc_5]; exact hno _ (by decide))
  have c6_z : ∀ j_z : Int, 0 ≤ j_z → B 6 j_z = A 6 j_z := fun j_z j0 => hF 6 j_z (by omega) j0 (by rw [mc_6]; exact hno _ (by decide))
  have c7_z : ∀ j_z : Int, 0 ≤ j_z → B 7 j_z = A 7 j_z := fun j_z j0 => hF 7 j_z (by omega) j0 (by rw [mc_7]; exact hno _ (by decide))
  have c31_z : ∀ j_z : Int, 0 ≤ j_z → B 31 j_z = A 31 j_z := fun j_z j0 => hF 31 j_z (by omega) j0 (by rw [mc_31]; exact hno _ (by decide))
  have c32_z : ∀ j_z : Int, 0 ≤ j_z → B 32 j_z = A 32 j_z := fun j_z j0 => hF 32 j_z (by omega) j0 (by rw [mc_32]; exact hno _ (by decide))
  obtain ⟨hT_z, ⟨b1, b2⟩, hRG⟩ := h
  refine ⟨hT_z.same hB (f0_z 7 (by omega)) (f0_z 8 (by omega)) (fun j_z j0 _ => c5_z j_z j0) (fun p_z p0_z p1_z r_z j_z hr => ?_), ⟨fun j_z j0 j1 => by rw [c7_z j_z j0]; exact b1 j_z j0 j1, fun d_z d0_z d1_z => ?_⟩, hRG.same2 c31_z c32_z⟩
  · unfold inS at hr
    rcases hr with ⟨rfl, rfl⟩ | ⟨rfl, h1, h2⟩ | ⟨rfl, h1, h2⟩
    · exact c1_z _ p0_z
    · exact c2_z _ (by omega)
    · exact c3_z _ (by omega)
  · rw [c6_z d_z d0_z, f0_z 7 (by omega)]; rw [f0_z 10 (by omega)] at d1_z; exact b2 d_z d0_z d1_z
theorem RIk.upd {s : cx_Sd 12} {ks : List (Fin 12)} {A : pm_A} {r j x : Int} (h : RIk s ks A) (hB : gH wM (pm_upd A r j x)) (h1 : r ≠ 1 ∧ r ≠ 2 ∧ r ≠ 3 ∧ r ≠ 5 ∧ r ≠ 6 ∧ r ≠ 7 ∧ r ≠ 31 ∧ r ≠ 32) (h2 : ¬ (r = 0 ∧ (j = 7 ∨ j = 8 ∨ j = 10))) : RIk s ks (pm_upd A r j x) := by
  obtain ⟨hT_z, ⟨b1, b2⟩, hRG⟩ := h
  refine ⟨hT_z.same hB (upd_o (by omega)) (upd_o (by omega)) (fun i_z _ _ => upd_o (by omega)) (fun p_z p0_z p1_z q_z i_z hq => upd_o (by unfold inS at hq; omega)), ⟨fun i_z i0_z i1_z => by rw [upd_o (by omega)]; exact b1 i_z i0_z i1_z, fun d_z d0_z d1_z => ?_⟩, hRG.same (fun i_z => upd_o (by omega)) (fun i_z => upd_o (by omega))⟩
  rw [upd_o (by omega), upd_o (by omega)]
  rw [upd_o (by omega)] at d1_z
  exact b2 d_z d0_z d1_z
theorem RIk.copy {s : cx_Sd 12} {ks : List (Fin 12)} {A C : pm_A} {p : Int} (h : RIk s ks A) (hC : gH wM C) (p0 : 6 ≤ p) (hf : ∀ q_z j_z, ¬ inS p q_z j_z → C q_z j_z = A q_z j_z) : RIk s ks C := by
  obtain ⟨hT_z, ⟨b1, b2⟩, hRG⟩ := h
  have p7_z := fM_0_7 hT_z.1 (r := 0) (by omega) km0
  refine ⟨hT_z.same hC (hf 0 7 (by unfold inS; omega)) (hf 0 8 (by unfold inS; omega)) (fun i_z _ _ => hf 5 i_z (by unfold inS; omega)) (fun t_z t0_z t1_z q_z i_z hq => hf q_z i_z (by unfold inS at *; omega)), ⟨fun i_z i0_z i1_z => by rw [hf 7 i_z (by unfold inS; omega)]; exact b1 i_z i0_z i1_z, fun d_z d0_z d1_z => ?_⟩, hRG.same (fun i_z => hf 31 i_z (by unfold inS; omega)) (fun i_z => hf 32 i_z (by unfold inS; omega))⟩
  rw [hf 6 d_z (by unfold inS; omega), hf 0 7 (by unfold inS; omega)]
  rw [hf 0 10 (by unfold inS; omega)] at d1_z
  exact b2 d_z d0_z d1_z
theorem restoredk {s : cx_Sd 12} {ks : List (Fin 12)} {A A1 B C : pm_A} (hA : RIk s ks A) (h1 : savesJ A A1 30 72) (hB : gH wM B) (hf : ∀ r_z j_z : Int, 0 ≤ j_z → (r_z = 0 → j_z < 100) → (r_z = 0 ∧ j_z ≠ 4 ∧ j_z ≠ 5 ∧ j_z ≠ 24 ∧ j_z ≠ 26 ∧ j_z ≠ 40 ∧ j_z ≠ 41 ∧ j_z ≠ 42) ∨ (r_z = 6 ∨ r_z = 7 ∨ r_z = 22 ∨ r_z = 31 ∨ r_z = 32) → B r_z j_z = A1 r_z j_z) (hs : ∀ p_z : Int, 30 ≤ p_z → p_z ≤ 35 → ∀ r_z j_z, inS p_z r_z j_z → B r_z j_z = A1 r_z j_z) (hC : restoresJ B C 30 72) : RIk s ks C := by
  obtain ⟨hT_z, ⟨b1, b2⟩, hRG⟩ := hA
  have p7_z := fM_0_7 hT_z.1 (r := 0) (by omega) km0
  obtain ⟨q2_z, q3_z, q4_z, q5_z⟩ := hC
  have s1_z : ∀ r_z j_z : Int, r_z ≠ 22 → (∀ t_z : Int, 30 ≤ t_z → t_z ≤ 35 → ¬ inS t_z r_z j_z) → A1 r_z j_z = A r_z j_z := fun r_z j_z hr hn => h1.2.1 r_z j_z (fun t_z t0_z t1_z ht => hn (30 + t_z) (by omega) (by omega) ht) hr
  have e7_z : B 0 7 = A 0 7 := by rw [hf 0 7 (by omega) (by omega) (by omega)]; exact s1_z 0 7 (by omega) (fun t_z t0_z t1_z ht => by unfold inS at ht; omega)
  have c0_z : ∀ j_z : Int, j_z = 7 ∨ j_z = 8 ∨ j_z = 10 → C 0 j_z = A 0 j_z := fun j_z hj => by
    rw [q3_z 0 j_z (fun t_z t0_z t1_z ht => by unfold inS at ht; omega) (by omega), hf 0 j_z (by omega) (by omega) (by omega)]; exact s1_z 0 j_z (by omega) (fun t_z t0_z t1_z ht => by unfold inS at ht; omega)
  have cC : ∀ r_z j_z : Int, 0 ≤ j_z → r_z = 6 ∨ r_z = 7 ∨ r_z = 31 ∨ r_z = 32 → C r_z j_z = A r_z j_z := fun r_z j_z j0 hr => by
    rw [q3_z r_z j_z (fun t_z t0_z t1_z ht => by unfold inS at ht; omega) (by omega), hf r_z j_z j0 (by omega) (by omega)]; exact s1_z r_z j_z (by omega) (fun t_z t0_z t1_z ht => by unfold inS at ht; omega)
  refine ⟨hT_z.ls q2_z (c0_z 7 (by omega)) (c0_z 8 (by omega)) (fun j_z j0 j1 => ?_) (fun p_z p0_z p1_z => ?_), ⟨fun j_z j0 j1 => by rw [cC 7 j_z j0 (by omega)]; exact b1 j_z j0 j1, fun d_z d0_z d1_z => ?_⟩, hRG.same2 (fun j_z j0 => cC 31 j_z j0 (by omega)) (fun j_z j0 => cC 32 j_z j0 (by omega))⟩
  · rw [q5_z j_z j0 j1, hf 22 j_z j0 (by omega) (by omega)]; exact h1.2.2.2 j_z j0 j1
  · rw [q4_z p_z p0_z (by omega)]
    have m1_z := eM_1 h1.1 (r := 1) (by omega) kn1 (j := 30 + p_z) (by omega) (by omega)
    rw [LSm_same m1_z.2 (hs (30 + p_z) (by omega) (by omega))]
    exact h1.2.2.1 p_z p0_z p1_z
  · rw [cC 6 d_z d0_z (by omega), c0_z 7 (by omega)]
    rw [c0_z 10 (by omega)] at d1_z
    exact b2 d_z d0_z d1_z
def alK (s : cx_Sd 12) (ks : List (Fin 12)) (B : pm_A) : Prop := RIk s ks B ∧ B 0 26 ≤ 100
theorem al_94k {s : cx_Sd 12} {ks : List (Fin 12)} {l : Int} (l0 : 0 ≤ l) (l1 : l ≤ 99) (H : ∀ C_z w3_z, alK s ks C_z → Tm pmt (an_sh wM) o_X10_all 55 ([(2, 0), (0, 1), (0, l + 1), w3_z], [], C_z) (rik_post s ks)) : ∀ (m_z : Nat) (v_z : Int) (B_z : pm_A), (12 - v_z).toNat < m_z → 0 ≤ v_z → v_z ≤ 12 → alK s ks B_z → Tm pmt (an_sh wM) o_X10_all 94 ([(2, 0), (0, 1), (0, l), (0, v_z)], [], B_z) (rik_post s ks) := by
  intro m_z
  induction m_z with
  | zero => intro v_z B_z h_z; omega
  | succ m_z ih_z =>
    intro v_z B_z hm_z v0_z v1_z hB_z
    have hg := hB_z.1.g
    have c33_z := pM_33 hg
    refine wq_ok srt_Mall (fr := []) (cuts := [55, 119]) (J := fun pc st_z => (pc = 55 ∧ (12 ≤ v_z) ∧ st_z = ([(2, 0), (0, 1), (0, l + 1), (0, v_z)], [], B_z)) ∨ (pc = 119 ∧ v_z < 12 ∧ ∃ C_z x_z, alK s ks C_z ∧ (-2147483648 ≤ x_z ∧ x_z ≤ 2147483647) ∧ st_z = ([(2, 0), (0, 1), (0, l), (0, v_z)], [(0, x_z), (0, 12 * l + v_z), (2, B_z 0 33)], C_z))) ?_ 20 94 _ ?_
    · rintro pc st_z (⟨rfl, h0, rfl⟩ | ⟨rfl, hv, C_z, x_z, hC, hx, rfl⟩)
      · exact H B_z _ hB_z
      · refine wq_ok srt_Mall (fr := []) (cuts := [94]) (J := fun pc st_z => (pc = 94 ∧ st_z = ([(2, 0), (0, 1), (0, l), (0, v_z + 1)], [], pm_upd C_z (B_z 0 33) (12 * l + v_z) x_z))) ?_ 8 119 _ ?_
        · rintro pc st_z (⟨rfl, rfl⟩)
          rw [c33_z]
          exact ih_z (v_z + 1) _ (by omega) (by omega) (by omega) ⟨hC.1.upd (uM_21 hC.1.g kn21 hx.1 hx.2) (by omega) (by omega), by rw [upd_o (by omega)]; exact hC.2⟩
        · refine ⟨tM_21 (r := B_z 0 33) (by rw [c33_z]; omega) (by rw [c33_z]; exact kn21) (by omega) (by omega) rfl, ?_⟩
          refine ⟨⟨by omega, by omega⟩, ?_⟩
          exact ⟨rfl, rfl⟩
    · refine ⟨fun h0 => ?_, fun h0 => ?_⟩
      · refine ⟨⟨by omega, by omega⟩, ?_⟩
        exact Or.inl (⟨rfl, h0, rfl⟩)
      · refine ⟨oM_0 (by omega) km0 33 rfl, ?_⟩
        refine ⟨⟨by omega, by omega⟩, ?_⟩
        refine ⟨⟨by omega, by omega⟩, ?_⟩
        refine ⟨⟨by omega, by omega⟩, ?_⟩
        refine ⟨rM_0 (by omega) km0, ?_⟩
        refine Cl.gct q_X10_leastOf_0 (A := B_z) (a := [(2, 0), (0, 50 + l), (0, v_z)]) ⟨gv_ref (by omega) km0, ⟨rfl, by simp only; omega, by simp only; omega⟩, ⟨rfl, by simp only; omega, by simp only; omega⟩, trivial⟩ hg ?_
        rintro ⟨r1_z, C_z⟩ f1_z f2_z f3_z
        simp only at f1_z f2_z f3_z
        match r1_z, f1_z with
        | some (0, x_z), fx => exact Or.inr (⟨rfl, h0, C_z, x_z, ⟨hB_z.1.typed f2_z f3_z (by decide), by rw [f3_z 0 26 (by omega) (by omega) (by rw [mc_0]; decide)]; exact hB_z.2⟩, ⟨fx.1.2.1, fx.1.2.2⟩, rfl⟩)
        | some (n_z + 1, x_z), ⟨⟨q_z, _⟩, _⟩ => exact absurd q_z (by intro q_z; cases q_z)
        | none, q_z => exact absurd q_z (by intro q_z; cases q_z)
theorem al_55k {s : cx_Sd 12} {ks : List (Fin 12)} : ∀ (m_z : Nat) (l : Int) (w3_z : pm_V) (B_z : pm_A), (101 - l).toNat < m_z → 0 ≤ l → l ≤ 100 → alK s ks B_z → Tm pmt (an_sh wM) o_X10_all 55 ([(2, 0), (0, 1), (0, l), w3_z], [], B_z) (rik_post s ks) := by
  intro m_z
  induction m_z with
  | zero => intro l w3_z B_z h_z; omega
  | succ m_z ih_z =>
    intro l w3_z B_z hm_z l0 l1 hB_z
    have hg := hB_z.1.g
    have h26 := hB_z.2
    have p7_z := fM_0_7 hg (r := 0) (by omega) km0
    have p8 := fM_0_8 hg (r := 0) (by omega) km0
    have c31_z := pM_31 hg
    have c1_z := pM_1 hg
    have ml_z : l < 100 → 0 ≤ B_z 1 (50 + l) ∧ B_z 1 (50 + l) ≤ 200 := fun h_z => eM_1 hg (r := 1) (by omega) kn1 (by omega) (by omega)
    have h78 : ∀ C_z, l < 100 → alK s ks C_z → Tm pmt (an_sh wM) o_X10_all 78 ([(2, 0), (0, 1), (0, l), w3_z], [], C_z) (rik_post s ks) := fun C_z hl hC => by
      have hgC := hC.1.g
      have c32_z := pM_32 hgC
      refine wq_ok srt_Mall (fr := []) (cuts := [91]) (J := fun pc st_z => (pc = 91 ∧ ∃ D_z x_z, alK s ks D_z ∧ (-9223372036854775808 ≤ x_z ∧ x_z ≤ 9223372036854775807) ∧ st_z = ([(2, 0), (0, 1), (0, l), w3_z], [(1, x_z), (0, l), (2, C_z 0 32)], D_z))) ?_ 12 78 _ ?_
      · rintro pc st_z (⟨rfl, D_z, x_z, hD, hx, rfl⟩)
        refine wq_ok srt_Mall (fr := []) (cuts := [94]) (J := fun pc st_z => (pc = 94 ∧ st_z = ([(2, 0), (0, 1), (0, l), (0, 0)], [], pm_upd D_z (C_z 0 32) l x_z))) ?_ 8 91 _ ?_
        · rintro pc st_z (⟨rfl, rfl⟩)
          rw [c32_z]
          exact al_94k l0 (by omega) (fun E_z w3_z hE => ih_z (l + 1) w3_z E_z (by omega) (by omega) (by omega) hE) _ 0 _ (Nat.lt_succ_self _) (by omega) (by omega) ⟨hD.1.upd (uM_20 hD.1.g kn20 hx.1 hx.2) (by omega) (by omega), by rw [upd_o (by omega)]; exact hD.2⟩
        · refine ⟨tM_20 (r := C_z 0 32) (by rw [c32_z]; omega) (by rw [c32_z]; exact kn20) (by omega) (by omega) rfl, ?_⟩
          exact ⟨rfl, rfl⟩
      · refine ⟨oM_0 (by omega) km0 32 rfl, ?_⟩
        refine ⟨⟨by omega, by omega⟩, ?_⟩
        refine ⟨rM_0 (by omega) km0, ?_⟩
        refine Cl.gct q_X10_sumOf_0 (A := C_z) (a := [(2, 0), (0, 50 + l)]) ⟨gv_ref (by omega) km0, ⟨rfl, by simp only; omega, by simp only; omega⟩, trivial⟩ hgC ?_
        rintro ⟨r1_z, D_z⟩ f1_z f2_z f3_z
        simp only at f1_z f2_z f3_z
        match r1_z, f1_z with
        | some (1, x_z), fx => exact ⟨rfl, D_z, x_z, ⟨hC.1.typed f2_z f3_z (by decide), by rw [f3_z 0 26 (by omega) (by omega) (by rw [mc_0]; decide)]; exact hC.2⟩, ⟨fx.1.2.1, fx.1.2.2⟩, rfl⟩
        | some (0, x_z), ⟨⟨q_z, _⟩, _⟩ => exact absurd q_z (by intro q_z; cases q_z)
        | some (n_z + 2, x_z), ⟨⟨q_z, _⟩, _⟩ => exact absurd q_z (by intro q_z; cases q_z)
        | none, q_z => exact absurd q_z (by intro q_z; cases q_z)
    refine wq_ok srt_Mall (fr := []) (cuts := [78]) (J := fun pc st_z => (pc = 78 ∧ (l < (B_z 0 26)) ∧ st_z = ([(2, 0), (0, 1), (0, l), w3_z], [], pm_upd B_z (B_z 0 31) l (B_z (B_z 0 1) (50 + l))))) ?_ 19 55 _ ?_
    · rintro pc st_z (⟨rfl, h0, rfl⟩)
      rw [c31_z, c1_z]
      have b_z := ml_z (by omega)
      exact h78 _ (by omega) ⟨hB_z.1.upd (uM_19 hg kn19 (by omega) (by omega)) (by omega) (by omega), by rw [upd_o (by omega)]; exact hB_z.2⟩
    · refine ⟨oM_0 (by omega) km0 26 rfl, ?_⟩
      refine ⟨fun h0 => ?_, fun h0 => ?_⟩
      · refine ⟨oM_0 (by omega) km0 7 rfl, ?_⟩
        refine ⟨oM_0 (by omega) km0 8 rfl, ?_⟩
        refine ⟨⟨by omega, by omega⟩, ?_⟩
        refine ⟨oM_0 (by omega) km0 36 rfl, ?_⟩
        refine ⟨oM_0 (by omega) km0 24 rfl, ?_⟩
        exact ⟨rfl, ⟨_, rfl⟩, hB_z.1.upd (uM_0_36 hg (by omega) (by omega)) (by omega) (by omega)⟩
      · refine ⟨oM_0 (by omega) km0 31 rfl, ?_⟩
        refine ⟨oM_0 (by omega) km0 1 rfl, ?_⟩
        refine ⟨⟨by omega, by omega⟩, ?_⟩
        refine ⟨aM_1 (r := B_z 0 1) (by rw [c1_z]; omega) (by rw [c1_z]; exact kn1) (by omega) (by omega), ?_⟩
        have e1 : B_z (B_z 0 1) (50 + l) = B_z 1 (50 + l) := by rw [c1_z]
        refine ⟨tM_19 (r := B_z 0 31) (by rw [c31_z]; omega) (by rw [c31_z]; exact kn19) (by omega) (by omega) rfl, ?_⟩
        exact ⟨rfl, h0, rfl⟩
theorem al_33k {s : cx_Sd 12} {ks : List (Fin 12)} {y : Int} {E : pm_A} (hy1 : y = 0 ∨ y = 1) (hE : RIk s ks E) (hlE : y ≠ 0 → E 0 26 ≤ 100) : Tm pmt (an_sh wM) o_X10_all 33 ([(2, 0), (0, y), (9, 0), (9, 0)], [], E) (rik_post s ks) := by
  have hg := hE.g
  have p26 := fM_0_26 hg (r := 0) (by omega) km0
  rcases hy1 with rfl | rfl
  · refine wq_ok srt_Mall (fr := []) (cuts := [55]) (J := fun _ _ => False) ?_ 8 33 _ ?_
    · intro pc st_z h_z; exact h_z.elim
    · refine ⟨fun hh => absurd hh (by decide), fun _ => ?_⟩
      exact ⟨rfl, ⟨_, rfl⟩, hE⟩
  · have hl := hlE (by omega)
    have u29 : pm_upd E 0 29 1 0 26 = E 0 26 := upd_o (by omega)
    have hR1 := hE.upd (uM_0_29 hg (x := 1) (by omega) (by omega)) (by omega) (by omega)
    have hR2 := hR1.upd (uM_0_30 hR1.g (x := E 0 26) (by omega) (by omega)) (by omega) (by omega)
    refine wq_ok srt_Mall (fr := []) (cuts := [55]) (J := fun pc st_z => (pc = 55 ∧ st_z = ([(2, 0), (0, 1), (0, 0), (9, 0)], [], pm_upd (pm_upd E 0 29 1) 0 30 ((pm_upd E 0 29 1) 0 26)))) ?_ 16 33 _ ?_
    · rintro pc st_z (⟨rfl, rfl⟩)
      rw [u29]
      exact al_55k _ 0 _ _ (Nat.lt_succ_self _) (by omega) (by omega) ⟨hR2, by rw [upd_o (by omega), u29]; exact hl⟩
    · refine ⟨fun _ => ?_, fun hh => absurd hh (by decide)⟩
      refine ⟨oM_0 (by omega) km0 29 rfl, ?_⟩
      refine ⟨oM_0 (by omega) km0 26 rfl, ?_⟩
      refine ⟨oM_0 (by omega) km0 30 rfl, ?_⟩
      exact ⟨rfl, rfl⟩
theorem mall_exk {s : cx_Sd 12} {ks : List (Fin 12)} {A : pm_A} (h : RIk s ks A) : Cl pmt (an_sh wM) 123 [(2, 0)] A (rik_post s ks) := by
  have hg := h.g
  have p7_z := fM_0_7 hg (r := 0) (by omega) km0
  refine Cl.of (Nat.le_of_ble_eq_true rfl) ?_
  refine wq_ok (full := o_X10_all) srt_Mall (fr := []) (cuts := [6]) (J := fun pc st_z => (pc = 6 ∧ ∃ C_z, savesJ A C_z 30 72 ∧ st_z = ([(2, 0), (9, 0), (9, 0), (9, 0)], [], C_z))) ?_ 7 0 _ ?_
  · rintro pc st_z (⟨rfl, C_z, hC, rfl⟩)
    have s1_z : ∀ r_z j_z : Int, r_z ≠ 22 → (∀ t_z : Int, 30 ≤ t_z → t_z ≤ 35 → ¬ inS t_z r_z j_z) → C_z r_z j_z = A r_z j_z := fun r_z j_z hr hn => hC.2.1 r_z j_z (fun t_z t0_z t1_z ht => hn (30 + t_z) (by omega) (by omega) ht) hr
    have hCT : ∃ s ks, Tru s ks C_z := by
      exact ⟨s, ks, h.1.same hC.1 (s1_z 0 7 (by omega) (fun t_z t0_z t1_z ht => by unfold inS at ht; omega)) (s1_z 0 8 (by omega) (fun t_z t0_z t1_z ht => by unfold inS at ht; omega)) (fun i_z _ _ => s1_z 5 i_z (by omega) (fun t_z t0_z t1_z ht => by unfold inS at ht; omega)) (fun p_z p0_z p1_z r_z i_z hr => s1_z r_z i_z (by unfold inS at hr; omega) (fun t_z t0_z t1_z ht => by unfold inS at *; omega))⟩
    refine wq_ok srt_Mall (fr := []) (cuts := [10]) (J := fun pc st_z => (pc = 10 ∧ ∃ B_z y_z, gtF C_z B_z ∧ (y_z = 0 ∨ (y_z = 1 ∧ B_z 0 26 ≤ 100)) ∧ st_z = ([(2, 0), (9, 0), (9, 0), (9, 0)], [(0, y_z)], B_z))) ?_ 6 6 _ ?_
    · rintro pc st_z (⟨rfl, B_z, y_z, hB_z, hy, rfl⟩)
      refine wq_ok srt_Mall (fr := []) (cuts := [17]) (J := fun pc st_z => (pc = 17 ∧ ∃ D_z, restoresJ B_z D_z 30 72 ∧ st_z = ([(2, 0), (0, y_z), (9, 0), (9, 0)], [], D_z))) ?_ 8 10 _ ?_
      · rintro pc st_z (⟨rfl, D_z, hD, rfl⟩)
        have hRI : RIk s ks D_z := restoredk h hC hB_z.1 (fun r_z j_z j0 j1 hr => hB_z.2 r_z j_z (by omega) (by omega) j0 j1 (fun t_z t0_z ht => by unfold inS at ht; omega) (by omega) (by omega)) (fun p_z p0_z p1_z r_z j_z hr => hB_z.2 r_z j_z (by unfold inS at hr; omega) (by unfold inS at hr; omega) (by unfold inS at hr; omega) (by unfold inS at hr; omega) (fun t_z t0_z ht => by unfold inS at *; omega) (by unfold inS at hr; omega) (by unfold inS at hr; omega)) hD
        have hgD := hRI.g
        have p24 := fM_0_24 hgD (r := 0) (by omega) km0
        have hl : y_z ≠ 0 → D_z 0 26 ≤ 100 := fun hne => by rw [hD.2.1 0 26 (fun t_z t0_z t1_z ht => by unfold inS at ht; omega) (by omega)]; rcases hy with e_z | e_z; exact absurd e_z hne; exact e_z.2
        have h33 : ∀ E_z, RIk s ks E_z → (y_z ≠ 0 → E_z 0 26 ≤ 100) → Tm pmt (an_sh wM) o_X10_all 33 ([(2, 0), (0, y_z), (9, 0), (9, 0)], [], E_z) (rik_post s ks) := fun E_z hE hlE => by
          have hy1 : y_z = 0 ∨ y_z = 1 := by rcases hy with e_z | e_z; exact Or.inl e_z; exact Or.inr e_z.1
          exact al_33k hy1 hE hlE
        refine wq_ok srt_Mall (fr := []) (cuts := [33]) (J := fun pc st_z => (pc = 33 ∧ (y_z = 0) ∧ st_z = ([(2, 0), (0, y_z), (9, 0), (9, 0)], [], pm_upd D_z 0 25 0)) ∨ (pc = 33 ∧ (¬ y_z = 0) ∧ st_z = ([(2, 0), (0, y_z), (9, 0), (9, 0)], [], pm_upd D_z 0 25 (D_z 0 24)))) ?_ 12 17 _ ?_
        · rintro pc st_z (⟨rfl, h0, rfl⟩ | ⟨rfl, h0, rfl⟩)
          · have hR2 := hRI.upd (uM_0_25 hgD (x := 0) (by omega) (by omega)) (by omega) (by omega)
            exact h33 _ hR2 (fun hy1 => by rw [upd_o (by omega)]; exact hl hy1)
          · have hR2 := hRI.upd (uM_0_25 hgD (x := D_z 0 24) (by omega) (by omega)) (by omega) (by omega)
            exact h33 _ hR2 (fun hy1 => by rw [upd_o (by omega)]; exact hl hy1)
        · refine ⟨fun h0 => ?_, fun h0 => ?_⟩
          · refine ⟨oM_0 (by omega) km0 25 rfl, ?_⟩
            exact Or.inl (⟨rfl, h0, rfl⟩)
          · refine ⟨oM_0 (by omega) km0 24 rfl, ?_⟩
            refine ⟨oM_0 (by omega) km0 25 rfl, ?_⟩
            exact Or.inr (⟨rfl, h0, rfl⟩)
      · refine ⟨rM_0 (by omega) km0, ?_⟩
        refine (restores_ex (p := 30) hB_z.1 (by omega) (by omega)).imp ?_
        rintro ⟨r1_z, D_z⟩ ⟨q1_z, q2_z⟩
        simp only at q1_z q2_z
        subst q1_z
        exact ⟨rfl, D_z, q2_z, rfl⟩
    · refine ⟨rM_0 (by omega) km0, ?_⟩
      refine (goesThrough_ex hCT).imp ?_
      rintro ⟨r1_z, B_z⟩ ⟨q1_z, q2_z⟩
      simp only at q1_z q2_z
      rcases q2_z with q2_z | ⟨q2_z, q3_z⟩
      · subst q2_z
        exact ⟨rfl, B_z, 0, q1_z, Or.inl rfl, rfl⟩
      · subst q2_z
        exact ⟨rfl, B_z, 1, q1_z, Or.inr ⟨rfl, q3_z⟩, rfl⟩
  · refine ⟨rM_0 (by omega) km0, ?_⟩
    refine (saves_ex (p := 30) hg (by omega) (by omega)).imp ?_
    rintro ⟨r1_z, C_z⟩ ⟨q1_z, q2_z⟩
    simp only at q1_z q2_z
    subst q1_z
    exact ⟨rfl, C_z, q2_z, rfl⟩
theorem kp_64k {s : cx_Sd 12} {ks : List (Fin 12)} {k : Int} (k0 : 0 ≤ k) (k1 : k ≤ 3) : ∀ (m_z : Nat) (i_z : Int) (B_z : pm_A), (6 - i_z).toNat < m_z → 0 ≤ i_z → i_z ≤ 6 → RIk s ks B_z → Tm pmt (an_sh wM) o_X10_keep 64 ([(2, 0), (0, k), (0, i_z)], [], B_z) (rik_post s ks) := by
  intro m_z
  induction m_z with
  | zero => intro i_z B_z h_z; omega
  | succ m_z ih_z =>
    intro i_z B_z hm_z i0_z i1_z hB_z
    have p7_z := fM_0_7 hB_z.g (r := 0) (by omega) km0
    refine wq_ok srt_Mkeep (fr := []) (cuts := [86]) (J := fun pc st_z => (pc = 86 ∧ i_z < B_z 0 7 ∧ ∃ C_z, RIk s ks C_z ∧ st_z = ([(2, 0), (0, k), (0, i_z)], [], C_z))) ?_ 18 64 _ ?_
    · rintro pc st_z (⟨rfl, h0, C_z, hC, rfl⟩)
      refine wq_ok srt_Mkeep (fr := []) (cuts := [64]) (J := fun pc st_z => (pc = 64 ∧ st_z = ([(2, 0), (0, k), (0, i_z + 1)], [], C_z))) ?_ 7 86 _ ?_
      · rintro pc st_z (⟨rfl, rfl⟩)
        exact ih_z (i_z + 1) C_z (by omega) (by omega) (by omega) hC
      · refine ⟨⟨by omega, by omega⟩, ?_⟩
        exact ⟨rfl, rfl⟩
    · refine ⟨oM_0 (by omega) km0 7 rfl, ?_⟩
      refine ⟨fun h0 => ?_, fun h0 => ?_⟩
      · exact ⟨rfl, ⟨_, rfl⟩, hB_z⟩
      · refine ⟨⟨by omega, by omega⟩, ?_⟩
        refine ⟨⟨by omega, by omega⟩, ?_⟩
        refine ⟨⟨by omega, by omega⟩, ?_⟩
        refine ⟨rM_0 (by omega) km0, ?_⟩
        refine (copy_ex (to := (6 + (6 * k)) + i_z) (fr := i_z) hB_z.g (by omega) (by omega) (by omega) (by omega) (by omega)).imp ?_
        rintro ⟨r1_z, C_z⟩ ⟨q1_z, q2_z, q3_z, q4_z⟩
        simp only at q1_z q2_z q3_z q4_z
        subst q1_z
        exact ⟨rfl, h0, C_z, hB_z.copy q2_z (by omega) q3_z, rfl⟩
theorem kp_33k {s : cx_Sd 12} {ks : List (Fin 12)} {k : Int} (k0 : 0 ≤ k) (k1 : k ≤ 3) : ∀ (m_z : Nat) (i_z : Int) (B_z : pm_A), (72 - i_z).toNat < m_z → 0 ≤ i_z → i_z ≤ 72 → RIk s ks B_z → Tm pmt (an_sh wM) o_X10_keep 33 ([(2, 0), (0, k), (0, i_z)], [], B_z) (rik_post s ks) := by
  intro m_z
  induction m_z with
  | zero => intro i_z B_z h_z; omega
  | succ m_z ih_z =>
    intro i_z B_z hm_z i0_z i1_z hB_z
    have c22 := pM_22 hB_z.g
    have c9_z := pM_9 hB_z.g
    have b5 : i_z < 72 → -2147483648 ≤ B_z 5 i_z ∧ B_z 5 i_z ≤ 2147483647 := fun h_z => eM_5 hB_z.g (r := 5) (by omega) kn5 i0_z h_z
    refine wq_ok srt_Mkeep (fr := []) (cuts := [33, 64]) (J := fun pc st_z => (pc = 64 ∧ (72 ≤ i_z) ∧ st_z = ([(2, 0), (0, k), (0, 0)], [], B_z)) ∨ (pc = 33 ∧ (i_z < 72) ∧ st_z = ([(2, 0), (0, k), (0, i_z + 1)], [], pm_upd B_z (B_z 0 22) ((72 * k) + i_z) (B_z (B_z 0 9) i_z)))) ?_ 22 33 _ ?_
    · rintro pc st_z (⟨rfl, h0, rfl⟩ | ⟨rfl, h0, rfl⟩)
      · exact kp_64k k0 k1 _ 0 B_z (Nat.lt_succ_self _) (by omega) (by omega) hB_z
      · rw [c22, c9_z]
        have b_z := b5 h0
        exact ih_z (i_z + 1) _ (by omega) (by omega) (by omega) (hB_z.upd (uM_15 hB_z.g kn15 b_z.1 b_z.2) (by omega) (by omega))
    · refine ⟨fun h0 => ?_, fun h0 => ?_⟩
      · exact Or.inl (⟨rfl, h0, rfl⟩)
      · refine ⟨oM_0 (by omega) km0 22 rfl, ?_⟩
        refine ⟨⟨by omega, by omega⟩, ?_⟩
        refine ⟨⟨by omega, by omega⟩, ?_⟩
        refine ⟨oM_0 (by omega) km0 9 rfl, ?_⟩
        refine ⟨aM_5 (r := B_z 0 9) (by rw [c9_z]; omega) (by rw [c9_z]; exact kn5) (by omega) (by omega), ?_⟩
        have e1 : B_z (B_z 0 9) i_z = B_z 5 i_z := by rw [c9_z]
        refine ⟨tM_15 (r := B_z 0 22) (by rw [c22]; omega) (by rw [c22]; exact kn15) (by omega) (by omega) rfl, ?_⟩
        refine ⟨⟨by omega, by omega⟩, ?_⟩
        exact Or.inr (⟨rfl, h0, rfl⟩)
theorem mkeep_exk {s : cx_Sd 12} {ks : List (Fin 12)} {A : pm_A} (h : RIk s ks A) (k : Int) : Cl pmt (an_sh wM) 160 [(2, 0), (0, k)] A (rik_post s ks) := by
  have hg := h.g
  have p7_z := fM_0_7 hg (r := 0) (by omega) km0
  have p8 := fM_0_8 hg (r := 0) (by omega) km0
  have c20_z := pM_20 hg
  have c21 : pm_upd A (A 0 20) k (A 0 7) 0 21 = 14 := by rw [c20_z, upd_o (by omega)]; exact pM_21 hg
  have hk1 : 0 ≤ k → k ≤ 3 → RIk s ks (pm_upd A 13 k (A 0 7)) := fun _ _ => h.upd (uM_13 hg kn13 (by omega) (by omega)) (by omega) (by omega)
  have e8 : pm_upd A (A 0 20) k (A 0 7) 0 8 = A 0 8 := by rw [c20_z, upd_o (by omega)]
  refine Cl.of (Nat.le_of_ble_eq_true rfl) ?_
  refine wq_ok (full := o_X10_keep) srt_Mkeep (fr := []) (cuts := [33]) (J := fun pc st_z => (pc = 33 ∧ (0 ≤ k) ∧ (k ≤ 3) ∧ st_z = ([(2, 0), (0, k), (0, 0)], [], pm_upd (pm_upd A (A 0 20) k (A 0 7)) ((pm_upd A (A 0 20) k (A 0 7)) 0 21) k ((pm_upd A (A 0 20) k (A 0 7)) 0 8)))) ?_ 24 0 _ ?_
  · rintro pc st_z (⟨rfl, h0, h1, rfl⟩)
    rw [c21, e8, c20_z]
    have hR := hk1 (by omega) (by omega)
    exact kp_33k (by omega) (by omega) _ 0 _ (Nat.lt_succ_self _) (by omega) (by omega) (hR.upd (uM_14 hR.g kn14 (by omega) (by omega)) (by omega) (by omega))
  · refine ⟨fun h0 => ?_, fun h0 => ?_⟩
    · exact ⟨rfl, ⟨_, rfl⟩, h⟩
    · refine ⟨fun h1 => ?_, fun h1 => ?_⟩
      · refine ⟨oM_0 (by omega) km0 20 rfl, ?_⟩
        refine ⟨oM_0 (by omega) km0 7 rfl, ?_⟩
        refine ⟨tM_13 (r := A 0 20) (by rw [c20_z]; omega) (by rw [c20_z]; exact kn13) (by omega) (by omega) rfl, ?_⟩
        refine ⟨oM_0 (by omega) km0 21 rfl, ?_⟩
        refine ⟨oM_0 (by omega) km0 8 rfl, ?_⟩
        refine ⟨tM_14 (r := (pm_upd A (A 0 20) k (A 0 7)) 0 21) (by rw [c21]; omega) (by rw [c21]; exact kn14) (by omega) (by omega) rfl, ?_⟩
        exact ⟨rfl, h0, h1, rfl⟩
      · exact ⟨rfl, ⟨_, rfl⟩, h⟩
theorem mfinite_exk {s : cx_Sd 12} {ks : List (Fin 12)} {A : pm_A} (h : RIk s ks A) : Cl pmt (an_sh wM) 141 [(2, 0)] A (rik_post s ks) := by
  have hg := h.g
  refine Cl.of (Nat.le_of_ble_eq_true rfl) ?_
  refine wq_ok (full := o_X10_finite) srt_Mfinite (fr := []) (cuts := [6]) (J := fun pc st_z => (pc = 6 ∧ ∃ C_z, savesJ A C_z 30 72 ∧ st_z = ([(2, 0), (9, 0)], [], C_z))) ?_ 7 0 _ ?_
  · rintro pc st_z (⟨rfl, C_z, hC, rfl⟩)
    refine wq_ok srt_Mfinite (fr := []) (cuts := [10]) (J := fun pc st_z => (pc = 10 ∧ ∃ B_z x_z, fF C_z B_z ∧ st_z = ([(2, 0), (9, 0)], [(0, x_z)], B_z))) ?_ 6 6 _ ?_
    · rintro pc st_z (⟨rfl, B_z, x_z, hB_z, rfl⟩)
      refine wq_ok srt_Mfinite (fr := []) (cuts := [17]) (J := fun pc st_z => (pc = 17 ∧ ∃ D_z, restoresJ B_z D_z 30 72 ∧ st_z = ([(2, 0), (0, x_z)], [], D_z))) ?_ 8 10 _ ?_
      · rintro pc st_z (⟨rfl, D_z, hD, rfl⟩)
        have hout : ∀ r_z j_z : Int, 0 ≤ r_z → r_z ≤ 38 → 0 ≤ j_z → (r_z = 0 → j_z < 100) → (r_z = 0 ∧ j_z ≠ 40 ∧ j_z ≠ 41 ∧ j_z ≠ 42) ∨ (r_z ≠ 0 ∧ r_z ≠ 5 ∧ r_z ≠ 12 ∧ r_z ≠ 24 ∧ r_z ≠ 25 ∧ r_z ≠ 26 ∧ r_z ≠ 27 ∧ r_z ≠ 28 ∧ r_z ≠ 29) → B_z r_z j_z = C_z r_z j_z := fun r_z j_z r0 r1_z j0 j1 hr => hB_z.2 r_z j_z r0 j0 (fr_out r0 r1_z j0 j1 (fun e_z => by unfold fms; simp only [List.mem_cons, List.not_mem_nil, or_false]; omega) (fun e_z => by unfold fms; simp only [List.mem_cons, List.not_mem_nil, or_false]; omega))
        have hRI : RIk s ks D_z := restoredk h hC hB_z.1 (fun r_z j_z j0 j1 hr => hout r_z j_z (by omega) (by omega) j0 j1 (by omega)) (fun p_z p0_z p1_z r_z j_z hr => hout r_z j_z (by unfold inS at hr; omega) (by unfold inS at hr; omega) (by unfold inS at hr; omega) (by unfold inS at hr; omega) (by unfold inS at hr; omega)) hD
        refine wq_ok srt_Mfinite (fr := []) (cuts := []) (J := fun _ _ => False) ?_ 6 17 _ ?_
        · intro pc st_z h; exact h.elim
        · exact ⟨rfl, ⟨_, rfl⟩, hRI⟩
      · refine ⟨rM_0 (by omega) km0, ?_⟩
        refine (restores_ex (p := 30) hB_z.1 (by omega) (by omega)).imp ?_
        rintro ⟨r1_z, D_z⟩ ⟨q1_z, q2_z⟩
        simp only at q1_z q2_z
        subst q1_z
        exact ⟨rfl, D_z, q2_z, rfl⟩
    · refine ⟨rM_0 (by omega) km0, ?_⟩
      refine (searches_ex hC.1).imp ?_
      rintro ⟨r1_z, B_z⟩ ⟨⟨x_z, q1_z⟩, q2_z⟩
      simp only at q1_z q2_z
      subst q1_z
      exact ⟨rfl, B_z, x_z, q2_z, rfl⟩
  · refine ⟨rM_0 (by omega) km0, ?_⟩
    refine (saves_ex (p := 30) hg (by omega) (by omega)).imp ?_
    rintro ⟨r1_z, C_z⟩ ⟨q1_z, q2_z⟩
    simp only at q1_z q2_z
    subst q1_z
    exact ⟨rfl, C_z, q2_z, rfl⟩
theorem msame_exk {s : cx_Sd 12} {ks : List (Fin 12)} {A : pm_A} (h : RIk s ks A) (k : Int) : Cl pmt (an_sh wM) 180 [(2, 0), (0, k)] A (rik_post s ks) := by
  refine (msame_ex h.g k).imp ?_
  rintro r_z ⟨x_z, e_z, _, hI⟩
  exact ⟨⟨x_z, e_z⟩, h.typed hI.1 hI.2 (by decide)⟩
