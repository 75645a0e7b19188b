section
/-! the reference's turnsArrows and turns: spent, exactly -/
def arO (A : pm_A) (k : Int) : Prop := ∀ i_z j_z : Int, 0 ≤ i_z → i_z < A 0 7 + A 0 8 → 0 ≤ j_z → j_z < A 0 7 → -9999 ≤ tv A k i_z j_z ∧ tv A k i_z j_z ≤ 9999
def mtq_post (A : pm_A) (k : Int) (r : pm_R) : Prop := taF A r.2 ∧ ∃ g_z, r.1 = some (0, g_z) ∧ ((g_z = 0 ∧ ¬ arO A k) ∨ (g_z = 1 ∧ arO A k)) ∧ ∀ i_z j_z : Int, 0 ≤ i_z → i_z < A 0 7 + A 0 8 → 0 ≤ j_z → j_z < A 0 7 → r.2 12 (6 * i_z + j_z) = tv A k i_z j_z
def tqI (A B : pm_A) (k g i : Int) : Prop := taF A B ∧ ((g = 0 ∧ ¬ arO A k) ∨ (g = 1 ∧ ∀ i' j_z : Int, 0 ≤ i' → i' < i → 0 ≤ j_z → j_z < A 0 7 → -9999 ≤ tv A k i' j_z ∧ tv A k i' j_z ≤ 9999)) ∧ ∀ i' j_z : Int, 0 ≤ i' → i' < i → 0 ≤ j_z → j_z < A 0 7 → B 12 (6 * i' + j_z) = tv A k i' j_z
def tqJ (A B : pm_A) (k g i u : Int) : Prop := taF A B ∧ ((g = 0 ∧ ¬ arO A k) ∨ (g = 1 ∧ (∀ i' j_z : Int, 0 ≤ i' → i' < i → 0 ≤ j_z → j_z < A 0 7 → -9999 ≤ tv A k i' j_z ∧ tv A k i' j_z ≤ 9999) ∧ ∀ j_z : Int, 0 ≤ j_z → j_z < u → -9999 ≤ tv A k i j_z ∧ tv A k i j_z ≤ 9999)) ∧ (∀ i' j_z : Int, 0 ≤ i' → i' < i → 0 ≤ j_z → j_z < A 0 7 → B 12 (6 * i' + j_z) = tv A k i' j_z) ∧ ∀ j_z : Int, 0 ≤ j_z → j_z < u → B 12 (6 * i + j_z) = tv A k i j_z
theorem tqa_122 {A B : pm_A} {k g i j v : Int} {w6 w7 : pm_V} (i0 : 0 ≤ i) (i1 : i < A 0 7 + A 0 8) (hw : A 0 7 + A 0 8 ≤ 12 ∧ A 0 7 ≤ 6) (j0 : 0 ≤ j) (j1 : j < A 0 7) (hv : v = tv A k i j) (hr : r32 v) (hJ : tqJ A B k g i j) {z : pm_R → Prop} (H : ∀ g' w5 C_z, tqJ A C_z k g' i (j + 1) → Tm pmt (an_sh wM) o_X10_turnsArrows 20 ([(2, 0), (0, k), (0, g'), (0, i), (0, j + 1), w5, w6, w7], [], C_z) z) : Tm pmt (an_sh wM) o_X10_turnsArrows 122 ([(2, 0), (0, k), (0, g), (0, i), (0, j), (0, v), w6, w7], [], B) z := by
  obtain ⟨hF, hg, h3, h4⟩ := hJ
  have c19_z := pM_19 hF.1
  have hz : g = 0 → ¬ arO A k := fun e_z => by
    rcases hg with h_z | h_z
    · exact h_z.2
    · have := h_z.1; omega
  have hbd : v < -9999 ∨ 9999 < v → ¬ arO A k := fun e_z h_z => by
    have := h_z i j i0 i1 j0 j1
    rw [← hv] at this
    omega
  have hstep_z : ∀ g', ((g' = 0 ∧ ¬ arO A k) ∨ (g' = 1 ∧ g ≠ 0 ∧ -9999 ≤ v ∧ v ≤ 9999)) → tqJ A (pm_upd B 12 (6 * i + j) v) k g' i (j + 1) := fun g' hg' => by
    refine ⟨⟨uM_12 hF.1 kn12 hr.1 hr.2, fun r_z q_z hq => by rw [upd_o (by omega)]; exact hF.2 r_z q_z hq⟩, ?_, fun i' j' a0_z a1_z b0 b1 => ?_, fun j' b0 b1 => ?_⟩
    · rcases hg' with e_z | ⟨e_z, e2, e3, e4_z⟩
      · exact Or.inl e_z
      · refine Or.inr ⟨e_z, ?_⟩
        rcases hg with h_z | ⟨h_z, h5, h6⟩
        · exact absurd h_z.1 e2
        · refine ⟨h5, fun j' b0 b1 => ?_⟩
          by_cases hj : j' = j
          · rw [hj, ← hv]; exact ⟨e3, e4_z⟩
          · exact h6 j' b0 (by omega)
    · rw [upd_o (by omega)]; exact h3 i' j' a0_z a1_z b0 b1
    · by_cases hj : j' = j
      · rw [hj, upd_at]; exact hv
      · rw [upd_o (by omega)]; exact h4 j' b0 (by omega)
  refine wq_ok srt_turnsArrows (fr := []) (cuts := [20]) (J := fun pc st_z => (pc = 20 ∧ (g = 0) ∧ st_z = ([(2, 0), (0, k), (0, 0), (0, i), (0, j + 1), (0, v), w6, w7], [], pm_upd B (B 0 19) ((6 * i) + j) v)) ∨ (pc = 20 ∧ (¬ g = 0) ∧ (v < ((-9999))) ∧ st_z = ([(2, 0), (0, k), (0, 0), (0, i), (0, j + 1), (0, v), w6, w7], [], pm_upd B (B 0 19) ((6 * i) + j) v)) ∨ (pc = 20 ∧ (¬ g = 0) ∧ (((-9999)) ≤ v) ∧ (9999 < v) ∧ st_z = ([(2, 0), (0, k), (0, 0), (0, i), (0, j + 1), (0, v), w6, w7], [], pm_upd B (B 0 19) ((6 * i) + j) v)) ∨ (pc = 20 ∧ (¬ g = 0) ∧ (((-9999)) ≤ v) ∧ (v ≤ 9999) ∧ st_z = ([(2, 0), (0, k), (0, 1), (0, i), (0, j + 1), (0, v), w6, w7], [], pm_upd B (B 0 19) ((6 * i) + j) v))) ?_ 27 122 _ ?_
  · rintro pc st_z (⟨rfl, h0, rfl⟩ | ⟨rfl, h0, h1, rfl⟩ | ⟨rfl, h0, h1, h2, rfl⟩ | ⟨rfl, h0, h1, h2, rfl⟩)
    · rw [c19_z]
      exact H _ _ _ (hstep_z _ (Or.inl ⟨rfl, hz h0⟩))
    · rw [c19_z]
      exact H _ _ _ (hstep_z _ (Or.inl ⟨rfl, hbd (by omega)⟩))
    · rw [c19_z]
      exact H _ _ _ (hstep_z _ (Or.inl ⟨rfl, hbd (by omega)⟩))
    · rw [c19_z]
      exact H _ _ _ (hstep_z _ (Or.inr ⟨rfl, h0, by omega, by omega⟩))
  · refine ⟨oM_0 (by omega) km0 19 rfl, ?_⟩
    refine ⟨⟨by omega, by omega⟩, ?_⟩
    refine ⟨⟨by omega, by omega⟩, ?_⟩
    refine ⟨tM_12 (r := B 0 19) (by rw [c19_z]; omega) (by rw [c19_z]; exact kn12) (by omega) (by omega) rfl, ?_⟩
    refine ⟨fun h0 => ?_, fun h0 => ?_⟩
    · refine ⟨⟨by omega, by omega⟩, ?_⟩
      exact Or.inl (⟨rfl, h0, rfl⟩)
    · refine ⟨fun h1 => ?_, fun h1 => ?_⟩
      · refine ⟨⟨by omega, by omega⟩, ?_⟩
        exact Or.inr (Or.inl (⟨rfl, h0, h1, rfl⟩))
      · refine ⟨fun h2 => ?_, fun h2 => ?_⟩
        · refine ⟨⟨by omega, by omega⟩, ?_⟩
          exact Or.inr (Or.inr (Or.inl (⟨rfl, h0, h1, h2, rfl⟩)))
        · refine ⟨⟨by omega, by omega⟩, ?_⟩
          exact Or.inr (Or.inr (Or.inr (⟨rfl, h0, h1, h2, rfl⟩)))
theorem tqa_20 {A : pm_A} {k i : Int} (hA : gH wM A) (hB : arB A) (k0 : 0 ≤ k) (k1 : k < A 0 7) (i0 : 0 ≤ i) (i1 : i < A 0 7 + A 0 8) {z : pm_R → Prop} (H : ∀ g_z w4_z w5 w6_z w7_z C_z, tqI A C_z k g_z (i + 1) → Tm pmt (an_sh wM) o_X10_turnsArrows 4 ([(2, 0), (0, k), (0, g_z), (0, i + 1), w4_z, w5, w6_z, w7_z], [], C_z) z) : ∀ (m_z : Nat) (g_z j_z : Int) (w5 w6_z w7_z : pm_V) (B_z : pm_A), (6 - j_z).toNat < m_z → 0 ≤ j_z → j_z ≤ A 0 7 → tqJ A B_z k g_z i j_z → Tm pmt (an_sh wM) o_X10_turnsArrows 20 ([(2, 0), (0, k), (0, g_z), (0, i), (0, j_z), w5, w6_z, w7_z], [], B_z) z := by
  have p7_z := fM_0_7 hA (r := 0) (by omega) km0
  have p8 := fM_0_8 hA (r := 0) (by omega) km0
  intro m_z
  induction m_z with
  | zero => intro g_z j_z w5 w6_z w7_z B_z h_z; omega
  | succ m_z ih_z =>
    intro g_z j_z w5 w6_z w7_z B_z hm_z j0 j1 hJ
    have hJ0 := hJ
    obtain ⟨hF, hg, h3, h4⟩ := hJ
    have c9_z := pM_9 hF.1
    have e7_z : B_z 0 7 = A 0 7 := hF.2 0 7 (by omega)
    have e5 : ∀ q_z : Int, B_z 5 q_z = A 5 q_z := fun q_z => hF.2 5 q_z (by omega)
    have a1_z : j_z < A 0 7 → -9999 ≤ A 5 (6 * i + j_z) ∧ A 5 (6 * i + j_z) ≤ 9999 := fun h_z => hB i j_z i0 i1 j0 h_z
    have a2 := hB i k i0 i1 k0 k1
    have a3 : j_z < A 0 7 → -9999 ≤ A 5 (6 * k + j_z) ∧ A 5 (6 * k + j_z) ≤ 9999 := fun h_z => hB k j_z k0 (by omega) j0 h_z
    have f1_z := e5 (6 * i + j_z)
    have f2_z := e5 (6 * i + k)
    have f3_z := e5 (6 * k + j_z)
    have hfin : ∀ v_z w6_z w7_z, j_z < A 0 7 → v_z = tv A k i j_z → r32 v_z → Tm pmt (an_sh wM) o_X10_turnsArrows 122 ([(2, 0), (0, k), (0, g_z), (0, i), (0, j_z), (0, v_z), w6_z, w7_z], [], B_z) z := fun v_z w6_z w7_z hj hv hr => tqa_122 i0 i1 ⟨by omega, by omega⟩ j0 hj hv hr hJ0 (fun g' w5 C_z hC => ih_z g' (j_z + 1) w5 w6_z w7_z C_z (by omega) (by omega) (by omega) hC)
    refine wq_ok srt_turnsArrows (fr := []) (cuts := [4, 116, 122]) (J := fun pc st_z => (pc = 4 ∧ ((B_z 0 7) ≤ j_z) ∧ st_z = ([(2, 0), (0, k), (0, g_z), (0, i + 1), (0, j_z), w5, w6_z, w7_z], [], B_z)) ∨ (pc = 122 ∧ (j_z < (B_z 0 7)) ∧ (i = k) ∧ st_z = ([(2, 0), (0, k), (0, g_z), (0, i), (0, j_z), (0, -(B_z (B_z 0 9) ((6 * i) + j_z))), (0, B_z (B_z 0 9) ((6 * i) + k)), (0, B_z (B_z 0 9) ((6 * k) + j_z))], [], B_z)) ∨ (pc = 122 ∧ (j_z < (B_z 0 7)) ∧ (¬ i = k) ∧ (¬ j_z = k) ∧ ((B_z (B_z 0 9) ((6 * i) + k)) ≤ 0) ∧ (0 ≤ (B_z (B_z 0 9) ((6 * i) + k))) ∧ st_z = ([(2, 0), (0, k), (0, g_z), (0, i), (0, j_z), (0, B_z (B_z 0 9) ((6 * i) + j_z)), (0, B_z (B_z 0 9) ((6 * i) + k)), (0, B_z (B_z 0 9) ((6 * k) + j_z))], [], B_z)) ∨ (pc = 122 ∧ (j_z < (B_z 0 7)) ∧ (¬ i = k) ∧ (¬ j_z = k) ∧ ((B_z (B_z 0 9) ((6 * i) + k)) ≤ 0) ∧ ((B_z (B_z 0 9) ((6 * i) + k)) < 0) ∧ (0 ≤ (B_z (B_z 0 9) ((6 * k) + j_z))) ∧ st_z = ([(2, 0), (0, k), (0, g_z), (0, i), (0, j_z), (0, B_z (B_z 0 9) ((6 * i) + j_z)), (0, B_z (B_z 0 9) ((6 * i) + k)), (0, B_z (B_z 0 9) ((6 * k) + j_z))], [], B_z)) ∨ (pc = 116 ∧ (j_z < (B_z 0 7)) ∧ (¬ i = k) ∧ (¬ j_z = k) ∧ ((B_z (B_z 0 9) ((6 * i) + k)) ≤ 0) ∧ ((B_z (B_z 0 9) ((6 * i) + k)) < 0) ∧ ((B_z (B_z 0 9) ((6 * k) + j_z)) < 0) ∧ st_z = ([(2, 0), (0, k), (0, g_z), (0, i), (0, j_z), (0, B_z (B_z 0 9) ((6 * i) + j_z)), (0, B_z (B_z 0 9) ((6 * i) + k)), (0, B_z (B_z 0 9) ((6 * k) + j_z))], [(0, if B_z (B_z 0 9) ((6 * i) + k) < 0 then -B_z (B_z 0 9) ((6 * i) + k) else B_z (B_z 0 9) ((6 * i) + k)), (0, B_z (B_z 0 9) ((6 * i) + j_z))], B_z)) ∨ (pc = 116 ∧ (j_z < (B_z 0 7)) ∧ (¬ i = k) ∧ (¬ j_z = k) ∧ (0 < (B_z (B_z 0 9) ((6 * i) + k))) ∧ (0 < (B_z (B_z 0 9) ((6 * k) + j_z))) ∧ st_z = ([(2, 0), (0, k), (0, g_z), (0, i), (0, j_z), (0, B_z (B_z 0 9) ((6 * i) + j_z)), (0, B_z (B_z 0 9) ((6 * i) + k)), (0, B_z (B_z 0 9) ((6 * k) + j_z))], [(0, if B_z (B_z 0 9) ((6 * i) + k) < 0 then -B_z (B_z 0 9) ((6 * i) + k) else B_z (B_z 0 9) ((6 * i) + k)), (0, B_z (B_z 0 9) ((6 * i) + j_z))], B_z)) ∨ (pc = 122 ∧ (j_z < (B_z 0 7)) ∧ (¬ i = k) ∧ (¬ j_z = k) ∧ (0 < (B_z (B_z 0 9) ((6 * i) + k))) ∧ ((B_z (B_z 0 9) ((6 * k) + j_z)) ≤ 0) ∧ (0 ≤ (B_z (B_z 0 9) ((6 * i) + k))) ∧ st_z = ([(2, 0), (0, k), (0, g_z), (0, i), (0, j_z), (0, B_z (B_z 0 9) ((6 * i) + j_z)), (0, B_z (B_z 0 9) ((6 * i) + k)), (0, B_z (B_z 0 9) ((6 * k) + j_z))], [], B_z)) ∨ (pc = 122 ∧ (j_z < (B_z 0 7)) ∧ (¬ i = k) ∧ (¬ j_z = k) ∧ (0 < (B_z (B_z 0 9) ((6 * i) + k))) ∧ ((B_z (B_z 0 9) ((6 * k) + j_z)) ≤ 0) ∧ ((B_z (B_z 0 9) ((6 * i) + k)) < 0) ∧ (0 ≤ (B_z (B_z 0 9) ((6 * k) + j_z))) ∧ st_z = ([(2, 0), (0, k), (0, g_z), (0, i), (0, j_z), (0, B_z (B_z 0 9) ((6 * i) + j_z)), (0, B_z (B_z 0 9) ((6 * i) + k)), (0, B_z (B_z 0 9) ((6 * k) + j_z))], [], B_z)) ∨ (pc = 116 ∧ (j_z < (B_z 0 7)) ∧ (¬ i = k) ∧ (¬ j_z = k) ∧ (0 < (B_z (B_z 0 9) ((6 * i) + k))) ∧ ((B_z (B_z 0 9) ((6 * k) + j_z)) ≤ 0) ∧ ((B_z (B_z 0 9) ((6 * i) + k)) < 0) ∧ ((B_z (B_z 0 9) ((6 * k) + j_z)) < 0) ∧ st_z = ([(2, 0), (0, k), (0, g_z), (0, i), (0, j_z), (0, B_z (B_z 0 9) ((6 * i) + j_z)), (0, B_z (B_z 0 9) ((6 * i) + k)), (0, B_z (B_z 0 9) ((6 * k) + j_z))], [(0, if B_z (B_z 0 9) ((6 * i) + k) < 0 then -B_z (B_z 0 9) ((6 * i) + k) else B_z (B_z 0 9) ((6 * i) + k)), (0, B_z (B_z 0 9) ((6 * i) + j_z))], B_z)) ∨ (pc = 122 ∧ (j_z < (B_z 0 7)) ∧ (¬ i = k) ∧ (j_z = k) ∧ st_z = ([(2, 0), (0, k), (0, g_z), (0, i), (0, j_z), (0, -(B_z (B_z 0 9) ((6 * i) + j_z))), (0, B_z (B_z 0 9) ((6 * i) + k)), (0, B_z (B_z 0 9) ((6 * k) + j_z))], [], B_z))) ?_ 52 20 _ ?_
    · rintro pc st_z (⟨rfl, h0, rfl⟩ | ⟨rfl, h0, h1, rfl⟩ | ⟨rfl, h0, h1, h2, h3, h4, rfl⟩ | ⟨rfl, h0, h1, h2, h3, h4, h5, rfl⟩ | ⟨rfl, h0, h1, h2, h3, h4, h5, rfl⟩ | ⟨rfl, h0, h1, h2, h3, h4, rfl⟩ | ⟨rfl, h0, h1, h2, h3, h4, h5, rfl⟩ | ⟨rfl, h0, h1, h2, h3, h4, h5, h6, rfl⟩ | ⟨rfl, h0, h1, h2, h3, h4, h5, h6, rfl⟩ | ⟨rfl, h0, h1, h2, rfl⟩)
      · rw [e7_z] at h0
        obtain ⟨t1_z, t2_z, t3_z, t4_z⟩ := hJ0
        have hj : j_z = A 0 7 := by omega
        refine H g_z _ _ _ _ B_z ⟨t1_z, ?_, fun i' j' x0_z x1_z y0 y1 => ?_⟩
        · rcases t2_z with h_z | ⟨h_z, h5, h6⟩
          · exact Or.inl h_z
          · refine Or.inr ⟨h_z, fun i' j' x0_z x1_z y0 y1 => ?_⟩
            by_cases hi_z : i' = i
            · rw [hi_z]; exact h6 j' y0 (by omega)
            · exact h5 i' j' x0_z (by omega) y0 y1
        · by_cases hi_z : i' = i
          · rw [hi_z]; exact t4_z j' y0 (by omega)
          · exact t3_z i' j' x0_z (by omega) y0 y1
      · rw [e7_z] at h0
        have b1 := a1_z h0
        have b3 := a3 h0
        rw [c9_z, f1_z]
        exact hfin _ _ _ h0 (by unfold tv; rw [if_pos (by omega)]) ⟨by omega, by omega⟩
      · rw [e7_z] at h0
        have b1 := a1_z h0
        have b3 := a3 h0
        rw [c9_z, f1_z]
        rw [c9_z] at h3
        rw [c9_z] at h4
        exact hfin _ _ _ h0 (by unfold tv; rw [if_neg (by omega), if_neg (by omega)]) ⟨by omega, by omega⟩
      · rw [e7_z] at h0
        have b1 := a1_z h0
        have b3 := a3 h0
        rw [c9_z, f1_z]
        rw [c9_z] at h3
        rw [c9_z] at h4
        rw [c9_z] at h5
        exact hfin _ _ _ h0 (by unfold tv; rw [if_neg (by omega), if_neg (by omega)]) ⟨by omega, by omega⟩
      · rw [e7_z] at h0
        have b1 := a1_z h0
        have b3 := a3 h0
        rw [c9_z, f1_z, f2_z, f3_z]
        rw [c9_z] at h3
        rw [c9_z] at h4
        rw [c9_z] at h5
        have hpos : (0 < A 5 (6 * i + k) ∧ 0 < A 5 (6 * k + j_z)) ∨ (A 5 (6 * i + k) < 0 ∧ A 5 (6 * k + j_z) < 0) := by omega
        have hq : A 5 (6 * i + j_z) + (if A 5 (6 * i + k) < 0 then - A 5 (6 * i + k) else A 5 (6 * i + k)) * A 5 (6 * k + j_z) = tv A k i j_z := by unfold tv; rw [if_neg (show ¬ (i = k ∨ j_z = k) by omega), if_pos hpos]
        have hb_z : -9999 ≤ (if A 5 (6 * i + k) < 0 then - A 5 (6 * i + k) else A 5 (6 * i + k)) ∧ (if A 5 (6 * i + k) < 0 then - A 5 (6 * i + k) else A 5 (6 * i + k)) ≤ 9999 := by split <;> omega
        have hm2 := mul_bd hb_z b3
        have hqr : r32 (A 5 (6 * i + j_z) + (if A 5 (6 * i + k) < 0 then - A 5 (6 * i + k) else A 5 (6 * i + k)) * A 5 (6 * k + j_z)) := ⟨by omega, by omega⟩
        have hj := h0
        revert hq hqr hm2 hb_z b1 b3
        generalize (if A 5 (6 * i + k) < 0 then - A 5 (6 * i + k) else A 5 (6 * i + k)) = q_z
        generalize A 5 (6 * i + j_z) = x_z
        generalize A 5 (6 * k + j_z) = w_z
        generalize A 5 (6 * i + k) = y_z
        intro b1 b3 hq hb_z hm2 hqr
        refine wq_ok srt_turnsArrows (fr := []) (cuts := [122]) (J := fun pc st_z => (pc = 122 ∧ st_z = ([(2, 0), (0, k), (0, g_z), (0, i), (0, j_z), (0, x_z + (q_z * w_z)), (0, y_z), (0, w_z)], [], B_z))) ?_ 9 116 _ ?_
        · rintro pc st_z (⟨rfl, rfl⟩)
          exact hfin _ _ _ hj hq hqr
        · refine ⟨⟨by omega, by omega⟩, ?_⟩
          refine ⟨⟨by omega, by omega⟩, ?_⟩
          exact ⟨rfl, rfl⟩
      · rw [e7_z] at h0
        have b1 := a1_z h0
        have b3 := a3 h0
        rw [c9_z, f1_z, f2_z, f3_z]
        rw [c9_z] at h3
        rw [c9_z] at h4
        have hpos : (0 < A 5 (6 * i + k) ∧ 0 < A 5 (6 * k + j_z)) ∨ (A 5 (6 * i + k) < 0 ∧ A 5 (6 * k + j_z) < 0) := by omega
        have hq : A 5 (6 * i + j_z) + (if A 5 (6 * i + k) < 0 then - A 5 (6 * i + k) else A 5 (6 * i + k)) * A 5 (6 * k + j_z) = tv A k i j_z := by unfold tv; rw [if_neg (show ¬ (i = k ∨ j_z = k) by omega), if_pos hpos]
        have hb_z : -9999 ≤ (if A 5 (6 * i + k) < 0 then - A 5 (6 * i + k) else A 5 (6 * i + k)) ∧ (if A 5 (6 * i + k) < 0 then - A 5 (6 * i + k) else A 5 (6 * i + k)) ≤ 9999 := by split <;> omega
        have hm2 := mul_bd hb_z b3
        have hqr : r32 (A 5 (6 * i + j_z) + (if A 5 (6 * i + k) < 0 then - A 5 (6 * i + k) else A 5 (6 * i + k)) * A 5 (6 * k + j_z)) := ⟨by omega, by omega⟩
        have hj := h0
        revert hq hqr hm2 hb_z b1 b3
        generalize (if A 5 (6 * i + k) < 0 then - A 5 (6 * i + k) else A 5 (6 * i + k)) = q_z
        generalize A 5 (6 * i + j_z) = x_z
        generalize A 5 (6 * k + j_z) = w_z
        generalize A 5 (6 * i + k) = y_z
        intro b1 b3 hq hb_z hm2 hqr
        refine wq_ok srt_turnsArrows (fr := []) (cuts := [122]) (J := fun pc st_z => (pc = 122 ∧ st_z = ([(2, 0), (0, k), (0, g_z), (0, i), (0, j_z), (0, x_z + (q_z * w_z)), (0, y_z), (0, w_z)], [], B_z))) ?_ 9 116 _ ?_
        · rintro pc st_z (⟨rfl, rfl⟩)
          exact hfin _ _ _ hj hq hqr
        · refine ⟨⟨by omega, by omega⟩, ?_⟩
          refine ⟨⟨by omega, by omega⟩, ?_⟩
          exact ⟨rfl, rfl⟩
      · rw [e7_z] at h0
        have b1 := a1_z h0
        have b3 := a3 h0
        rw [c9_z, f1_z]
        rw [c9_z] at h3
        rw [c9_z] at h4
        rw [c9_z] at h5
        exact hfin _ _ _ h0 (by unfold tv; rw [if_neg (by omega), if_neg (by omega)]) ⟨by omega, by omega⟩
      · rw [e7_z] at h0
        have b1 := a1_z h0
        have b3 := a3 h0
        rw [c9_z, f1_z]
        rw [c9_z] at h3
        rw [c9_z] at h4
        rw [c9_z] at h5
        rw [c9_z] at h6
        exact hfin _ _ _ h0 (by unfold tv; rw [if_neg (by omega), if_neg (by omega)]) ⟨by omega, by omega⟩
      · rw [e7_z] at h0
        have b1 := a1_z h0
        have b3 := a3 h0
        rw [c9_z, f1_z, f2_z, f3_z]
        rw [c9_z] at h3
        rw [c9_z] at h4
        rw [c9_z] at h5
        rw [c9_z] at h6
        have hpos : (0 < A 5 (6 * i + k) ∧ 0 < A 5 (6 * k + j_z)) ∨ (A 5 (6 * i + k) < 0 ∧ A 5 (6 * k + j_z) < 0) := by omega
        have hq : A 5 (6 * i + j_z) + (if A 5 (6 * i + k) < 0 then - A 5 (6 * i + k) else A 5 (6 * i + k)) * A 5 (6 * k + j_z) = tv A k i j_z := by unfold tv; rw [if_neg (show ¬ (i = k ∨ j_z = k) by omega), if_pos hpos]
        have hb_z : -9999 ≤ (if A 5 (6 * i + k) < 0 then - A 5 (6 * i + k) else A 5 (6 * i + k)) ∧ (if A 5 (6 * i + k) < 0 then - A 5 (6 * i + k) else A 5 (6 * i + k)) ≤ 9999 := by split <;> omega
        have hm2 := mul_bd hb_z b3
        have hqr : r32 (A 5 (6 * i + j_z) + (if A 5 (6 * i + k) < 0 then - A 5 (6 * i + k) else A 5 (6 * i + k)) * A 5 (6 * k + j_z)) := ⟨by omega, by omega⟩
        have hj := h0
        revert hq hqr hm2 hb_z b1 b3
        generalize (if A 5 (6 * i + k) < 0 then - A 5 (6 * i + k) else A 5 (6 * i + k)) = q_z
        generalize A 5 (6 * i + j_z) = x_z
        generalize A 5 (6 * k + j_z) = w_z
        generalize A 5 (6 * i + k) = y_z
        intro b1 b3 hq hb_z hm2 hqr
        refine wq_ok srt_turnsArrows (fr := []) (cuts := [122]) (J := fun pc st_z => (pc = 122 ∧ st_z = ([(2, 0), (0, k), (0, g_z), (0, i), (0, j_z), (0, x_z + (q_z * w_z)), (0, y_z), (0, w_z)], [], B_z))) ?_ 9 116 _ ?_
        · rintro pc st_z (⟨rfl, rfl⟩)
          exact hfin _ _ _ hj hq hqr
        · refine ⟨⟨by omega, by omega⟩, ?_⟩
          refine ⟨⟨by omega, by omega⟩, ?_⟩
          exact ⟨rfl, rfl⟩
      · rw [e7_z] at h0
        have b1 := a1_z h0
        have b3 := a3 h0
        rw [c9_z, f1_z]
        exact hfin _ _ _ h0 (by unfold tv; rw [if_pos (by omega)]) ⟨by omega, by omega⟩
    · refine ⟨oM_0 (by omega) km0 7 rfl, ?_⟩
      refine ⟨fun h0 => ?_, fun h0 => ?_⟩
      · refine ⟨⟨by omega, by omega⟩, ?_⟩
        exact Or.inl (⟨rfl, h0, rfl⟩)
      · refine ⟨oM_0 (by omega) km0 9 rfl, ?_⟩
        refine ⟨⟨by omega, by omega⟩, ?_⟩
        refine ⟨⟨by omega, by omega⟩, ?_⟩
        refine ⟨aM_5 (r := B_z 0 9) (by rw [c9_z]; omega) (by rw [c9_z]; exact kn5) (by omega) (by omega), ?_⟩
        have e1 : B_z (B_z 0 9) ((6 * i) + j_z) = B_z 5 ((6 * i) + j_z) := by rw [c9_z]
        refine ⟨oM_0 (by omega) km0 9 rfl, ?_⟩
        refine ⟨⟨by omega, by omega⟩, ?_⟩
        refine ⟨⟨by omega, by omega⟩, ?_⟩
        refine ⟨aM_5 (r := B_z 0 9) (by rw [c9_z]; omega) (by rw [c9_z]; exact kn5) (by omega) (by omega), ?_⟩
        have e2 : B_z (B_z 0 9) ((6 * i) + k) = B_z 5 ((6 * i) + k) := by rw [c9_z]
        refine ⟨oM_0 (by omega) km0 9 rfl, ?_⟩
        refine ⟨⟨by omega, by omega⟩, ?_⟩
        refine ⟨⟨by omega, by omega⟩, ?_⟩
        refine ⟨aM_5 (r := B_z 0 9) (by rw [c9_z]; omega) (by rw [c9_z]; exact kn5) (by omega) (by omega), ?_⟩
        have e3 : B_z (B_z 0 9) ((6 * k) + j_z) = B_z 5 ((6 * k) + j_z) := by rw [c9_z]
        refine ⟨fun h1 => ?_, fun h1 => ?_⟩
        · refine ⟨⟨by omega, by omega⟩, ?_⟩
          exact Or.inr (Or.inl (⟨rfl, h0, h1, rfl⟩))
        · refine ⟨fun h2 => ?_, fun h2 => ?_⟩
          · refine ⟨fun h3 => ?_, fun h3 => ?_⟩
            · refine ⟨fun h4 => ?_, fun h4 => ?_⟩
              · exact Or.inr (Or.inr (Or.inl (⟨rfl, h0, h1, h2, h3, h4, rfl⟩)))
              · refine ⟨fun h5 => ?_, fun h5 => ?_⟩
                · exact Or.inr (Or.inr (Or.inr (Or.inl (⟨rfl, h0, h1, h2, h3, h4, h5, rfl⟩))))
                · refine ⟨rfl, ?_⟩
                  refine (without_ex (a := B_z (B_z 0 9) ((6 * i) + k)) (by omega) (by omega)).imp ?_
                  rintro ⟨r1_z, C_z⟩ ⟨q1_z, q2_z⟩
                  simp only at q1_z q2_z
                  subst q1_z q2_z
                  exact Or.inr (Or.inr (Or.inr (Or.inr (Or.inl (⟨rfl, h0, h1, h2, h3, h4, h5, rfl⟩)))))
            · refine ⟨fun h4 => ?_, fun h4 => ?_⟩
              · refine ⟨rfl, ?_⟩
                refine (without_ex (a := B_z (B_z 0 9) ((6 * i) + k)) (by omega) (by omega)).imp ?_
                rintro ⟨r1_z, C_z⟩ ⟨q1_z, q2_z⟩
                simp only at q1_z q2_z
                subst q1_z q2_z
                exact Or.inr (Or.inr (Or.inr (Or.inr (Or.inr (Or.inl (⟨rfl, h0, h1, h2, h3, h4, rfl⟩))))))
              · refine ⟨fun h5 => ?_, fun h5 => ?_⟩
                · exact Or.inr (Or.inr (Or.inr (Or.inr (Or.inr (Or.inr (Or.inl (⟨rfl, h0, h1, h2, h3, h4, h5, rfl⟩)))))))
                · refine ⟨fun h6 => ?_, fun h6 => ?_⟩
                  · exact Or.inr (Or.inr (Or.inr (Or.inr (Or.inr (Or.inr (Or.inr (Or.inl (⟨rfl, h0, h1, h2, h3, h4, h5, h6, rfl⟩))))))))
                  · refine ⟨rfl, ?_⟩
                    refine (without_ex (a := B_z (B_z 0 9) ((6 * i) + k)) (by omega) (by omega)).imp ?_
                    rintro ⟨r1_z, C_z⟩ ⟨q1_z, q2_z⟩
                    simp only at q1_z q2_z
                    subst q1_z q2_z
                    exact Or.inr (Or.inr (Or.inr (Or.inr (Or.inr (Or.inr (Or.inr (Or.inr (Or.inl (⟨rfl, h0, h1, h2, h3, h4, h5, h6, rfl⟩)))))))))
          · refine ⟨⟨by omega, by omega⟩, ?_⟩
            exact Or.inr (Or.inr (Or.inr (Or.inr (Or.inr (Or.inr (Or.inr (Or.inr (Or.inr (⟨rfl, h0, h1, h2, rfl⟩)))))))))
theorem tqa_4 {A : pm_A} {k : Int} (hA : gH wM A) (hB : arB A) (k0 : 0 ≤ k) (k1 : k < A 0 7) : ∀ (m_z : Nat) (g_z i_z : Int) (w4_z w5 w6_z w7_z : pm_V) (B_z : pm_A), (12 - i_z).toNat < m_z → 0 ≤ i_z → i_z ≤ A 0 7 + A 0 8 → tqI A B_z k g_z i_z → Tm pmt (an_sh wM) o_X10_turnsArrows 4 ([(2, 0), (0, k), (0, g_z), (0, i_z), w4_z, w5, w6_z, w7_z], [], B_z) (mtq_post A k) := by
  have p7_z := fM_0_7 hA (r := 0) (by omega) km0
  have p8 := fM_0_8 hA (r := 0) (by omega) km0
  intro m_z
  induction m_z with
  | zero => intro g_z i_z w4_z w5 w6_z w7_z B_z h_z; omega
  | succ m_z ih_z =>
    intro g_z i_z w4_z w5 w6_z w7_z B_z hm_z i0_z i1_z hI
    obtain ⟨hF, hg, h3⟩ := hI
    have e7_z : B_z 0 7 = A 0 7 := hF.2 0 7 (by omega)
    have e8 : B_z 0 8 = A 0 8 := hF.2 0 8 (by omega)
    have hend : A 0 7 + A 0 8 ≤ i_z → mtq_post A k (some (0, g_z), B_z) := fun h_z => ⟨hF, g_z, rfl, by
      rcases hg with h2 | ⟨h2, h5⟩
      · exact Or.inl h2
      · exact Or.inr ⟨h2, fun i' j_z x0_z x1_z y0 y1 => h5 i' j_z x0_z (by omega) y0 y1⟩, fun i' j_z x0_z x1_z y0 y1 => h3 i' j_z x0_z (by omega) y0 y1⟩
    refine wq_ok srt_turnsArrows (fr := []) (cuts := [20]) (J := fun pc st_z => (pc = 20 ∧ (i_z < ((B_z 0 7) + (B_z 0 8))) ∧ st_z = ([(2, 0), (0, k), (0, g_z), (0, i_z), (0, 0), w5, w6_z, w7_z], [], B_z))) ?_ 14 4 _ ?_
    · rintro pc st_z (⟨rfl, h0, rfl⟩)
      rw [e7_z, e8] at h0
      refine tqa_20 hA hB k0 k1 i0_z h0 (fun g_z w4_z w5 w6_z w7_z C_z hC => ih_z g_z (i_z + 1) w4_z w5 w6_z w7_z C_z (by omega) (by omega) (by omega) hC) _ g_z 0 _ _ _ B_z (Nat.lt_succ_self _) (by omega) (by omega) ⟨hF, ?_, h3, fun j_z y0 y1 => by omega⟩
      rcases hg with h2 | ⟨h2, h5⟩
      · exact Or.inl h2
      · exact Or.inr ⟨h2, h5, fun j_z y0 y1 => by omega⟩
    · refine ⟨oM_0 (by omega) km0 7 rfl, ?_⟩
      refine ⟨oM_0 (by omega) km0 8 rfl, ?_⟩
      refine ⟨⟨by omega, by omega⟩, ?_⟩
      refine ⟨fun h0 => ?_, fun h0 => ?_⟩
      · exact ⟨okt2 (by rcases hg with h_z | h_z; exact Or.inl h_z.1; exact Or.inr h_z.1), hend (by rw [e7_z, e8] at h0; exact h0)⟩
      · exact ⟨rfl, h0, rfl⟩
theorem turnsArrows_exq {A : pm_A} {k : Int} (hA : gH wM A) (hB : arB A) (k0 : 0 ≤ k) (k1 : k < A 0 7) : Cl pmt (an_sh wM) 201 [(2, 0), (0, k)] A (mtq_post A k) := by
  have p7_z := fM_0_7 hA (r := 0) (by omega) km0
  have p8 := fM_0_8 hA (r := 0) (by omega) km0
  refine Cl.of (Nat.le_of_ble_eq_true rfl) ?_
  refine wq_ok (full := o_X10_turnsArrows) srt_turnsArrows (fr := []) (cuts := [4]) (J := fun pc st_z => (pc = 4 ∧ st_z = ([(2, 0), (0, k), (0, 1), (0, 0), (9, 0), (9, 0), (9, 0), (9, 0)], [], A))) ?_ 9 0 _ ?_
  · rintro pc st_z (⟨rfl, rfl⟩)
    exact tqa_4 hA hB k0 k1 _ 1 0 _ _ _ _ A (Nat.lt_succ_self _) (by omega) (by omega) ⟨⟨hA, fun _ _ _ => rfl⟩, Or.inr ⟨rfl, fun i' j_z x0_z x1_z y0 y1 => by omega⟩, fun i' j_z x0_z x1_z y0 y1 => by omega⟩
  · exact ⟨rfl, rfl⟩
abbrev sBg (C0 : pm_A) : Prop := BigV (fun x_z => VS C0 44 x_z + VS C0 43 x_z)
def a47q (C0 B : pm_A) (t : Int) : Prop := tmF C0 B 44 ∧ ((B 0 4 = 1 ∧ sBg C0) ∨ (B 0 4 = 0 ∧ srtd B 44 ∧ cfs B 44 ∧ ∀ c_z, cr_co (LSm B 44) c_z = cr_co (LSm C0 44) c_z + cr_co (lsf t.toNat (fa C0 43)) c_z))
theorem sb_of {C0 : pm_A} (h44 : cfs C0 44) (h43 : cfs C0 43) {f : cr_Xp 12 → Int} (h : BigC f) (hf : ∀ c_z, f c_z ≤ cr_co (LSm C0 44) c_z + cr_co (LSm C0 43) c_z) : sBg C0 := by
  refine ⟨LSm C0 44 ++ LSm C0 43, fun y_z hy => ?_, fun x_z => cr_vl_app _ _ _, h.mono (fun a_z => by rw [cr_co_app]; exact hf a_z)⟩
  rcases List.mem_append.1 hy with q_z | q_z
  · exact pos_LSm h44 y_z q_z
  · exact pos_LSm h43 y_z q_z
theorem tuq_81 {C0 : pm_A} {k t : Int} (hc : cfs C0 43) (hc44 : cfs C0 44) (hC0 : gH wM C0) (t0 : 0 ≤ t) (t1 : t < C0 1 43) {z : pm_R → Prop} (H : ∀ C_z w3_z, a47q C0 C_z (t + 1) → Tm pmt (an_sh wM) o_X10_turns 47 ([(2, 0), (0, k), (0, t + 1), w3_z], [], C_z) z) : ∀ (m_z : Nat) (v_z : Int) (B_z : pm_A), (12 - v_z).toNat < m_z → 0 ≤ v_z → v_z ≤ 12 → tmF C0 B_z 44 → B_z 0 4 = 0 → srtd B_z 44 → cfs B_z 44 → (∀ c_z, cr_co (LSm B_z 44) c_z = cr_co (LSm C0 44) c_z + cr_co (lsf t.toNat (fa C0 43)) c_z) → B_z 0 5 = C0 2 (8600 + t) → (∀ i_z : Int, 0 ≤ i_z → i_z < v_z → B_z 4 i_z = C0 3 (12 * (8600 + t) + i_z)) → Tm pmt (an_sh wM) o_X10_turns 81 ([(2, 0), (0, k), (0, t), (0, v_z)], [], B_z) z := by
  have m43 := eM_1 hC0 (r := 1) (by omega) kn1 (j := 43) (by omega) (by omega)
  have ct := hc t t0 t1
  rw [show 200 * 43 + t = 8600 + t by omega] at ct
  intro m_z
  induction m_z with
  | zero => intro v_z B_z h_z; omega
  | succ m_z ih_z =>
    intro v_z B_z hm_z v0_z v1_z hF h4 hs hcf hG h5 hp
    have c3_z := pM_3 hF.1
    have c6_z := pM_6 hF.1
    have e3 : v_z < 12 → B_z 3 (12 * (8600 + t) + v_z) = C0 3 (12 * (8600 + t) + v_z) := fun h_z => hF.2 3 _ (by unfold inS; omega) (by omega) (by omega)
    refine wq_ok srt_turns (fr := []) (cuts := [81, 120]) (J := fun pc st_z => (pc = 120 ∧ 12 ≤ v_z ∧ ∃ C_z, adF B_z C_z 44 ∧ ((C_z 0 4 = 1 ∧ BigC (fun a_z => cr_co (LSm B_z 44) a_z + si (B_z 0 5, xp B_z) a_z)) ∨ (C_z 0 4 = 0 ∧ srtd C_z 44 ∧ cfs C_z 44 ∧ ∀ c_z, cr_co (LSm C_z 44) c_z = cr_co (LSm B_z 44) c_z + si (B_z 0 5, xp B_z) c_z)) ∧ st_z = ([(2, 0), (0, k), (0, t), (0, v_z)], [], C_z)) ∨ (pc = 81 ∧ (v_z < 12) ∧ st_z = ([(2, 0), (0, k), (0, t), (0, v_z + 1)], [], pm_upd B_z (B_z 0 6) v_z (B_z (B_z 0 3) ((12 * (8600 + t)) + v_z))))) ?_ 24 81 _ ?_
    · rintro pc st_z (⟨rfl, hv, C_z, hF2, hC, rfl⟩ | ⟨rfl, h0, rfl⟩)
      · refine wq_ok srt_turns (fr := []) (cuts := [47]) (J := fun pc st_z => (pc = 47 ∧ st_z = ([(2, 0), (0, k), (0, t + 1), (0, v_z)], [], C_z))) ?_ 7 120 _ ?_
        · rintro pc st_z (⟨rfl, rfl⟩)
          refine H C_z _ ⟨⟨hF2.1, fun r_z j_z hr h4 h5 => (hF2.2 r_z j_z hr (fun e_z => h5 ⟨e_z.1, Or.inl e_z.2⟩)).trans (hF.2 r_z j_z hr h4 h5)⟩, ?_⟩
          have e1 : (B_z 0 5, xp B_z) = fa C0 43 t.toNat := by
            refine Prod.ext ?_ (funext fun i_z => ?_)
            · show B_z 0 5 = C0 2 (200 * 43 + ((t.toNat : Nat) : Int))
              rw [Int.toNat_of_nonneg t0, h5, show 200 * 43 + t = 8600 + t by omega]
            · show B_z 4 (i_z.1 : Int) = C0 3 (12 * (200 * 43 + ((t.toNat : Nat) : Int)) + (i_z.1 : Int))
              rw [Int.toNat_of_nonneg t0, show 200 * 43 + t = 8600 + t by omega]; exact hp i_z.1 (by omega) (by have := i_z.2; omega)
          have e2 : ∀ c_z, cr_co (LSm B_z 44) c_z + si (B_z 0 5, xp B_z) c_z = cr_co (LSm C0 44) c_z + cr_co (lsf (t + 1).toNat (fa C0 43)) c_z := fun c_z => by
            rw [hG c_z, show (t + 1).toNat = t.toNat + 1 by omega, lsf_succ, co_snoc, e1]; omega
          rcases hC with ⟨hC0, hCb⟩ | ⟨hC1, hC2, hC3, hC4⟩
          · refine Or.inl ⟨hC0, sb_of hc44 hc hCb (fun c_z => ?_)⟩
            have hl := lsf_le (f := fa C0 43) c_z (t + 1).toNat ((C0 1 43).toNat - (t + 1).toNat) (fun q_z hq => by
              have := hc q_z (by omega) (by omega)
              show 0 < C0 2 (200 * 43 + (q_z : Int))
              omega)
            rw [show (t + 1).toNat + ((C0 1 43).toNat - (t + 1).toNat) = (C0 1 43).toNat by omega, ← LSm_fa] at hl
            rw [e2 c_z]
            omega
          · exact Or.inr ⟨hC1, hC2, hC3, fun c_z => by rw [hC4 c_z, e2 c_z]⟩
        · refine ⟨⟨by omega, by omega⟩, ?_⟩
          exact ⟨rfl, rfl⟩
      · rw [c3_z, c6_z]
        have r1_z := e3 h0
        have b3 := eM_3 hF.1 (r := 3) (by omega) kn3 (j := 12 * (8600 + t) + v_z) (by omega) (by omega)
        refine ih_z (v_z + 1) _ (by omega) (by omega) (by omega) ⟨uM_4 hF.1 kn4 b3.1 b3.2, fun r_z j_z hr h4 h5 => ?_⟩ (by rw [upd_o (by omega)]; exact h4) hs hcf hG (by rw [upd_o (by omega)]; exact h5) (fun i_z i0_z i1_z => ?_)
        · rw [upd_o (by omega)]; exact hF.2 r_z j_z hr h4 h5
        · by_cases hi_z : i_z = v_z
          · rw [hi_z, upd_at, r1_z]
          · rw [upd_o (by omega)]; exact hp i_z i0_z (by omega)
    · refine ⟨fun h0 => ?_, fun h0 => ?_⟩
      · refine ⟨rM_0 (by omega) km0, ?_⟩
        refine (add_exq (s := 44) ⟨hF.1, by omega, hs, hcf, by rw [h5]; exact ct, h4⟩).imp ?_
        rintro ⟨r1_z, C_z⟩ ⟨hr1, hF2, hC⟩
        simp only at hr1 hF2 hC
        subst hr1
        exact Or.inl (⟨rfl, h0, C_z, hF2, hC, rfl⟩)
      · refine ⟨oM_0 (by omega) km0 6 rfl, ?_⟩
        refine ⟨oM_0 (by omega) km0 3 rfl, ?_⟩
        refine ⟨⟨by omega, by omega⟩, ?_⟩
        refine ⟨⟨by omega, by omega⟩, ?_⟩
        refine ⟨⟨by omega, by omega⟩, ?_⟩
        refine ⟨aM_3 (r := B_z 0 3) (by rw [c3_z]; omega) (by rw [c3_z]; exact kn3) (by omega) (by omega), ?_⟩
        have e1 : B_z (B_z 0 3) ((12 * (8600 + t)) + v_z) = B_z 3 ((12 * (8600 + t)) + v_z) := by rw [c3_z]
        refine ⟨tM_4 (r := B_z 0 6) (by rw [c6_z]; omega) (by rw [c6_z]; exact kn4) (by omega) (by omega) rfl, ?_⟩
        refine ⟨⟨by omega, by omega⟩, ?_⟩
        exact Or.inr (⟨rfl, h0, rfl⟩)
theorem tuq_47 {C0 : pm_A} {k : Int} (hc : cfs C0 43) (hc44 : cfs C0 44) (hC0 : gH wM C0) {z : pm_R → Prop} (H : ∀ C_z w2_z w3_z, a47q C0 C_z (C0 1 43) → Tm pmt (an_sh wM) o_X10_turns 126 ([(2, 0), (0, k), w2_z, w3_z], [], C_z) z) : ∀ (m_z : Nat) (t_z : Int) (w3_z : pm_V) (B_z : pm_A), (C0 1 43 - t_z).toNat < m_z → 0 ≤ t_z → t_z ≤ C0 1 43 → a47q C0 B_z t_z → Tm pmt (an_sh wM) o_X10_turns 47 ([(2, 0), (0, k), (0, t_z), w3_z], [], B_z) z := by
  have m43 := eM_1 hC0 (r := 1) (by omega) kn1 (j := 43) (by omega) (by omega)
  intro m_z
  induction m_z with
  | zero => intro t_z w3_z B_z h_z; omega
  | succ m_z ih_z =>
    intro t_z w3_z B_z hm_z t0_z t1_z hI
    obtain ⟨hF, hI2⟩ := hI
    have c1_z := pM_1 hF.1
    have c2_z := pM_2 hF.1
    have s4_z := fM_0_4 hF.1 (r := 0) (by omega) km0
    have mB : B_z 1 43 = C0 1 43 := hF.2 1 43 (by unfold inS; omega) (by omega) (by omega)
    have nB_z : t_z < C0 1 43 → B_z 2 (8600 + t_z) = C0 2 (8600 + t_z) ∧ 1 ≤ B_z 2 (8600 + t_z) ∧ B_z 2 (8600 + t_z) ≤ 1000000000000 := fun h_z => by
      have e_z : B_z 2 (8600 + t_z) = C0 2 (8600 + t_z) := hF.2 2 _ (by unfold inS; omega) (by omega) (by omega)
      have ct := hc t_z t0_z h_z
      rw [show 200 * 43 + t_z = 8600 + t_z by omega] at ct
      exact ⟨e_z, by omega⟩
    have hend : (B_z 0 4 ≠ 0 ∨ C0 1 43 ≤ t_z) → a47q C0 B_z (C0 1 43) := fun hcc => ⟨hF, by
      rcases hI2 with h_z | h_z
      · exact Or.inl h_z
      · have e_z : t_z = C0 1 43 := by rcases hcc with h5 | h5; exact absurd h_z.1 h5; omega
        rw [e_z] at h_z
        exact Or.inr h_z⟩
    refine wq_ok srt_turns (fr := []) (cuts := [81, 126]) (J := fun pc st_z => (pc = 126 ∧ ((B_z (B_z 0 1) 43) ≤ t_z) ∧ st_z = ([(2, 0), (0, k), (0, t_z), w3_z], [], B_z)) ∨ (pc = 126 ∧ (t_z < (B_z (B_z 0 1) 43)) ∧ (¬ (B_z 0 4) = 0) ∧ st_z = ([(2, 0), (0, k), (0, t_z), w3_z], [], B_z)) ∨ (pc = 81 ∧ (t_z < (B_z (B_z 0 1) 43)) ∧ ((B_z 0 4) = 0) ∧ st_z = ([(2, 0), (0, k), (0, t_z), (0, 0)], [], pm_upd B_z 0 5 (B_z (B_z 0 2) (8600 + t_z))))) ?_ 24 47 _ ?_
    · rintro pc st_z (⟨rfl, h0, rfl⟩ | ⟨rfl, h0, h1, rfl⟩ | ⟨rfl, h0, h1, rfl⟩)
      · exact H B_z _ _ (hend (Or.inr (by rw [c1_z, mB] at h0; exact h0)))
      · exact H B_z _ _ (hend (Or.inl h1))
      · rw [c1_z, mB] at h0
        rw [c2_z]
        have hn := nB_z h0
        obtain ⟨i1_z, i2_z, i3_z, i4_z⟩ : B_z 0 4 = 0 ∧ srtd B_z 44 ∧ cfs B_z 44 ∧ ∀ c_z, cr_co (LSm B_z 44) c_z = cr_co (LSm C0 44) c_z + cr_co (lsf t_z.toNat (fa C0 43)) c_z := by
          rcases hI2 with h_z | h_z
          · have := h_z.1; omega
          · exact h_z
        refine tuq_81 hc hc44 hC0 t0_z h0 (fun C_z w3_z hC => ih_z (t_z + 1) w3_z C_z (by omega) (by omega) (by omega) hC) _ 0 _ (Nat.lt_succ_self _) (by omega) (by omega) ⟨uM_0_5 hF.1 (by omega) (by omega), fun r_z j_z hr h4 h5 => ?_⟩ (by rw [upd_o (by omega)]; exact i1_z) i2_z i3_z i4_z (by rw [upd_at]; exact hn.1) (fun i_z i0_z i1_z => by omega)
        rw [upd_o (fun e_z => h5 ⟨e_z.1, Or.inr e_z.2⟩)]; exact hF.2 r_z j_z hr h4 h5
    · refine ⟨oM_0 (by omega) km0 1 rfl, ?_⟩
      refine ⟨aM_1 (r := B_z 0 1) (by rw [c1_z]; omega) (by rw [c1_z]; exact kn1) (by omega) (by omega), ?_⟩
      have e1 : B_z (B_z 0 1) 43 = B_z 1 43 := by rw [c1_z]
      refine ⟨fun h0 => ?_, fun h0 => ?_⟩
      · exact Or.inl (⟨rfl, h0, rfl⟩)
      · refine ⟨oM_0 (by omega) km0 4 rfl, ?_⟩
        refine ⟨fun h1 => ?_, fun h1 => ?_⟩
        · exact Or.inr (Or.inl (⟨rfl, h0, h1, rfl⟩))
        · refine ⟨oM_0 (by omega) km0 2 rfl, ?_⟩
          refine ⟨⟨by omega, by omega⟩, ?_⟩
          refine ⟨aM_2 (r := B_z 0 2) (by rw [c2_z]; omega) (by rw [c2_z]; exact kn2) (by omega) (by omega), ?_⟩
          have e2 : B_z (B_z 0 2) (8600 + t_z) = B_z 2 (8600 + t_z) := by rw [c2_z]
          refine ⟨oM_0 (by omega) km0 5 rfl, ?_⟩
          exact Or.inr (Or.inr (⟨rfl, h0, h1, rfl⟩))
def spB (s : cx_Sd 12) (ks : List (Fin 12)) (k : Fin 12) : Prop := BigV (fun x_z => cr_P (cr_bs s.b ks) k (cr_gp s.b ks x_z).1)
def tuq_post (s : cx_Sd 12) (ks : List (Fin 12)) (A : pm_A) (k : Fin 12) (r : pm_R) : Prop := (r.1 = some (0, 0) ∧ tuG A r.2 ∧ Tru s ks r.2 ∧ (spB s ks k ∨ ¬ arO A k.1)) ∨ (r.1 = some (0, 1) ∧ Tru s (ks ++ [k]) r.2 ∧ gH wM r.2 ∧ (∀ q_z j_z, (∀ t_z : Int, 42 ≤ t_z → t_z ≤ 47 → ¬ inS t_z q_z j_z) → ¬ inS k.1 q_z j_z → q_z ≠ 4 → q_z ≠ 5 → q_z ≠ 12 → ¬ (q_z = 0 ∧ (j_z = 4 ∨ j_z = 5)) → r.2 q_z j_z = A q_z j_z) ∧ ¬ spB s ks k ∧ arO A k.1)
theorem P_two {s : cx_Sd 12} {ks : List (Fin 12)} (k : Fin 12) (x : cr_Pv 12) : cr_P (cr_bs s.b ks) k (cr_gp s.b ks x).1 = cr_mo (cr_gp s.b ks x).1 (fun i_z => (cx_pos (cr_bs s.b ks i_z k) : Int)) + cr_mo (cr_gp s.b ks x).1 (fun i_z => (cx_pos (- cr_bs s.b ks i_z k) : Int)) := rfl
theorem tuq_143 {s : cx_Sd 12} {ks : List (Fin 12)} {A D : pm_A} {k : Fin 12} (hT : Tru s ks A) (hk : (k.1 : Int) < A 0 7) (hD : tuG A D) (hs44 : srtd D 44) (hc44 : cfs D 44) (hx44 : xb D 44 217178280) (hN : ∀ x_z : cr_Pv 12, cr_vl x_z.1 (LSm D 44) = cr_P (cr_bs s.b ks) k (cr_gp s.b ks x_z).1) (hgood : ∀ i_z j_z : Int, 0 ≤ i_z → i_z < A 0 7 + A 0 8 → 0 ≤ j_z → j_z < A 0 7 → -9999 ≤ tv A k.1 i_z j_z ∧ tv A k.1 i_z j_z ≤ 9999) (hnext : ∀ i_z j_z : Int, 0 ≤ i_z → i_z < A 0 7 + A 0 8 → 0 ≤ j_z → j_z < A 0 7 → D 12 (6 * i_z + j_z) = tv A k.1 i_z j_z) (w2 w3 : pm_V) : Tm pmt (an_sh wM) o_X10_turns 143 ([(2, 0), (0, (k.1 : Int)), w2, w3], [], D) (tuq_post s ks A k) := by
  have p7_z := fM_0_7 hT.1 (r := 0) (by omega) km0
  have p8 := fM_0_8 hT.1 (r := 0) (by omega) km0
  have hTD := hT.keep hD
  have e7_z := hD.fld (j := 7) (by omega) (by omega)
  have e8 := hD.fld (j := 8) (by omega) (by omega)
  have m44 := eM_1 hD.1 (r := 1) (by omega) kn1 (j := 44) (by omega) (by omega)
  obtain ⟨Q_z, hQ, hQv, hQc, hQl, hQb⟩ := tru_quot hTD (k := k) (by omega) (shr_of hs44 hc44) (fun y_z hy => by
    obtain ⟨q_z, q0, q1_z, rfl⟩ := mem_LSm hy
    exact (hc44 q_z q0 q1_z).2) (by rw [LSm_len]; omega) hN
  have hlt := hTD.lt
  have hl := hlt.2.1 k.1 (by omega) (by omega)
  refine wq_ok srt_turns (fr := []) (cuts := [152]) (J := fun pc st_z => (pc = 152 ∧ ∃ E_z, paF D E_z 45 44 ∧ LSm E_z 45 = Q_z ∧ st_z = ([(2, 0), (0, (k.1 : Int)), w2, w3], [], E_z))) ?_ 9 143 _ ?_
  · rintro pc st_z (⟨rfl, E_z, q2_z, q3_z, rfl⟩)
    refine wq_ok srt_turns (fr := []) (cuts := [159]) (J := fun pc st_z => (pc = 159 ∧ ∃ G_z, gH wM G_z ∧ (∀ q_z j_z, ¬ inS k.1 q_z j_z → G_z q_z j_z = E_z q_z j_z) ∧ LSm G_z k.1 = LSm E_z 45 ∧ st_z = ([(2, 0), (0, (k.1 : Int)), w2, w3], [], G_z))) ?_ 8 152 _ ?_
    · rintro pc st_z (⟨rfl, G_z, g2, g3_z, g4, rfl⟩)
      refine wq_ok srt_turns (fr := []) (cuts := [161]) (J := fun pc st_z => (pc = 161 ∧ st_z = ([(2, 0), (0, (k.1 : Int)), (0, 0), w3], [], G_z))) ?_ 7 159 _ ?_
      · rintro pc st_z (⟨rfl, rfl⟩)
        refine tu_161 g2 (fun W_z hW => ?_) _ 0 _ G_z (Nat.lt_succ_self _) (by omega) (by have := fM_0_7 g2 (r := 0) (by omega) km0; have := fM_0_8 g2 (r := 0) (by omega) km0; omega) ⟨g2, fun _ _ _ => rfl, fun j_z j0 j1 => by omega, fun _ _ => rfl⟩
        obtain ⟨w1_z, w4_z, w5, w6_z⟩ := hW
        have hf : ∀ q_z j_z, (∀ t_z : Int, 42 ≤ t_z → t_z ≤ 47 → ¬ inS t_z q_z j_z) → ¬ inS k.1 q_z j_z → q_z ≠ 4 → q_z ≠ 5 → q_z ≠ 12 → ¬ (q_z = 0 ∧ (j_z = 4 ∨ j_z = 5)) → W_z q_z j_z = A q_z j_z := fun q_z j_z a1_z a2 a3 a4 a5 a6 => by rw [w4_z q_z j_z a4, g3_z q_z j_z a2, q2_z.2 q_z j_z (a1_z 45 (by omega) (by omega)) (a1_z 44 (by omega) (by omega)) a3]; exact hD.2 q_z j_z a1_z a3 a5 a6
        have f7_z : W_z 0 7 = A 0 7 := hf 0 7 (fun t_z t0_z t1_z ht => by unfold inS at ht; omega) (by unfold inS; omega) (by omega) (by omega) (by omega) (by omega)
        have f8_z : W_z 0 8 = A 0 8 := hf 0 8 (fun t_z t0_z t1_z ht => by unfold inS at ht; omega) (by unfold inS; omega) (by omega) (by omega) (by omega) (by omega)
        have g7 : G_z 0 7 = A 0 7 := by rw [← w4_z 0 7 (by omega)]; exact f7_z
        have g8 : G_z 0 8 = A 0 8 := by rw [← w4_z 0 8 (by omega)]; exact f8_z
        have mk_z := eM_1 g2 (r := 1) (by omega) kn1 (j := (k.1 : Int)) (by omega) (by omega)
        have hWk : LSm W_z k.1 = Q_z := by rw [← q3_z, ← g4]; exact LSm_same mk_z.2 (fun q_z j_z hq => w4_z q_z j_z (by unfold inS at hq; omega))
        refine Or.inr ⟨rfl, ?_, w1_z, hf, BigV.no (shr_of hs44 hc44) (fun y_z hy => by
          obtain ⟨q_z, q0, q1_z, rfl⟩ := mem_LSm hy
          exact (hc44 q_z q0 q1_z).2) (by rw [LSm_len]; omega) hN, hgood⟩
        refine tru_next hT hk hQ hQv hQb w1_z f7_z f8_z (fun p_z p0_z p1_z pk_z q_z j_z hq => hf q_z j_z (fun t_z t0_z t1_z ht => by unfold inS at *; omega) (by unfold inS at *; omega) (by unfold inS at hq; omega) (by unfold inS at hq; omega) (by unfold inS at hq; omega) (by unfold inS at hq; omega)) hWk hgood (fun i_z j_z i0_z i1_z j0 j1 => ?_)
        show W_z 5 (6 * i_z + j_z) = tv A k.1 i_z j_z
        rw [w5 (6 * i_z + j_z) (by omega) (by rw [g7, g8]; omega), if_pos (by rw [g7]; omega), g3_z 12 _ (by unfold inS; omega), q2_z.2 12 _ (by unfold inS; omega) (by unfold inS; omega) (by omega)]
        exact hnext i_z j_z i0_z i1_z j0 j1
      · exact ⟨rfl, rfl⟩
    · refine ⟨rM_0 (by omega) km0, ?_⟩
      refine (copy_ex (to := k.1) (fr := 45) q2_z.1 (by omega) (by omega) (by omega) (by omega) (by omega)).imp ?_
      rintro ⟨r1_z, G_z⟩ ⟨g1, g2, g3_z, g4⟩
      simp only at g1 g2 g3_z g4
      subst g1
      exact ⟨rfl, G_z, g2, g3_z, g4, rfl⟩
  · refine ⟨rM_0 (by omega) km0, ?_⟩
    refine (parts_ex (A := D) (to := 45) (a := 44) (b := k.1) (EN := 217178280) (Q := Q_z) ⟨hD.1, by omega, by omega, by omega, ⟨by omega, by omega, by omega⟩, hl, ⟨hs44, hc44, hx44⟩, by omega, hQ, hQc, hQl⟩).imp ?_
    rintro ⟨r1_z, E_z⟩ ⟨q1_z, q2_z, q3_z⟩
    simp only at q1_z q2_z q3_z
    subst q1_z
    exact ⟨rfl, E_z, q2_z, q3_z, rfl⟩
theorem tuq_126 {s : cx_Sd 12} {ks : List (Fin 12)} {A C0 B : pm_A} {k : Fin 12} (hT : Tru s ks A) (hk : (k.1 : Int) < A 0 7) (hC : tu_C s ks A C0 k) (hB : a47q C0 B (C0 1 43)) (w2 w3 : pm_V) : Tm pmt (an_sh wM) o_X10_turns 126 ([(2, 0), (0, (k.1 : Int)), w2, w3], [], B) (tuq_post s ks A k) := by
  have hBG : tuG A B := hC.1.tr (tm_tuG hB.1 (by omega) (by omega))
  have hTB := hT.keep hBG
  have e7_z := hBG.fld (j := 7) (by omega) (by omega)
  have e8 := hBG.fld (j := 8) (by omega) (by omega)
  have s4_z := fM_0_4 hBG.1 (r := 0) (by omega) km0
  have htv : ∀ i_z j_z, tv B k.1 i_z j_z = tv A k.1 i_z j_z := fun i_z j_z => by unfold tv; rw [hBG.arr, hBG.arr, hBG.arr]
  have hbad : ∀ D_z, tuG A D_z → (spB s ks k ∨ ¬ arO A k.1) → tuq_post s ks A k (some (0, 0), D_z) := fun D_z hD hx => Or.inl ⟨rfl, hD, hT.keep hD, hx⟩
  have hsb : sBg C0 → spB s ks k := fun h_z => h_z.eq (fun x_z => by rw [hC.2.2.2.2.2.2.1 x_z, hC.2.2.2.2.2.2.2 x_z]; rfl)
  have hao : arO B k.1 ↔ arO A k.1 := by
    unfold arO
    rw [e7_z, e8]
    exact ⟨fun h_z i_z j_z i0_z i1_z j0 j1 => by rw [← htv]; exact h_z i_z j_z i0_z i1_z j0 j1, fun h_z i_z j_z i0_z i1_z j0 j1 => by rw [htv]; exact h_z i_z j_z i0_z i1_z j0 j1⟩
  refine wq_ok srt_turns (fr := []) (cuts := [138]) (J := fun pc st_z => (pc = 138 ∧ B 0 4 = 0 ∧ ∃ D_z g_z, taF B D_z ∧ ((g_z = 0 ∧ ¬ arO B k.1) ∨ (g_z = 1 ∧ arO B k.1)) ∧ (∀ i_z j_z : Int, 0 ≤ i_z → i_z < B 0 7 + B 0 8 → 0 ≤ j_z → j_z < B 0 7 → D_z 12 (6 * i_z + j_z) = tv B k.1 i_z j_z) ∧ st_z = ([(2, 0), (0, (k.1 : Int)), w2, w3], [(0, g_z)], D_z))) ?_ 10 126 _ ?_
  · rintro pc st_z (⟨rfl, h4, D_z, g_z, q1_z, q3_z, q4_z, rfl⟩)
    have hDG : tuG A D_z := hBG.tr ⟨q1_z.1, fun r_z j_z a1_z a2 a3 a4 => q1_z.2 r_z j_z a3⟩
    refine wq_ok srt_turns (fr := []) (cuts := [143]) (J := fun pc st_z => (pc = 143 ∧ (¬ g_z = 0) ∧ st_z = ([(2, 0), (0, (k.1 : Int)), w2, w3], [], D_z))) ?_ 7 138 _ ?_
    · rintro pc st_z (⟨rfl, h0, rfl⟩)
      have hg : g_z = 1 ∧ arO B k.1 := by
        rcases q3_z with h_z | h_z
        · exact absurd h_z.1 h0
        · exact h_z
      obtain ⟨i1_z, i2_z, i3_z, i4_z⟩ : B 0 4 = 0 ∧ srtd B 44 ∧ cfs B 44 ∧ ∀ c_z, cr_co (LSm B 44) c_z = cr_co (LSm C0 44) c_z + cr_co (lsf (C0 1 43).toNat (fa C0 43)) c_z := by
        rcases hB.2 with h_z | h_z
        · have := h_z.1; omega
        · exact h_z
      have hN_z := tu_N hC hBG.1 i3_z i4_z
      have m44 := eM_1 hBG.1 (r := 1) (by omega) kn1 (j := 44) (by omega) (by omega)
      have hS_z : ∀ r_z j_z, inS 44 r_z j_z → D_z r_z j_z = B r_z j_z := fun r_z j_z h_z => q1_z.2 r_z j_z (by unfold inS at h_z; omega)
      refine tuq_143 hT hk hDG (srtd_same m44.2 hS_z i2_z) (cfs_same m44.2 hS_z i3_z) (xb_same m44.2 hS_z hN_z.2) (fun x_z => by rw [LSm_same m44.2 hS_z]; exact hN_z.1 x_z) (fun i_z j_z i0_z i1_z j0 j1 => ?_) (fun i_z j_z i0_z i1_z j0 j1 => ?_) w2 w3
      · rw [← htv]; exact hg.2 i_z j_z i0_z (by omega) j0 (by omega)
      · rw [← htv]; exact q4_z i_z j_z i0_z (by omega) j0 (by omega)
    · refine ⟨fun h0 => ?_, fun h0 => ?_⟩
      · exact ⟨rfl, h0, rfl⟩
      · refine ⟨rfl, hbad D_z hDG (Or.inr ?_)⟩
        rcases q3_z with h_z | h_z
        · exact fun hh => h_z.2 (hao.mpr hh)
        · have := h_z.1; omega
  · refine ⟨oM_0 (by omega) km0 4 rfl, ?_⟩
    refine ⟨fun h0 => ?_, fun h0 => ?_⟩
    · refine ⟨rfl, hbad B hBG (Or.inl ?_)⟩
      rcases hB.2 with h_z | h_z
      · exact hsb h_z.2
      · exact absurd h_z.1 h0
    · refine ⟨rM_0 (by omega) km0, ?_⟩
      refine (turnsArrows_exq (k := k.1) hBG.1 hTB.2.2.2.2.2.1 (by omega) (by omega)).imp ?_
      rintro ⟨r1_z, D_z⟩ ⟨q1_z, g_z, q2_z, q3_z, q4_z⟩
      simp only at q1_z q2_z q3_z q4_z
      subst q2_z
      exact ⟨rfl, h0, D_z, g_z, q1_z, q3_z, q4_z, rfl⟩
theorem tuq_45 {s : cx_Sd 12} {ks : List (Fin 12)} {A C0 : pm_A} {k : Fin 12} (hT : Tru s ks A) (hk : (k.1 : Int) < A 0 7) (hC : tu_C s ks A C0 k) (h4 : C0 0 4 = 0) (w2 w3 : pm_V) : Tm pmt (an_sh wM) o_X10_turns 45 ([(2, 0), (0, (k.1 : Int)), w2, w3], [], C0) (tuq_post s ks A k) := by
  have m43 := eM_1 hC.1.1 (r := 1) (by omega) kn1 (j := 43) (by omega) (by omega)
  refine wq_ok srt_turns (fr := []) (cuts := [47]) (J := fun pc st_z => (pc = 47 ∧ st_z = ([(2, 0), (0, (k.1 : Int)), (0, 0), w3], [], C0))) ?_ 7 45 _ ?_
  · rintro pc st_z (⟨rfl, rfl⟩)
    exact tuq_47 hC.2.2.2.2.1 hC.2.2.1 hC.1.1 (fun C_z w2 w3 hCC => tuq_126 hT hk hC hCC w2 w3) _ 0 _ C0 (Nat.lt_succ_self _) (by omega) (by omega) ⟨⟨hC.1.1, fun _ _ _ _ _ => rfl⟩, Or.inr ⟨h4, hC.2.1, hC.2.2.1, fun c_z => by show _ = _ + (0 : Int); omega⟩⟩
  · exact ⟨rfl, rfl⟩
theorem tuq_28 {s : cx_Sd 12} {ks : List (Fin 12)} {A B : pm_A} {k : Fin 12} (hT : Tru s ks A) (hk : (k.1 : Int) < A 0 7) (hB : tuG A B) (hsp : ¬ B 0 4 = 0 → spB s ks k) (h : B 0 4 = 0 → st4 s ks B 42 k 1 ∧ st4 s ks B 43 k (-1)) (w2 w3 : pm_V) : Tm pmt (an_sh wM) o_X10_turns 28 ([(2, 0), (0, (k.1 : Int)), w2, w3], [], B) (tuq_post s ks A k) := by
  have hbad : ∀ D_z, tuG A D_z → spB s ks k → tuq_post s ks A k (some (0, 0), D_z) := fun D_z hD hx => Or.inl ⟨rfl, hD, hT.keep hD, Or.inl hx⟩
  refine wq_ok srt_turns (fr := []) (cuts := [45]) (J := fun pc st_z => (pc = 45 ∧ B 0 4 = 0 ∧ ∃ G_z, gH wM G_z ∧ (∀ q_z j_z, ¬ inS 44 q_z j_z → G_z q_z j_z = B q_z j_z) ∧ LSm G_z 44 = LSm B 42 ∧ st_z = ([(2, 0), (0, (k.1 : Int)), w2, w3], [], G_z))) ?_ 11 28 _ ?_
  · rintro pc st_z (⟨rfl, h4, G_z, g2, g3_z, g4, rfl⟩)
    obtain ⟨⟨a1_z, a2, a3, a4⟩, ⟨b1, b2, b3, b4⟩⟩ := h h4
    have m42 := eM_1 hB.1 (r := 1) (by omega) kn1 (j := 42) (by omega) (by omega)
    have m43 := eM_1 hB.1 (r := 1) (by omega) kn1 (j := 43) (by omega) (by omega)
    have m44 := eM_1 g2 (r := 1) (by omega) kn1 (j := 44) (by omega) (by omega)
    have hS_z : ∀ r_z j_z, inS 43 r_z j_z → G_z r_z j_z = B r_z j_z := fun r_z j_z hj => g3_z r_z j_z (by unfold inS at *; omega)
    refine tuq_45 hT hk ⟨hB.tr ⟨g2, fun r_z j_z x1_z x2_z x3 x4_z => g3_z r_z j_z (x1_z 44 (by omega) (by omega))⟩, ls_srtd g4 m44.1 m42.1 a1_z, ls_cfs g4 m44.1 m42.1 a2, ls_xb g4 m44.1 m42.1 a3, cfs_same m43.2 hS_z b2, xb_same m43.2 hS_z b3, fun x_z => ?_, fun x_z => ?_⟩ (by rw [g3_z 0 4 (by unfold inS; omega)]; exact h4) w2 w3
    · rw [VS_of g4, a4 x_z]; exact congrArg (cr_mo _) (funext fun i_z => by rw [Int.one_mul])
    · rw [VS_of (LSm_same m43.2 hS_z), b4 x_z]; exact congrArg (cr_mo _) (funext fun i_z => by rw [Int.neg_mul, Int.one_mul])
  · refine ⟨oM_0 (by omega) km0 4 rfl, ?_⟩
    refine ⟨fun h0 => ?_, fun h0 => ?_⟩
    · refine ⟨rM_0 (by omega) km0, ?_⟩
      refine (copy_ex (to := 44) (fr := 42) hB.1 (by omega) (by omega) (by omega) (by omega) (by omega)).imp ?_
      rintro ⟨r1_z, G_z⟩ ⟨g1, g2, g3_z, g4⟩
      simp only at g1 g2 g3_z g4
      subst g1
      exact ⟨rfl, h0, G_z, g2, g3_z, g4, rfl⟩
    · exact ⟨rfl, hbad B hB (hsp h0)⟩
theorem pb_sp {s : cx_Sd 12} {ks : List (Fin 12)} {A : pm_A} {k : Fin 12} {sg : Int} (hT : Tru s ks A) (hk : (k.1 : Int) < A 0 7) (hsg : sg = 1 ∨ sg = -1) (h : pBg A k.1 sg) : spB s ks k := by
  have hlt := hT.lt
  have h1 := BigV.add h (pvl_rp hlt (k.1 : Int) (-sg) (A 0 7 + A 0 8).toNat)
  refine h1.eq (fun x_z => ?_)
  rw [hT.pvl hk sg x_z, hT.pvl hk (-sg) x_z, P_two]
  rcases hsg with rfl | rfl
  · rw [show (fun i_z => (cx_pos (1 * cr_bs s.b ks i_z k) : Int)) = (fun i_z => (cx_pos (cr_bs s.b ks i_z k) : Int)) from funext fun i_z => by rw [Int.one_mul]]
    rw [show (fun i_z => (cx_pos (-1 * cr_bs s.b ks i_z k) : Int)) = (fun i_z => (cx_pos (- cr_bs s.b ks i_z k) : Int)) from funext fun i_z => by rw [Int.neg_mul, Int.one_mul]]
  · rw [show (fun i_z => (cx_pos (- -1 * cr_bs s.b ks i_z k) : Int)) = (fun i_z => (cx_pos (cr_bs s.b ks i_z k) : Int)) from funext fun i_z => by rw [show (- -1 : Int) = 1 from rfl, Int.one_mul]]
    rw [show (fun i_z => (cx_pos (-1 * cr_bs s.b ks i_z k) : Int)) = (fun i_z => (cx_pos (- cr_bs s.b ks i_z k) : Int)) from funext fun i_z => by rw [Int.neg_mul, Int.one_mul]]
    exact Rat.add_comm _ _
theorem turns_exq {s : cx_Sd 12} {ks : List (Fin 12)} {A : pm_A} {k : Fin 12} (hT : Tru s ks A) (hk : (k.1 : Int) < A 0 7) : Cl pmt (an_sh wM) 200 [(2, 0), (0, (k.1 : Int))] A (tuq_post s ks A k) := by
  have h0 : tuG A (pm_upd A 0 4 0) := ⟨uM_0_4 hT.1 (by omega) (by omega), fun r_z j_z a1_z a2 a3 a4 => upd_o (fun e_z => a4 ⟨e_z.1, Or.inl e_z.2⟩)⟩
  have hT0 := hT.keep h0
  have e40 : pm_upd A 0 4 0 0 4 = 0 := upd_at
  have e7_z := h0.fld (j := 7) (by omega) (by omega)
  have p7_z := fM_0_7 hT.1 (r := 0) (by omega) km0
  refine Cl.of (Nat.le_of_ble_eq_true rfl) ?_
  refine wq_ok (full := o_X10_turns) srt_turns (fr := []) (cuts := [13]) (J := fun pc st_z => (pc = 13 ∧ ∃ B_z, prF (pm_upd A 0 4 0) B_z 42 ∧ ((B_z 0 4 = 1 ∧ pBg (pm_upd A 0 4 0) k.1 1) ∨ (B_z 0 4 = 0 ∧ prG (pm_upd A 0 4 0) B_z 42 k.1 1 (pm_upd A 0 4 0 0 7 + pm_upd A 0 4 0 0 8))) ∧ st_z = ([(2, 0), (0, (k.1 : Int)), (9, 0), (9, 0)], [], B_z))) ?_ 12 0 _ ?_
  · rintro pc st_z (⟨rfl, B_z, g2, g3_z, rfl⟩)
    have hBG : tuG A B_z := h0.tr (pr_tuG g2 (by omega) (by omega))
    have hTB := hT.keep hBG
    have b7 := hBG.fld (j := 7) (by omega) (by omega)
    have h42 : B_z 0 4 = 0 → st4 s ks B_z 42 k 1 := fun h_z => by
      rcases g3_z with h2 | h2
      · have := h2.1; omega
      · exact st4_of hT0 (by omega) h2.2
    refine wq_ok srt_turns (fr := []) (cuts := [28]) (J := fun pc st_z => (pc = 28 ∧ (¬ (B_z 0 4) = 0) ∧ st_z = ([(2, 0), (0, (k.1 : Int)), (9, 0), (9, 0)], [], B_z)) ∨ (pc = 28 ∧ B_z 0 4 = 0 ∧ ∃ C_z, prF B_z C_z 43 ∧ ((C_z 0 4 = 1 ∧ pBg B_z k.1 (-1)) ∨ (C_z 0 4 = 0 ∧ prG B_z C_z 43 k.1 (-1) (B_z 0 7 + B_z 0 8))) ∧ st_z = ([(2, 0), (0, (k.1 : Int)), (9, 0), (9, 0)], [], C_z))) ?_ 12 13 _ ?_
    · rintro pc st_z (⟨rfl, h0, rfl⟩ | ⟨rfl, h4, C_z, f2_z, f3_z, rfl⟩)
      · refine tuq_28 hT hk hBG (fun _ => ?_) (fun h_z => absurd h_z h0) _ _
        rcases g3_z with h2 | h2
        · exact pb_sp hT0 (by omega) (Or.inl rfl) h2.2
        · exact absurd h2.1 h0
      · have hCG : tuG A C_z := hBG.tr (pr_tuG f2_z (by omega) (by omega))
        refine tuq_28 hT hk hCG (fun hn => ?_) (fun hC4 => ⟨?_, ?_⟩) _ _
        · rcases f3_z with h_z | h_z
          · exact pb_sp hTB (by omega) (Or.inr rfl) h_z.2
          · exact absurd h_z.1 hn
        · have hs : ∀ r_z j_z, inS 42 r_z j_z → C_z r_z j_z = B_z r_z j_z := fun r_z j_z hj => f2_z.2 r_z j_z (by unfold inS at *; omega) (by unfold inS at *; omega) (by unfold inS at *; omega) (by unfold inS at hj; omega) (by unfold inS at hj; omega)
          have m42 := eM_1 hBG.1 (r := 1) (by omega) kn1 (j := 42) (by omega) (by omega)
          obtain ⟨a1_z, a2, a3, a4⟩ := h42 h4
          exact ⟨srtd_same m42.2 hs a1_z, cfs_same m42.2 hs a2, xb_same m42.2 hs a3, fun x_z => by rw [VS_of (LSm_same m42.2 hs)]; exact a4 x_z⟩
        · rcases f3_z with h_z | h_z
          · have := h_z.1; omega
          · exact st4_of hTB (by omega) h_z.2
    · refine ⟨oM_0 (by omega) km0 4 rfl, ?_⟩
      refine ⟨fun h0 => ?_, fun h0 => ?_⟩
      · exact Or.inl (⟨rfl, h0, rfl⟩)
      · refine ⟨rM_0 (by omega) km0, ?_⟩
        refine (product_exq (to := 43) (k := k.1) (sg := -1) hTB.lt h0 (by omega) (by omega) (by omega) (by omega)).imp ?_
        rintro ⟨r1_z, C_z⟩ ⟨f1_z, f2_z, f3_z⟩
        simp only at f1_z f2_z f3_z
        subst f1_z
        exact Or.inr (⟨rfl, h0, C_z, f2_z, f3_z, rfl⟩)
  · refine ⟨oM_0 (by omega) km0 4 rfl, ?_⟩
    refine ⟨rM_0 (by omega) km0, ?_⟩
    refine (product_exq (to := 42) (k := k.1) (sg := 1) hT0.lt e40 (by omega) (by omega) (by omega) (by omega)).imp ?_
    rintro ⟨r1_z, B_z⟩ ⟨g1, g2, g3_z⟩
    simp only at g1 g2 g3_z
    subst g1
    exact ⟨rfl, B_z, g2, g3_z, rfl⟩
end

section
/-! the class's SHAREs, exactly: find -/
def xeX (A : pm_A) (s q : Int) : cr_Xp 12 := fun v_z => if (v_z.1 : Int) < A s 0 then A (A s 3) (q * A s 0 + (v_z.1 : Int)) else 0
def xkX (A : pm_A) (w k : Int) : cr_Xp 12 := fun v_z => if (v_z.1 : Int) < w then A k (v_z.1 : Int) else 0
def fX (A : pm_A) (s : Int) (q : Nat) : Int × cr_Xp 12 := (A (A s 2) (q : Int), xeX A s (q : Int))
def LSx (A : pm_A) (s : Int) : cr_Pl_ 12 := lsf (A s 1).toNat (fX A s)
def srX (A : pm_A) (s : Int) : Prop := ∀ q_z q' : Int, 0 ≤ q_z → q_z < q' → q' < A s 1 → cr_Gt (xeX A s q_z) (xeX A s q')
def ptX (A : pm_A) (s t : Int) (K : cr_Xp 12) : Prop := (0 ≤ t ∧ t ≤ A s 1) ∧ (∀ q_z, 0 ≤ q_z → q_z < t → cr_Gt (xeX A s q_z) K) ∧ ∀ q_z, t ≤ q_z → q_z < A s 1 → cr_Gt K (xeX A s q_z)
theorem xX_gt {A : pm_A} {s k m v : Int} (v0 : 0 ≤ v) (v1 : v < A s 0) (w1 : A s 0 ≤ 12) (hi : ∀ u_z : Int, 0 ≤ u_z → u_z < v → A (A s 3) (m * A s 0 + u_z) = A k u_z) (h : A k v < A (A s 3) (m * A s 0 + v)) : cr_Gt (xeX A s m) (xkX A (A s 0) k) := by
  refine ⟨⟨v.toNat, by omega⟩, fun j_z hj => ?_, ?_⟩
  · have hj : j_z.1 < v.toNat := hj
    show (if (j_z.1 : Int) < A s 0 then A (A s 3) (m * A s 0 + (j_z.1 : Int)) else 0) = if (j_z.1 : Int) < A s 0 then A k (j_z.1 : Int) else 0
    rw [if_pos (by omega), if_pos (by omega)]
    exact hi j_z.1 (by omega) (by omega)
  · show (if ((v.toNat : Nat) : Int) < A s 0 then A k ((v.toNat : Nat) : Int) else 0) < if ((v.toNat : Nat) : Int) < A s 0 then A (A s 3) (m * A s 0 + ((v.toNat : Nat) : Int)) else 0
    rw [Int.toNat_of_nonneg v0, if_pos v1, if_pos v1]
    exact h
theorem xX_lt {A : pm_A} {s k m v : Int} (v0 : 0 ≤ v) (v1 : v < A s 0) (w1 : A s 0 ≤ 12) (hi : ∀ u_z : Int, 0 ≤ u_z → u_z < v → A (A s 3) (m * A s 0 + u_z) = A k u_z) (h : A (A s 3) (m * A s 0 + v) < A k v) : cr_Gt (xkX A (A s 0) k) (xeX A s m) := by
  refine ⟨⟨v.toNat, by omega⟩, fun j_z hj => ?_, ?_⟩
  · have hj : j_z.1 < v.toNat := hj
    show (if (j_z.1 : Int) < A s 0 then A k (j_z.1 : Int) else 0) = if (j_z.1 : Int) < A s 0 then A (A s 3) (m * A s 0 + (j_z.1 : Int)) else 0
    rw [if_pos (by omega), if_pos (by omega)]
    exact (hi j_z.1 (by omega) (by omega)).symm
  · show (if ((v.toNat : Nat) : Int) < A s 0 then A (A s 3) (m * A s 0 + ((v.toNat : Nat) : Int)) else 0) < if ((v.toNat : Nat) : Int) < A s 0 then A k ((v.toNat : Nat) : Int) else 0
    rw [Int.toNat_of_nonneg v0, if_pos v1, if_pos v1]
    exact h
theorem xX_eq {A : pm_A} {s k m v : Int} (v1 : A s 0 ≤ v) (hi : ∀ u_z : Int, 0 ≤ u_z → u_z < v → A (A s 3) (m * A s 0 + u_z) = A k u_z) : xeX A s m = xkX A (A s 0) k := funext fun j_z => by
  show (if (j_z.1 : Int) < A s 0 then A (A s 3) (m * A s 0 + (j_z.1 : Int)) else 0) = if (j_z.1 : Int) < A s 0 then A k (j_z.1 : Int) else 0
  by_cases e_z : (j_z.1 : Int) < A s 0
  · rw [if_pos e_z, if_pos e_z]; exact hi j_z.1 (by omega) (by omega)
  · rw [if_neg e_z, if_neg e_z]
theorem srt_Xfind : pm_srt o_X8_find = true := by decide +kernel
def shK (s k : Int) : Prop := (0 ≤ s ∧ wX.2 s = 2) ∧ (0 ≤ k ∧ wX.2 k = 18)
theorem fi_47 {A : pm_A} {s k f lo hi t m : Int} (hA : gH wX A) (hh : shK s k) (m0 : 0 ≤ m) (m1 : m < A s 1) {z : pm_R → Prop} (hz : xeX A s m = xkX A (A s 0) k → z (some (0, m), A)) (H1 : cr_Gt (xeX A s m) (xkX A (A s 0) k) → ∀ v_z, Tm pmt (an_sh wX) o_X8_find 122 ([(2, s), (2, k), (0, f), (0, m + 1), (0, hi), (0, t), (0, m), (0, m * A s 0), (0, v_z)], [], A) z) (H2 : cr_Gt (xkX A (A s 0) k) (xeX A s m) → ∀ v_z, Tm pmt (an_sh wX) o_X8_find 122 ([(2, s), (2, k), (0, f), (0, lo), (0, m - 1), (0, t), (0, m), (0, m * A s 0), (0, v_z)], [], A) z) : ∀ (n_z : Nat) (v_z : Int), (12 - v_z).toNat < n_z → 0 ≤ v_z → v_z ≤ A s 0 → (∀ u_z : Int, 0 ≤ u_z → u_z < v_z → A (A s 3) (m * A s 0 + u_z) = A k u_z) → Tm pmt (an_sh wX) o_X8_find 47 ([(2, s), (2, k), (0, f), (0, lo), (0, hi), (0, t), (0, m), (0, m * A s 0), (0, v_z)], [], A) z := by
  obtain ⟨⟨s0_z, sk⟩, ⟨k0_z, kk⟩⟩ := hh
  have w0_z := fX_2_0 hA s0_z sk
  have l0 := fX_2_1 hA s0_z sk
  have p0_z := fX_2_3 hA s0_z sk
  intro n_z
  induction n_z with
  | zero => intro v_z h_z; omega
  | succ n_z ih_z =>
    intro v_z hn v0_z v1_z hi2
    have hml : v_z < A s 0 → 0 ≤ m * A s 0 ∧ m * A s 0 ≤ 2388 ∧ m * A s 0 + v_z < 2400 := fun h_z => mul_lt m0 (by omega) w0_z.1 w0_z.2 v0_z h_z
    refine wq_ok srt_Xfind (fr := []) (cuts := [47, 122]) (J := fun pc st_z => (pc = 47 ∧ v_z < A s 0 ∧ A (A s 3) (m * A s 0 + v_z) = A k v_z ∧ st_z = ([(2, s), (2, k), (0, f), (0, lo), (0, hi), (0, t), (0, m), (0, m * A s 0), (0, v_z + 1)], [], A)) ∨ (pc = 122 ∧ v_z < A s 0 ∧ A k v_z < A (A s 3) (m * A s 0 + v_z) ∧ st_z = ([(2, s), (2, k), (0, f), (0, m + 1), (0, hi), (0, t), (0, m), (0, m * A s 0), (0, v_z)], [], A)) ∨ (pc = 122 ∧ v_z < A s 0 ∧ A (A s 3) (m * A s 0 + v_z) < A k v_z ∧ st_z = ([(2, s), (2, k), (0, f), (0, lo), (0, m - 1), (0, t), (0, m), (0, m * A s 0), (0, v_z)], [], A))) ?_ 50 47 _ ?_
    · rintro pc st_z (⟨rfl, h0, h1, rfl⟩ | ⟨rfl, h0, h1, rfl⟩ | ⟨rfl, h0, h1, rfl⟩)
      · refine ih_z (v_z + 1) (by omega) (by omega) (by omega) (fun u_z u0 u1_z => ?_)
        by_cases e_z : u_z = v_z
        · rw [e_z]; exact h1
        · exact hi2 u_z u0 (by omega)
      · exact H1 (xX_gt v0_z h0 w0_z.2 hi2 h1) v_z
      · exact H2 (xX_lt v0_z h0 w0_z.2 hi2 h1) v_z
    · refine ⟨oX_2 s0_z sk 0 rfl, ?_⟩
      refine ⟨fun h0 => ?_, fun h0 => ?_⟩
      · refine ⟨oX_2 s0_z sk 0 rfl, ?_⟩
        refine ⟨fun h1 => absurd (show v_z = A s 0 by omega) h1, fun h1 => ?_⟩
        exact ⟨rfl, hz (xX_eq h0 hi2)⟩
      · have hm_z := hml h0
        refine ⟨oX_2 s0_z sk 3 rfl, ?_⟩
        refine ⟨⟨by omega, by omega⟩, ?_⟩
        refine ⟨aX_15 p0_z.1 p0_z.2 (by omega) (by omega), ?_⟩
        refine ⟨aX_18 k0_z kk v0_z (by omega), ?_⟩
        refine ⟨fun h1 => ?_, fun h1 => ?_⟩
        · refine ⟨oX_2 s0_z sk 0 rfl, ?_⟩
          refine ⟨fun h2 => ?_, fun h2 => absurd h2 (by omega)⟩
          refine ⟨oX_2 s0_z sk 3 rfl, ?_⟩
          refine ⟨⟨by omega, by omega⟩, ?_⟩
          refine ⟨aX_15 p0_z.1 p0_z.2 (by omega) (by omega), ?_⟩
          refine ⟨aX_18 k0_z kk v0_z (by omega), ?_⟩
          refine ⟨fun h3 => ?_, fun h3 => ?_⟩
          · refine ⟨⟨by omega, by omega⟩, ?_⟩
            exact Or.inr (Or.inr ⟨rfl, h0, by omega, rfl⟩)
          · refine ⟨⟨by omega, by omega⟩, ?_⟩
            exact Or.inr (Or.inl ⟨rfl, h0, h3, rfl⟩)
        · refine ⟨⟨by omega, by omega⟩, ?_⟩
          exact Or.inl ⟨rfl, h0, h1, rfl⟩
theorem ush1_all : ∀ x_z : Fin 401, pp_bi 8 (x_z.1 : Int) 1 = ((x_z.1 / 2 : Nat) : Int) := by decide +kernel
theorem ush1 {x : Int} (h0 : 0 ≤ x) (h1 : x ≤ 400) : pp_bi 8 x 1 = x / 2 := by
  have := ush1_all ⟨x.toNat, by omega⟩
  simp only at this
  rw [show ((x.toNat : Nat) : Int) = x by omega] at this
  rw [this]
  omega
def fi_post (A : pm_A) (s k : Int) (r : pm_R) : Prop := r.2 = A ∧ ∃ z_z, r.1 = some (0, z_z) ∧ ((0 ≤ z_z ∧ z_z < A s 1 ∧ xeX A s z_z = xkX A (A s 0) k) ∨ ∃ lo_z, z_z = -1 - lo_z ∧ ptX A s lo_z (xkX A (A s 0) k))
theorem fi_13 {A : pm_A} {s k f : Int} (hA : gH wX A) (hh : shK s k) (hs : srX A s) : ∀ (n_z : Nat) (lo_z hi_z t_z : Int) (w6_z w7_z w8 : pm_V), (200 - t_z).toNat < n_z → 0 ≤ t_z → t_z ≤ 200 → 0 ≤ lo_z → lo_z ≤ hi_z + 1 → hi_z < A s 1 → hi_z - lo_z + 1 + t_z ≤ 200 → (∀ q_z, 0 ≤ q_z → q_z < lo_z → cr_Gt (xeX A s q_z) (xkX A (A s 0) k)) → (∀ q_z, hi_z < q_z → q_z < A s 1 → cr_Gt (xkX A (A s 0) k) (xeX A s q_z)) → Tm pmt (an_sh wX) o_X8_find 13 ([(2, s), (2, k), (0, f), (0, lo_z), (0, hi_z), (0, t_z), w6_z, w7_z, w8], [], A) (fi_post A s k) := by
  have hh0 := hh
  obtain ⟨⟨s0_z, sk⟩, ⟨k0_z, kk⟩⟩ := hh
  have w0_z := fX_2_0 hA s0_z sk
  have l0 := fX_2_1 hA s0_z sk
  intro n_z
  induction n_z with
  | zero => intro lo_z hi_z t_z w6_z w7_z w8 h_z; omega
  | succ n_z ih_z =>
    intro lo_z hi_z t_z w6_z w7_z w8 hn t0_z t1_z lo0 lh hl ht h1 h2
    have hend : hi_z < lo_z → fi_post A s k (some (0, -1 - lo_z), A) := fun h_z => ⟨rfl, -1 - lo_z, rfl, Or.inr ⟨lo_z, rfl, ⟨lo0, by omega⟩, h1, fun q_z q0 q1_z => h2 q_z (by omega) q1_z⟩⟩
    refine wq_ok srt_Xfind (fr := []) (cuts := [47]) (J := fun pc st_z => pc = 47 ∧ t_z < 200 ∧ lo_z ≤ hi_z ∧ st_z = ([(2, s), (2, k), (0, f), (0, lo_z), (0, hi_z), (0, t_z), (0, pp_bi 8 (lo_z + hi_z) 1), (0, pp_bi 8 (lo_z + hi_z) 1 * A s 0), (0, 0)], [], A)) ?_ 40 13 _ ?_
    · rintro pc st_z ⟨rfl, ht2, hlh, rfl⟩
      rw [ush1 (show 0 ≤ lo_z + hi_z by omega) (by omega)]
      have h122 : ∀ (lo' hi' : Int) (m_z v_z : Int), 0 ≤ lo' → lo' ≤ hi' + 1 → hi' < A s 1 → hi' - lo' + 1 + (t_z + 1) ≤ 200 → (∀ q_z, 0 ≤ q_z → q_z < lo' → cr_Gt (xeX A s q_z) (xkX A (A s 0) k)) → (∀ q_z, hi' < q_z → q_z < A s 1 → cr_Gt (xkX A (A s 0) k) (xeX A s q_z)) → Tm pmt (an_sh wX) o_X8_find 122 ([(2, s), (2, k), (0, f), (0, lo'), (0, hi'), (0, t_z), (0, m_z), (0, m_z * A s 0), (0, v_z)], [], A) (fi_post A s k) := fun lo' hi' m_z v_z a1_z a2 a3 a4 a5 a6 => by
        refine wq_ok srt_Xfind (fr := []) (cuts := [13]) (J := fun pc st_z => pc = 13 ∧ st_z = ([(2, s), (2, k), (0, f), (0, lo'), (0, hi'), (0, t_z + 1), (0, m_z), (0, m_z * A s 0), (0, v_z)], [], A)) ?_ 10 122 _ ?_
        · rintro pc st_z ⟨rfl, rfl⟩
          exact ih_z lo' hi' (t_z + 1) _ _ _ (by omega) (by omega) (by omega) a1_z a2 a3 a4 a5 a6
        · refine ⟨⟨by omega, by omega⟩, ?_⟩
          exact ⟨rfl, rfl⟩
      have hm_z : lo_z ≤ (lo_z + hi_z) / 2 ∧ (lo_z + hi_z) / 2 ≤ hi_z := by omega
      refine fi_47 hA hh0 (by omega) (by omega) (fun e_z => ⟨rfl, _, rfl, Or.inl ⟨by omega, by omega, e_z⟩⟩) (fun g_z v_z => h122 _ _ _ _ (by omega) (by omega) hl (by omega) (fun q_z q0 q1_z => ?_) h2) (fun g_z v_z => h122 _ _ _ _ lo0 (by omega) (by omega) (by omega) h1 (fun q_z q0 q1_z => ?_)) _ 0 (Nat.lt_succ_self _) (by omega) w0_z.1 (fun u_z u0 u1_z => by omega)
      · by_cases e_z : q_z = (lo_z + hi_z) / 2
        · rw [e_z]; exact g_z
        · exact (hs q_z _ q0 (by omega) (by omega)).trans g_z
      · by_cases e_z : q_z = (lo_z + hi_z) / 2
        · rw [e_z]; exact g_z
        · exact g_z.trans (hs _ q_z (by omega) (by omega) q1_z)
    · refine ⟨fun h0 => ?_, fun h0 => ?_⟩
      · refine ⟨⟨by omega, by omega⟩, ?_⟩
        exact ⟨rfl, hend (by omega)⟩
      · refine ⟨fun h3 => ?_, fun h3 => ?_⟩
        · refine ⟨⟨by omega, by omega⟩, ?_⟩
          exact ⟨rfl, hend (by omega)⟩
        · refine ⟨⟨by omega, by omega⟩, ?_⟩
          refine ⟨oX_2 s0_z sk 0 rfl, ?_⟩
          have e_z := ush1 (show 0 ≤ lo_z + hi_z by omega) (show lo_z + hi_z ≤ 400 by omega)
          refine ⟨?_, ?_⟩
          · show r32 (pp_bi 8 (lo_z + hi_z) 1 * A s 0)
            rw [e_z]
            have h5 := Int.mul_le_mul (show (lo_z + hi_z) / 2 ≤ 200 by omega) w0_z.2 w0_z.1 (by omega)
            have h6 := Int.mul_nonneg (show 0 ≤ (lo_z + hi_z) / 2 by omega) w0_z.1
            exact ⟨by omega, by omega⟩
          · exact ⟨rfl, by omega, by omega, rfl⟩
theorem find_ex {A : pm_A} {s k f : Int} (hA : gH wX A) (hh : shK s k) (hs : srX A s) (f0 : 0 ≤ f) (f1 : f ≤ A s 1) (hf : ∀ q_z, 0 ≤ q_z → q_z < f → cr_Gt (xeX A s q_z) (xkX A (A s 0) k)) : Cl pmt (an_sh wX) 77 [(2, s), (2, k), (0, f)] A (fi_post A s k) := by
  have hh0 := hh
  obtain ⟨⟨s0_z, sk⟩, ⟨k0_z, kk⟩⟩ := hh
  have l0 := fX_2_1 hA s0_z sk
  refine Cl.of (Nat.le_of_ble_eq_true rfl) ?_
  refine wq_ok (full := o_X8_find) srt_Xfind (fr := []) (cuts := [13]) (J := fun pc st_z => pc = 13 ∧ st_z = ([(2, s), (2, k), (0, f), (0, f), (0, A s 1 - 1), (0, 0), (9, 0), (9, 0), (9, 0)], [], A)) ?_ 20 0 _ ?_
  · rintro pc st_z ⟨rfl, rfl⟩
    exact fi_13 hA hh0 hs _ f (A s 1 - 1) 0 _ _ _ (Nat.lt_succ_self _) (by omega) (by omega) f0 (by omega) (by omega) (by omega) hf (fun q_z q0 q1_z => by omega)
  · refine ⟨oX_2 s0_z sk 1 rfl, ?_⟩
    refine ⟨⟨by omega, by omega⟩, ?_⟩
    exact ⟨rfl, rfl⟩
end

section
/-! the class's SHAREs, exactly: add -/
theorem cpy_in {A : pm_A} {a sp b dp n i : Int} (h : dp ≤ i ∧ i < dp + n) : pm_cpy A a sp b dp n b i = A a (sp + (i - dp)) := by unfold pm_cpy; rw [if_pos ⟨rfl, h⟩]
theorem cpy_out {A : pm_A} {a sp b dp n k i : Int} (h : ¬ (k = b ∧ dp ≤ i ∧ i < dp + n)) : pm_cpy A a sp b dp n k i = A k i := by unfold pm_cpy; rw [if_neg (fun q_z => h ⟨q_z.1, q_z.2.1, q_z.2.2⟩)]
def cfX (A : pm_A) (s : Int) : Prop := ∀ q_z : Int, 0 ≤ q_z → q_z < A s 1 → 1 ≤ A (A s 2) q_z ∧ A (A s 2) q_z ≤ 1000000000000
def shNP (A : pm_A) (s : Int) : Prop := (¬ s = A s 2 ∧ ¬ s = A s 3 ∧ ¬ A s 2 = A s 3) ∧ (0 ≤ A s 2 ∧ wX.2 (A s 2) = 14) ∧ (0 ≤ A s 3 ∧ wX.2 (A s 3) = 15)
theorem shNP.of {A : pm_A} {s : Int} (hA : gH wX A) (s0 : 0 ≤ s) (sk : wX.2 s = 2) : shNP A s := by
  have n0_z := fX_2_2 hA s0 sk
  have p0_z := fX_2_3 hA s0 sk
  refine ⟨⟨fun e_z => ?_, fun e_z => ?_, fun e_z => ?_⟩, n0_z, p0_z⟩
  · rw [← e_z, sk] at n0_z; exact absurd n0_z.2 (by decide)
  · rw [← e_z, sk] at p0_z; exact absurd p0_z.2 (by decide)
  · rw [e_z, p0_z.2] at n0_z; exact absurd n0_z.2 (by decide)
def i1X (A B : pm_A) (s to : Int) : Prop := gH wX B ∧ obj_eq A B ∧ only A B s ∧ (∀ q_z : Int, 0 ≤ q_z → q_z < to → B (A s 2) q_z = A (A s 2) q_z) ∧ ∀ q_z : Int, to < q_z → q_z ≤ A s 1 → B (A s 2) q_z = A (A s 2) (q_z - 1)
def i2X (A B : pm_A) (s to : Int) : Prop := i1X A B s to ∧ (∀ q_z v_z : Int, 0 ≤ q_z → q_z < to → 0 ≤ v_z → v_z < A s 0 → B (A s 3) (q_z * A s 0 + v_z) = A (A s 3) (q_z * A s 0 + v_z)) ∧ ∀ q_z v_z : Int, to < q_z → q_z ≤ A s 1 → 0 ≤ v_z → v_z < A s 0 → B (A s 3) (q_z * A s 0 + v_z) = A (A s 3) ((q_z - 1) * A s 0 + v_z)
def insX (A B : pm_A) (s c n to : Int) : Prop := gH wX B ∧ (B s 0 = A s 0 ∧ B s 1 = A s 1 + 1 ∧ B s 2 = A s 2 ∧ B s 3 = A s 3) ∧ only A B s ∧ ((∀ q_z : Int, 0 ≤ q_z → q_z < to → B (A s 2) q_z = A (A s 2) q_z) ∧ (∀ q_z : Int, to < q_z → q_z ≤ A s 1 → B (A s 2) q_z = A (A s 2) (q_z - 1)) ∧ B (A s 2) to = n) ∧ (∀ q_z v_z : Int, 0 ≤ q_z → q_z < to → 0 ≤ v_z → v_z < A s 0 → B (A s 3) (q_z * A s 0 + v_z) = A (A s 3) (q_z * A s 0 + v_z)) ∧ (∀ q_z v_z : Int, to < q_z → q_z ≤ A s 1 → 0 ≤ v_z → v_z < A s 0 → B (A s 3) (q_z * A s 0 + v_z) = A (A s 3) ((q_z - 1) * A s 0 + v_z)) ∧ ∀ v_z : Int, 0 ≤ v_z → v_z < A s 0 → B (A s 3) (to * A s 0 + v_z) = A c v_z
theorem ax_163 {A E : pm_A} {s c n f x to : Int} (hA : gH wX A) (s0 : 0 ≤ s) (sk : wX.2 s = 2) (hl : A s 1 < 200) (h : i2X A E s to) (hn : E (A s 2) to = n) (hk : ∀ v_z : Int, 0 ≤ v_z → v_z < A s 0 → E (A s 3) (to * A s 0 + v_z) = A c v_z) {z : pm_R → Prop} (H : ∀ G_z, insX A G_z s c n to → z (some (0, to), G_z)) : Tm pmt (an_sh wX) o_X8_add 163 ([(2, s), (2, c), (1, n), (9, 0), (0, f), (0, x), (0, to)], [], E) z := by
  obtain ⟨⟨e1, e2, e3, e4_z, e5⟩, e6_z, e7_z⟩ := h
  have es : (an_sh wX s).1 = 0 := by rw [shX_2 sk]
  have l0 := fX_2_1 hA s0 sk
  have f1_z : E s 1 = A s 1 := e2 s 1 es
  obtain ⟨⟨n1_z, n2_z, n3_z⟩, _, _⟩ := shNP.of hA s0 sk
  refine wq_ok srt_add (fr := []) (cuts := []) (J := fun _ _ => False) (fun _ _ h => h.elim) 20 163 _ ?_
  refine ⟨oX_2 s0 sk 1 rfl, ?_⟩
  refine ⟨⟨by omega, by omega⟩, ?_⟩
  refine ⟨oX_2 s0 sk 1 rfl, ?_⟩
  refine ⟨rfl, H _ ⟨?_, ⟨?_, ?_, ?_, ?_⟩, only_upd e3 (Or.inl rfl), ⟨fun q_z q0 q1_z => ?_, fun q_z q0 q1_z => ?_, ?_⟩, fun q_z v_z q0 q1_z v0_z v1_z => ?_, fun q_z v_z q0 q1_z v0_z v1_z => ?_, fun v_z v0_z v1_z => ?_⟩⟩
  · exact gH_upd e1 (k := (0, 8, 4, [(0, 0, 12), (0, 0, 200), (2, 14, 0), (2, 15, 0)])) (by rw [sk]; rfl) (fun _ j_z a_z hj ej => by
      have : j_z = 1 := by omega
      subst this
      cases hj
      exact ⟨rfl, by simp only; omega, by simp only; omega⟩) (fun q_z => by cases q_z)
  · rw [upd_n2 (by omega)]; exact e2 s 0 es
  · rw [upd_at, f1_z]
  · rw [upd_n2 (by omega)]; exact e2 s 2 es
  · rw [upd_n2 (by omega)]; exact e2 s 3 es
  · rw [upd_ne (fun e_z => n1_z e_z.symm)]; exact e4_z q_z q0 q1_z
  · rw [upd_ne (fun e_z => n1_z e_z.symm)]; exact e5 q_z q0 q1_z
  · rw [upd_ne (fun e_z => n1_z e_z.symm)]; exact hn
  · rw [upd_ne (fun e_z => n2_z e_z.symm)]; exact e6_z q_z v_z q0 q1_z v0_z v1_z
  · rw [upd_ne (fun e_z => n2_z e_z.symm)]; exact e7_z q_z v_z q0 q1_z v0_z v1_z
  · rw [upd_ne (fun e_z => n2_z e_z.symm)]; exact hk v_z v0_z v1_z
theorem lt_mul {q t w v : Int} (h : q < t) (w0 : 0 ≤ w) (hv : v < w) : q * w + v < t * w := by
  have := Int.mul_le_mul_of_nonneg_right (show q + 1 ≤ t by omega) w0
  rw [Int.add_mul, Int.one_mul] at this
  omega
theorem ax_143 {A C : pm_A} {s c n f x to : Int} (hA : gH wX A) (hh : shK s c) (hl : A s 1 < 200) (t0 : 0 ≤ to) (t1 : to ≤ A s 1) (h : i2X A C s to) (hn : C (A s 2) to = n) {z : pm_R → Prop} (H : ∀ G_z, insX A G_z s c n to → z (some (0, to), G_z)) : Tm pmt (an_sh wX) o_X8_add 143 ([(2, s), (2, c), (1, n), (9, 0), (0, f), (0, x), (0, to)], [], C) z := by
  obtain ⟨⟨s0_z, sk⟩, ⟨k0_z, kk⟩⟩ := hh
  have h0 := h
  obtain ⟨⟨e1, e2, e3, e4_z, e5⟩, e6_z, e7_z⟩ := h
  have es : (an_sh wX s).1 = 0 := by rw [shX_2 sk]
  have w0_z := fX_2_0 hA s0_z sk
  have f0_z : C s 0 = A s 0 := e2 s 0 es
  have f3_z : C s 3 = A s 3 := e2 s 3 es
  obtain ⟨⟨n1_z, n2_z, n3_z⟩, _, p0_z⟩ := shNP.of hA s0_z sk
  have ec := shX_18 kk
  have ep := shX_15 p0_z.2
  have hm1 : 0 ≤ to * A s 0 := Int.mul_nonneg t0 w0_z.1
  have hm2 : to * A s 0 ≤ 199 * 12 := Int.mul_le_mul (by omega) w0_z.2 w0_z.1 (by omega)
  have nc : ¬ c = A s 3 := fun e_z => by rw [e_z, p0_z.2] at kk; exact absurd kk (by decide)
  have n2c : ¬ c = A s 2 := fun e_z => by
    have := (shNP.of hA s0_z sk).2.1.2
    rw [← e_z, kk] at this
    exact absurd this (by decide)
  have nsc : ¬ c = s := fun e_z => by rw [e_z, sk] at kk; exact absurd kk (by decide)
  have hcc : ∀ v_z : Int, C c v_z = A c v_z := fun v_z => e3 c v_z nsc n2c nc
  refine wq_ok srt_add (fr := []) (cuts := [163]) (J := fun pc st_z => pc = 163 ∧ st_z = ([(2, s), (2, c), (1, n), (9, 0), (0, f), (0, x), (0, to)], [], pm_cpy C c 0 (C s 3) (to * C s 0) (C s 0))) ?_ 20 143 _ ?_
  · rintro pc st_z ⟨rfl, rfl⟩
    rw [f0_z, f3_z]
    refine ax_163 hA s0_z sk hl ⟨⟨gH_cpy e1 (ka := (1, 0, 12, [(0, -2147483648, 2147483647)])) (kb := (1, 0, 2400, [(0, -2147483648, 2147483647)])) k0_z (by rw [kk]; rfl) (by rw [p0_z.2]; rfl) rfl rfl rfl rfl rfl rfl (by omega) hm1 (by simp only; omega), obj_cpy e2 (by rw [ep]), only_cpy e3 (Or.inr (Or.inr rfl)), fun q_z q0 q1_z => ?_, fun q_z q0 q1_z => ?_⟩, fun q_z v_z q0 q1_z v0_z v1_z => ?_, fun q_z v_z q0 q1_z v0_z v1_z => ?_⟩ ?_ (fun v_z v0_z v1_z => ?_) H
    · rw [cpy_out (fun e_z => n3_z e_z.1)]; exact e4_z q_z q0 q1_z
    · rw [cpy_out (fun e_z => n3_z e_z.1)]; exact e5 q_z q0 q1_z
    · have := lt_mul q1_z w0_z.1 v1_z
      rw [cpy_out (fun e_z => by omega)]; exact e6_z q_z v_z q0 q1_z v0_z v1_z
    · have h5 := Int.mul_le_mul_of_nonneg_right (show to + 1 ≤ q_z by omega) w0_z.1
      rw [Int.add_mul, Int.one_mul] at h5
      rw [cpy_out (fun e_z => by omega)]; exact e7_z q_z v_z q0 q1_z v0_z v1_z
    · rw [cpy_out (fun e_z => n3_z e_z.1)]; exact hn
    · rw [cpy_in ⟨by omega, by omega⟩, show (0 : Int) + (to * A s 0 + v_z - to * A s 0) = v_z by omega]; exact hcc v_z
  · refine ⟨oX_2 s0_z sk 3 rfl, ?_⟩
    refine ⟨oX_2 s0_z sk 0 rfl, ?_⟩
    refine ⟨(show r32 (to * C s 0) by rw [f0_z]; exact ⟨by omega, by omega⟩), ?_⟩
    refine ⟨oX_2 s0_z sk 0 rfl, ?_⟩
    refine ⟨⟨k0_z, by rw [f3_z]; exact p0_z.1, by rw [ec], by rw [ec], by rw [f3_z, ep], by rw [f3_z, ep], by rw [f0_z]; exact w0_z.1, by rw [f0_z]; exact hm1, by omega, by rw [ec, f0_z]; simp only; omega, by rw [f3_z, ep, f0_z]; simp only; omega⟩, ?_⟩
    exact ⟨rfl, rfl⟩
theorem ax_135 {A B : pm_A} {s c n f x to : Int} (hA : gH wX A) (hh : shK s c) (hl : A s 1 < 200) (t0 : 0 ≤ to) (t1 : to ≤ A s 1) (hn64 : r64 n) (h : i2X A B s to) {z : pm_R → Prop} (H : ∀ G_z, insX A G_z s c n to → z (some (0, to), G_z)) : Tm pmt (an_sh wX) o_X8_add 135 ([(2, s), (2, c), (1, n), (9, 0), (0, f), (0, x), (0, to)], [], B) z := by
  have hh0 := hh
  obtain ⟨⟨s0_z, sk⟩, ⟨k0_z, kk⟩⟩ := hh
  obtain ⟨⟨e1, e2, e3, e4_z, e5⟩, e6_z, e7_z⟩ := h
  have es : (an_sh wX s).1 = 0 := by rw [shX_2 sk]
  have f2_z : B s 2 = A s 2 := e2 s 2 es
  obtain ⟨⟨n1_z, n2_z, n3_z⟩, m0_z, p0_z⟩ := shNP.of hA s0_z sk
  have en := shX_14 m0_z.2
  refine wq_ok srt_add (fr := []) (cuts := [143, 163]) (J := fun pc st_z => pc = 143 ∧ st_z = ([(2, s), (2, c), (1, n), (9, 0), (0, f), (0, x), (0, to)], [], pm_upd B (B s 2) to n)) ?_ 20 135 _ ?_
  · rintro pc st_z ⟨rfl, rfl⟩
    rw [f2_z]
    refine ax_143 hA hh0 hl t0 t1 ⟨⟨uX_14 e1 m0_z.2 hn64.1 hn64.2, obj_upd e2 (by rw [en]), only_upd e3 (Or.inr (Or.inl rfl)), fun q_z q0 q1_z => ?_, fun q_z q0 q1_z => ?_⟩, fun q_z v_z q0 q1_z v0_z v1_z => ?_, fun q_z v_z q0 q1_z v0_z v1_z => ?_⟩ upd_at H
    · rw [upd_n2 (by omega)]; exact e4_z q_z q0 q1_z
    · rw [upd_n2 (by omega)]; exact e5 q_z q0 q1_z
    · rw [upd_ne (fun e_z => n3_z e_z.symm)]; exact e6_z q_z v_z q0 q1_z v0_z v1_z
    · rw [upd_ne (fun e_z => n3_z e_z.symm)]; exact e7_z q_z v_z q0 q1_z v0_z v1_z
  · refine ⟨oX_2 s0_z sk 2 rfl, ?_⟩
    refine ⟨tX_14 (by rw [f2_z]; exact m0_z.1) (by rw [f2_z]; exact m0_z.2) t0 (by omega) rfl, ?_⟩
    exact ⟨rfl, rfl⟩
theorem ax_96 {A B : pm_A} {s c n f x to : Int} (hA : gH wX A) (hh : shK s c) (hl : A s 1 < 200) (t0 : 0 ≤ to) (t1 : to ≤ A s 1) (hn64 : r64 n) (h : i1X A B s to) (hp : ∀ j_z, B (A s 3) j_z = A (A s 3) j_z) {z : pm_R → Prop} (H : ∀ G_z, insX A G_z s c n to → z (some (0, to), G_z)) : Tm pmt (an_sh wX) o_X8_add 96 ([(2, s), (2, c), (1, n), (9, 0), (0, f), (0, x), (0, to)], [], B) z := by
  have hh0 := hh
  obtain ⟨⟨s0_z, sk⟩, ⟨k0_z, kk⟩⟩ := hh
  obtain ⟨e1, e2, e3, e4_z, e5⟩ := h
  have es : (an_sh wX s).1 = 0 := by rw [shX_2 sk]
  have f0_z : B s 0 = A s 0 := e2 s 0 es
  have f1_z : B s 1 = A s 1 := e2 s 1 es
  have f3_z : B s 3 = A s 3 := e2 s 3 es
  have w0_z := fX_2_0 hA s0_z sk
  obtain ⟨⟨n1_z, n2_z, n3_z⟩, _, p0_z⟩ := shNP.of hA s0_z sk
  have ep := shX_15 p0_z.2
  have m1_z : 0 ≤ to * A s 0 := Int.mul_nonneg t0 w0_z.1
  have m2_z : 0 ≤ (A s 1 - to) * A s 0 := Int.mul_nonneg (by omega) w0_z.1
  have m3_z : (to + 1) * A s 0 = to * A s 0 + A s 0 := by rw [Int.add_mul, Int.one_mul]
  have m4_z : to * A s 0 + (A s 1 - to) * A s 0 = A s 1 * A s 0 := by rw [← Int.add_mul]; congr 1; omega
  have m5_z : A s 1 * A s 0 ≤ 199 * 12 := Int.mul_le_mul (by omega) w0_z.2 w0_z.1 (by omega)
  refine wq_ok srt_add (fr := []) (cuts := [135]) (J := fun pc st_z => pc = 135 ∧ st_z = ([(2, s), (2, c), (1, n), (9, 0), (0, f), (0, x), (0, to)], [], pm_cpy B (B s 3) (to * B s 0) (B s 3) ((to + 1) * B s 0) ((B s 1 - to) * B s 0))) ?_ 30 96 _ ?_
  · rintro pc st_z ⟨rfl, rfl⟩
    rw [f0_z, f1_z, f3_z]
    refine ax_135 hA hh0 hl t0 t1 hn64 ⟨⟨gH_cpy e1 (ka := (1, 0, 2400, [(0, -2147483648, 2147483647)])) (kb := (1, 0, 2400, [(0, -2147483648, 2147483647)])) p0_z.1 (by rw [p0_z.2]; rfl) (by rw [p0_z.2]; rfl) rfl rfl rfl rfl rfl rfl m1_z (by omega) (by simp only; omega), obj_cpy e2 (by rw [ep]), only_cpy e3 (Or.inr (Or.inr rfl)), fun q_z q0 q1_z => ?_, fun q_z q0 q1_z => ?_⟩, fun q_z v_z q0 q1_z v0_z v1_z => ?_, fun q_z v_z q0 q1_z v0_z v1_z => ?_⟩ H
    · rw [cpy_out (fun e_z => n3_z e_z.1)]; exact e4_z q_z q0 q1_z
    · rw [cpy_out (fun e_z => n3_z e_z.1)]; exact e5 q_z q0 q1_z
    · have := lt_mul q1_z w0_z.1 v1_z
      rw [cpy_out (fun e_z => by omega)]; exact hp _
    · have h5 := Int.mul_le_mul_of_nonneg_right (show to + 1 ≤ q_z by omega) w0_z.1
      have h6 := lt_mul (show q_z < A s 1 + 1 by omega) w0_z.1 v1_z
      rw [Int.add_mul, Int.one_mul] at h5 h6
      have h7 : (q_z - 1) * A s 0 = q_z * A s 0 - A s 0 := by rw [Int.sub_mul, Int.one_mul]
      rw [cpy_in ⟨by omega, by omega⟩, hp, show to * A s 0 + (q_z * A s 0 + v_z - (to + 1) * A s 0) = (q_z - 1) * A s 0 + v_z by omega]
  · refine ⟨oX_2 s0_z sk 3 rfl, ?_⟩
    refine ⟨oX_2 s0_z sk 0 rfl, ?_⟩
    refine ⟨(show r32 (to * B s 0) by rw [f0_z]; exact ⟨by omega, by omega⟩), ?_⟩
    refine ⟨oX_2 s0_z sk 3 rfl, ?_⟩
    refine ⟨⟨by omega, by omega⟩, ?_⟩
    refine ⟨oX_2 s0_z sk 0 rfl, ?_⟩
    refine ⟨(show r32 ((to + 1) * B s 0) by rw [f0_z]; exact ⟨by omega, by omega⟩), ?_⟩
    refine ⟨oX_2 s0_z sk 1 rfl, ?_⟩
    refine ⟨⟨by omega, by omega⟩, ?_⟩
    refine ⟨oX_2 s0_z sk 0 rfl, ?_⟩
    refine ⟨(show r32 ((B s 1 - to) * B s 0) by rw [f0_z, f1_z]; exact ⟨by omega, by omega⟩), ?_⟩
    rw [f0_z, f1_z, f3_z]
    refine ⟨⟨p0_z.1, p0_z.1, by rw [ep], by rw [ep], by rw [ep], by rw [ep], m2_z, by omega, m1_z, by rw [ep]; simp only; omega, by rw [ep]; simp only; omega⟩, ?_⟩
    exact ⟨rfl, rfl⟩
theorem ax_66 {A : pm_A} {s c n f to : Int} {v6 : pm_V} (hA : gH wX A) (hh : shK s c) (hl : A s 1 < 200) (t0 : 0 ≤ to) (t1 : to ≤ A s 1) (hn64 : r64 n) {z : pm_R → Prop} (H : ∀ G_z, insX A G_z s c n to → z (some (0, to), G_z)) : Tm pmt (an_sh wX) o_X8_add 66 ([(2, s), (2, c), (1, n), (9, 0), (0, f), (0, -1 - to), v6], [], A) z := by
  have hh0 := hh
  obtain ⟨⟨s0_z, sk⟩, ⟨k0_z, kk⟩⟩ := hh
  obtain ⟨⟨n1_z, n2_z, n3_z⟩, m0_z, p0_z⟩ := shNP.of hA s0_z sk
  have en := shX_14 m0_z.2
  refine wq_ok srt_add (fr := []) (cuts := [96]) (J := fun pc st_z => pc = 96 ∧ st_z = ([(2, s), (2, c), (1, n), (9, 0), (0, f), (0, -1 - to), (0, -1 - (-1 - to))], [], pm_cpy A (A s 2) (-1 - (-1 - to)) (A s 2) (-1 - (-1 - to) + 1) (A s 1 - (-1 - (-1 - to))))) ?_ 30 66 _ ?_
  · rintro pc st_z ⟨rfl, rfl⟩
    rw [show -1 - (-1 - to) = to by omega]
    refine ax_96 hA hh0 hl t0 t1 hn64 ⟨gH_cpy hA (ka := (1, 1, 200, [(1, -9223372036854775808, 9223372036854775807)])) (kb := (1, 1, 200, [(1, -9223372036854775808, 9223372036854775807)])) m0_z.1 (by rw [m0_z.2]; rfl) (by rw [m0_z.2]; rfl) rfl rfl rfl rfl rfl rfl (by omega) (by omega) (by simp only; omega), obj_cpy (fun _ _ _ => rfl) (by rw [en]), only_cpy (fun _ _ _ _ _ => rfl) (Or.inr (Or.inl rfl)), fun q_z q0 q1_z => ?_, fun q_z q0 q1_z => ?_⟩ (fun j_z => ?_) H
    · exact cpy_out (fun e_z => by omega)
    · rw [cpy_in ⟨by omega, by omega⟩, show to + (q_z - (to + 1)) = q_z - 1 by omega]
    · exact cpy_out (fun e_z => n3_z e_z.1.symm)
  · refine ⟨⟨by omega, by omega⟩, ?_⟩
    refine ⟨oX_2 s0_z sk 2 rfl, ?_⟩
    refine ⟨oX_2 s0_z sk 2 rfl, ?_⟩
    refine ⟨⟨by omega, by omega⟩, ?_⟩
    refine ⟨oX_2 s0_z sk 1 rfl, ?_⟩
    refine ⟨⟨by omega, by omega⟩, ?_⟩
    refine ⟨⟨m0_z.1, m0_z.1, by rw [en], by rw [en], by rw [en], by rw [en], by omega, by omega, by omega, by rw [en]; simp only; omega, by rw [en]; simp only; omega⟩, ?_⟩
    exact ⟨rfl, rfl⟩
theorem memX {A : pm_A} {s : Int} {y : Int × cr_Xp 12} (h : y ∈ LSx A s) : ∃ q_z : Int, 0 ≤ q_z ∧ q_z < A s 1 ∧ y = (A (A s 2) q_z, xeX A s q_z) := by
  obtain ⟨q_z, hq, e_z⟩ := List.mem_map.1 h
  have := List.mem_range.1 hq
  exact ⟨q_z, by omega, by omega, e_z.symm⟩
theorem inX {A : pm_A} {s q : Int} (q0 : 0 ≤ q) (q1 : q < A s 1) : (A (A s 2) q, xeX A s q) ∈ LSx A s :=
  List.mem_map.2 ⟨q.toNat, List.mem_range.2 (by omega), by show (A (A s 2) ((q.toNat : Nat) : Int), xeX A s ((q.toNat : Nat) : Int)) = _; rw [Int.toNat_of_nonneg q0]⟩
theorem LSx_len (A : pm_A) (s : Int) : (LSx A s).length = (A s 1).toNat := by unfold LSx lsf; rw [List.length_map, List.length_range]
theorem shrX {A : pm_A} {s : Int} (h1 : srX A s) (h2 : ∀ q_z : Int, 0 ≤ q_z → q_z < A s 1 → 1 ≤ A (A s 2) q_z) : cr_Shr (LSx A s) := by
  refine ⟨?_, fun y_z hy => ?_⟩
  · unfold LSx lsf
    rw [List.pairwise_map]
    refine List.Pairwise.imp_of_mem ?_ (List.pairwise_lt_range (n := (A s 1).toNat))
    intro i_z j_z hi_z hj hij
    exact h1 i_z j_z (by omega) (by omega) (by have := List.mem_range.1 hj; omega)
  · obtain ⟨q_z, q0, q1_z, rfl⟩ := memX hy
    have := h2 q_z q0 q1_z
    show 0 < A (A s 2) q_z
    omega
abbrev aBg (A : pm_A) (s n : Int) (K : cr_Xp 12) : Prop := BigC (fun a_z => cr_co (LSx A s) a_z + si (n, K) a_z)
def axF (A B : pm_A) (s : Int) : Prop := gH wX B ∧ (B s 0 = A s 0 ∧ B s 2 = A s 2 ∧ B s 3 = A s 3) ∧ only A B s
def ax_post (A : pm_A) (s n : Int) (K : cr_Xp 12) (r : pm_R) : Prop := axF A r.2 s ∧ ((r.1 = some (0, -1) ∧ aBg A s n K) ∨ ∃ z_z, r.1 = some (0, z_z) ∧ (0 ≤ z_z ∧ z_z < r.2 s 1 ∧ xeX r.2 s z_z = K) ∧ srX r.2 s ∧ cfX r.2 s ∧ ∀ a_z, cr_co (LSx r.2 s) a_z = cr_co (LSx A s) a_z + si (n, K) a_z)
theorem insX.xe {A B : pm_A} {s c n to : Int} (h : insX A B s c n to) : (∀ q_z : Int, 0 ≤ q_z → q_z < to → xeX B s q_z = xeX A s q_z) ∧ xeX B s to = xkX A (A s 0) c ∧ ∀ q_z : Int, to < q_z → q_z ≤ A s 1 → xeX B s q_z = xeX A s (q_z - 1) := by
  obtain ⟨_, ⟨b0, b1, b2, b3⟩, _, _, h5, h6, h7⟩ := h
  refine ⟨fun q_z q0 q1_z => funext fun v_z => ?_, funext fun v_z => ?_, fun q_z q0 q1_z => funext fun v_z => ?_⟩
  · show (if (v_z.1 : Int) < B s 0 then B (B s 3) (q_z * B s 0 + (v_z.1 : Int)) else 0) = if (v_z.1 : Int) < A s 0 then A (A s 3) (q_z * A s 0 + (v_z.1 : Int)) else 0
    rw [b0, b3]
    by_cases e_z : (v_z.1 : Int) < A s 0
    · rw [if_pos e_z, if_pos e_z]; exact h5 q_z v_z.1 q0 q1_z (by omega) e_z
    · rw [if_neg e_z, if_neg e_z]
  · show (if (v_z.1 : Int) < B s 0 then B (B s 3) (to * B s 0 + (v_z.1 : Int)) else 0) = if (v_z.1 : Int) < A s 0 then A c (v_z.1 : Int) else 0
    rw [b0, b3]
    by_cases e_z : (v_z.1 : Int) < A s 0
    · rw [if_pos e_z, if_pos e_z]; exact h7 v_z.1 (by omega) e_z
    · rw [if_neg e_z, if_neg e_z]
  · show (if (v_z.1 : Int) < B s 0 then B (B s 3) (q_z * B s 0 + (v_z.1 : Int)) else 0) = if (v_z.1 : Int) < A s 0 then A (A s 3) ((q_z - 1) * A s 0 + (v_z.1 : Int)) else 0
    rw [b0, b3]
    by_cases e_z : (v_z.1 : Int) < A s 0
    · rw [if_pos e_z, if_pos e_z]; exact h6 q_z v_z.1 q0 q1_z (by omega) e_z
    · rw [if_neg e_z, if_neg e_z]
theorem ax_ins {A B : pm_A} {s c n to : Int} (l0 : 0 ≤ A s 1) (hs : srX A s) (hc : cfX A s) (hn : 1 ≤ n ∧ n ≤ 1000000000000) (hp : ptX A s to (xkX A (A s 0) c)) (h : insX A B s c n to) : ax_post A s n (xkX A (A s 0) c) (some (0, to), B) := by
  obtain ⟨x1_z, x2_z, x3⟩ := h.xe
  obtain ⟨g1, ⟨b0, b1, b2, b3⟩, g3_z, ⟨g4, g5_z, g6⟩, _⟩ := h
  obtain ⟨⟨t0_z, t1_z⟩, p1_z, p2_z⟩ := hp
  refine ⟨⟨g1, ⟨b0, b2, b3⟩, g3_z⟩, Or.inr ⟨to, rfl, ⟨t0_z, by show to < B s 1; omega, x2_z⟩, ?_, ?_, fun a_z => ?_⟩⟩
  · show srX B s
    intro q_z q' q0 hq hq'
    rw [b1] at hq'
    by_cases a1_z : q' < to
    · rw [x1_z q_z q0 (by omega), x1_z q' (by omega) a1_z]; exact hs q_z q' q0 hq (by omega)
    · by_cases a2 : q' = to
      · rw [a2, x2_z, x1_z q_z q0 (by omega)]; exact p1_z q_z q0 (by omega)
      · rw [x3 q' (by omega) (by omega)]
        by_cases c1_z : q_z < to
        · rw [x1_z q_z q0 c1_z]; exact hs q_z (q' - 1) q0 (by omega) (by omega)
        · by_cases c2_z : q_z = to
          · rw [c2_z, x2_z]; exact p2_z (q' - 1) (by omega) (by omega)
          · rw [x3 q_z (by omega) (by omega)]; exact hs (q_z - 1) (q' - 1) (by omega) (by omega) (by omega)
  · show cfX B s
    intro q_z q0 q1_z
    rw [b1] at q1_z
    rw [b2]
    by_cases a1_z : q_z < to
    · rw [g4 q_z q0 a1_z]; exact hc q_z q0 (by omega)
    · by_cases a2 : q_z = to
      · rw [a2, g6]; exact hn
      · rw [g5_z q_z (by omega) (by omega)]; exact hc (q_z - 1) (by omega) (by omega)
  · show cr_co (LSx B s) a_z = _
    unfold LSx
    rw [b1, show (A s 1 + 1).toNat = (A s 1).toNat + 1 by omega]
    refine co_insert (t := to.toNat) ?_ (fun q_z hq => ?_) a_z _ (by omega) (fun q_z q0 q1_z => ?_)
    · refine Prod.ext ?_ ?_
      · show B (B s 2) ((to.toNat : Nat) : Int) = n
        rw [Int.toNat_of_nonneg t0_z, b2]; exact g6
      · show xeX B s ((to.toNat : Nat) : Int) = _
        rw [Int.toNat_of_nonneg t0_z]; exact x2_z
    · refine Prod.ext ?_ (x1_z q_z (by omega) (by omega))
      show B (B s 2) (q_z : Int) = A (A s 2) (q_z : Int)
      rw [b2]; exact g4 q_z (by omega) (by omega)
    · refine Prod.ext ?_ ?_
      · show B (B s 2) ((q_z + 1 : Nat) : Int) = A (A s 2) (q_z : Int)
        rw [b2, g5_z _ (by omega) (by omega)]
        congr 1
        omega
      · show xeX B s ((q_z + 1 : Nat) : Int) = xeX A s (q_z : Int)
        rw [x3 _ (by omega) (by omega)]
        congr 1
        omega
theorem ax_25 {A B : pm_A} {s c n f x : Int} {v6 : pm_V} {K : cr_Xp 12} (hA : gH wX A) (s0 : 0 ≤ s) (sk : wX.2 s = 2) (hs : srX A s) (hc : cfX A s) (hn : 1 ≤ n ∧ n ≤ 1000000000000) (x0 : 0 ≤ x) (x1 : x < A s 1) (hx : xeX A s x = K) (hB : B = pm_upd A (A s 2) x (A (A s 2) x + n)) : Tm pmt (an_sh wX) o_X8_add 25 ([(2, s), (2, c), (1, n), (9, 0), (0, f), (0, x), v6], [], B) (ax_post A s n K) := by
  have l0 := fX_2_1 hA s0 sk
  obtain ⟨⟨n1_z, n2_z, n3_z⟩, m0_z, p0_z⟩ := shNP.of hA s0 sk
  have hcx := hc x x0 x1
  have hgB : gH wX B := by rw [hB]; exact uX_14 hA m0_z.2 (by omega) (by omega)
  have bf : ∀ j_z, B s j_z = A s j_z := fun j_z => by rw [hB, upd_ne n1_z]
  have bp : ∀ j_z, B (A s 3) j_z = A (A s 3) j_z := fun j_z => by rw [hB, upd_ne (fun e_z => n3_z e_z.symm)]
  have bx : ∀ q_z, xeX B s q_z = xeX A s q_z := fun q_z => funext fun v_z => by
    show (if (v_z.1 : Int) < B s 0 then B (B s 3) (q_z * B s 0 + (v_z.1 : Int)) else 0) = if (v_z.1 : Int) < A s 0 then A (A s 3) (q_z * A s 0 + (v_z.1 : Int)) else 0
    rw [bf 0, bf 3, bp]
  have bn : ∀ q_z, ¬ q_z = x → B (A s 2) q_z = A (A s 2) q_z := fun q_z hq => by rw [hB, upd_n2 hq]
  have bnx : B (A s 2) x = A (A s 2) x + n := by rw [hB, upd_at]
  have hF : axF A B s := ⟨hgB, ⟨bf 0, bf 2, bf 3⟩, by rw [hB]; exact only_upd (fun _ _ _ _ _ => rfl) (Or.inr (Or.inl rfl))⟩
  have hco : ∀ a_z, cr_co (LSx B s) a_z = cr_co (LSx A s) a_z + si (n, K) a_z := fun a_z => by
    unfold LSx
    rw [bf 1]
    refine co_merge (t := x.toNat) (fun q_z hq => ?_) ?_ ?_ a_z _ (by omega)
    · refine Prod.ext ?_ (bx q_z)
      show B (B s 2) (q_z : Int) = A (A s 2) (q_z : Int)
      rw [bf 2]; exact bn q_z (by omega)
    · show xeX A s ((x.toNat : Nat) : Int) = K
      rw [Int.toNat_of_nonneg x0]; exact hx
    · refine Prod.ext ?_ ?_
      · show B (B s 2) ((x.toNat : Nat) : Int) = A (A s 2) ((x.toNat : Nat) : Int) + n
        rw [Int.toNat_of_nonneg x0, bf 2]; exact bnx
      · show xeX B s ((x.toNat : Nat) : Int) = K
        rw [Int.toNat_of_nonneg x0, bx]; exact hx
  have hsB : srX B s := fun q_z q' q0 hq hq' => by
    rw [bf 1] at hq'
    rw [bx, bx]; exact hs q_z q' q0 hq hq'
  have hpos : ∀ q_z : Int, 0 ≤ q_z → q_z < B s 1 → 1 ≤ B (B s 2) q_z := fun q_z q0 q1_z => by
    rw [bf 1] at q1_z
    rw [bf 2]
    by_cases e_z : q_z = x
    · rw [e_z, bnx]; omega
    · rw [bn q_z e_z]; exact (hc q_z q0 q1_z).1
  refine wq_ok srt_add (fr := []) (cuts := []) (J := fun _ _ => False) (fun _ _ h_z => h_z.elim) 20 25 _ ?_
  refine ⟨oX_2 s0 sk 2 rfl, ?_⟩
  refine ⟨aX_14 (by rw [bf 2]; exact m0_z.1) (by rw [bf 2]; exact m0_z.2) x0 (by omega), ?_⟩
  have good_z : B (B s 2) x ≤ 1000000000000 → ax_post A s n K (some (0, x), B) := fun hle => ⟨hF, Or.inr ⟨x, rfl, ⟨x0, by show x < B s 1; rw [bf 1]; exact x1, (bx x).trans hx⟩, hsB, fun q_z q0 q1_z => ⟨hpos q_z q0 q1_z, by
    by_cases e_z : q_z = x
    · rw [e_z]; exact hle
    · show B (B s 2) q_z ≤ 1000000000000
      have q2_z : q_z < B s 1 := q1_z
      rw [bf 2, bn q_z e_z]; rw [bf 1] at q2_z; exact (hc q_z q0 q2_z).2⟩, hco⟩⟩
  refine ⟨fun h_z => ?_, fun h_z => ?_, fun h_z => ?_⟩
  · refine ⟨fun h0 => absurd h0 (by decide), fun h0 => ?_⟩
    refine ⟨rfl, hF, Or.inl ⟨rfl, Or.inl ⟨K, ?_⟩⟩⟩
    show 1000000000000 < cr_co (LSx A s) K + si (n, K) K
    have hin := cr_Shr.at (shrX hsB hpos) (inX (A := B) (s := s) x0 (by rw [bf 1]; exact x1))
    rw [← hco K]
    have e2 : cr_co (LSx B s) K = B (B s 2) x := by rw [← hx, ← bx x]; exact hin
    omega
  · refine ⟨fun h0 => ?_, fun h0 => absurd h0 (by decide)⟩
    exact ⟨rfl, good_z (by omega)⟩
  · refine ⟨fun h0 => ?_, fun h0 => absurd h0 (by decide)⟩
    exact ⟨rfl, good_z (by omega)⟩
theorem add_exX {A : pm_A} {s k n f : Int} (hA : gH wX A) (hh : shK s k) (hs : srX A s) (hc : cfX A s) (hn : 1 ≤ n ∧ n ≤ 1000000000000) (f0 : 0 ≤ f) (f1 : f ≤ A s 1) (hf : ∀ q_z, 0 ≤ q_z → q_z < f → cr_Gt (xeX A s q_z) (xkX A (A s 0) k)) : Cl pmt (an_sh wX) 73 [(2, s), (2, k), (1, n), (0, f)] A (ax_post A s n (xkX A (A s 0) k)) := by
  have hh0 := hh
  obtain ⟨⟨s0_z, sk⟩, ⟨k0_z, kk⟩⟩ := hh
  have l0 := fX_2_1 hA s0_z sk
  obtain ⟨⟨n1_z, n2_z, n3_z⟩, m0_z, p0_z⟩ := shNP.of hA s0_z sk
  have hself : axF A A s := ⟨hA, ⟨rfl, rfl, rfl⟩, fun _ _ _ _ _ => rfl⟩
  refine Cl.of (Nat.le_of_ble_eq_true rfl) ?_
  refine wq_ok (full := o_X8_add) srt_add (fr := []) (cuts := [9]) (J := fun pc st_z => pc = 9 ∧ ∃ x_z : Int, ((0 ≤ x_z ∧ x_z < A s 1 ∧ xeX A s x_z = xkX A (A s 0) k) ∨ ∃ lo_z, x_z = -1 - lo_z ∧ ptX A s lo_z (xkX A (A s 0) k)) ∧ st_z = ([(2, s), (2, k), (1, n), (9, 0), (0, f), (0, x_z), (9, 0)], [], A)) ?_ 20 0 _ ?_
  · rintro pc st_z ⟨rfl, x_z, hx, rfl⟩
    refine wq_ok srt_add (fr := []) (cuts := [25, 66]) (J := fun pc st_z => (pc = 25 ∧ 0 ≤ x_z ∧ st_z = ([(2, s), (2, k), (1, n), (9, 0), (0, f), (0, x_z), (9, 0)], [], pm_upd A (A s 2) x_z (A (A s 2) x_z + n))) ∨ (pc = 66 ∧ x_z < 0 ∧ A s 1 < 200 ∧ st_z = ([(2, s), (2, k), (1, n), (9, 0), (0, f), (0, x_z), (9, 0)], [], A))) ?_ 60 9 _ ?_
    · rintro pc st_z (⟨rfl, hx0, rfl⟩ | ⟨rfl, hx0, hl, rfl⟩)
      · rcases hx with ⟨a_z, b_z, c_z⟩ | ⟨lo_z, a_z, b_z⟩
        · exact ax_25 hA s0_z sk hs hc hn a_z b_z c_z rfl
        · have := b_z.1; omega
      · rcases hx with ⟨a_z, b_z, c_z⟩ | ⟨lo_z, a_z, b_z⟩
        · omega
        · rw [a_z]
          exact ax_66 hA hh0 hl b_z.1.1 b_z.1.2 ⟨by omega, by omega⟩ (fun G_z hG => ax_ins l0.1 hs hc hn b_z hG)
    · refine ⟨fun h_z => ?_, fun h_z => ?_⟩
      · refine ⟨oX_2 s0_z sk 1 rfl, ?_⟩
        refine ⟨fun h3 => ?_, fun h3 => ?_⟩
        · refine ⟨rfl, hself, Or.inl ⟨rfl, ?_⟩⟩
          rcases hx with ⟨a_z, b_z, c_z⟩ | ⟨lo_z, a_z, b_z⟩
          · omega
          · refine big_add (shrX hs (fun q_z q0 q1_z => (hc q_z q0 q1_z).1)) (by rw [LSx_len]; omega) hn.1 (fun y_z hy e_z => ?_)
            obtain ⟨q_z, q0, q1_z, rfl⟩ := memX hy
            have e_z : xeX A s q_z = xkX A (A s 0) k := e_z
            by_cases c1_z : q_z < lo_z
            · have := b_z.2.1 q_z q0 c1_z
              rw [e_z] at this
              exact cr_Gt.irrefl _ this
            · have := b_z.2.2 q_z (by omega) q1_z
              rw [e_z] at this
              exact cr_Gt.irrefl _ this
        · refine ⟨fun h4 => absurd h4 (by omega), fun h4 => ?_, fun h4 => ?_⟩
          · refine ⟨fun h0 => ?_, fun h0 => absurd h0 (by decide)⟩
            exact Or.inr ⟨rfl, h_z, h3, rfl⟩
          · refine ⟨fun h0 => ?_, fun h0 => absurd h0 (by decide)⟩
            exact Or.inr ⟨rfl, h_z, h3, rfl⟩
      · have hx1 : x_z < A s 1 := by
          rcases hx with ⟨a_z, b_z, c_z⟩ | ⟨lo_z, a_z, b_z⟩
          · exact b_z
          · have := b_z.1; omega
        have hcx := hc x_z h_z hx1
        refine ⟨oX_2 s0_z sk 2 rfl, ?_⟩
        refine ⟨aX_14 m0_z.1 m0_z.2 h_z (by omega), ?_⟩
        refine ⟨⟨by omega, by omega⟩, ?_⟩
        refine ⟨tX_14 m0_z.1 m0_z.2 h_z (by omega) rfl, ?_⟩
        exact Or.inl ⟨rfl, h_z, rfl⟩
  · refine ⟨rX_2 s0_z sk, ?_⟩
    refine (find_ex hA hh0 hs f0 f1 hf).imp ?_
    rintro ⟨r1_z, C_z⟩ ⟨q1_z, x_z, q2_z, q3_z⟩
    simp only at q1_z q2_z q3_z
    subst q1_z
    subst q2_z
    exact ⟨rfl, x_z, q3_z, rfl⟩
end

section
/-! the class's multiply, exactly -/
def dsX (A : pm_A) (p a : Int) : Prop := ¬ p = a ∧ ¬ A p 2 = A a 2 ∧ ¬ A p 3 = A a 3
def xbX (A : pm_A) (s E : Int) : Prop := ∀ q_z v_z : Int, 0 ≤ q_z → q_z < A s 1 → 0 ≤ v_z → v_z < A s 0 → - E ≤ A (A s 3) (q_z * A s 0 + v_z) ∧ A (A s 3) (q_z * A s 0 + v_z) ≤ E
def sme (A B : pm_A) (s : Int) : Prop := (∀ j_z, B s j_z = A s j_z) ∧ (∀ j_z, B (A s 2) j_z = A (A s 2) j_z) ∧ ∀ j_z, B (A s 3) j_z = A (A s 3) j_z
theorem sme.xe {A B : pm_A} {s : Int} (h : sme A B s) (q : Int) : xeX B s q = xeX A s q := funext fun v_z => by
  show (if (v_z.1 : Int) < B s 0 then B (B s 3) (q * B s 0 + (v_z.1 : Int)) else 0) = if (v_z.1 : Int) < A s 0 then A (A s 3) (q * A s 0 + (v_z.1 : Int)) else 0
  rw [h.1 0, h.1 3, h.2.2]
theorem sme.fX {A B : pm_A} {s : Int} (h : sme A B s) (q : Nat) : fX B s q = fX A s q := by
  refine Prod.ext ?_ (h.xe q)
  show B (B s 2) (q : Int) = A (A s 2) (q : Int)
  rw [h.1 2, h.2.1]
theorem sme.ls {A B : pm_A} {s : Int} (h : sme A B s) : LSx B s = LSx A s := by
  unfold LSx
  rw [h.1 1]
  exact lsf_congr (fun q_z _ => h.fX q_z)
theorem sme.sr {A B : pm_A} {s : Int} (h : sme A B s) (g : srX A s) : srX B s := fun q_z q' q0 hq hq' => by
  rw [h.1 1] at hq'
  rw [h.xe, h.xe]; exact g q_z q' q0 hq hq'
theorem sme.cf {A B : pm_A} {s : Int} (h : sme A B s) (g : cfX A s) : cfX B s := fun q_z q0 q1_z => by
  rw [h.1 1] at q1_z
  rw [h.1 2, h.2.1]; exact g q_z q0 q1_z
theorem sme.xb {A B : pm_A} {s E : Int} (h : sme A B s) (g : xbX A s E) : xbX B s E := fun q_z v_z q0 q1_z v0_z v1_z => by
  rw [h.1 1] at q1_z
  rw [h.1 0] at v1_z
  rw [h.1 0, h.1 3, h.2.2]; exact g q_z v_z q0 q1_z v0_z v1_z
theorem sme.tr {A B C : pm_A} {s : Int} (h : sme A B s) (g : sme B C s) : sme A C s :=
  ⟨fun j_z => by rw [g.1, h.1], fun j_z => by have := g.2.1 j_z; rw [h.1 2] at this; rw [this, h.2.1], fun j_z => by have := g.2.2 j_z; rw [h.1 3] at this; rw [this, h.2.2]⟩
theorem sme.rfl {A : pm_A} {s : Int} : sme A A s := ⟨fun _ => Eq.refl _, fun _ => Eq.refl _, fun _ => Eq.refl _⟩
def mxF (A B : pm_A) (q p : Int) : Prop := gH wX B ∧ (∀ r_z j_z : Int, ¬ r_z = p → ¬ r_z = A p 2 → ¬ r_z = A p 3 → ¬ r_z = A q 5 → B r_z j_z = A r_z j_z) ∧ B p 2 = A p 2 ∧ B p 3 = A p 3
theorem mxF.sm {A B : pm_A} {q p a : Int} (h : mxF A B q p) (hA : gH wX A) (qk : 0 ≤ q ∧ wX.2 q = 4) (pk : 0 ≤ p ∧ wX.2 p = 2) (ak : 0 ≤ a ∧ wX.2 a = 2) (hd : dsX A p a) : sme A B a := by
  have pn := fX_2_2 hA pk.1 pk.2
  have pp := fX_2_3 hA pk.1 pk.2
  have an := fX_2_2 hA ak.1 ak.2
  have ap := fX_2_3 hA ak.1 ak.2
  have kq := fX_4_5 hA qk.1 qk.2
  have ne : ∀ {x_z y_z : Int} {k_z l : Nat}, wX.2 x_z = k_z → wX.2 y_z = l → ¬ k_z = l → ¬ x_z = y_z := fun hx hy hkl e_z => hkl (by rw [← hx, ← hy, e_z])
  refine ⟨fun j_z => h.2.1 a j_z (fun e_z => hd.1 e_z.symm) (ne ak.2 pn.2 (by decide)) (ne ak.2 pp.2 (by decide)) (ne ak.2 kq.2 (by decide)), fun j_z => h.2.1 _ j_z (ne an.2 pk.2 (by decide)) (fun e_z => hd.2.1 e_z.symm) (ne an.2 pp.2 (by decide)) (ne an.2 kq.2 (by decide)), fun j_z => h.2.1 _ j_z (ne ap.2 pk.2 (by decide)) (ne ap.2 pn.2 (by decide)) (fun e_z => hd.2.2 e_z.symm) (ne ap.2 kq.2 (by decide))⟩
abbrev xBg (A : pm_A) (a b : Int) : Prop := BigC (cr_co (cr_pmz (LSx A a) (LSx A b)))
def mx_post (A : pm_A) (q a b p : Int) (r : pm_R) : Prop := mxF A r.2 q p ∧ ((r.1 = some (0, 0) ∧ xBg A a b) ∨ (r.1 = some (0, 1) ∧ r.2 p 0 = A a 0 ∧ srX r.2 p ∧ cfX r.2 p ∧ ∀ c_z, cr_co (LSx r.2 p) c_z = cr_co (cr_pmz (LSx A a) (LSx A b)) c_z))
def mxH (A : pm_A) (q a b p E1 E2 : Int) : Prop := gH wX A ∧ ((0 ≤ q ∧ wX.2 q = 4) ∧ (0 ≤ a ∧ wX.2 a = 2) ∧ (0 ≤ b ∧ wX.2 b = 2) ∧ (0 ≤ p ∧ wX.2 p = 2)) ∧ A a 0 = A b 0 ∧ (dsX A p a ∧ dsX A p b) ∧ (srX A a ∧ srX A b) ∧ (cfX A a ∧ cfX A b) ∧ (xbX A a E1 ∧ xbX A b E2) ∧ (0 ≤ E1 ∧ 0 ≤ E2 ∧ E1 + E2 ≤ 2147483647) ∧ 1 ≤ A a 1 ∧ 1 ≤ A b 1
theorem posX {A : pm_A} {s : Int} (h : cfX A s) : ∀ y_z ∈ LSx A s, 0 < y_z.1 := fun y_z hy => by
  obtain ⟨q_z, q0, q1_z, rfl⟩ := memX hy
  have := h q_z q0 q1_z
  show 0 < A (A s 2) q_z
  omega
theorem neX {A : pm_A} {s : Int} (h : 1 ≤ A s 1) : LSx A s ≠ [] := fun e_z => by
  have := LSx_len A s
  rw [e_z, List.length_nil] at this
  omega
theorem tmX_le {A : pm_A} {a b t u : Int} (ca : cfX A a) (cb : cfX A b) (t0 : 0 ≤ t) (t1 : t < A a 1) (u0 : 0 ≤ u) (u1 : u < A b 1) (c : cr_Xp 12) : cr_co (cr_pmz (lsf t.toNat (fX A a)) (LSx A b)) c + cr_co (cr_shz (fX A a t.toNat) (lsf (u + 1).toNat (fX A b))) c ≤ cr_co (cr_pmz (LSx A a) (LSx A b)) c := by
  have pa : ∀ q_z : Nat, (q_z : Int) < A a 1 → 0 < (fX A a q_z).1 := fun q_z hq => by
    have := ca q_z (by omega) hq
    show 0 < A (A a 2) (q_z : Int)
    omega
  have pb : ∀ q_z : Nat, (q_z : Int) < A b 1 → 0 < (fX A b q_z).1 := fun q_z hq => by
    have := cb q_z (by omega) hq
    show 0 < A (A b 2) (q_z : Int)
    omega
  have h1 := pmz_le (f := fX A a) (posX cb) c (t.toNat + 1) ((A a 1).toNat - (t.toNat + 1)) (fun q_z hq => pa q_z (by omega))
  rw [show t.toNat + 1 + ((A a 1).toNat - (t.toNat + 1)) = (A a 1).toNat by omega, lsf_succ, pmz_snoc, cr_co_app] at h1
  have h1 : cr_co (cr_pmz (lsf t.toNat (fX A a)) (LSx A b)) c + cr_co (cr_shz (fX A a t.toNat) (LSx A b)) c ≤ cr_co (cr_pmz (LSx A a) (LSx A b)) c := h1
  have h2 : cr_co (cr_shz (fX A a t.toNat) (lsf (u + 1).toNat (fX A b))) c ≤ cr_co (cr_shz (fX A a t.toNat) (LSx A b)) c := by
    rw [cr_co_shz, cr_co_shz]
    refine Int.mul_le_mul_of_nonneg_left ?_ (by have := pa t.toNat (by omega); omega)
    have h3 := lsf_le (f := fX A b) (fun i_z => c i_z - (fX A a t.toNat).2 i_z) (u + 1).toNat ((A b 1).toNat - (u + 1).toNat) (fun q_z hq => pb q_z (by omega))
    rw [show (u + 1).toNat + ((A b 1).toNat - (u + 1).toNat) = (A b 1).toNat by omega] at h3
    exact h3
  omega
theorem bigX_mul {A : pm_A} {a b t u : Int} (ca : cfX A a) (cb : cfX A b) (t0 : 0 ≤ t) (t1 : t < A a 1) (u0 : 0 ≤ u) (u1 : u < A b 1) (h : 1000000000000 < A (A a 2) t * A (A b 2) u) : xBg A a b := by
  refine Or.inl ⟨fun i_z => xeX A a t i_z + xeX A b u i_z, ?_⟩
  have h1 := co_in (pmz_in (inX t0 t1) (inX u0 u1)) (pmz_pos (posX ca) (posX cb))
  exact Int.lt_of_lt_of_le h h1
theorem srt_mult : pm_srt o_X5_multiplied = true := by decide +kernel
theorem mult_ex {A : pm_A} {x y : Int} (hx : 1 ≤ x ∧ x ≤ 1000000000000) (hy : 1 ≤ y ∧ y ≤ 1000000000000) : Cl pmt (an_sh wX) 44 [(1, x), (1, y)] A (fun r_z => r_z.2 = A ∧ ∃ z_z, r_z.1 = some (1, z_z) ∧ ((z_z = -1 ∧ 1000000000000 < x * y) ∨ (z_z = x * y ∧ 1 ≤ z_z ∧ z_z ≤ 1000000000000))) := by
  have ed : Int.tdiv 1000000000000 y = 1000000000000 / y := Int.tdiv_eq_ediv_of_nonneg (by omega)
  have hp : 1 ≤ x * y := by
    have := Int.mul_pos (show 0 < x by omega) (show 0 < y by omega)
    omega
  have big_z : 1000000000000 / y < x → 1000000000000 < x * y := fun h_z => Classical.byContradiction (fun hn => by
    have := (Int.le_ediv_iff_mul_le (show 0 < y by omega)).2 (show x * y ≤ 1000000000000 by omega)
    omega)
  have small_z : x ≤ 1000000000000 / y → x * y ≤ 1000000000000 := fun h_z => (Int.le_ediv_iff_mul_le (show 0 < y by omega)).1 h_z
  refine Cl.of (Nat.le_of_ble_eq_true rfl) ?_
  refine wq_ok (full := o_X5_multiplied) srt_mult (fr := []) (cuts := []) (J := fun _ _ => False) (fun _ _ h_z => h_z.elim) 40 0 _ ?_
  refine ⟨fun h0 => ?_, fun h0 => absurd h0 (by omega), fun h0 => absurd h0 (by omega)⟩
  refine ⟨fun hh => absurd hh (by decide), fun _ => ?_⟩
  refine ⟨⟨by omega, ⟨by omega, by omega⟩, ⟨by omega, by omega⟩, fun hh => absurd hh (by decide)⟩, ?_⟩
  refine ⟨fun h1 => ?_, fun h1 => ?_, fun h1 => ?_⟩
  · refine ⟨fun hh => absurd hh (by decide), fun _ => ?_⟩
    exact ⟨rfl, rfl, -1, rfl, Or.inl ⟨rfl, big_z (by rw [← ed]; exact h1)⟩⟩
  · refine ⟨fun _ => ?_, fun hh => absurd hh (by decide)⟩
    have hs := small_z (by rw [← ed]; exact Int.le_of_eq h1)
    refine ⟨⟨by omega, by omega⟩, ?_⟩
    exact ⟨rfl, rfl, x * y, rfl, Or.inr ⟨rfl, hp, hs⟩⟩
  · refine ⟨fun _ => ?_, fun hh => absurd hh (by decide)⟩
    have hs := small_z (by rw [← ed]; exact Int.le_of_lt h1)
    refine ⟨⟨by omega, by omega⟩, ?_⟩
    exact ⟨rfl, rfl, x * y, rfl, Or.inr ⟨rfl, hp, hs⟩⟩
def smX (A : pm_A) (a b s t : Int) : cr_Xp 12 := fun v_z => xeX A a s v_z + xeX A b t v_z
def m49 (A B : pm_A) (q a b p s t f : Int) : Prop := mxF A B q p ∧ B p 0 = A a 0 ∧ srX B p ∧ cfX B p ∧ (∀ c_z, cr_co (LSx B p) c_z = cr_co (cr_pmz (lsf s.toNat (fX A a)) (LSx A b)) c_z + cr_co (cr_shz (fX A a s.toNat) (lsf t.toNat (fX A b))) c_z) ∧ (0 ≤ f ∧ f ≤ B p 1) ∧ ∀ i_z t' : Int, 0 ≤ i_z → i_z < f → t ≤ t' → t' < A b 1 → cr_Gt (xeX B p i_z) (smX A a b s t')
theorem mx_138 {A B : pm_A} {q a b p s t f n w E1 E2 : Int} {v10 : pm_V} (hH : mxH A q a b p E1 E2) (s0 : 0 ≤ s) (s1 : s < A a 1) (t0 : 0 ≤ t) (t1 : t < A b 1) (hn : n = A (A a 2) s * A (A b 2) t) (hn1 : 1 ≤ n ∧ n ≤ 1000000000000) (h : m49 A B q a b p s t f) (hk : xkX B (B p 0) (A q 5) = smX A a b s t) (H : ∀ C_z f' v8 v9 v10, m49 A C_z q a b p s (t + 1) f' → Tm pmt (an_sh wX) o_X5_multiply 49 ([(2, q), (2, a), (2, b), (2, p), (0, w), (0, s), (0, f'), (0, t + 1), v8, v9, v10], [], C_z) (mx_post A q a b p)) : Tm pmt (an_sh wX) o_X5_multiply 138 ([(2, q), (2, a), (2, b), (2, p), (0, w), (0, s), (0, f), (0, t), (1, n), (9, 0), v10], [], B) (mx_post A q a b p) := by
  obtain ⟨hA, ⟨hq, ha_z, hb_z, hp⟩, hw, ⟨da_z, db⟩, ⟨sa_z, sb_z⟩, ⟨ca, cb⟩, ⟨xa, xb'⟩, hE, la, lb⟩ := hH
  obtain ⟨hF, hp0, hsr, hcf, hco, hf, hgt⟩ := h
  have lb2 := fX_2_1 hA hb_z.1 hb_z.2
  have kA_z := fX_4_5 hA hq.1 hq.2
  have pn := fX_2_2 hA hp.1 hp.2
  have pp := fX_2_3 hA hp.1 hp.2
  have ne : ∀ {x_z y_z : Int} {k_z l : Nat}, wX.2 x_z = k_z → wX.2 y_z = l → ¬ k_z = l → ¬ x_z = y_z := fun hx hy hkl e_z => hkl (by rw [← hx, ← hy, e_z])
  have eq5 : B q 5 = A q 5 := hF.2.1 q 5 (ne hq.2 hp.2 (by decide)) (ne hq.2 pn.2 (by decide)) (ne hq.2 pp.2 (by decide)) (ne hq.2 kA_z.2 (by decide))
  have hfit : (n, smX A a b s t) = ((fX A a s.toNat).1 * (fX A b t.toNat).1, fun i_z => (fX A a s.toNat).2 i_z + (fX A b t.toNat).2 i_z) := by
    refine Prod.ext ?_ (funext fun i_z => ?_)
    · show n = A (A a 2) ((s.toNat : Nat) : Int) * A (A b 2) ((t.toNat : Nat) : Int)
      rw [Int.toNat_of_nonneg s0, Int.toNat_of_nonneg t0]; exact hn
    · show xeX A a s i_z + xeX A b t i_z = xeX A a ((s.toNat : Nat) : Int) i_z + xeX A b ((t.toNat : Nat) : Int) i_z
      rw [Int.toNat_of_nonneg s0, Int.toNat_of_nonneg t0]
  have e2 : ∀ c_z, cr_co (LSx B p) c_z + si (n, smX A a b s t) c_z = cr_co (cr_pmz (lsf s.toNat (fX A a)) (LSx A b)) c_z + cr_co (cr_shz (fX A a s.toNat) (lsf (t + 1).toNat (fX A b))) c_z := fun c_z => by
    rw [hco c_z, show (t + 1).toNat = t.toNat + 1 by omega, lsf_succ, shz_snoc, co_snoc, hfit]; omega
  refine wq_ok srt_multiply (fr := []) (cuts := [49]) (J := fun pc st_z => pc = 49 ∧ ∃ C_z f' v8 v9 v10, m49 A C_z q a b p s (t + 1) f' ∧ st_z = ([(2, q), (2, a), (2, b), (2, p), (0, w), (0, s), (0, f'), (0, t + 1), v8, v9, v10], [], C_z)) ?_ 30 138 _ ?_
  · rintro pc st_z ⟨rfl, C_z, f', v8, v9, v10, hC, rfl⟩
    exact H C_z f' v8 v9 v10 hC
  · refine ⟨oX_4 hq.1 hq.2 5 rfl, ?_⟩
    refine ⟨rX_2 hp.1 hp.2, ?_⟩
    rw [eq5]
    refine (add_exX (s := p) (k := A q 5) (n := n) (f := f) hF.1 ⟨hp, kA_z⟩ hsr hcf hn1 hf.1 hf.2 (fun i_z i0_z i1_z => by rw [hk]; exact hgt i_z t i0_z i1_z (Int.le_refl _) t1)).imp ?_
    rintro ⟨r_z, C_z⟩ ⟨⟨g1, ⟨g2, g3_z, g4⟩, g5_z⟩, g6⟩
    simp only at g1 g2 g3_z g4 g5_z g6
    have hFC : mxF A C_z q p := ⟨g1, fun r_z j_z a1_z a2 a3 a4 => by rw [g5_z r_z j_z a1_z (by rw [hF.2.2.1]; exact a2) (by rw [hF.2.2.2]; exact a3)]; exact hF.2.1 r_z j_z a1_z a2 a3 a4, by rw [g3_z]; exact hF.2.2.1, by rw [g4]; exact hF.2.2.2⟩
    rw [hk] at g6
    rcases g6 with ⟨e_z, hbig⟩ | ⟨z_z, e_z, ⟨z0, z1, z2⟩, z3, z4, z5⟩
    · subst e_z
      refine ⟨⟨by omega, by omega⟩, ?_⟩
      refine ⟨fun h => absurd rfl h, fun h => ?_⟩
      exact ⟨rfl, hFC, Or.inl ⟨rfl, hbig.mono (fun c_z => by rw [e2 c_z]; exact tmX_le ca cb s0 s1 t0 t1 c_z)⟩⟩
    · subst e_z
      have l1 := fX_2_1 g1 hp.1 hp.2
      refine ⟨⟨by omega, by omega⟩, ?_⟩
      refine ⟨fun h => ?_, fun h => absurd h (by omega)⟩
      refine ⟨⟨by omega, by omega⟩, ?_⟩
      refine ⟨rfl, C_z, z_z + 1, _, _, _, ⟨hFC, by rw [g2]; exact hp0, z3, z4, fun c_z => by rw [z5 c_z, e2 c_z], ⟨by omega, by omega⟩, fun i_z t' i0_z i1_z u0 u1_z => ?_⟩, rfl⟩
      have hst : cr_Gt (smX A a b s t) (smX A a b s t') := gt_addl (sb_z t t' t0 (by omega) u1_z) (xeX A a s)
      by_cases e_z : i_z = z_z
      · rw [e_z, z2]; exact hst
      · have := z3 i_z z_z i0_z (by omega) z1
        rw [z2] at this
        exact this.trans hst
theorem mx_91 {A : pm_A} {q a b p s t f n w E1 E2 : Int} (hH : mxH A q a b p E1 E2) (hw : w = A a 0) (s0 : 0 ≤ s) (s1 : s < A a 1) (t0 : 0 ≤ t) (t1 : t < A b 1) (hn : n = A (A a 2) s * A (A b 2) t) (hn1 : 1 ≤ n ∧ n ≤ 1000000000000) (H : ∀ C_z f' v8 v9 v10, m49 A C_z q a b p s (t + 1) f' → Tm pmt (an_sh wX) o_X5_multiply 49 ([(2, q), (2, a), (2, b), (2, p), (0, w), (0, s), (0, f'), (0, t + 1), v8, v9, v10], [], C_z) (mx_post A q a b p)) : ∀ (m_z : Nat) (v_z : Int) (B_z : pm_A), (12 - v_z).toNat < m_z → 0 ≤ v_z → v_z ≤ w → m49 A B_z q a b p s t f → (∀ u_z : Int, 0 ≤ u_z → u_z < v_z → B_z (A q 5) u_z = A (A a 3) (s * w + u_z) + A (A b 3) (t * w + u_z)) → Tm pmt (an_sh wX) o_X5_multiply 91 ([(2, q), (2, a), (2, b), (2, p), (0, w), (0, s), (0, f), (0, t), (1, n), (9, 0), (0, v_z)], [], B_z) (mx_post A q a b p) := by
  have hH0 := hH
  obtain ⟨hA, ⟨hq, ha_z, hb_z, hp⟩, hwab, ⟨da_z, db⟩, ⟨sa_z, sb_z⟩, ⟨ca, cb⟩, ⟨xa, xb'⟩, hE, la, lb⟩ := hH
  have w0_z := fX_2_0 hA ha_z.1 ha_z.2
  have la2 := fX_2_1 hA ha_z.1 ha_z.2
  have lb2 := fX_2_1 hA hb_z.1 hb_z.2
  have kA_z := fX_4_5 hA hq.1 hq.2
  have pn := fX_2_2 hA hp.1 hp.2
  have pp := fX_2_3 hA hp.1 hp.2
  have pa := fX_2_3 hA ha_z.1 ha_z.2
  have pb := fX_2_3 hA hb_z.1 hb_z.2
  have ne : ∀ {x_z y_z : Int} {k_z l : Nat}, wX.2 x_z = k_z → wX.2 y_z = l → ¬ k_z = l → ¬ x_z = y_z := fun hx hy hkl e_z => hkl (by rw [← hx, ← hy, e_z])
  intro m_z
  induction m_z with
  | zero => intro v_z B_z h_z; omega
  | succ m_z ih_z =>
    intro v_z B_z hm_z v0_z v1_z h_z hkey
    have h0 := h_z
    obtain ⟨hF, hp0, hsr, hcf, hco, hf, hgt⟩ := h_z
    have sma := hF.sm hA hq hp ha_z da_z
    have smb := hF.sm hA hq hp hb_z db
    have eq5 : B_z q 5 = A q 5 := hF.2.1 q 5 (ne hq.2 hp.2 (by decide)) (ne hq.2 pn.2 (by decide)) (ne hq.2 pp.2 (by decide)) (ne hq.2 kA_z.2 (by decide))
    have m1_z : v_z < w → (0 ≤ s * w ∧ s * w ≤ 2388 ∧ s * w + v_z < 2400) ∧ (0 ≤ t * w ∧ t * w ≤ 2388 ∧ t * w + v_z < 2400) := fun hv => ⟨mul_lt s0 (by omega) (by omega) (by omega) v0_z hv, mul_lt t0 (by omega) (by omega) (by omega) v0_z hv⟩
    have xa1 : v_z < w → -E1 ≤ A (A a 3) (s * w + v_z) ∧ A (A a 3) (s * w + v_z) ≤ E1 := fun hv => by rw [hw]; exact xa s v_z s0 s1 v0_z (by omega)
    have xb1 : v_z < w → -E2 ≤ A (A b 3) (t * w + v_z) ∧ A (A b 3) (t * w + v_z) ≤ E2 := fun hv => by rw [hw, hwab]; exact xb' t v_z t0 t1 v0_z (by omega)
    refine wq_ok srt_multiply (fr := []) (cuts := [91, 138]) (J := fun pc st_z => (pc = 138 ∧ w ≤ v_z ∧ st_z = ([(2, q), (2, a), (2, b), (2, p), (0, w), (0, s), (0, f), (0, t), (1, n), (9, 0), (0, v_z)], [], B_z)) ∨ (pc = 91 ∧ v_z < w ∧ st_z = ([(2, q), (2, a), (2, b), (2, p), (0, w), (0, s), (0, f), (0, t), (1, n), (9, 0), (0, v_z + 1)], [], pm_upd B_z (B_z q 5) v_z (B_z (B_z a 3) (s * w + v_z) + B_z (B_z b 3) (t * w + v_z))))) ?_ 40 91 _ ?_
    · rintro pc st_z (⟨rfl, hv, rfl⟩ | ⟨rfl, hv, rfl⟩)
      · refine mx_138 hH0 s0 s1 t0 t1 hn hn1 h0 (funext fun i_z => ?_) H
        show (if (i_z.1 : Int) < B_z p 0 then B_z (A q 5) (i_z.1 : Int) else 0) = (if (i_z.1 : Int) < A a 0 then A (A a 3) (s * A a 0 + (i_z.1 : Int)) else 0) + (if (i_z.1 : Int) < A b 0 then A (A b 3) (t * A b 0 + (i_z.1 : Int)) else 0)
        rw [hp0, ← hwab, ← hw]
        by_cases e_z : (i_z.1 : Int) < w
        · rw [if_pos e_z, if_pos e_z, if_pos e_z]; exact hkey i_z.1 (by omega) (by omega)
        · rw [if_neg e_z, if_neg e_z, if_neg e_z]; rfl
      · rw [eq5, sma.1 3, smb.1 3, sma.2.2, smb.2.2]
        have x1_z := xa1 hv
        have x2_z := xb1 hv
        have nk : ∀ {x_z : Int} {k_z : Nat}, wX.2 x_z = k_z → ¬ k_z = 18 → ¬ x_z = A q 5 := fun hx hk => ne hx kA_z.2 hk
        have hsmp : sme B_z (pm_upd B_z (A q 5) v_z (A (A a 3) (s * w + v_z) + A (A b 3) (t * w + v_z))) p := ⟨fun j_z => upd_ne (nk hp.2 (by decide)), fun j_z => upd_ne (by rw [hF.2.2.1]; exact nk pn.2 (by decide)), fun j_z => upd_ne (by rw [hF.2.2.2]; exact nk pp.2 (by decide))⟩
        refine ih_z (v_z + 1) _ (by omega) (by omega) (by omega) ⟨⟨uX_18 hF.1 kA_z.2 (by omega) (by omega), fun r_z j_z a1_z a2 a3 a4 => by rw [upd_ne a4]; exact hF.2.1 r_z j_z a1_z a2 a3 a4, by rw [hsmp.1 2]; exact hF.2.2.1, by rw [hsmp.1 3]; exact hF.2.2.2⟩, by rw [hsmp.1 0]; exact hp0, hsmp.sr hsr, hsmp.cf hcf, fun c_z => by rw [hsmp.ls]; exact hco c_z, by rw [hsmp.1 1]; exact hf, fun i_z t' i0_z i1_z u0 u1_z => by rw [hsmp.xe]; exact hgt i_z t' i0_z i1_z u0 u1_z⟩ (fun u_z u0 u1_z => ?_)
        by_cases e_z : u_z = v_z
        · rw [e_z, upd_at]
        · rw [upd_n2 e_z]; exact hkey u_z u0 (by omega)
    · refine ⟨fun hv => ?_, fun hv => ?_⟩
      · exact Or.inl ⟨rfl, hv, rfl⟩
      · have mm := m1_z hv
        have x1_z := xa1 hv
        have x2_z := xb1 hv
        refine ⟨oX_4 hq.1 hq.2 5 rfl, ?_⟩
        refine ⟨oX_2 ha_z.1 ha_z.2 3 rfl, ?_⟩
        refine ⟨⟨by omega, by omega⟩, ?_⟩
        refine ⟨⟨by omega, by omega⟩, ?_⟩
        refine ⟨aX_15 (by rw [sma.1 3]; exact pa.1) (by rw [sma.1 3]; exact pa.2) (by omega) (by omega), ?_⟩
        refine ⟨oX_2 hb_z.1 hb_z.2 3 rfl, ?_⟩
        refine ⟨⟨by omega, by omega⟩, ?_⟩
        refine ⟨⟨by omega, by omega⟩, ?_⟩
        refine ⟨aX_15 (by rw [smb.1 3]; exact pb.1) (by rw [smb.1 3]; exact pb.2) (by omega) (by omega), ?_⟩
        refine ⟨(show r32 (B_z (B_z a 3) (s * w + v_z) + B_z (B_z b 3) (t * w + v_z)) by rw [sma.1 3, smb.1 3, sma.2.2, smb.2.2]; exact ⟨by omega, by omega⟩), ?_⟩
        refine ⟨tX_18 (by rw [eq5]; exact kA_z.1) (by rw [eq5]; exact kA_z.2) (by omega) (by omega) rfl, ?_⟩
        refine ⟨⟨by omega, by omega⟩, ?_⟩
        exact Or.inr ⟨rfl, hv, rfl⟩
theorem mx_49 {A : pm_A} {q a b p s w E1 E2 : Int} (hH : mxH A q a b p E1 E2) (hw : w = A a 0) (s0 : 0 ≤ s) (s1 : s < A a 1) (H : ∀ C_z f_z t_z v8 v9 v10, mxF A C_z q p → C_z p 0 = A a 0 → srX C_z p → cfX C_z p → (∀ c_z, cr_co (LSx C_z p) c_z = cr_co (cr_pmz (lsf (s + 1).toNat (fX A a)) (LSx A b)) c_z) → Tm pmt (an_sh wX) o_X5_multiply 167 ([(2, q), (2, a), (2, b), (2, p), (0, w), (0, s), (0, f_z), (0, t_z), v8, v9, v10], [], C_z) (mx_post A q a b p)) : ∀ (m_z : Nat) (t_z f_z : Int) (v8 v9 v10 : pm_V) (B_z : pm_A), (A b 1 - t_z).toNat < m_z → 0 ≤ t_z → t_z ≤ A b 1 → m49 A B_z q a b p s t_z f_z → Tm pmt (an_sh wX) o_X5_multiply 49 ([(2, q), (2, a), (2, b), (2, p), (0, w), (0, s), (0, f_z), (0, t_z), v8, v9, v10], [], B_z) (mx_post A q a b p) := by
  have hH0 := hH
  obtain ⟨hA, ⟨hq, ha_z, hb_z, hp⟩, hwab, ⟨da_z, db⟩, ⟨sa_z, sb_z⟩, ⟨ca, cb⟩, ⟨xa, xb'⟩, hE, la, lb⟩ := hH
  have w0_z := fX_2_0 hA ha_z.1 ha_z.2
  have la2 := fX_2_1 hA ha_z.1 ha_z.2
  have lb2 := fX_2_1 hA hb_z.1 hb_z.2
  have an := fX_2_2 hA ha_z.1 ha_z.2
  have bn := fX_2_2 hA hb_z.1 hb_z.2
  intro m_z
  induction m_z with
  | zero => intro t_z f_z v8 v9 v10 B_z h_z; omega
  | succ m_z ih_z =>
    intro t_z f_z v8 v9 v10 B_z hm_z t0_z t1_z h_z
    have h0 := h_z
    obtain ⟨hF, hp0, hsr, hcf, hco, hf, hgt⟩ := h_z
    have sma := hF.sm hA hq hp ha_z da_z
    have smb := hF.sm hA hq hp hb_z db
    have hca := ca s s0 s1
    refine wq_ok srt_multiply (fr := []) (cuts := [75, 167]) (J := fun pc st_z => (pc = 167 ∧ A b 1 ≤ t_z ∧ st_z = ([(2, q), (2, a), (2, b), (2, p), (0, w), (0, s), (0, f_z), (0, t_z), v8, v9, v10], [], B_z)) ∨ (pc = 75 ∧ t_z < A b 1 ∧ ∃ z_z : Int, ((z_z = -1 ∧ 1000000000000 < A (A a 2) s * A (A b 2) t_z) ∨ (z_z = A (A a 2) s * A (A b 2) t_z ∧ 1 ≤ z_z ∧ z_z ≤ 1000000000000)) ∧ st_z = ([(2, q), (2, a), (2, b), (2, p), (0, w), (0, s), (0, f_z), (0, t_z), v8, v9, v10], [(1, z_z)], B_z))) ?_ 30 49 _ ?_
    · rintro pc st_z (⟨rfl, ht, rfl⟩ | ⟨rfl, ht, z_z, hz, rfl⟩)
      · have e_z : t_z = A b 1 := by omega
        refine H B_z f_z t_z _ _ _ hF hp0 hsr hcf (fun c_z => ?_)
        rw [hco c_z, e_z, show (s + 1).toNat = s.toNat + 1 by omega, lsf_succ, pmz_snoc, cr_co_app]
        rfl
      · refine wq_ok srt_multiply (fr := []) (cuts := [91]) (J := fun pc st_z => pc = 91 ∧ (¬ z_z = -1) ∧ st_z = ([(2, q), (2, a), (2, b), (2, p), (0, w), (0, s), (0, f_z), (0, t_z), (1, z_z), (9, 0), (0, 0)], [], B_z)) ?_ 20 75 _ ?_
        · rintro pc st_z ⟨rfl, hz1, rfl⟩
          have hz2 : z_z = A (A a 2) s * A (A b 2) t_z ∧ 1 ≤ z_z ∧ z_z ≤ 1000000000000 := by
            rcases hz with h_z | h_z
            · exact absurd h_z.1 hz1
            · exact h_z
          exact mx_91 hH0 hw s0 s1 t0_z ht hz2.1 hz2.2 (fun C_z f' v8 v9 v10 hC => ih_z (t_z + 1) f' v8 v9 v10 C_z (by omega) (by omega) (by omega) hC) _ 0 B_z (Nat.lt_succ_self _) (by omega) (by omega) h0 (fun u_z u0 u1_z => by omega)
        · have hfail : z_z = -1 → mx_post A q a b p (some (0, 0), B_z) := fun e_z => ⟨hF, Or.inl ⟨rfl, by
            rcases hz with h_z | h_z
            · exact bigX_mul ca cb s0 s1 t0_z ht h_z.2
            · omega⟩⟩
          refine ⟨fun h1 => ?_, fun h1 => ?_, fun h1 => ?_⟩
          · refine ⟨fun _ => ?_, fun hh => absurd hh (by decide)⟩
            exact ⟨rfl, by omega, rfl⟩
          · refine ⟨fun hh => absurd hh (by decide), fun _ => ?_⟩
            exact ⟨rfl, hfail h1⟩
          · refine ⟨fun _ => ?_, fun hh => absurd hh (by decide)⟩
            exact ⟨rfl, by omega, rfl⟩
    · refine ⟨oX_2 hb_z.1 hb_z.2 1 rfl, ?_⟩
      refine ⟨fun h1 => ?_, fun h1 => ?_⟩
      · exact Or.inl ⟨rfl, by rw [smb.1 1] at h1; exact h1, rfl⟩
      · rw [smb.1 1] at h1
        have hcb := cb t_z t0_z h1
        refine ⟨oX_2 ha_z.1 ha_z.2 2 rfl, ?_⟩
        refine ⟨aX_14 (by rw [sma.1 2]; exact an.1) (by rw [sma.1 2]; exact an.2) s0 (by omega), ?_⟩
        refine ⟨oX_2 hb_z.1 hb_z.2 2 rfl, ?_⟩
        refine ⟨aX_14 (by rw [smb.1 2]; exact bn.1) (by rw [smb.1 2]; exact bn.2) t0_z (by omega), ?_⟩
        refine ⟨rfl, ?_⟩
        rw [sma.1 2, smb.1 2, sma.2.1, smb.2.1]
        refine (mult_ex hca hcb).imp ?_
        rintro ⟨r1_z, C_z⟩ ⟨g1, z_z, g2, g3_z⟩
        simp only at g1 g2 g3_z
        subst g1
        subst g2
        exact Or.inr ⟨rfl, h1, z_z, g3_z, rfl⟩
theorem mx_34 {A : pm_A} {q a b p w E1 E2 : Int} (hH : mxH A q a b p E1 E2) (hw : w = A a 0) : ∀ (m_z : Nat) (s_z : Int) (v6 v7 v8 v9 v10 : pm_V) (B_z : pm_A), (A a 1 - s_z).toNat < m_z → 0 ≤ s_z → s_z ≤ A a 1 → mxF A B_z q p → B_z p 0 = A a 0 → srX B_z p → cfX B_z p → (∀ c_z, cr_co (LSx B_z p) c_z = cr_co (cr_pmz (lsf s_z.toNat (fX A a)) (LSx A b)) c_z) → Tm pmt (an_sh wX) o_X5_multiply 34 ([(2, q), (2, a), (2, b), (2, p), (0, w), (0, s_z), v6, v7, v8, v9, v10], [], B_z) (mx_post A q a b p) := by
  have hH0 := hH
  obtain ⟨hA, ⟨hq, ha_z, hb_z, hp⟩, hwab, ⟨da_z, db⟩, ⟨sa_z, sb_z⟩, ⟨ca, cb⟩, ⟨xa, xb'⟩, hE, la, lb⟩ := hH
  have la2 := fX_2_1 hA ha_z.1 ha_z.2
  intro m_z
  induction m_z with
  | zero => intro s_z v6 v7 v8 v9 v10 B_z h_z; omega
  | succ m_z ih_z =>
    intro s_z v6 v7 v8 v9 v10 B_z hm_z s0_z s1_z hF hp0 hsr hcf hco
    have sma := hF.sm hA hq hp ha_z da_z
    have lp := fX_2_1 hF.1 hp.1 hp.2
    refine wq_ok srt_multiply (fr := []) (cuts := [49]) (J := fun pc st_z => pc = 49 ∧ s_z < A a 1 ∧ st_z = ([(2, q), (2, a), (2, b), (2, p), (0, w), (0, s_z), (0, 0), (0, 0), v8, v9, v10], [], B_z)) ?_ 20 34 _ ?_
    · rintro pc st_z ⟨rfl, hs, rfl⟩
      refine mx_49 hH0 hw s0_z hs (fun C_z f_z t_z v8 v9 v10 c1_z c2_z c3_z c4_z c5_z => ?_) _ 0 0 _ _ _ B_z (Nat.lt_succ_self _) (by omega) (by omega) ⟨hF, hp0, hsr, hcf, fun c_z => by rw [hco c_z]; show _ = _ + (0 : Int); omega, ⟨by omega, by omega⟩, fun i_z t' i0_z i1_z => by omega⟩
      refine wq_ok srt_multiply (fr := []) (cuts := [34]) (J := fun pc st_z => pc = 34 ∧ st_z = ([(2, q), (2, a), (2, b), (2, p), (0, w), (0, s_z + 1), (0, f_z), (0, t_z), v8, v9, v10], [], C_z)) ?_ 10 167 _ ?_
      · rintro pc st_z ⟨rfl, rfl⟩
        exact ih_z (s_z + 1) _ _ _ _ _ C_z (by omega) (by omega) (by omega) c1_z c2_z c3_z c4_z c5_z
      · refine ⟨⟨by omega, by omega⟩, ?_⟩
        exact ⟨rfl, rfl⟩
    · refine ⟨oX_2 ha_z.1 ha_z.2 1 rfl, ?_⟩
      refine ⟨fun h1 => ?_, fun h1 => ?_⟩
      · rw [sma.1 1] at h1
        have e_z : s_z = A a 1 := by omega
        rw [e_z] at hco
        exact ⟨rfl, hF, Or.inr ⟨rfl, hp0, hsr, hcf, hco⟩⟩
      · exact ⟨rfl, by rw [sma.1 1] at h1; exact h1, rfl⟩
theorem srt_clear : pm_srt o_X8_clear = true := by decide +kernel
theorem clear_exX {A : pm_A} {s w : Int} (hA : gH wX A) (s0 : 0 ≤ s) (sk : wX.2 s = 2) (w0 : 0 ≤ w) (w1 : w ≤ 12) : Cl pmt (an_sh wX) 75 [(2, s), (0, w)] A (fun r_z => r_z = (none, pm_upd (pm_upd A s 0 w) s 1 0)) := by
  refine Cl.of (Nat.le_of_ble_eq_true rfl) ?_
  refine wq_ok (full := o_X8_clear) srt_clear (fr := []) (cuts := []) (J := fun _ _ => False) (fun _ _ h_z => h_z.elim) 20 0 _ ?_
  refine ⟨oX_2 s0 sk 0 rfl, ?_⟩
  refine ⟨oX_2 s0 sk 1 rfl, ?_⟩
  rfl
theorem clr_gH {A : pm_A} {s w : Int} (hA : gH wX A) (sk : wX.2 s = 2) (w0 : 0 ≤ w) (w1 : w ≤ 12) : gH wX (pm_upd (pm_upd A s 0 w) s 1 0) := by
  have h1 : gH wX (pm_upd A s 0 w) := gH_upd hA (k := (0, 8, 4, [(0, 0, 12), (0, 0, 200), (2, 14, 0), (2, 15, 0)])) (by rw [sk]; rfl) (fun _ j_z a_z hj ej => by
    have : j_z = 0 := by omega
    subst this
    cases hj
    exact ⟨rfl, w0, w1⟩) (fun q_z => by cases q_z)
  exact gH_upd h1 (k := (0, 8, 4, [(0, 0, 12), (0, 0, 200), (2, 14, 0), (2, 15, 0)])) (by rw [sk]; rfl) (fun _ j_z a_z hj ej => by
    have : j_z = 1 := by omega
    subst this
    cases hj
    exact ⟨rfl, by simp only; omega, by simp only; omega⟩) (fun q_z => by cases q_z)
theorem multiply_exX {A : pm_A} {q a b p E1 E2 : Int} (hH : mxH A q a b p E1 E2) : Cl pmt (an_sh wX) 45 [(2, q), (2, a), (2, b), (2, p)] A (mx_post A q a b p) := by
  have hH0 := hH
  obtain ⟨hA, ⟨hq, ha_z, hb_z, hp⟩, hwab, ⟨da_z, db⟩, ⟨sa_z, sb_z⟩, ⟨ca, cb⟩, ⟨xa, xb'⟩, hE, la, lb⟩ := hH
  have w0_z := fX_2_0 hA ha_z.1 ha_z.2
  have la2 := fX_2_1 hA ha_z.1 ha_z.2
  have lb2 := fX_2_1 hA hb_z.1 hb_z.2
  obtain ⟨⟨n1_z, n2_z, n3_z⟩, _, _⟩ := shNP.of hA hp.1 hp.2
  refine Cl.of (Nat.le_of_ble_eq_true rfl) ?_
  refine wq_ok (full := o_X5_multiply) srt_multiply (fr := []) (cuts := [34]) (J := fun pc st_z => pc = 34 ∧ ∃ v6 v7 v8 v9 v10, st_z = ([(2, q), (2, a), (2, b), (2, p), (0, A a 0), (0, 0), v6, v7, v8, v9, v10], [], pm_upd (pm_upd A p 0 (A a 0)) p 1 0)) ?_ 30 0 _ ?_
  · rintro pc st_z ⟨rfl, v6, v7, v8, v9, v10, rfl⟩
    have e0_z : pm_upd (pm_upd A p 0 (A a 0)) p 1 0 p 0 = A a 0 := by rw [upd_n2 (by omega), upd_at]
    have e1 : pm_upd (pm_upd A p 0 (A a 0)) p 1 0 p 1 = 0 := upd_at
    refine mx_34 hH0 rfl _ 0 v6 v7 v8 v9 v10 _ (Nat.lt_succ_self _) (by omega) (by omega) ⟨clr_gH hA hp.2 w0_z.1 w0_z.2, fun r_z j_z a1_z a2 a3 a4 => by rw [upd_ne a1_z, upd_ne a1_z], by rw [upd_n2 (by omega), upd_n2 (by omega)], by rw [upd_n2 (by omega), upd_n2 (by omega)]⟩ e0_z (fun i_z i' i0_z i1_z i2_z => by rw [e1] at i2_z; omega) (fun i_z i0_z i1_z => by rw [e1] at i1_z; omega) (fun c_z => ?_)
    unfold LSx
    rw [e1]
    rfl
  · refine ⟨oX_2 ha_z.1 ha_z.2 1 rfl, ?_⟩
    refine ⟨oX_2 hb_z.1 hb_z.2 1 rfl, ?_⟩
    refine ⟨⟨by omega, by omega⟩, ?_⟩
    refine ⟨⟨by omega, by omega⟩, ?_⟩
    refine ⟨fun h0 => ?_, fun h0 => ?_⟩
    · refine ⟨oX_2 ha_z.1 ha_z.2 0 rfl, ?_⟩
      refine ⟨rX_2 hp.1 hp.2, ?_⟩
      refine (clear_exX hA hp.1 hp.2 w0_z.1 w0_z.2).imp ?_
      rintro r_z rfl
      exact ⟨rfl, _, _, _, _, _, rfl⟩
    · refine ⟨rfl, ⟨hA, fun _ _ _ _ _ _ => rfl, rfl, rfl⟩, Or.inl ⟨rfl, ?_⟩⟩
      exact BigC.len (shrX sa_z (fun i_z i0_z i1_z => (ca i_z i0_z i1_z).1)) (shrX sb_z (fun i_z i0_z i1_z => (cb i_z i0_z i1_z).1)) (by rw [LSx_len, LSx_len]; omega) (neX la) (neX lb)
end
