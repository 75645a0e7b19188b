/-! the reference's turnsArrows and turns: spent, exactly -/
def arO (A : pm_A) (k : Int) : Prop := ∀ i_z j_z : Int, 0 ≤ i_z → i_z < A 0 7 + A 0 8 → 0 ≤ j_z → j_z < A 0 7 → -9999 ≤ tv A k i_z j_z ∧ tv A k i_z j_z ≤ 9999
def mtq_post (A : pm_A) (k : Int) (r : pm_R) : Prop := taF A r.2 ∧ ∃ g_z, r.1 = some (0, g_z) ∧ ((g_z = 0 ∧ ¬ arO A k) ∨ (g_z = 1 ∧ arO A k)) ∧ ∀ i_z j_z : Int, 0 ≤ i_z → i_z < A 0 7 + A 0 8 → 0 ≤ j_z → j_z < A 0 7 → r.2 12 (6 * i_z + j_z) = tv A k i_z j_z
def tqI (A B : pm_A) (k g i : Int) : Prop := taF A B ∧ ((g = 0 ∧ ¬ arO A k) ∨ (g = 1 ∧ ∀ i' j_z : Int, 0 ≤ i' → i' < i → 0 ≤ j_z → j_z < A 0 7 → -9999 ≤ tv A k i' j_z ∧ tv A k i' j_z ≤ 9999)) ∧ ∀ i' j_z : Int, 0 ≤ i' → i' < i → 0 ≤ j_z → j_z < A 0 7 → B 12 (6 * i' + j_z) = tv A k i' j_z
def tqJ (A B : pm_A) (k g i u : Int) : Prop := taF A B ∧ ((g = 0 ∧ ¬ arO A k) ∨ (g = 1 ∧ (∀ i' j_z : Int, 0 ≤ i' → i' < i → 0 ≤ j_z → j_z < A 0 7 → -9999 ≤ tv A k i' j_z ∧ tv A k i' j_z ≤ 9999) ∧ ∀ j_z : Int, 0 ≤ j_z → j_z < u → -9999 ≤ tv A k i j_z ∧ tv A k i j_z ≤ 9999)) ∧ (∀ i' j_z : Int, 0 ≤ i' → i' < i → 0 ≤ j_z → j_z < A 0 7 → B 12 (6 * i' + j_z) = tv A k i' j_z) ∧ ∀ j_z : Int, 0 ≤ j_z → j_z < u → B 12 (6 * i + j_z) = tv A k i j_z
theorem tqa_122 {A B : pm_A} {k g i j v : Int} {w6 w7 : pm_V} (i0 : 0 ≤ i) (i1 : i < A 0 7 + A 0 8) (hw : A 0 7 + A 0 8 ≤ 12 ∧ A 0 7 ≤ 6) (j0 : 0 ≤ j) (j1 : j < A 0 7) (hv : v = tv A k i j) (hr : r32 v) (hJ : tqJ A B k g i j) {z : pm_R → Prop} (H : ∀ g' w5 C_z, tqJ A C_z k g' i (j + 1) → Tm pmt (an_sh wM) o_X10_turnsArrows 20 ([(2, 0), (0, k), (0, g'), (0, i), (0, j + 1), w5, w6, w7], [], C_z) z) : Tm pmt (an_sh wM) o_X10_turnsArrows 122 ([(2, 0), (0, k), (0, g), (0, i), (0, j), (0, v), w6, w7], [], B) z := by
  obtain ⟨hF, hg, h3, h4⟩ := hJ
  have c19_z := pM_19 hF.1
  have hz : g = 0 → ¬ arO A k := fun e_z => by
    rcases hg with h_z | h_z
    · exact h_z.2
    · have := h_z.1; omega
  have hbd : v < -9999 ∨ 9999 < v → ¬ arO A k := fun e_z h_z => by
    have := h_z i j i0 i1 j0 j1
    rw [← hv] at this
    omega
  have hstep_z : ∀ g', ((g' = 0 ∧ ¬ arO A k) ∨ (g' = 1 ∧ g ≠ 0 ∧ -9999 ≤ v ∧ v ≤ 9999)) → tqJ A (pm_upd B 12 (6 * i + j) v) k g' i (j + 1) := fun g' hg' => by
    refine ⟨⟨uM_12 hF.1 kn12 hr.1 hr.2, fun r_z q_z hq => by rw [upd_o (by omega)]; exact hF.2 r_z q_z hq⟩, ?_, fun i' j' a0_z a1_z b0 b1 => ?_, fun j' b0 b1 => ?_⟩
    · rcases hg' with e_z | ⟨e_z, e2, e3, e4_z⟩
      · exact Or.inl e_z
      · refine Or.inr ⟨e_z, ?_⟩
        rcases hg with h_z | ⟨h_z, h5, h6⟩
        · exact absurd h_z.1 e2
        · refine ⟨h5, fun j' b0 b1 => ?_⟩
          by_cases hj : j' = j
          · rw [hj, ← hv]; exact ⟨e3, e4_z⟩
          · exact h6 j' b0 (by omega)
    · rw [upd_o (by omega)]; exact h3 i' j' a0_z a1_z b0 b1
    · by_cases hj : j' = j
      · rw [hj, upd_at]; exact hv
      · rw [upd_o (by omega)]; exact h4 j' b0 (by omega)
  refine wq_ok srt_turnsArrows (fr := []) (cuts := [20]) (J := fun pc st_z => (pc = 20 ∧ (g = 0) ∧ st_z = ([(2, 0), (0, k), (0, 0), (0, i), (0, j + 1), (0, v), w6, w7], [], pm_upd B (B 0 19) ((6 * i) + j) v)) ∨ (pc = 20 ∧ (¬ g = 0) ∧ (v < ((-9999))) ∧ st_z = ([(2, 0), (0, k), (0, 0), (0, i), (0, j + 1), (0, v), w6, w7], [], pm_upd B (B 0 19) ((6 * i) + j) v)) ∨ (pc = 20 ∧ (¬ g = 0) ∧ (((-9999)) ≤ v) ∧ (9999 < v) ∧ st_z = ([(2, 0), (0, k), (0, 0), (0, i), (0, j + 1), (0, v), w6, w7], [], pm_upd B (B 0 19) ((6 * i) + j) v)) ∨ (pc = 20 ∧ (¬ g = 0) ∧ (((-9999)) ≤ v) ∧ (v ≤ 9999) ∧ st_z = ([(2, 0), (0, k), (0, 1), (0, i), (0, j + 1), (0, v), w6, w7], [], pm_upd B (B 0 19) ((6 * i) + j) v))) ?_ 27 122 _ ?_
  · rintro pc st_z (⟨rfl, h0, rfl⟩ | ⟨rfl, h0, h1, rfl⟩ | ⟨rfl, h0, h1, h2, rfl⟩ | ⟨rfl, h0, h1, h2, rfl⟩)
    · rw [c19_z]
      exact H _ _ _ (hstep_z _ (Or.inl ⟨rfl, hz h0⟩))
    · rw [c19_z]
      exact H _ _ _ (hstep_z _ (Or.inl ⟨rfl, hbd (by omega)⟩))
    · rw [c19_z]
      exact H _ _ _ (hstep_z _ (Or.inl ⟨rfl, hbd (by omega)⟩))
    · rw [c19_z]
      exact H _ _ _ (hstep_z _ (Or.inr ⟨rfl, h0, by omega, by omega⟩))
  · refine ⟨oM_0 (by omega) km0 19 rfl, ?_⟩
    refine ⟨⟨by omega, by omega⟩, ?_⟩
    refine ⟨⟨by omega, by omega⟩, ?_⟩
    refine ⟨tM_12 (r := B 0 19) (by rw [c19_z]; omega) (by rw [c19_z]; exact kn12) (by omega) (by omega) rfl, ?_⟩
    refine ⟨fun h0 => ?_, fun h0 => ?_⟩
    · refine ⟨⟨by omega, by omega⟩, ?_⟩
      exact Or.inl (⟨rfl, h0, rfl⟩)
    · refine ⟨fun h1 => ?_, fun h1 => ?_⟩
      · refine ⟨⟨by omega, by omega⟩, ?_⟩
        exact Or.inr (Or.inl (⟨rfl, h0, h1, rfl⟩))
      · refine ⟨fun h2 => ?_, fun h2 => ?_⟩
        · refine ⟨⟨by omega, by omega⟩, ?_⟩
          exact Or.inr (Or.inr (Or.inl (⟨rfl, h0, h1, h2, rfl⟩)))
        · refine ⟨⟨by omega, by omega⟩, ?_⟩
          exact Or.inr (Or.inr (Or.inr (⟨rfl, h0, h1, h2, rfl⟩)))
theorem tqa_20 {A : pm_A} {k i : Int} (hA : gH wM A) (hB : arB A) (k0 : 0 ≤ k) (k1 : k < A 0 7) (i0 : 0 ≤ i) (i1 : i < A 0 7 + A 0 8) {z : pm_R → Prop} (H : ∀ g_z w4_z w5 w6_z w7_z C_z, tqI A C_z k g_z (i + 1) → Tm pmt (an_sh wM) o_X10_turnsArrows 4 ([(2, 0), (0, k), (0, g_z), (0, i + 1), w4_z, w5, w6_z, w7_z], [], C_z) z) : ∀ (m_z : Nat) (g_z j_z : Int) (w5 w6_z w7_z : pm_V) (B_z : pm_A), (6 - j_z).toNat < m_z → 0 ≤ j_z → j_z ≤ A 0 7 → tqJ A B_z k g_z i j_z → Tm pmt (an_sh wM) o_X10_turnsArrows 20 ([(2, 0), (0, k), (0, g_z), (0, i), (0, j_z), w5, w6_z, w7_z], [], B_z) z := by
  have p7_z := fM_0_7 hA (r := 0) (by omega) km0
  have p8 := fM_0_8 hA (r := 0) (by omega) km0
  intro m_z
  induction m_z with
  | zero => intro g_z j_z w5 w6_z w7_z B_z h_z; omega
  | succ m_z ih_z =>
    intro g_z j_z w5 w6_z w7_z B_z hm_z j0 j1 hJ
    have hJ0 := hJ
    obtain ⟨hF, hg, h3, h4⟩ := hJ
    have c9_z := pM_9 hF.1
    have e7_z : B_z 0 7 = A 0 7 := hF.2 0 7 (by omega)
    have e5 : ∀ q_z : Int, B_z 5 q_z = A 5 q_z := fun q_z => hF.2 5 q_z (by omega)
    have a1_z : j_z < A 0 7 → -9999 ≤ A 5 (6 * i + j_z) ∧ A 5 (6 * i + j_z) ≤ 9999 := fun h_z => hB i j_z i0 i1 j0 h_z
    have a2 := hB i k i0 i1 k0 k1
    have a3 : j_z < A 0 7 → -9999 ≤ A 5 (6 * k + j_z) ∧ A 5 (6 * k + j_z) ≤ 9999 := fun h_z => hB k j_z k0 (by omega) j0 h_z
    have f1_z := e5 (6 * i + j_z)
    have f2_z := e5 (6 * i + k)
    have f3_z := e5 (6 * k + j_z)
    have hfin : ∀ v_z w6_z w7_z, j_z < A 0 7 → v_z = tv A k i j_z → r32 v_z → Tm pmt (an_sh wM) o_X10_turnsArrows 122 ([(2, 0), (0, k), (0, g_z), (0, i), (0, j_z), (0, v_z), w6_z, w7_z], [], B_z) z := fun v_z w6_z w7_z hj hv hr => tqa_122 i0 i1 ⟨by omega, by omega⟩ j0 hj hv hr hJ0 (fun g' w5 C_z hC => ih_z g' (j_z + 1) w5 w6_z w7_z C_z (by omega) (by omega) (by omega) hC)
    refine wq_ok srt_turnsArrows (fr := []) (cuts := [4, 116, 122]) (J := fun pc st_z => (pc = 4 ∧ ((B_z 0 7) ≤ j_z) ∧ st_z = ([(2, 0), (0, k), (0, g_z), (0, i + 1), (0, j_z), w5, w6_z, w7_z], [], B_z)) ∨ (pc = 122 ∧ (j_z < (B_z 0 7)) ∧ (i = k) ∧ st_z = ([(2, 0), (0, k), (0, g_z), (0, i), (0, j_z), (0, -(B_z (B_z 0 9) ((6 * i) + j_z))), (0, B_z (B_z 0 9) ((6 * i) + k)), (0, B_z (B_z 0 9) ((6 * k) + j_z))], [], B_z)) ∨ (pc = 122 ∧ (j_z < (B_z 0 7)) ∧ (¬ i = k) ∧ (¬ j_z = k) ∧ ((B_z (B_z 0 9) ((6 * i) + k)) ≤ 0) ∧ (0 ≤ (B_z (B_z 0 9) ((6 * i) + k))) ∧ st_z = ([(2, 0), (0, k), (0, g_z), (0, i), (0, j_z), (0, B_z (B_z 0 9) ((6 * i) + j_z)), (0, B_z (B_z 0 9) ((6 * i) + k)), (0, B_z (B_z 0 9) ((6 * k) + j_z))], [], B_z)) ∨ (pc = 122 ∧ (j_z < (B_z 0 7)) ∧ (¬ i = k) ∧ (¬ j_z = k) ∧ ((B_z (B_z 0 9) ((6 * i) + k)) ≤ 0) ∧ ((B_z (B_z 0 9) ((6 * i) + k)) < 0) ∧ (0 ≤ (B_z (B_z 0 9) ((6 * k) + j_z))) ∧ st_z = ([(2, 0), (0, k), (0, g_z), (0, i), (0, j_z), (0, B_z (B_z 0 9) ((6 * i) + j_z)), (0, B_z (B_z 0 9) ((6 * i) + k)), (0, B_z (B_z 0 9) ((6 * k) + j_z))], [], B_z)) ∨ (pc = 116 ∧ (j_z < (B_z 0 7)) ∧ (¬ i = k) ∧ (¬ j_z = k) ∧ ((B_z (B_z 0 9) ((6 * i) + k)) ≤ 0) ∧ ((B_z (B_z 0 9) ((6 * i) + k)) < 0) ∧ ((B_z (B_z 0 9) ((6 * k) + j_z)) < 0) ∧ st_z = ([(2, 0), (0, k), (0, g_z), (0, i), (0, j_z), (0, B_z (B_z 0 9) ((6 * i) + j_z)), (0, B_z (B_z 0 9) ((6 * i) + k)), (0, B_z (B_z 0 9) ((6 * k) + j_z))], [(0, if B_z (B_z 0 9) ((6 * i) + k) < 0 then -B_z (B_z 0 9) ((6 * i) + k) else B_z (B_z 0 9) ((6 * i) + k)), (0, B_z (B_z 0 9) ((6 * i) + j_z))], B_z)) ∨ (pc = 116 ∧ (j_z < (B_z 0 7)) ∧ (¬ i = k) ∧ (¬ j_z = k) ∧ (0 < (B_z (B_z 0 9) ((6 * i) + k))) ∧ (0 < (B_z (B_z 0 9) ((6 * k) + j_z))) ∧ st_z = ([(2, 0), (0, k), (0, g_z), (0, i), (0, j_z), (0, B_z (B_z 0 9) ((6 * i) + j_z)), (0, B_z (B_z 0 9) ((6 * i) + k)), (0, B_z (B_z 0 9) ((6 * k) + j_z))], [(0, if B_z (B_z 0 9) ((6 * i) + k) < 0 then -B_z (B_z 0 9) ((6 * i) + k) else B_z (B_z 0 9) ((6 * i) + k)), (0, B_z (B_z 0 9) ((6 * i) + j_z))], B_z)) ∨ (pc = 122 ∧ (j_z < (B_z 0 7)) ∧ (¬ i = k) ∧ (¬ j_z = k) ∧ (0 < (B_z (B_z 0 9) ((6 * i) + k))) ∧ ((B_z (B_z 0 9) ((6 * k) + j_z)) ≤ 0) ∧ (0 ≤ (B_z (B_z 0 9) ((6 * i) + k))) ∧ st_z = ([(2, 0), (0, k), (0, g_z), (0, i), (0, j_z), (0, B_z (B_z 0 9) ((6 * i) + j_z)), (0, B_z (B_z 0 9) ((6 * i) + k)), (0, B_z (B_z 0 9) ((6 * k) + j_z))], [], B_z)) ∨ (pc = 122 ∧ (j_z < (B_z 0 7)) ∧ (¬ i = k) ∧ (¬ j_z = k) ∧ (0 < (B_z (B_z 0 9) ((6 * i) + k))) ∧ ((B_z (B_z 0 9) ((6 * k) + j_z)) ≤ 0) ∧ ((B_z (B_z 0 9) ((6 * i) + k)) < 0) ∧ (0 ≤ (B_z (B_z 0 9) ((6 * k) + j_z))) ∧ st_z = ([(2, 0), (0, k), (0, g_z), (0, i), (0, j_z), (0, B_z (B_z 0 9) ((6 * i) + j_z)), (0, B_z (B_z 0 9) ((6 * i) + k)), (0, B_z (B_z 0 9) ((6 * k) + j_z))], [], B_z)) ∨ (pc = 116 ∧ (j_z < (B_z 0 7)) ∧ (¬ i = k) ∧ (¬ j_z = k) ∧ (0 < (B_z (B_z 0 9) ((6 * i) + k))) ∧ ((B_z (B_z 0 9) ((6 * k) + j_z)) ≤ 0) ∧ ((B_z (B_z 0 9) ((6 * i) + k)) < 0) ∧ ((B_z (B_z 0 9) ((6 * k) + j_z)) < 0) ∧ st_z = ([(2, 0), (0, k), (0, g_z), (0, i), (0, j_z), (0, B_z (B_z 0 9) ((6 * i) + j_z)), (0, B_z (B_z 0 9) ((6 * i) + k)), (0, B_z (B_z 0 9) ((6 * k) + j_z))], [(0, if B_z (B_z 0 9) ((6 * i) + k) < 0 then -B_z (B_z 0 9) ((6 * i) + k) else B_z (B_z 0 9) ((6 * i) + k)), (0, B_z (B_z 0 9) ((6 * i) + j_z))], B_z)) ∨ (pc = 122 ∧ (j_z < (B_z 0 7)) ∧ (¬ i = k) ∧ (j_z = k) ∧ st_z = ([(2, 0), (0, k), (0, g_z), (0, i), (0, j_z), (0, -(B_z (B_z 0 9) ((6 * i) + j_z))), (0, B_z (B_z 0 9) ((6 * i) + k)), (0, B_z (B_z 0 9) ((6 * k) + j_z))], [], B_z))) ?_ 52 20 _ ?_
    · rintro pc st_z (⟨rfl, h0, rfl⟩ | ⟨rfl, h0, h1, rfl⟩ | ⟨rfl, h0, h1, h2, h3, h4, rfl⟩ | ⟨rfl, h0, h1, h2, h3, h4, h5, rfl⟩ | ⟨rfl, h0, h1, h2, h3, h4, h5, rfl⟩ | ⟨rfl, h0, h1, h2, h3, h4, rfl⟩ | ⟨rfl, h0, h1, h2, h3, h4, h5, rfl⟩ | ⟨rfl, h0, h1, h2, h3, h4, h5, h6, rfl⟩ | ⟨rfl, h0, h1, h2, h3, h4, h5, h6, rfl⟩ | ⟨rfl, h0, h1, h2, rfl⟩)
      · rw [e7_z] at h0
        obtain ⟨t1_z, t2_z, t3_z, t4_z⟩ := hJ0
        have hj : j_z = A 0 7 := by omega
        refine H g_z _ _ _ _ B_z ⟨t1_z, ?_, fun i' j' x0_z x1_z y0 y1 => ?_⟩
        · rcases t2_z with h_z | ⟨h_z, h5, h6⟩
          · exact Or.inl h_z
          · refine Or.inr ⟨h_z, fun i' j' x0_z x1_z y0 y1 => ?_⟩
            by_cases hi_z : i' = i
            · rw [hi_z]; exact h6 j' y0 (by omega)
            · exact h5 i' j' x0_z (by omega) y0 y1
        · by_cases hi_z : i' = i
          · rw [hi_z]; exact t4_z j' y0 (by omega)
          · exact t3_z i' j' x0_z (by omega) y0 y1
      · rw [e7_z] at h0
        have b1 := a1_z h0
        have b3 := a3 h0
        rw [c9_z, f1_z]
        exact hfin _ _ _ h0 (by unfold tv; rw [if_pos (by omega)]) ⟨by omega, by omega⟩
      · rw [e7_z] at h0
        have b1 := a1_z h0
        have b3 := a3 h0
        rw [c9_z, f1_z]
        rw [c9_z] at h3
        rw [c9_z] at h4
        exact hfin _ _ _ h0 (by unfold tv; rw [if_neg (by omega), if_neg (by omega)]) ⟨by omega, by omega⟩
      · rw [e7_z] at h0
        have b1 := a1_z h0
        have b3 := a3 h0
        rw [c9_z, f1_z]
        rw [c9_z] at h3
        rw [c9_z] at h4
        rw [c9_z] at h5
        exact hfin _ _ _ h0 (by unfold tv; rw [if_neg (by omega), if_neg (by omega)]) ⟨by omega, by omega⟩
      · rw [e7_z] at h0
        have b1 := a1_z h0
        have b3 := a3 h0
        rw [c9_z, f1_z, f2_z, f3_z]
        rw [c9_z] at h3
        rw [c9_z] at h4
        rw [c9_z] at h5
        have hpos : (0 < A 5 (6 * i + k) ∧ 0 < A 5 (6 * k + j_z)) ∨ (A 5 (6 * i + k) < 0 ∧ A 5 (6 * k + j_z) < 0) := by omega
        have hq : A 5 (6 * i + j_z) + (if A 5 (6 * i + k) < 0 then - A 5 (6 * i + k) else A 5 (6 * i + k)) * A 5 (6 * k + j_z) = tv A k i j_z := by unfold tv; rw [if_neg (show ¬ (i = k ∨ j_z = k) by omega), if_pos hpos]
        have hb_z : -9999 ≤ (if A 5 (6 * i + k) < 0 then - A 5 (6 * i + k) else A 5 (6 * i + k)) ∧ (if A 5 (6 * i + k) < 0 then - A 5 (6 * i + k) else A 5 (6 * i + k)) ≤ 9999 := by split <;> omega
        have hm2 := mul_bd hb_z b3
        have hqr : r32 (A 5 (6 * i + j_z) + (if A 5 (6 * i + k) < 0 then - A 5 (6 * i + k) else A 5 (6 * i + k)) * A 5 (6 * k + j_z)) := ⟨by omega, by omega⟩
        have hj := h0
        revert hq hqr hm2 hb_z b1 b3
        generalize (if A 5 (6 * i + k) < 0 then - A 5 (6 * i + k) else A 5 (6 * i + k)) = q_z
        generalize A 5 (6 * i + j_z) = x_z
        generalize A 5 (6 * k + j_z) = w_z
        generalize A 5 (6 * i + k) = y_z
        intro b1 b3 hq hb_z hm2 hqr
        refine wq_ok srt_turnsArrows (fr := []) (cuts := [122]) (J := fun pc st_z => (pc = 122 ∧ st_z = ([(2, 0), (0, k), (0, g_z), (0, i), (0, j_z), (0, x_z + (q_z * w_z)), (0, y_z), (0, w_z)], [], B_z))) ?_ 9 116 _ ?_
        · rintro pc st_z (⟨rfl, rfl⟩)
          exact hfin _ _ _ hj hq hqr
        · refine ⟨⟨by omega, by omega⟩, ?_⟩
          refine ⟨⟨by omega, by omega⟩, ?_⟩
          exact ⟨rfl, rfl⟩
      · rw [e7_z] at h0
        have b1 := a1_z h0
        have b3 := a3 h0
        rw [c9_z, f1_z, f2_z, f3_z]
        rw [c9_z] at h3
        rw [c9_z] at h4
        have hpos : (0 < A 5 (6 * i + k) ∧ 0 < A 5 (6 * k + j_z)) ∨ (A 5 (6 * i + k) < 0 ∧ A 5 (6 * k + j_z) < 0) := by omega
        have hq : A 5 (6 * i + j_z) + (if A 5 (6 * i + k) < 0 then - A 5 (6 * i + k) else A 5 (6 * i + k)) * A 5 (6 * k + j_z) = tv A k i j_z := by unfold tv; rw [if_neg (show ¬ (i = k ∨ j_z = k) by omega), if_pos hpos]
        have hb_z : -9999 ≤ (if A 5 (6 * i + k) < 0 then - A 5 (6 * i + k) else A 5 (6 * i + k)) ∧ (if A 5 (6 * i + k) < 0 then - A 5 (6 * i + k) else A 5 (6 * i + k)) ≤ 9999 := by split <;> omega
        have hm2 := mul_bd hb_z b3
        have hqr : r32 (A 5 (6 * i + j_z) + (if A 5 (6 * i + k) < 0 then - A 5 (6 * i + k) else A 5 (6 * i + k)) * A 5 (6 * k + j_z)) := ⟨by omega, by omega⟩
        have hj := h0
        revert hq hqr hm2 hb_z b1 b3
        generalize (if A 5 (6 * i + k) < 0 then - A 5 (6 * i + k) else A 5 (6 * i + k)) = q_z
        generalize A 5 (6 * i + j_z) = x_z
        generalize A 5 (6 * k + j_z) = w_z
        generalize A 5 (6 * i + k) = y_z
        intro b1 b3 hq hb_z hm2 hqr
        refine wq_ok srt_turnsArrows (fr := []) (cuts := [122]) (J := fun pc st_z => (pc = 122 ∧ st_z = ([(2, 0), (0, k), (0, g_z), (0, i), (0, j_z), (0, x_z + (q_z * w_z)), (0, y_z), (0, w_z)], [], B_z))) ?_ 9 116 _ ?_
        · rintro pc st_z (⟨rfl, rfl⟩)
          exact hfin _ _ _ hj hq hqr
        · refine ⟨⟨by omega, by omega⟩, ?_⟩
          refine ⟨⟨by omega, by omega⟩, ?_⟩
          exact ⟨rfl, rfl⟩
      · rw [e7_z] at h0
        have b1 := a1_z h0
        have b3 := a3 h0
        rw [c9_z, f1_z]
        rw [c9_z] at h3
        rw [c9_z] at h4
        rw [c9_z] at h5
        exact hfin _ _ _ h0 (by unfold tv; rw [if_neg (by omega), if_neg (by omega)]) ⟨by omega, by omega⟩
      · rw [e7_z] at h0
        have b1 := a1_z h0
        have b3 := a3 h0
        rw [c9_z, f1_z]
        rw [c9_z] at h3
        rw [c9_z] at h4
        rw [c9_z] at h5
        rw [c9_z] at h6
        exact hfin _ _ _ h0 (by unfold tv; rw [if_neg (by omega), if_neg (by omega)]) ⟨by omega, by omega⟩
      · rw [e7_z] at h0
        have b1 := a1_z h0
        have b3 := a3 h0
        rw [c9_z, f1_z, f2_z, f3_z]
        rw [c9_z] at h3
        rw [c9_z] at h4
        rw [c9_z] at h5
        rw [c9_z] at h6
        have hpos : (0 < A 5 (6 * i + k) ∧ 0 < A 5 (6 * k + j_z)) ∨ (A 5 (6 * i + k) < 0 ∧ A 5 (6 * k + j_z) < 0) := by omega
        have hq : A 5 (6 * i + j_z) + (if A 5 (6 * i + k) < 0 then - A 5 (6 * i + k) else A 5 (6 * i + k)) * A 5 (6 * k + j_z) = tv A k i j_z := by unfold tv; rw [if_neg (show ¬ (i = k ∨ j_z = k) by omega), if_pos hpos]
        have hb_z : -9999 ≤ (if A 5 (6 * i + k) < 0 then - A 5 (6 * i + k) else A 5 (6 * i + k)) ∧ (if A 5 (6 * i + k) < 0 then - A 5 (6 * i + k) else A 5 (6 * i + k)) ≤ 9999 := by split <;> omega
        have hm2 := mul_bd hb_z b3
        have hqr : r32 (A 5 (6 * i + j_z) + (if A 5 (6 * i + k) < 0 then - A 5 (6 * i + k) else A 5 (6 * i + k)) * A 5 (6 * k + j_z)) := ⟨by omega, by omega⟩
        have hj := h0
        revert hq hqr hm2 hb_z b1 b3
        generalize (if A 5 (6 * i + k) < 0 then - A 5 (6 * i + k) else A 5 (6 * i + k)) = q_z
        generalize A 5 (6 * i + j_z) = x_z
        generalize A 5 (6 * k + j_z) = w_z
        generalize A 5 (6 * i + k) = y_z
        intro b1 b3 hq hb_z hm2 hqr
        refine wq_ok srt_turnsArrows (fr := []) (cuts := [122]) (J := fun pc st_z => (pc = 122 ∧ st_z = ([(2, 0), (0, k), (0, g_z), (0, i), (0, j_z), (0, x_z + (q_z * w_z)), (0, y_z), (0, w_z)], [], B_z))) ?_ 9 116 _ ?_
        · rintro pc st_z (⟨rfl, rfl⟩)
          exact hfin _ _ _ hj hq hqr
        · refine ⟨⟨by omega, by omega⟩, ?_⟩
          refine ⟨⟨by omega, by omega⟩, ?_⟩
          exact ⟨rfl, rfl⟩
      · rw [e7_z] at h0
        have b1 := a1_z h0
        have b3 := a3 h0
        rw [c9_z, f1_z]
        exact hfin _ _ _ h0 (by unfold tv; rw [if_pos (by omega)]) ⟨by omega, by omega⟩
    · refine ⟨oM_0 (by omega) km0 7 rfl, ?_⟩
      refine ⟨fun h0 => ?_, fun h0 => ?_⟩
      · refine ⟨⟨by omega, by omega⟩, ?_⟩
        exact Or.inl (⟨rfl, h0, rfl⟩)
      · refine ⟨oM_0 (by omega) km0 9 rfl, ?_⟩
        refine ⟨⟨by omega, by omega⟩, ?_⟩
        refine ⟨⟨by omega, by omega⟩, ?_⟩
        refine ⟨aM_5 (r := B_z 0 9) (by rw [c9_z]; omega) (by rw [c9_z]; exact kn5) (by omega) (by omega), ?_⟩
        have e1 : B_z (B_z 0 9) ((6 * i) + j_z) = B_z 5 ((6 * i) + j_z) := by rw [c9_z]
        refine ⟨oM_0 (by omega) km0 9 rfl, ?_⟩
        refine ⟨⟨by omega, by omega⟩, ?_⟩
        refine ⟨⟨by omega, by omega⟩, ?_⟩
        refine ⟨aM_5 (r := B_z 0 9) (by rw [c9_z]; omega) (by rw [c9_z]; exact kn5) (by omega) (by omega), ?_⟩
        have e2 : B_z (B_z 0 9) ((6 * i) + k) = B_z 5 ((6 * i) + k) := by rw [c9_z]
        refine ⟨oM_0 (by omega) km0 9 rfl, ?_⟩
        refine ⟨⟨by omega, by omega⟩, ?_⟩
        refine ⟨⟨by omega, by omega⟩, ?_⟩
        refine ⟨aM_5 (r := B_z 0 9) (by rw [c9_z]; omega) (by rw [c9_z]; exact kn5) (by omega) (by omega), ?_⟩
        have e3 : B_z (B_z 0 9) ((6 * k) + j_z) = B_z 5 ((6 * k) + j_z) := by rw [c9_z]
        refine ⟨fun h1 => ?_, fun h1 => ?_⟩
        · refine ⟨⟨by omega, by omega⟩, ?_⟩
          exact Or.inr (Or.inl (⟨rfl, h0, h1, rfl⟩))
        · refine ⟨fun h2 => ?_, fun h2 => ?_⟩
          · refine ⟨fun h3 => ?_, fun h3 => ?_⟩
            · refine ⟨fun h4 => ?_, fun h4 => ?_⟩
              · exact Or.inr (Or.inr (Or.inl (⟨rfl, h0, h1, h2, h3, h4, rfl⟩)))
              · refine ⟨fun h5 => ?_, fun h5 => ?_⟩
                · exact Or.inr (Or.inr (Or.inr (Or.inl (⟨rfl, h0, h1, h2, h3, h4, h5, rfl⟩))))
                · refine ⟨rfl, ?_⟩
                  refine (without_ex (a := B_z (B_z 0 9) ((6 * i) + k)) (by omega) (by omega)).imp ?_
                  rintro ⟨r1_z, C_z⟩ ⟨q1_z, q2_z⟩
                  simp only at q1_z q2_z
                  subst q1_z q2_z
                  exact Or.inr (Or.inr (Or.inr (Or.inr (Or.inl (⟨rfl, h0, h1, h2, h3, h4, h5, rfl⟩)))))
            · refine ⟨fun h4 => ?_, fun h4 => ?_⟩
              · refine ⟨rfl, ?_⟩
                refine (without_ex (a := B_z (B_z 0 9) ((6 * i) + k)) (by omega) (by omega)).imp ?_
                rintro ⟨r1_z, C_z⟩ ⟨q1_z, q2_z⟩
                simp only at q1_z q2_z
                subst q1_z q2_z
                exact Or.inr (Or.inr (Or.inr (Or.inr (Or.inr (Or.inl (⟨rfl, h0, h1, h2, h3, h4, rfl⟩))))))
              · refine ⟨fun h5 => ?_, fun h5 => ?_⟩
                · exact Or.inr (Or.inr (Or.inr (Or.inr (Or.inr (Or.inr (Or.inl (⟨rfl, h0, h1, h2, h3, h4, h5, rfl⟩)))))))
                · refine ⟨fun h6 => ?_, fun h6 => ?_⟩
                  · exact Or.inr (Or.inr (Or.inr (Or.inr (Or.inr (Or.inr (Or.inr (Or.inl (⟨rfl, h0, h1, h2, h3, h4, h5, h6, rfl⟩))))))))
                  · refine ⟨rfl, ?_⟩
                    refine (without_ex (a := B_z (B_z 0 9) ((6 * i) + k)) (by omega) (by omega)).imp ?_
                    rintro ⟨r1_z, C_z⟩ ⟨q1_z, q2_z⟩
                    simp only at q1_z q2_z
                    subst q1_z q2_z
                    exact Or.inr (Or.inr (Or.inr (Or.inr (Or.inr (Or.inr (Or.inr (Or.inr (Or.inl (⟨rfl, h0, h1, h2, h3, h4, h5, h6, rfl⟩)))))))))
          · refine ⟨⟨by omega, by omega⟩, ?_⟩
            exact Or.inr (Or.inr (Or.inr (Or.inr (Or.inr (Or.inr (Or.inr (Or.inr (Or.inr (⟨rfl, h0, h1, h2, rfl⟩)))))))))
theorem tqa_4 {A : pm_A} {k : Int} (hA : gH wM A) (hB : arB A) (k0 : 0 ≤ k) (k1 : k < A 0 7) : ∀ (m_z : Nat) (g_z i_z : Int) (w4_z w5 w6_z w7_z : pm_V) (B_z : pm_A), (12 - i_z).toNat < m_z → 0 ≤ i_z → i_z ≤ A 0 7 + A 0 8 → tqI A B_z k g_z i_z → Tm pmt (an_sh wM) o_X10_turnsArrows 4 ([(2, 0), (0, k), (0, g_z), (0, i_z), w4_z, w5, w6_z, w7_z], [], B_z) (mtq_post A k) := by
  have p7_z := fM_0_7 hA (r := 0) (by omega) km0
  have p8 := fM_0_8 hA (r := 0) (by omega) km0
  intro m_z
  induction m_z with
  | zero => intro g_z i_z w4_z w5 w6_z w7_z B_z h_z; omega
  | succ m_z ih_z =>
    intro g_z i_z w4_z w5 w6_z w7_z B_z hm_z i0_z i1_z hI
    obtain ⟨hF, hg, h3⟩ := hI
    have e7_z : B_z 0 7 = A 0 7 := hF.2 0 7 (by omega)
    have e8 : B_z 0 8 = A 0 8 := hF.2 0 8 (by omega)
    have hend : A 0 7 + A 0 8 ≤ i_z → mtq_post A k (some (0, g_z), B_z) := fun h_z => ⟨hF, g_z, rfl, by
      rcases hg with h2 | ⟨h2, h5⟩
      · exact Or.inl h2
      · exact Or.inr ⟨h2, fun i' j_z x0_z x1_z y0 y1 => h5 i' j_z x0_z (by omega) y0 y1⟩, fun i' j_z x0_z x1_z y0 y1 => h3 i' j_z x0_z (by omega) y0 y1⟩
    refine wq_ok srt_turnsArrows (fr := []) (cuts := [20]) (J := fun pc st_z => (pc = 20 ∧ (i_z < ((B_z 0 7) + (B_z 0 8))) ∧ st_z = ([(2, 0), (0, k), (0, g_z), (0, i_z), (0, 0), w5, w6_z, w7_z], [], B_z))) ?_ 14 4 _ ?_
    · rintro pc st_z (⟨rfl, h0, rfl⟩)
      rw [e7_z, e8] at h0
      refine tqa_20 hA hB k0 k1 i0_z h0 (fun g_z w4_z w5 w6_z w7_z C_z hC => ih_z g_z (i_z + 1) w4_z w5 w6_z w7_z C_z (by omega) (by omega) (by omega) hC) _ g_z 0 _ _ _ B_z (Nat.lt_succ_self _) (by omega) (by omega) ⟨hF, ?_, h3, fun j_z y0 y1 => by omega⟩
      rcases hg with h2 | ⟨h2, h5⟩
      · exact Or.inl h2
      · exact Or.inr ⟨h2, h5, fun j_z y0 y1 => by omega⟩
    · refine ⟨oM_0 (by omega) km0 7 rfl, ?_⟩
      refine ⟨oM_0 (by omega) km0 8 rfl, ?_⟩
      refine ⟨⟨by omega, by omega⟩, ?_⟩
      refine ⟨fun h0 => ?_, fun h0 => ?_⟩
      · exact ⟨okt2 (by rcases hg with h_z | h_z; exact Or.inl h_z.1; exact Or.inr h_z.1), hend (by rw [e7_z, e8] at h0; exact h0)⟩
      · exact ⟨rfl, h0, rfl⟩
theorem turnsArrows_exq {A : pm_A} {k : Int} (hA : gH wM A) (hB : arB A) (k0 : 0 ≤ k) (k1 : k < A 0 7) : Cl pmt (an_sh wM) 201 [(2, 0), (0, k)] A (mtq_post A k) := by
  have p7_z := fM_0_7 hA (r := 0) (by omega) km0
  have p8 := fM_0_8 hA (r := 0) (by omega) km0
  refine Cl.of (Nat.le_of_ble_eq_true rfl) ?_
  refine wq_ok (full := o_X10_turnsArrows) srt_turnsArrows (fr := []) (cuts := [4]) (J := fun pc st_z => (pc = 4 ∧ st_z = ([(2, 0), (0, k), (0, 1), (0, 0), (9, 0), (9, 0), (9, 0), (9, 0)], [], A))) ?_ 9 0 _ ?_
  · rintro pc st_z (⟨rfl, rfl⟩)
    exact tqa_4 hA hB k0 k1 _ 1 0 _ _ _ _ A (Nat.lt_succ_self _) (by omega) (by omega) ⟨⟨hA, fun _ _ _ => rfl⟩, Or.inr ⟨rfl, fun i' j_z x0_z x1_z y0 y1 => by omega⟩, fun i' j_z x0_z x1_z y0 y1 => by omega⟩
  · exact ⟨rfl, rfl⟩
abbrev sBg (C0 : pm_A) : Prop := BigV (fun x_z => VS C0 44 x_z + VS C0 43 x_z)
def a47q (C0 B : pm_A) (t : Int) : Prop := tmF C0 B 44 ∧ ((B 0 4 = 1 ∧ sBg C0) ∨ (B 0 4 = 0 ∧ srtd B 44 ∧ cfs B 44 ∧ ∀ c_z, cr_co (LSm B 44) c_z = cr_co (LSm C0 44) c_z + cr_co (lsf t.toNat (fa C0 43)) c_z))
theorem sb_of {C0 : pm_A} (h44 : cfs C0 44) (h43 : cfs C0 43) {f : cr_Xp 12 → Int} (h : BigC f) (hf : ∀ c_z, f c_z ≤ cr_co (LSm C0 44) c_z + cr_co (LSm C0 43) c_z) : sBg C0 := by
  refine ⟨LSm C0 44 ++ LSm C0 43, fun y_z hy => ?_, fun x_z => cr_vl_app _ _ _, h.mono (fun a_z => by rw [cr_co_app]; exact hf a_z)⟩
  rcases List.mem_append.1 hy with q_z | q_z
  · exact pos_LSm h44 y_z q_z
  · exact pos_LSm h43 y_z q_z
theorem tuq_81 {C0 : pm_A} {k t : Int} (hc : cfs C0 43) (hc44 : cfs C0 44) (hC0 : gH wM C0) (t0 : 0 ≤ t) (t1 : t < C0 1 43) {z : pm_R → Prop} (H : ∀ C_z w3_z, a47q C0 C_z (t + 1) → Tm pmt (an_sh wM) o_X10_turns 47 ([(2, 0), (0, k), (0, t + 1), w3_z], [], C_z) z) : ∀ (m_z : Nat) (v_z : Int) (B_z : pm_A), (12 - v_z).toNat < m_z → 0 ≤ v_z → v_z ≤ 12 → tmF C0 B_z 44 → B_z 0 4 = 0 → srtd B_z 44 → cfs B_z 44 → (∀ c_z, cr_co (LSm B_z 44) c_z = cr_co (LSm C0 44) c_z + cr_co (lsf t.toNat (fa C0 43)) c_z) → B_z 0 5 = C0 2 (8600 + t) → (∀ i_z : Int, 0 ≤ i_z → i_z < v_z → B_z 4 i_z = C0 3 (12 * (8600 + t) + i_z)) → Tm pmt (an_sh wM) o_X10_turns 81 ([(2, 0), (0, k), (0, t), (0, v_z)], [], B_z) z := by
  have m43 := eM_1 hC0 (r := 1) (by omega) kn1 (j := 43) (by omega) (by omega)
  have ct := hc t t0 t1
  rw [show 200 * 43 + t = 8600 + t by omega] at ct
  intro m_z
  induction m_z with
  | zero => intro v_z B_z h_z; omega
  | succ m_z ih_z =>
    intro v_z B_z hm_z v0_z v1_z hF h4 hs hcf hG h5 hp
    have c3_z := pM_3 hF.1
    have c6_z := pM_6 hF.1
    have e3 : v_z < 12 → B_z 3 (12 * (8600 + t) + v_z) = C0 3 (12 * (8600 + t) + v_z) := fun h_z => hF.2 3 _ (by unfold inS; omega) (by omega) (by omega)
    refine wq_ok srt_turns (fr := []) (cuts := [81, 120]) (J := fun pc st_z => (pc = 120 ∧ 12 ≤ v_z ∧ ∃ C_z, adF B_z C_z 44 ∧ ((C_z 0 4 = 1 ∧ BigC (fun a_z => cr_co (LSm B_z 44) a_z + si (B_z 0 5, xp B_z) a_z)) ∨ (C_z 0 4 = 0 ∧ srtd C_z 44 ∧ cfs C_z 44 ∧ ∀ c_z, cr_co (LSm C_z 44) c_z = cr_co (LSm B_z 44) c_z + si (B_z 0 5, xp B_z) c_z)) ∧ st_z = ([(2, 0), (0, k), (0, t), (0, v_z)], [], C_z)) ∨ (pc = 81 ∧ (v_z < 12) ∧ st_z = ([(2, 0), (0, k), (0, t), (0, v_z + 1)], [], pm_upd B_z (B_z 0 6) v_z (B_z (B_z 0 3) ((12 * (8600 + t)) + v_z))))) ?_ 24 81 _ ?_
    · rintro pc st_z (⟨rfl, hv, C_z, hF2, hC, rfl⟩ | ⟨rfl, h0, rfl⟩)
      · refine wq_ok srt_turns (fr := []) (cuts := [47]) (J := fun pc st_z => (pc = 47 ∧ st_z = ([(2, 0), (0, k), (0, t + 1), (0, v_z)], [], C_z))) ?_ 7 120 _ ?_
        · rintro pc st_z (⟨rfl, rfl⟩)
          refine H C_z _ ⟨⟨hF2.1, fun r_z j_z hr h4 h5 => (hF2.2 r_z j_z hr (fun e_z => h5 ⟨e_z.1, Or.inl e_z.2⟩)).trans (hF.2 r_z j_z hr h4 h5)⟩, ?_⟩
          have e1 : (B_z 0 5, xp B_z) = fa C0 43 t.toNat := by
            refine Prod.ext ?_ (funext fun i_z => ?_)
            · show B_z 0 5 = C0 2 (200 * 43 + ((t.toNat : Nat) : Int))
              rw [Int.toNat_of_nonneg t0, h5, show 200 * 43 + t = 8600 + t by omega]
            · show B_z 4 (i_z.1 : Int) = C0 3 (12 * (200 * 43 + ((t.toNat : Nat) : Int)) + (i_z.1 : Int))
              rw [Int.toNat_of_nonneg t0, show 200 * 43 + t = 8600 + t by omega]; exact hp i_z.1 (by omega) (by have := i_z.2; omega)
          have e2 : ∀ c_z, cr_co (LSm B_z 44) c_z + si (B_z 0 5, xp B_z) c_z = cr_co (LSm C0 44) c_z + cr_co (lsf (t + 1).toNat (fa C0 43)) c_z := fun c_z => by
            rw [hG c_z, show (t + 1).toNat = t.toNat + 1 by omega, lsf_succ, co_snoc, e1]; omega
          rcases hC with ⟨hC0, hCb⟩ | ⟨hC1, hC2, hC3, hC4⟩
          · refine Or.inl ⟨hC0, sb_of hc44 hc hCb (fun c_z => ?_)⟩
            have hl := lsf_le (f := fa C0 43) c_z (t + 1).toNat ((C0 1 43).toNat - (t + 1).toNat) (fun q_z hq => by
              have := hc q_z (by omega) (by omega)
              show 0 < C0 2 (200 * 43 + (q_z : Int))
              omega)
            rw [show (t + 1).toNat + ((C0 1 43).toNat - (t + 1).toNat) = (C0 1 43).toNat by omega, ← LSm_fa] at hl
            rw [e2 c_z]
            omega
          · exact Or.inr ⟨hC1, hC2, hC3, fun c_z => by rw [hC4 c_z, e2 c_z]⟩
        · refine ⟨⟨by omega, by omega⟩, ?_⟩
          exact ⟨rfl, rfl⟩
      · rw [c3_z, c6_z]
        have r1_z := e3 h0
        have b3 := eM_3 hF.1 (r := 3) (by omega) kn3 (j := 12 * (8600 + t) + v_z) (by omega) (by omega)
        refine ih_z (v_z + 1) _ (by omega) (by omega) (by omega) ⟨uM_4 hF.1 kn4 b3.1 b3.2, fun r_z j_z hr h4 h5 => ?_⟩ (by rw [upd_o (by omega)]; exact h4) hs hcf hG (by rw [upd_o (by omega)]; exact h5) (fun i_z i0_z i1_z => ?_)
        · rw [upd_o (by omega)]; exact hF.2 r_z j_z hr h4 h5
        · by_cases hi_z : i_z = v_z
          · rw [hi_z, upd_at, r1_z]
          · rw [upd_o (by omega)]; exact hp i_z i0_z (by omega)
    · refine ⟨fun h0 => ?_, fun h0 => ?_⟩
      · refine ⟨rM_0 (by omega) km0, ?_⟩
        refine (add_exq (s := 44) ⟨hF.1, by omega, hs, hcf, by rw [h5]; exact ct, h4⟩).imp ?_
        rintro ⟨r1_z, C_z⟩ ⟨hr1, hF2, hC⟩
        simp only at hr1 hF2 hC
        subst hr1
        exact Or.inl (⟨rfl, h0, C_z, hF2, hC, rfl⟩)
      · refine ⟨oM_0 (by omega) km0 6 rfl, ?_⟩
        refine ⟨oM_0 (by omega) km0 3 rfl, ?_⟩
        refine ⟨⟨by omega, by omega⟩, ?_⟩
        refine ⟨⟨by omega, by omega⟩, ?_⟩
        refine ⟨⟨by omega, by omega⟩, ?_⟩
        refine ⟨aM_3 (r := B_z 0 3) (by rw [c3_z]; omega) (by rw [c3_z]; exact kn3) (by omega) (by omega), ?_⟩
        have e1 : B_z (B_z 0 3) ((12 * (8600 + t)) + v_z) = B_z 3 ((12 * (8600 + t)) + v_z) := by rw [c3_z]
        refine ⟨tM_4 (r := B_z 0 6) (by rw [c6_z]; omega) (by rw [c6_z]; exact kn4) (by omega) (by omega) rfl, ?_⟩
        refine ⟨⟨by omega, by omega⟩, ?_⟩
        exact Or.inr (⟨rfl, h0, rfl⟩)
theorem tuq_47 {C0 : pm_A} {k : Int} (hc : cfs C0 43) (hc44 : cfs C0 44) (hC0 : gH wM C0) {z : pm_R → Prop} (H : ∀ C_z w2_z w3_z, a47q C0 C_z (C0 1 43) → Tm pmt (an_sh wM) o_X10_turns 126 ([(2, 0), (0, k), w2_z, w3_z], [], C_z) z) : ∀ (m_z : Nat) (t_z : Int) (w3_z : pm_V) (B_z : pm_A), (C0 1 43 - t_z).toNat < m_z → 0 ≤ t_z → t_z ≤ C0 1 43 → a47q C0 B_z t_z → Tm pmt (an_sh wM) o_X10_turns 47 ([(2, 0), (0, k), (0, t_z), w3_z], [], B_z) z := by
  have m43 := eM_1 hC0 (r := 1) (by omega) kn1 (j := 43) (by omega) (by omega)
  intro m_z
  induction m_z with
  | zero => intro t_z w3_z B_z h_z; omega
  | succ m_z ih_z =>
    intro t_z w3_z B_z hm_z t0_z t1_z hI
    obtain ⟨hF, hI2⟩ := hI
    have c1_z := pM_1 hF.1
    have c2_z := pM_2 hF.1
    have s4_z := fM_0_4 hF.1 (r := 0) (by omega) km0
    have mB : B_z 1 43 = C0 1 43 := hF.2 1 43 (by unfold inS; omega) (by omega) (by omega)
    have nB_z : t_z < C0 1 43 → B_z 2 (8600 + t_z) = C0 2 (8600 + t_z) ∧ 1 ≤ B_z 2 (8600 + t_z) ∧ B_z 2 (8600 + t_z) ≤ 1000000000000 := fun h_z => by
      have e_z : B_z 2 (8600 + t_z) = C0 2 (8600 + t_z) := hF.2 2 _ (by unfold inS; omega) (by omega) (by omega)
      have ct := hc t_z t0_z h_z
      rw [show 200 * 43 + t_z = 8600 + t_z by omega] at ct
      exact ⟨e_z, by omega⟩
    have hend : (B_z 0 4 ≠ 0 ∨ C0 1 43 ≤ t_z) → a47q C0 B_z (C0 1 43) := fun hcc => ⟨hF, by
      rcases hI2 with h_z | h_z
      · exact Or.inl h_z
      · have e_z : t_z = C0 1 43 := by rcases hcc with h5 | h5; exact absurd h_z.1 h5; omega
        rw [e_z] at h_z
        exact Or.inr h_z⟩
    refine wq_ok srt_turns (fr := []) (cuts := [81, 126]) (J := fun pc st_z => (pc = 126 ∧ ((B_z (B_z 0 1) 43) ≤ t_z) ∧ st_z = ([(2, 0), (0, k), (0, t_z), w3_z], [], B_z)) ∨ (pc = 126 ∧ (t_z < (B_z (B_z 0 1) 43)) ∧ (¬ (B_z 0 4) = 0) ∧ st_z = ([(2, 0), (0, k), (0, t_z), w3_z], [], B_z)) ∨ (pc = 81 ∧ (t_z < (B_z (B_z 0 1) 43)) ∧ ((B_z 0 4) = 0) ∧ st_z = ([(2, 0), (0, k), (0, t_z), (0, 0)], [], pm_upd B_z 0 5 (B_z (B_z 0 2) (8600 + t_z))))) ?_ 24 47 _ ?_
    · rintro pc st_z (⟨rfl, h0, rfl⟩ | ⟨rfl, h0, h1, rfl⟩ | ⟨rfl, h0, h1, rfl⟩)
      · exact H B_z _ _ (hend (Or.inr (by rw [c1_z, mB] at h0; exact h0)))
      · exact H B_z _ _ (hend (Or.inl h1))
      · rw [c1_z, mB] at h0
        rw [c2_z]
        have hn := nB_z h0
        obtain ⟨i1_z, i2_z, i3_z, i4_z⟩ : B_z 0 4 = 0 ∧ srtd B_z 44 ∧ cfs B_z 44 ∧ ∀ c_z, cr_co (LSm B_z 44) c_z = cr_co (LSm C0 44) c_z + cr_co (lsf t_z.toNat (fa C0 43)) c_z := by
          rcases hI2 with h_z | h_z
          · have := h_z.1; omega
          · exact h_z
        refine tuq_81 hc hc44 hC0 t0_z h0 (fun C_z w3_z hC => ih_z (t_z + 1) w3_z C_z (by omega) (by omega) (by omega) hC) _ 0 _ (Nat.lt_succ_self _) (by omega) (by omega) ⟨uM_0_5 hF.1 (by omega) (by omega), fun r_z j_z hr h4 h5 => ?_⟩ (by rw [upd_o (by omega)]; exact i1_z) i2_z i3_z i4_z (by rw [upd_at]; exact hn.1) (fun i_z i0_z i1_z => by omega)
        rw [upd_o (fun e_z => h5 ⟨e_z.1, Or.inr e_z.2⟩)]; exact hF.2 r_z j_z hr h4 h5
    · refine ⟨oM_0 (by omega) km0 1 rfl, ?_⟩
      refine ⟨aM_1 (r := B_z 0 1) (by rw [c1_z]; omega) (by rw [c1_z]; exact kn1) (by omega) (by omega), ?_⟩
      have e1 : B_z (B_z 0 1) 43 = B_z 1 43 := by rw [c1_z]
      refine ⟨fun h0 => ?_, fun h0 => ?_⟩
      · exact Or.inl (⟨rfl, h0, rfl⟩)
      · refine ⟨oM_0 (by omega) km0 4 rfl, ?_⟩
        refine ⟨fun h1 => ?_, fun h1 => ?_⟩
        · exact Or.inr (Or.inl (⟨rfl, h0, h1, rfl⟩))
        · refine ⟨oM_0 (by omega) km0 2 rfl, ?_⟩
          refine ⟨⟨by omega, by omega⟩, ?_⟩
          refine ⟨aM_2 (r := B_z 0 2) (by rw [c2_z]; omega) (by rw [c2_z]; exact kn2) (by omega) (by omega), ?_⟩
          have e2 : B_z (B_z 0 2) (8600 + t_z) = B_z 2 (8600 + t_z) := by rw [c2_z]
          refine ⟨oM_0 (by omega) km0 5 rfl, ?_⟩
          exact Or.inr (Or.inr (⟨rfl, h0, h1, rfl⟩))
def spB (s : cx_Sd 12) (ks : List (Fin 12)) (k : Fin 12) : Prop := BigV (fun x_z => cr_P (cr_bs s.b ks) k (cr_gp s.b ks x_z).1)
def tuq_post (s : cx_Sd 12) (ks : List (Fin 12)) (A : pm_A) (k : Fin 12) (r : pm_R) : Prop := (r.1 = some (0, 0) ∧ tuG A r.2 ∧ Tru s ks r.2 ∧ (spB s ks k ∨ ¬ arO A k.1)) ∨ (r.1 = some (0, 1) ∧ Tru s (ks ++ [k]) r.2 ∧ gH wM r.2 ∧ (∀ q_z j_z, (∀ t_z : Int, 42 ≤ t_z → t_z ≤ 47 → ¬ inS t_z q_z j_z) → ¬ inS k.1 q_z j_z → q_z ≠ 4 → q_z ≠ 5 → q_z ≠ 12 → ¬ (q_z = 0 ∧ (j_z = 4 ∨ j_z = 5)) → r.2 q_z j_z = A q_z j_z) ∧ ¬ spB s ks k ∧ arO A k.1)
theorem P_two {s : cx_Sd 12} {ks : List (Fin 12)} (k : Fin 12) (x : cr_Pv 12) : cr_P (cr_bs s.b ks) k (cr_gp s.b ks x).1 = cr_mo (cr_gp s.b ks x).1 (fun i_z => (cx_pos (cr_bs s.b ks i_z k) : Int)) + cr_mo (cr_gp s.b ks x).1 (fun i_z => (cx_pos (- cr_bs s.b ks i_z k) : Int)) := rfl
theorem tuq_143 {s : cx_Sd 12} {ks : List (Fin 12)} {A D : pm_A} {k : Fin 12} (hT : Tru s ks A) (hk : (k.1 : Int) < A 0 7) (hD : tuG A D) (hs44 : srtd D 44) (hc44 : cfs D 44) (hx44 : xb D 44 217178280) (hN : ∀ x_z : cr_Pv 12, cr_vl x_z.1 (LSm D 44) = cr_P (cr_bs s.b ks) k (cr_gp s.b ks x_z).1) (hgood : ∀ i_z j_z : Int, 0 ≤ i_z → i_z < A 0 7 + A 0 8 → 0 ≤ j_z → j_z < A 0 7 → -9999 ≤ tv A k.1 i_z j_z ∧ tv A k.1 i_z j_z ≤ 9999) (hnext : ∀ i_z j_z : Int, 0 ≤ i_z → i_z < A 0 7 + A 0 8 → 0 ≤ j_z → j_z < A 0 7 → D 12 (6 * i_z + j_z) = tv A k.1 i_z j_z) (w2 w3 : pm_V) : Tm pmt (an_sh wM) o_X10_turns 143 ([(2, 0), (0, (k.1 : Int)), w2, w3], [], D) (tuq_post s ks A k) := by
  have p7_z := fM_0_7 hT.1 (r := 0) (by omega) km0
  have p8 := fM_0_8 hT.1 (r := 0) (by omega) km0
  have hTD := hT.keep hD
  have e7_z := hD.fld (j := 7) (by omega) (by omega)
  have e8 := hD.fld (j := 8) (by omega) (by omega)
  have m44 := eM_1 hD.1 (r := 1) (by omega) kn1 (j := 44) (by omega) (by omega)
  obtain ⟨Q_z, hQ, hQv, hQc, hQl, hQb⟩ := tru_quot hTD (k := k) (by omega) (shr_of hs44 hc44) (fun y_z hy => by
    obtain ⟨q_z, q0, q1_z, rfl⟩ := mem_LSm hy
    exact (hc44 q_z q0 q1_z).2) (by rw [LSm_len]; omega) hN
  have hlt := hTD.lt
  have hl := hlt.2.1 k.1 (by omega) (by omega)
  refine wq_ok srt_turns (fr := []) (cuts := [152]) (J := fun pc st_z => (pc = 152 ∧ ∃ E_z, paF D E_z 45 44 ∧ LSm E_z 45 = Q_z ∧ st_z = ([(2, 0), (0, (k.1 : Int)), w2, w3], [], E_z))) ?_ 9 143 _ ?_
  · rintro pc st_z (⟨rfl, E_z, q2_z, q3_z, rfl⟩)
    refine wq_ok srt_turns (fr := []) (cuts := [159]) (J := fun pc st_z => (pc = 159 ∧ ∃ G_z, gH wM G_z ∧ (∀ q_z j_z, ¬ inS k.1 q_z j_z → G_z q_z j_z = E_z q_z j_z) ∧ LSm G_z k.1 = LSm E_z 45 ∧ st_z = ([(2, 0), (0, (k.1 : Int)), w2, w3], [], G_z))) ?_ 8 152 _ ?_
    · rintro pc st_z (⟨rfl, G_z, g2, g3_z, g4, rfl⟩)
      refine wq_ok srt_turns (fr := []) (cuts := [161]) (J := fun pc st_z => (pc = 161 ∧ st_z = ([(2, 0), (0, (k.1 : Int)), (0, 0), w3], [], G_z))) ?_ 7 159 _ ?_
      · rintro pc st_z (⟨rfl, rfl⟩)
        refine tu_161 g2 (fun W_z hW => ?_) _ 0 _ G_z (Nat.lt_succ_self _) (by omega) (by have := fM_0_7 g2 (r := 0) (by omega) km0; have := fM_0_8 g2 (r := 0) (by omega) km0; omega) ⟨g2, fun _ _ _ => rfl, fun j_z j0 j1 => by omega, fun _ _ => rfl⟩
        obtain ⟨w1_z, w4_z, w5, w6_z⟩ := hW
        have hf : ∀ q_z j_z, (∀ t_z : Int, 42 ≤ t_z → t_z ≤ 47 → ¬ inS t_z q_z j_z) → ¬ inS k.1 q_z j_z → q_z ≠ 4 → q_z ≠ 5 → q_z ≠ 12 → ¬ (q_z = 0 ∧ (j_z = 4 ∨ j_z = 5)) → W_z q_z j_z = A q_z j_z := fun q_z j_z a1_z a2 a3 a4 a5 a6 => by rw [w4_z q_z j_z a4, g3_z q_z j_z a2, q2_z.2 q_z j_z (a1_z 45 (by omega) (by omega)) (a1_z 44 (by omega) (by omega)) a3]; exact hD.2 q_z j_z a1_z a3 a5 a6
        have f7_z : W_z 0 7 = A 0 7 := hf 0 7 (fun t_z t0_z t1_z ht => by unfold inS at ht; omega) (by unfold inS; omega) (by omega) (by omega) (by omega) (by omega)
        have f8_z : W_z 0 8 = A 0 8 := hf 0 8 (fun t_z t0_z t1_z ht => by unfold inS at ht; omega) (by unfold inS; omega) (by omega) (by omega) (by omega) (by omega)
        have g7 : G_z 0 7 = A 0 7 := by rw [← w4_z 0 7 (by omega)]; exact f7_z
        have g8 : G_z 0 8 = A 0 8 := by rw [← w4_z 0 8 (by omega)]; exact f8_z
        have mk_z := eM_1 g2 (r := 1) (by omega) kn1 (j := (k.1 : Int)) (by omega) (by omega)
        have hWk : LSm W_z k.1 = Q_z := by rw [← q3_z, ← g4]; exact LSm_same mk_z.2 (fun q_z j_z hq => w4_z q_z j_z (by unfold inS at hq; omega))
        refine Or.inr ⟨rfl, ?_, w1_z, hf, BigV.no (shr_of hs44 hc44) (fun y_z hy => by
          obtain ⟨q_z, q0, q1_z, rfl⟩ := mem_LSm hy
          exact (hc44 q_z q0 q1_z).2) (by rw [LSm_len]; omega) hN, hgood⟩
        refine tru_next hT hk hQ hQv hQb w1_z f7_z f8_z (fun p_z p0_z p1_z pk_z q_z j_z hq => hf q_z j_z (fun t_z t0_z t1_z ht => by unfold inS at *; omega) (by unfold inS at *; omega) (by unfold inS at hq; omega) (by unfold inS at hq; omega) (by unfold inS at hq; omega) (by unfold inS at hq; omega)) hWk hgood (fun i_z j_z i0_z i1_z j0 j1 => ?_)
        show W_z 5 (6 * i_z + j_z) = tv A k.1 i_z j_z
        rw [w5 (6 * i_z + j_z) (by omega) (by rw [g7, g8]; omega), if_pos (by rw [g7]; omega), g3_z 12 _ (by unfold inS; omega), q2_z.2 12 _ (by unfold inS; omega) (by unfold inS; omega) (by omega)]
        exact hnext i_z j_z i0_z i1_z j0 j1
      · exact ⟨rfl, rfl⟩
    · refine ⟨rM_0 (by omega) km0, ?_⟩
      refine (copy_ex (to := k.1) (fr := 45) q2_z.1 (by omega) (by omega) (by omega) (by omega) (by omega)).imp ?_
      rintro ⟨r1_z, G_z⟩ ⟨g1, g2, g3_z, g4⟩
      simp only at g1 g2 g3_z g4
      subst g1
      exact ⟨rfl, G_z, g2, g3_z, g4, rfl⟩
  · refine ⟨rM_0 (by omega) km0, ?_⟩
    refine (parts_ex (A := D) (to := 45) (a := 44) (b := k.1) (EN := 217178280) (Q := Q_z) ⟨hD.1, by omega, by omega, by omega, ⟨by omega, by omega, by omega⟩, hl, ⟨hs44, hc44, hx44⟩, by omega, hQ, hQc, hQl⟩).imp ?_
    rintro ⟨r1_z, E_z⟩ ⟨q1_z, q2_z, q3_z⟩
    simp only at q1_z q2_z q3_z
    subst q1_z
    exact ⟨rfl, E_z, q2_z, q3_z, rfl⟩
theorem tuq_126 {s : cx_Sd 12} {ks : List (Fin 12)} {A C0 B : pm_A} {k : Fin 12} (hT : Tru s ks A) (hk : (k.1 : Int) < A 0 7) (hC : tu_C s ks A C0 k) (hB : a47q C0 B (C0 1 43)) (w2 w3 : pm_V) : Tm pmt (an_sh wM) o_X10_turns 126 ([(2, 0), (0, (k.1 : Int)), w2, w3], [], B) (tuq_post s ks A k) := by
  have hBG : tuG A B := hC.1.tr (tm_tuG hB.1 (by omega) (by omega))
  have hTB := hT.keep hBG
  have e7_z := hBG.fld (j := 7) (by omega) (by omega)
  have e8 := hBG.fld (j := 8) (by omega) (by omega)
  have s4_z := fM_0_4 hBG.1 (r := 0) (by omega) km0
  have htv : ∀ i_z j_z, tv B k.1 i_z j_z = tv A k.1 i_z j_z := fun i_z j_z => by unfold tv; rw [hBG.arr, hBG.arr, hBG.arr]
  have hbad : ∀ D_z, tuG A D_z → (spB s ks k ∨ ¬ arO A k.1) → tuq_post s ks A k (some (0, 0), D_z) := fun D_z hD hx => Or.inl ⟨rfl, hD, hT.keep hD, hx⟩
  have hsb : sBg C0 → spB s ks k := fun h_z => h_z.eq (fun x_z => by rw [hC.2.2.2.2.2.2.1 x_z, hC.2.2.2.2.2.2.2 x_z]; rfl)
  have hao : arO B k.1 ↔ arO A k.1 := by
    unfold arO
    rw [e7_z, e8]
    exact ⟨fun h_z i_z j_z i0_z i1_z j0 j1 => by rw [← htv]; exact h_z i_z j_z i0_z i1_z j0 j1, fun h_z i_z j_z i0_z i1_z j0 j1 => by rw [htv]; exact h_z i_z j_z i0_z i1_z j0 j1⟩
  refine wq_ok srt_turns (fr := []) (cuts := [138]) (J := fun pc st_z => (pc = 138 ∧ B 0 4 = 0 ∧ ∃ D_z g_z, taF B D_z ∧ ((g_z = 0 ∧ ¬ arO B k.1) ∨ (g_z = 1 ∧ arO B k.1)) ∧ (∀ i_z j_z : Int, 0 ≤ i_z → i_z < B 0 7 + B 0 8 → 0 ≤ j_z → j_z < B 0 7 → D_z 12 (6 * i_z + j_z) = tv B k.1 i_z j_z) ∧ st_z = ([(2, 0), (0, (k.1 : Int)), w2, w3], [(0, g_z)], D_z))) ?_ 10 126 _ ?_
  · rintro pc st_z (⟨rfl, h4, D_z, g_z, q1_z, q3_z, q4_z, rfl⟩)
    have hDG : tuG A D_z := hBG.tr ⟨q1_z.1, fun r_z j_z a1_z a2 a3 a4 => q1_z.2 r_z j_z a3⟩
    refine wq_ok srt_turns (fr := []) (cuts := [143]) (J := fun pc st_z => (pc = 143 ∧ (¬ g_z = 0) ∧ st_z = ([(2, 0), (0, (k.1 : Int)), w2, w3], [], D_z))) ?_ 7 138 _ ?_
    · rintro pc st_z (⟨rfl, h0, rfl⟩)
      have hg : g_z = 1 ∧ arO B k.1 := by
        rcases q3_z with h_z | h_z
        · exact absurd h_z.1 h0
        · exact h_z
      obtain ⟨i1_z, i2_z, i3_z, i4_z⟩ : B 0 4 = 0 ∧ srtd B 44 ∧ cfs B 44 ∧ ∀ c_z, cr_co (LSm B 44) c_z = cr_co (LSm C0 44) c_z + cr_co (lsf (C0 1 43).toNat (fa C0 43)) c_z := by
        rcases hB.2 with h_z | h_z
        · have := h_z.1; omega
        · exact h_z
      have hN_z := tu_N hC hBG.1 i3_z i4_z
      have m44 := eM_1 hBG.1 (r := 1) (by omega) kn1 (j := 44) (by omega) (by omega)
      have hS_z : ∀ r_z j_z, inS 44 r_z j_z → D_z r_z j_z = B r_z j_z := fun r_z j_z h_z => q1_z.2 r_z j_z (by unfold inS at h_z; omega)
      refine tuq_143 hT hk hDG (srtd_same m44.2 hS_z i2_z) (cfs_same m44.2 hS_z i3_z) (xb_same m44.2 hS_z hN_z.2) (fun x_z => by rw [LSm_same m44.2 hS_z]; exact hN_z.1 x_z) (fun i_z j_z i0_z i1_z j0 j1 => ?_) (fun i_z j_z i0_z i1_z j0 j1 => ?_) w2 w3
      · rw [← htv]; exact hg.2 i_z j_z i0_z (by omega) j0 (by omega)
      · rw [← htv]; exact q4_z i_z j_z i0_z (by omega) j0 (by omega)
    · refine ⟨fun h0 => ?_, fun h0 => ?_⟩
      · exact ⟨rfl, h0, rfl⟩
      · refine ⟨rfl, hbad D_z hDG (Or.inr ?_)⟩
        rcases q3_z with h_z | h_z
        · exact fun hh => h_z.2 (hao.mpr hh)
        · have := h_z.1; omega
  · refine ⟨oM_0 (by omega) km0 4 rfl, ?_⟩
    refine ⟨fun h0 => ?_, fun h0 => ?_⟩
    · refine ⟨rfl, hbad B hBG (Or.inl ?_)⟩
      rcases hB.2 with h_z | h_z
      · exact hsb h_z.2
      · exact absurd h_z.1 h0
    · refine ⟨rM_0 (by omega) km0, ?_⟩
      refine (turnsArrows_exq (k := k.1) hBG.1 hTB.2.2.2.2.2.1 (by omega) (by omega)).imp ?_
      rintro ⟨r1_z, D_z⟩ ⟨q1_z, g_z, q2_z, q3_z, q4_z⟩
      simp only at q1_z q2_z q3_z q4_z
      subst q2_z
      exact ⟨rfl, h0, D_z, g_z, q1_z, q3_z, q4_z, rfl⟩
theorem tuq_45 {s : cx_Sd 12} {ks : List (Fin 12)} {A C0 : pm_A} {k : Fin 12} (hT : Tru s ks A) (hk : (k.1 : Int) < A 0 7) (hC : tu_C s ks A C0 k) (h4 : C0 0 4 = 0) (w2 w3 : pm_V) : Tm pmt (an_sh wM) o_X10_turns 45 ([(2, 0), (0, (k.1 : Int)), w2, w3], [], C0) (tuq_post s ks A k) := by
  have m43 := eM_1 hC.1.1 (r := 1) (by omega) kn1 (j := 43) (by omega) (by omega)
  refine wq_ok srt_turns (fr := []) (cuts := [47]) (J := fun pc st_z => (pc = 47 ∧ st_z = ([(2, 0), (0, (k.1 : Int)), (0, 0), w3], [], C0))) ?_ 7 45 _ ?_
  · rintro pc st_z (⟨rfl, rfl⟩)
    exact tuq_47 hC.2.2.2.2.1 hC.2.2.1 hC.1.1 (fun C_z w2 w3 hCC => tuq_126 hT hk hC hCC w2 w3) _ 0 _ C0 (Nat.lt_succ_self _) (by omega) (by omega) ⟨⟨hC.1.1, fun _ _ _ _ _ => rfl⟩, Or.inr ⟨h4, hC.2.1, hC.2.2.1, fun c_z => by show _ = _ + (0 : Int); omega⟩⟩
  · exact ⟨rfl, rfl⟩
theorem tuq_28 {s : cx_Sd 12} {ks : List (Fin 12)} {A B : pm_A} {k : Fin 12} (hT : Tru s ks A) (hk : (k.1 : Int) < A 0 7) (hB : tuG A B) (hsp : ¬ B 0 4 = 0 → spB s ks k) (h : B 0 4 = 0 → st4 s ks B 42 k 1 ∧ st4 s ks B 43 k (-1)) (w2 w3 : pm_V) : Tm pmt (an_sh wM) o_X10_turns 28 ([(2, 0), (0, (k.1 : Int)), w2, w3], [], B) (tuq_post s ks A k) := by
  have hbad : ∀ D_z, tuG A D_z → spB s ks k → tuq_post s ks A k (some (0, 0), D_z) := fun D_z hD hx => Or.inl ⟨rfl, hD, hT.keep hD, Or.inl hx⟩
  refine wq_ok srt_turns (fr := []) (cuts := [45]) (J := fun pc st_z => (pc = 45 ∧ B 0 4 = 0 ∧ ∃ G_z, gH wM G_z ∧ (∀ q_z j_z, ¬ inS 44 q_z j_z → G_z q_z j_z = B q_z j_z) ∧ LSm G_z 44 = LSm B 42 ∧ st_z = ([(2, 0), (0, (k.1 : Int)), w2, w3], [], G_z))) ?_ 11 28 _ ?_
  · rintro pc st_z (⟨rfl, h4, G_z, g2, g3_z, g4, rfl⟩)
    obtain ⟨⟨a1_z, a2, a3, a4⟩, ⟨b1, b2, b3, b4⟩⟩ := h h4
    have m42 := eM_1 hB.1 (r := 1) (by omega) kn1 (j := 42) (by omega) (by omega)
    have m43 := eM_1 hB.1 (r := 1) (by omega) kn1 (j := 43) (by omega) (by omega)
    have m44 := eM_1 g2 (r := 1) (by omega) kn1 (j := 44) (by omega) (by omega)
    have hS_z : ∀ r_z j_z, inS 43 r_z j_z → G_z r_z j_z = B r_z j_z := fun r_z j_z hj => g3_z r_z j_z (by unfold inS at *; omega)
    refine tuq_45 hT hk ⟨hB.tr ⟨g2, fun r_z j_z x1_z x2_z x3 x4_z => g3_z r_z j_z (x1_z 44 (by omega) (by omega))⟩, ls_srtd g4 m44.1 m42.1 a1_z, ls_cfs g4 m44.1 m42.1 a2, ls_xb g4 m44.1 m42.1 a3, cfs_same m43.2 hS_z b2, xb_same m43.2 hS_z b3, fun x_z => ?_, fun x_z => ?_⟩ (by rw [g3_z 0 4 (by unfold inS; omega)]; exact h4) w2 w3
    · rw [VS_of g4, a4 x_z]; exact congrArg (cr_mo _) (funext fun i_z => by rw [Int.one_mul])
    · rw [VS_of (LSm_same m43.2 hS_z), b4 x_z]; exact congrArg (cr_mo _) (funext fun i_z => by rw [Int.neg_mul, Int.one_mul])
  · refine ⟨oM_0 (by omega) km0 4 rfl, ?_⟩
    refine ⟨fun h0 => ?_, fun h0 => ?_⟩
    · refine ⟨rM_0 (by omega) km0, ?_⟩
      refine (copy_ex (to := 44) (fr := 42) hB.1 (by omega) (by omega) (by omega) (by omega) (by omega)).imp ?_
      rintro ⟨r1_z, G_z⟩ ⟨g1, g2, g3_z, g4⟩
      simp only at g1 g2 g3_z g4
      subst g1
      exact ⟨rfl, h0, G_z, g2, g3_z, g4, rfl⟩
    · exact ⟨rfl, hbad B hB (hsp h0)⟩
theorem pb_sp {s : cx_Sd 12} {ks : List (Fin 12)} {A : pm_A} {k : Fin 12} {sg : Int} (hT : Tru s ks A) (hk : (k.1 : Int) < A 0 7) (hsg : sg = 1 ∨ sg = -1) (h : pBg A k.1 sg) : spB s ks k := by
  have hlt := hT.lt
  have h1 := BigV.add h (pvl_rp hlt (k.1 : Int) (-sg) (A 0 7 + A 0 8).toNat)
  refine h1.eq (fun x_z => ?_)
  rw [hT.pvl hk sg x_z, hT.pvl hk (-sg) x_z, P_two]
  rcases hsg with rfl | rfl
  · rw [show (fun i_z => (cx_pos (1 * cr_bs s.b ks i_z k) : Int)) = (fun i_z => (cx_pos (cr_bs s.b ks i_z k) : Int)) from funext fun i_z => by rw [Int.one_mul]]
    rw [show (fun i_z => (cx_pos (-1 * cr_bs s.b ks i_z k) : Int)) = (fun i_z => (cx_pos (- cr_bs s.b ks i_z k) : Int)) from funext fun i_z => by rw [Int.neg_mul, Int.one_mul]]
  · rw [show (fun i_z => (cx_pos (- -1 * cr_bs s.b ks i_z k) : Int)) = (fun i_z => (cx_pos (cr_bs s.b ks i_z k) : Int)) from funext fun i_z => by rw [show (- -1 : Int) = 1 from rfl, Int.one_mul]]
    rw [show (fun i_z => (cx_pos (-1 * cr_bs s.b ks i_z k) : Int)) = (fun i_z => (cx_pos (- cr_bs s.b ks i_z k) : Int)) from funext fun i_z => by rw [Int.neg_mul, Int.one_mul]]
    exact Rat.add_comm _ _
theorem turns_exq {s : cx_Sd 12} {ks : List (Fin 12)} {A : pm_A} {k : Fin 12} (hT : Tru s ks A) (hk : (k.1 : Int) < A 0 7) : Cl pmt (an_sh wM) 200 [(2, 0), (0, (k.1 : Int))] A (tuq_post s ks A k) := by
  have h0 : tuG A (pm_upd A 0 4 0) := ⟨uM_0_4 hT.1 (by omega) (by omega), fun r_z j_z a1_z a2 a3 a4 => upd_o (fun e_z => a4 ⟨e_z.1, Or.inl e_z.2⟩)⟩
  have hT0 := hT.keep h0
  have e40 : pm_upd A 0 4 0 0 4 = 0 := upd_at
  have e7_z := h0.fld (j := 7) (by omega) (by omega)
  have p7_z := fM_0_7 hT.1 (r := 0) (by omega) km0
  refine Cl.of (Nat.le_of_ble_eq_true rfl) ?_
  refine wq_ok (full := o_X10_turns) srt_turns (fr := []) (cuts := [13]) (J := fun pc st_z => (pc = 13 ∧ ∃ B_z, prF (pm_upd A 0 4 0) B_z 42 ∧ ((B_z 0 4 = 1 ∧ pBg (pm_upd A 0 4 0) k.1 1) ∨ (B_z 0 4 = 0 ∧ prG (pm_upd A 0 4 0) B_z 42 k.1 1 (pm_upd A 0 4 0 0 7 + pm_upd A 0 4 0 0 8))) ∧ st_z = ([(2, 0), (0, (k.1 : Int)), (9, 0), (9, 0)], [], B_z))) ?_ 12 0 _ ?_
  · rintro pc st_z (⟨rfl, B_z, g2, g3_z, rfl⟩)
    have hBG : tuG A B_z := h0.tr (pr_tuG g2 (by omega) (by omega))
    have hTB := hT.keep hBG
    have b7 := hBG.fld (j := 7) (by omega) (by omega)
    have h42 : B_z 0 4 = 0 → st4 s ks B_z 42 k 1 := fun h_z => by
      rcases g3_z with h2 | h2
      · have := h2.1; omega
      · exact st4_of hT0 (by omega) h2.2
    refine wq_ok srt_turns (fr := []) (cuts := [28]) (J := fun pc st_z => (pc = 28 ∧ (¬ (B_z 0 4) = 0) ∧ st_z = ([(2, 0), (0, (k.1 : Int)), (9, 0), (9, 0)], [], B_z)) ∨ (pc = 28 ∧ B_z 0 4 = 0 ∧ ∃ C_z, prF B_z C_z 43 ∧ ((C_z 0 4 = 1 ∧ pBg B_z k.1 (-1)) ∨ (C_z 0 4 = 0 ∧ prG B_z C_z 43 k.1 (-1) (B_z 0 7 + B_z 0 8))) ∧ st_z = ([(2, 0), (0, (k.1 : Int)), (9, 0), (9, 0)], [], C_z))) ?_ 12 13 _ ?_
    · rintro pc st_z (⟨rfl, h0, rfl⟩ | ⟨rfl, h4, C_z, f2_z, f3_z, rfl⟩)
      · refine tuq_28 hT hk hBG (fun _ => ?_) (fun h_z => absurd h_z h0) _ _
        rcases g3_z with h2 | h2
        · exact pb_sp hT0 (by omega) (Or.inl rfl) h2.2
        · exact absurd h2.1 h0
      · have hCG : tuG A C_z := hBG.tr (pr_tuG f2_z (by omega) (by omega))
        refine tuq_28 hT hk hCG (fun hn => ?_) (fun hC4 => ⟨?_, ?_⟩) _ _
        · rcases f3_z with h_z | h_z
          · exact pb_sp hTB (by omega) (Or.inr rfl) h_z.2
          · exact absurd h_z.1 hn
        · have hs : ∀ r_z j_z, inS 42 r_z j_z → C_z r_z j_z = B_z r_z j_z := fun r_z j_z hj => f2_z.2 r_z j_z (by unfold inS at *; omega) (by unfold inS at *; omega) (by unfold inS at *; omega) (by unfold inS at hj; omega) (by unfold inS at hj; omega)
          have m42 := eM_1 hBG.1 (r := 1) (by omega) kn1 (j := 42) (by omega) (by omega)
          obtain ⟨a1_z, a2, a3, a4⟩ := h42 h4
          exact ⟨srtd_same m42.2 hs a1_z, cfs_same m42.2 hs a2, xb_same m42.2 hs a3, fun x_z => by rw [VS_of (LSm_same m42.2 hs)]; exact a4 x_z⟩
        · rcases f3_z with h_z | h_z
          · have := h_z.1; omega
          · exact st4_of hTB (by omega) h_z.2
    · refine ⟨oM_0 (by omega) km0 4 rfl, ?_⟩
      refine ⟨fun h0 => ?_, fun h0 => ?_⟩
      · exact Or.inl (⟨rfl, h0, rfl⟩)
      · refine ⟨rM_0 (by omega) km0, ?_⟩
        refine (product_exq (to := 43) (k := k.1) (sg := -1) hTB.lt h0 (by omega) (by omega) (by omega) (by omega)).imp ?_
        rintro ⟨r1_z, C_z⟩ ⟨f1_z, f2_z, f3_z⟩
        simp only at f1_z f2_z f3_z
        subst f1_z
        exact Or.inr (⟨rfl, h0, C_z, f2_z, f3_z, rfl⟩)
  · refine ⟨oM_0 (by omega) km0 4 rfl, ?_⟩
    refine ⟨rM_0 (by omega) km0, ?_⟩
    refine (product_exq (to := 42) (k := k.1) (sg := 1) hT0.lt e40 (by omega) (by omega) (by omega) (by omega)).imp ?_
    rintro ⟨r1_z, B_z⟩ ⟨g1, g2, g3_z⟩
    simp only at g1 g2 g3_z
    subst g1
    exact ⟨rfl, B_z, g2, g3_z, rfl⟩
