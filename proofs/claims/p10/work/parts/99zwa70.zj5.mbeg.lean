/-! the reference's begin and seed, with the seed that they begin -/
theorem gpF_rf {A : pm_A} (h : gH wM A) : gpF A A := ⟨h, fun _ _ _ _ _ => rfl⟩
def bz3 (A : pm_A) (r : pm_R) : Prop := ri_post r ∧ ∃ x_z, r.1 = some (0, x_z) ∧ bgA (A 0 12) (A 7) x_z ∧ ((x_z = 0 ∧ lsz (A 0 12) (A 7) (r.2 10) ∧ ∃ B_z, gpF A B_z ∧ szd B_z ∧ bgJ B_z r.2) ∨ (¬ x_z = 0 ∧ gpF A r.2))
theorem mqc_125 {A : pm_A} (h : RI A) (hT : tz A) (p1 : 1 ≤ A 0 12) (hdg : dgz (A 0 12) (A 7)) (hsk : skz (A 0 12) (A 7)) {w1 w2 w3 w4 : pm_V} : Tm pmt (an_sh wM) o_X10_begin 125 ([(2, 0), w1, w2, w3, w4], [], A) (bz3 A) := by
  have p12 := fM_0_12 h.g (r := 0) (by omega) km0
  refine wq_ok srt_Mbegin (fr := []) (cuts := [129]) (J := fun pc st_z => (pc = 129 ∧ ∃ B_z x_z, gpF A B_z ∧ ((x_z = 0 ∧ ∀ d_z, ¬ sy (A 0 12) (A 7) d_z) ∨ (¬ x_z = 0 ∧ szd B_z ∧ ∀ d_z, sy (A 0 12) (A 7) d_z → ∀ i_z : Int, 0 ≤ i_z → i_z < A 0 12 → ∃ c_z, d_z i_z = c_z * B_z 8 i_z)) ∧ st_z = ([(2, 0), w1, w2, w3, w4], [(0, x_z)], B_z))) ?_ 6 125 _ ?_
  · rintro pc st_z (⟨rfl, B_z, x_z, q1_z, q3_z, rfl⟩)
    have hB_z : RI B_z := h.typed q1_z.1 q1_z.fr rfl
    have f12_z : B_z 0 12 = A 0 12 := q1_z.2 0 12 (by omega) (by omega) (by omega)
    refine wq_ok srt_Mbegin (fr := []) (cuts := [138]) (J := fun pc st_z => (pc = 138 ∧ szd B_z ∧ ∃ C_z, bgJ B_z C_z ∧ lsz (A 0 12) (A 7) (C_z 10) ∧ st_z = ([(2, 0), w1, w2, w3, w4], [], C_z))) ?_ 7 129 _ ?_
    · rintro pc st_z (⟨rfl, q3_z, C_z, y2, y3, rfl⟩)
      refine wq_ok srt_Mbegin (fr := []) (cuts := []) (J := fun _ _ => False) ?_ 6 138 _ ?_
      · intro pc st_z h; exact h.elim
      · exact ⟨rfl, ⟨⟨_, rfl⟩, bg_ri hB_z q3_z (by omega) y2⟩, 0, rfl, Or.inr ⟨p1, Or.inr (Or.inr (Or.inr ⟨rfl, hdg, hsk, _, y3.2.1⟩))⟩, Or.inl ⟨rfl, y3, B_z, q1_z, q3_z, y2⟩⟩
    · refine ⟨fun h0 => ?_, fun h0 => ?_⟩
      · refine ⟨rM_0 (by omega) km0, ?_⟩
        rcases q3_z with q3_z | ⟨q3_z, q4_z, q5_z⟩
        · exact absurd q3_z.1 h0
        refine (begins_ex2 hB_z.g q4_z).imp ?_
        rintro ⟨r1_z, C_z⟩ ⟨⟨y1, y2⟩, y3⟩
        simp only at y1 y2 y3
        subst y1
        exact ⟨rfl, q4_z, C_z, y2, lsz_of f12_z (fun x_z => q1_z.2 7 x_z (by omega) (by omega) (by omega)) q4_z q5_z y3, rfl⟩
      · rcases q3_z with q3_z | ⟨q3_z, q4_z, q5_z⟩
        · exact ⟨rfl, ⟨⟨_, rfl⟩, hB_z⟩, 3, rfl, Or.inr ⟨p1, Or.inr (Or.inr (Or.inl ⟨rfl, hdg, hsk, q3_z.2⟩))⟩, Or.inr ⟨by omega, q1_z⟩⟩
        · exact absurd h0 q3_z
  · refine ⟨rM_0 (by omega) km0, ?_⟩
    refine (hasSizes_ex2 h.g hT p12.2).imp ?_
    rintro ⟨r1_z, B_z⟩ ⟨q1_z, x_z, q2_z, q3_z⟩
    simp only at q1_z q2_z q3_z
    subst q2_z
    exact ⟨rfl, B_z, x_z, q1_z, q3_z, rfl⟩
theorem mqc_51 {A : pm_A} (h : RI A) {i : Int} (i0 : 0 ≤ i) (i1 : i < A 0 12) (p6 : A 0 12 ≤ 6) (hdg : dgz (A 0 12) (A 7)) (H : (∀ j_z : Int, 0 ≤ j_z → j_z < A 0 12 → gdz (A 7 (6 * i + j_z)) (A 7 (6 * j_z + i))) → ∀ w2_z w3_z w4_z, Tm pmt (an_sh wM) o_X10_begin 41 ([(2, 0), (0, i + 1), w2_z, w3_z, w4_z], [], A) (bz3 A)) : ∀ (m_z : Nat) (j_z : Int) (w3_z w4_z : pm_V), (6 - j_z).toNat < m_z → 0 ≤ j_z → j_z ≤ 6 → (∀ k_z : Int, 0 ≤ k_z → k_z < j_z → k_z < A 0 12 → gdz (A 7 (6 * i + k_z)) (A 7 (6 * k_z + i))) → Tm pmt (an_sh wM) o_X10_begin 51 ([(2, 0), (0, i), (0, j_z), w3_z, w4_z], [], A) (bz3 A) := by
  have c14_z := pM_14 h.g
  intro m_z
  induction m_z with
  | zero => intro j_z w3_z w4_z h; omega
  | succ m_z ih_z =>
    intro j_z w3_z w4_z hm_z j0 j1 hj
    have go_z : j_z < A 0 12 → gdz (A 7 (6 * i + j_z)) (A 7 (6 * j_z + i)) → ∀ w3_z w4_z, Tm pmt (an_sh wM) o_X10_begin 51 ([(2, 0), (0, i), (0, j_z + 1), w3_z, w4_z], [], A) (bz3 A) := fun hlt hs w3_z w4_z => by
      refine ih_z (j_z + 1) _ _ (by omega) (by omega) (by omega) (fun k_z k0_z k1_z k2_z => ?_)
      by_cases e_z : k_z = j_z
      · rw [e_z]; exact hs
      · exact hj k_z k0_z (by omega) k2_z
    have hend : A 0 12 ≤ j_z → ∀ k_z : Int, 0 ≤ k_z → k_z < A 0 12 → gdz (A 7 (6 * i + k_z)) (A 7 (6 * k_z + i)) := fun hlt k_z k0_z k1_z => hj k_z k0_z (by omega) k1_z
    have h2b : j_z < A 0 12 → ¬ gdz (A 7 (6 * i + j_z)) (A 7 (6 * j_z + i)) → bz3 A (some (0, 2), A) := fun hlt hn => ⟨⟨⟨_, rfl⟩, h⟩, 2, rfl, Or.inr ⟨by omega, Or.inr (Or.inl ⟨rfl, hdg, fun hs => hn (hs i j_z i0 i1 j0 hlt)⟩)⟩, Or.inr ⟨by omega, gpF_rf h.g⟩⟩
    refine wq_ok srt_Mbegin (fr := []) (cuts := [41, 51]) (J := fun pc st_z => (pc = 41 ∧ ((A 0 12) ≤ j_z) ∧ st_z = ([(2, 0), (0, i + 1), (0, j_z), w3_z, w4_z], [], A)) ∨ (pc = 51 ∧ (j_z < (A 0 12)) ∧ (¬ (A (A 0 14) ((6 * i) + j_z)) = 0) ∧ ((A (A 0 14) ((6 * i) + j_z)) ≤ 0) ∧ ((A (A 0 14) ((6 * i) + j_z)) < 0) ∧ (0 < (A (A 0 14) ((6 * j_z) + i))) ∧ st_z = ([(2, 0), (0, i), (0, j_z + 1), (0, A (A 0 14) ((6 * i) + j_z)), (0, A (A 0 14) ((6 * j_z) + i))], [], A)) ∨ (pc = 51 ∧ (j_z < (A 0 12)) ∧ (¬ (A (A 0 14) ((6 * i) + j_z)) = 0) ∧ (0 < (A (A 0 14) ((6 * i) + j_z))) ∧ ((A (A 0 14) ((6 * j_z) + i)) < 0) ∧ st_z = ([(2, 0), (0, i), (0, j_z + 1), (0, A (A 0 14) ((6 * i) + j_z)), (0, A (A 0 14) ((6 * j_z) + i))], [], A)) ∨ (pc = 51 ∧ (j_z < (A 0 12)) ∧ (¬ (A (A 0 14) ((6 * i) + j_z)) = 0) ∧ (0 < (A (A 0 14) ((6 * i) + j_z))) ∧ (0 ≤ (A (A 0 14) ((6 * j_z) + i))) ∧ ((A (A 0 14) ((6 * i) + j_z)) < 0) ∧ (0 < (A (A 0 14) ((6 * j_z) + i))) ∧ st_z = ([(2, 0), (0, i), (0, j_z + 1), (0, A (A 0 14) ((6 * i) + j_z)), (0, A (A 0 14) ((6 * j_z) + i))], [], A)) ∨ (pc = 51 ∧ (j_z < (A 0 12)) ∧ ((A (A 0 14) ((6 * i) + j_z)) = 0) ∧ ((A (A 0 14) ((6 * j_z) + i)) = 0) ∧ st_z = ([(2, 0), (0, i), (0, j_z + 1), (0, A (A 0 14) ((6 * i) + j_z)), (0, A (A 0 14) ((6 * j_z) + i))], [], A)) ∨ (pc = 51 ∧ (j_z < (A 0 12)) ∧ ((A (A 0 14) ((6 * i) + j_z)) = 0) ∧ (¬ (A (A 0 14) ((6 * j_z) + i)) = 0) ∧ ((A (A 0 14) ((6 * i) + j_z)) ≤ 0) ∧ ((A (A 0 14) ((6 * i) + j_z)) < 0) ∧ (0 < (A (A 0 14) ((6 * j_z) + i))) ∧ st_z = ([(2, 0), (0, i), (0, j_z + 1), (0, A (A 0 14) ((6 * i) + j_z)), (0, A (A 0 14) ((6 * j_z) + i))], [], A)) ∨ (pc = 51 ∧ (j_z < (A 0 12)) ∧ ((A (A 0 14) ((6 * i) + j_z)) = 0) ∧ (¬ (A (A 0 14) ((6 * j_z) + i)) = 0) ∧ (0 < (A (A 0 14) ((6 * i) + j_z))) ∧ ((A (A 0 14) ((6 * j_z) + i)) < 0) ∧ st_z = ([(2, 0), (0, i), (0, j_z + 1), (0, A (A 0 14) ((6 * i) + j_z)), (0, A (A 0 14) ((6 * j_z) + i))], [], A)) ∨ (pc = 51 ∧ (j_z < (A 0 12)) ∧ ((A (A 0 14) ((6 * i) + j_z)) = 0) ∧ (¬ (A (A 0 14) ((6 * j_z) + i)) = 0) ∧ (0 < (A (A 0 14) ((6 * i) + j_z))) ∧ (0 ≤ (A (A 0 14) ((6 * j_z) + i))) ∧ ((A (A 0 14) ((6 * i) + j_z)) < 0) ∧ (0 < (A (A 0 14) ((6 * j_z) + i))) ∧ st_z = ([(2, 0), (0, i), (0, j_z + 1), (0, A (A 0 14) ((6 * i) + j_z)), (0, A (A 0 14) ((6 * j_z) + i))], [], A))) ?_ 41 51 _ ?_
    · rintro pc st_z (⟨rfl, h0, rfl⟩ | ⟨rfl, h0, h1, h2, h3, h4, rfl⟩ | ⟨rfl, h0, h1, h2, h3, rfl⟩ | ⟨rfl, h0, h1, h2, h3, h4, h5, rfl⟩ | ⟨rfl, h0, h1, h2, rfl⟩ | ⟨rfl, h0, h1, h2, h3, h4, h5, rfl⟩ | ⟨rfl, h0, h1, h2, h3, h4, rfl⟩ | ⟨rfl, h0, h1, h2, h3, h4, h5, h6, rfl⟩)
      · exact H (hend (by omega)) _ _ _
      · rw [c14_z] at h1 h2 h3 h4
        exact go_z (by omega) (by unfold gdz; omega) _ _
      · rw [c14_z] at h1 h2 h3
        exact go_z (by omega) (by unfold gdz; omega) _ _
      · rw [c14_z] at h1 h2 h3 h4 h5
        exact go_z (by omega) (by unfold gdz; omega) _ _
      · rw [c14_z] at h1 h2
        exact go_z (by omega) (by unfold gdz; omega) _ _
      · rw [c14_z] at h1 h2 h3 h4 h5
        exact go_z (by omega) (by unfold gdz; omega) _ _
      · rw [c14_z] at h1 h2 h3 h4
        exact go_z (by omega) (by unfold gdz; omega) _ _
      · rw [c14_z] at h1 h2 h3 h4 h5 h6
        exact go_z (by omega) (by unfold gdz; omega) _ _
    · refine ⟨oM_0 (by omega) km0 12 rfl, ?_⟩
      refine ⟨fun h0 => ?_, fun h0 => ?_⟩
      · refine ⟨⟨by omega, by omega⟩, ?_⟩
        exact Or.inl (⟨rfl, h0, rfl⟩)
      · refine ⟨oM_0 (by omega) km0 14 rfl, ?_⟩
        refine ⟨⟨by omega, by omega⟩, ?_⟩
        refine ⟨⟨by omega, by omega⟩, ?_⟩
        refine ⟨aM_7 (r := A 0 14) (by rw [c14_z]; omega) (by rw [c14_z]; exact kn7) (by omega) (by omega), ?_⟩
        have e1 : A (A 0 14) ((6 * i) + j_z) = A 7 ((6 * i) + j_z) := by rw [c14_z]
        refine ⟨oM_0 (by omega) km0 14 rfl, ?_⟩
        refine ⟨⟨by omega, by omega⟩, ?_⟩
        refine ⟨⟨by omega, by omega⟩, ?_⟩
        refine ⟨aM_7 (r := A 0 14) (by rw [c14_z]; omega) (by rw [c14_z]; exact kn7) (by omega) (by omega), ?_⟩
        have e2 : A (A 0 14) ((6 * j_z) + i) = A 7 ((6 * j_z) + i) := by rw [c14_z]
        refine ⟨fun h1 => ?_, fun h1 => ?_⟩
        · refine ⟨fun h2 => ?_, fun h2 => ?_⟩
          · refine ⟨fun h3 => ?_, fun h3 => ?_⟩
            · exact ⟨rfl, h2b (by omega) (by rw [← e1, ← e2]; unfold gdz; omega)⟩
            · refine ⟨fun h4 => ?_, fun h4 => ?_⟩
              · refine ⟨⟨by omega, by omega⟩, ?_⟩
                exact Or.inr (Or.inl (⟨rfl, h0, h1, h2, h3, h4, rfl⟩))
              · exact ⟨rfl, h2b (by omega) (by rw [← e1, ← e2]; unfold gdz; omega)⟩
          · refine ⟨fun h3 => ?_, fun h3 => ?_⟩
            · refine ⟨⟨by omega, by omega⟩, ?_⟩
              exact Or.inr (Or.inr (Or.inl (⟨rfl, h0, h1, h2, h3, rfl⟩)))
            · refine ⟨fun h4 => ?_, fun h4 => ?_⟩
              · exact ⟨rfl, h2b (by omega) (by rw [← e1, ← e2]; unfold gdz; omega)⟩
              · refine ⟨fun h5 => ?_, fun h5 => ?_⟩
                · refine ⟨⟨by omega, by omega⟩, ?_⟩
                  exact Or.inr (Or.inr (Or.inr (Or.inl (⟨rfl, h0, h1, h2, h3, h4, h5, rfl⟩))))
                · exact ⟨rfl, h2b (by omega) (by rw [← e1, ← e2]; unfold gdz; omega)⟩
        · refine ⟨fun h2 => ?_, fun h2 => ?_⟩
          · refine ⟨⟨by omega, by omega⟩, ?_⟩
            exact Or.inr (Or.inr (Or.inr (Or.inr (Or.inl (⟨rfl, h0, h1, h2, rfl⟩)))))
          · refine ⟨fun h3 => ?_, fun h3 => ?_⟩
            · refine ⟨fun h4 => ?_, fun h4 => ?_⟩
              · exact ⟨rfl, h2b (by omega) (by rw [← e1, ← e2]; unfold gdz; omega)⟩
              · refine ⟨fun h5 => ?_, fun h5 => ?_⟩
                · refine ⟨⟨by omega, by omega⟩, ?_⟩
                  exact Or.inr (Or.inr (Or.inr (Or.inr (Or.inr (Or.inl (⟨rfl, h0, h1, h2, h3, h4, h5, rfl⟩))))))
                · exact ⟨rfl, h2b (by omega) (by rw [← e1, ← e2]; unfold gdz; omega)⟩
            · refine ⟨fun h4 => ?_, fun h4 => ?_⟩
              · refine ⟨⟨by omega, by omega⟩, ?_⟩
                exact Or.inr (Or.inr (Or.inr (Or.inr (Or.inr (Or.inr (Or.inl (⟨rfl, h0, h1, h2, h3, h4, rfl⟩)))))))
              · refine ⟨fun h5 => ?_, fun h5 => ?_⟩
                · exact ⟨rfl, h2b (by omega) (by rw [← e1, ← e2]; unfold gdz; omega)⟩
                · refine ⟨fun h6 => ?_, fun h6 => ?_⟩
                  · refine ⟨⟨by omega, by omega⟩, ?_⟩
                    exact Or.inr (Or.inr (Or.inr (Or.inr (Or.inr (Or.inr (Or.inr (⟨rfl, h0, h1, h2, h3, h4, h5, h6, rfl⟩)))))))
                  · exact ⟨rfl, h2b (by omega) (by rw [← e1, ← e2]; unfold gdz; omega)⟩
theorem mqc_41 {A : pm_A} (h : RI A) (p1 : 1 ≤ A 0 12) (hdg : dgz (A 0 12) (A 7)) : ∀ (m_z : Nat) (i_z : Int) (w2_z w3_z w4_z : pm_V), (6 - i_z).toNat < m_z → 0 ≤ i_z → i_z ≤ 6 → (∀ k_z : Int, 0 ≤ k_z → k_z < i_z → k_z < A 0 12 → ∀ j_z : Int, 0 ≤ j_z → j_z < A 0 12 → gdz (A 7 (6 * k_z + j_z)) (A 7 (6 * j_z + k_z))) → Tm pmt (an_sh wM) o_X10_begin 41 ([(2, 0), (0, i_z), w2_z, w3_z, w4_z], [], A) (bz3 A) := by
  have p12 := fM_0_12 h.g (r := 0) (by omega) km0
  intro m_z
  induction m_z with
  | zero => intro i_z w2_z w3_z w4_z h; omega
  | succ m_z ih_z =>
    intro i_z w2_z w3_z w4_z hm_z i0_z i1_z hi_z
    refine wq_ok srt_Mbegin (fr := []) (cuts := [51, 125]) (J := fun pc st_z => (pc = 125 ∧ ((A 0 12) ≤ i_z) ∧ st_z = ([(2, 0), (0, i_z), w2_z, w3_z, w4_z], [], A)) ∨ (pc = 51 ∧ (i_z < (A 0 12)) ∧ st_z = ([(2, 0), (0, i_z), (0, 0), w3_z, w4_z], [], A))) ?_ 11 41 _ ?_
    · rintro pc st_z (⟨rfl, h0, rfl⟩ | ⟨rfl, h0, rfl⟩)
      · exact mqc_125 h ⟨h.2.1.1, fun a_z b_z a0_z a1_z b0 b1 e_z => by have := hi_z a_z a0_z (by omega) a1_z b_z b0 b1; unfold gdz at this; omega⟩ p1 hdg (fun a_z b_z a0_z a1_z b0 b1 => hi_z a_z a0_z (by omega) a1_z b_z b0 b1)
      · refine mqc_51 h i0_z (by omega) p12.2 hdg (fun hj w2_z w3_z w4_z => ih_z (i_z + 1) _ _ _ (by omega) (by omega) (by omega) (fun k_z k0_z k1_z k2_z => ?_)) _ 0 _ _ (Nat.lt_succ_self _) (by omega) (by omega) (fun k_z k0_z k1_z => by omega)
        by_cases e_z : k_z = i_z
        · rw [e_z]; exact hj
        · exact hi_z k_z k0_z (by omega) k2_z
    · refine ⟨oM_0 (by omega) km0 12 rfl, ?_⟩
      refine ⟨fun h0 => ?_, fun h0 => ?_⟩
      · exact Or.inl (⟨rfl, h0, rfl⟩)
      · exact Or.inr (⟨rfl, h0, rfl⟩)
theorem mqc_11 {A : pm_A} (h : RI A) (p1 : 1 ≤ A 0 12) : ∀ (m_z : Nat) (i_z : Int) (w2_z w3_z w4_z : pm_V), (6 - i_z).toNat < m_z → 0 ≤ i_z → i_z ≤ 6 → (∀ k_z : Int, 0 ≤ k_z → k_z < i_z → k_z < A 0 12 → A 7 (7 * k_z) = 0) → Tm pmt (an_sh wM) o_X10_begin 11 ([(2, 0), (0, i_z), w2_z, w3_z, w4_z], [], A) (bz3 A) := by
  have p12 := fM_0_12 h.g (r := 0) (by omega) km0
  have c14_z := pM_14 h.g
  intro m_z
  induction m_z with
  | zero => intro i_z w2_z w3_z w4_z h; omega
  | succ m_z ih_z =>
    intro i_z w2_z w3_z w4_z hm_z i0_z i1_z hi_z
    refine wq_ok srt_Mbegin (fr := []) (cuts := [11, 41]) (J := fun pc st_z => (pc = 41 ∧ ((A 0 12) ≤ i_z) ∧ st_z = ([(2, 0), (0, 0), w2_z, w3_z, w4_z], [], A)) ∨ (pc = 11 ∧ (i_z < (A 0 12)) ∧ ((A (A 0 14) (7 * i_z)) = 0) ∧ st_z = ([(2, 0), (0, i_z + 1), w2_z, w3_z, w4_z], [], A))) ?_ 18 11 _ ?_
    · rintro pc st_z (⟨rfl, h0, rfl⟩ | ⟨rfl, h0, h1, rfl⟩)
      · exact mqc_41 h p1 (fun k_z k0_z k1_z => hi_z k_z k0_z (by omega) k1_z) _ 0 _ _ _ (Nat.lt_succ_self _) (by omega) (by omega) (fun k_z k0_z k1_z => by omega)
      · rw [c14_z] at h1
        refine ih_z (i_z + 1) _ _ _ (by omega) (by omega) (by omega) (fun k_z k0_z k1_z k2_z => ?_)
        by_cases e_z : k_z = i_z
        · rw [e_z]; exact h1
        · exact hi_z k_z k0_z (by omega) k2_z
    · refine ⟨oM_0 (by omega) km0 12 rfl, ?_⟩
      refine ⟨fun h0 => ?_, fun h0 => ?_⟩
      · exact Or.inl (⟨rfl, h0, rfl⟩)
      · refine ⟨oM_0 (by omega) km0 14 rfl, ?_⟩
        refine ⟨⟨by omega, by omega⟩, ?_⟩
        refine ⟨aM_7 (r := A 0 14) (by rw [c14_z]; omega) (by rw [c14_z]; exact kn7) (by omega) (by omega), ?_⟩
        have e1 : A (A 0 14) (7 * i_z) = A 7 (7 * i_z) := by rw [c14_z]
        refine ⟨fun h1 => ?_, fun h1 => ?_⟩
        · refine ⟨⟨by omega, by omega⟩, ?_⟩
          exact Or.inr (⟨rfl, h0, h1, rfl⟩)
        · rw [c14_z] at h1
          exact ⟨rfl, ⟨⟨_, rfl⟩, h⟩, 1, rfl, Or.inr ⟨p1, Or.inl ⟨rfl, fun hs => h1 (hs i_z i0_z (by omega))⟩⟩, Or.inr ⟨by omega, gpF_rf h.g⟩⟩
theorem mbegin_ex3 {A : pm_A} (h : RI A) : Cl pmt (an_sh wM) 129 [(2, 0)] A (bz3 A) := by
  have p12 := fM_0_12 h.g (r := 0) (by omega) km0
  refine Cl.of (Nat.le_of_ble_eq_true rfl) ?_
  refine wq_ok (full := o_X10_begin) srt_Mbegin (fr := []) (cuts := [11]) (J := fun pc st_z => (pc = 11 ∧ (¬ (A 0 12) = 0) ∧ st_z = ([(2, 0), (0, 0), (9, 0), (9, 0), (9, 0)], [], A))) ?_ 10 0 _ ?_
  · rintro pc st_z (⟨rfl, h0, rfl⟩)
    exact mqc_11 h (by omega) _ 0 _ _ _ (Nat.lt_succ_self _) (by omega) (by omega) (fun k_z k0_z k1_z => by omega)
  · refine ⟨oM_0 (by omega) km0 12 rfl, ?_⟩
    refine ⟨fun h0 => ?_, fun h0 => ?_⟩
    · exact ⟨rfl, h0, rfl⟩
    · exact ⟨rfl, ⟨⟨_, rfl⟩, h⟩, -1, rfl, Or.inl ⟨rfl, h0⟩, Or.inr ⟨by omega, gpF_rf h.g⟩⟩
def ms3 (A : pm_A) (sl n : Int) (r : pm_R) : Prop := ri_post r ∧ ∃ B_z x_z, RI B_z ∧ sdF A B_z ∧ (∀ k_z : Int, 0 ≤ k_z → k_z < 72 → B_z 7 k_z = tsum (ctr n (fcs A sl)) 1000 k_z) ∧ (∀ k_z : Int, 0 ≤ k_z → k_z < 72 → -9 ≤ B_z 7 k_z ∧ B_z 7 k_z ≤ 9) ∧ (B_z 0 12 = n - 3 ∧ B_z 0 13 = 0) ∧ bgA (B_z 0 12) (B_z 7) x_z ∧ r.1 = some (0, if x_z = 0 then 1 else 0) ∧ (r.2 0 12 = B_z 0 12 ∧ r.2 0 13 = B_z 0 13 ∧ ∀ k_z : Int, 0 ≤ k_z → r.2 7 k_z = B_z 7 k_z) ∧ ((x_z = 0 ∧ lsz (B_z 0 12) (B_z 7) (r.2 10) ∧ ∃ E_z, gpF B_z E_z ∧ szd E_z ∧ bgJ E_z r.2) ∨ (¬ x_z = 0 ∧ gpF B_z r.2))
theorem mbegin_fr3 {A : pm_A} (h : RI A) : Cl pmt (an_sh wM) 129 [(2, 0)] A (fun r_z => bz3 A r_z ∧ r_z.2 0 12 = A 0 12 ∧ r_z.2 0 13 = A 0 13 ∧ ∀ k_z : Int, 0 ≤ k_z → r_z.2 7 k_z = A 7 k_z) := by
  obtain ⟨k_z, r_z, c1_z, q_z⟩ := mbegin_ex3 h
  have f_z := (fm_begin c1_z (gK_of h.g)).2
  exact ⟨k_z, r_z, c1_z, q_z, f_z 0 12 (by omega) (by omega) (by rw [kMd 12]; exact nin rfl), f_z 0 13 (by omega) (by omega) (by rw [kMd 13]; exact nin rfl), fun k_z k0_z => f_z 7 k_z (by omega) k0_z (by rw [kM7]; exact nin rfl)⟩
theorem sdr_150 {A B : pm_A} {sl n z3 a b c : Int} (hs : sl = 0 ∨ sl = 1) (hA : gH wM A) (hcut : cntF (fcs A sl) 100 ≤ 6) (n1 : n ≤ 10) (cn : c < n) (hs3 : sdT n (fcs A sl) a b c) (ht : tri3 a b c) (hJ : sdK A B sl n (100 * a + 10 * b + c)) (H : ∀ C_z w7_z w8 w9, sdK A C_z sl n (100 * a + 10 * b + c + 1) → Tm pmt (an_sh wM) o_X10_seed 174 ([(2, 0), (0, sl), (0, n), (0, z3), (0, a), (0, b), (0, c), w7_z, w8, w9], [], C_z) (ms3 A sl n)) {p7 p8 p9 : Int} (hp7 : plV (fcs A sl) (10 * a + b) p7) (hp8 : plV (fcs A sl) (10 * b + c) p8) (hp9 : plV (fcs A sl) (10 * a + c) p9) : Tm pmt (an_sh wM) o_X10_seed 150 ([(2, 0), (0, sl), (0, n), (0, z3), (0, a), (0, b), (0, c), (0, p7), (0, p8), (0, p9)], [], B) (ms3 A sl n) := by
  have gB := hJ.1.1.1
  have mB : ∀ k_z : Int, 0 ≤ k_z → k_z < 72 → -100 ≤ B 7 k_z ∧ B 7 k_z ≤ 100 := fun k_z k0_z k1_z => by have := hJ.1.b9 k0_z k1_z; omega
  refine wq_ok srt_Mseed (fr := []) (cuts := [158]) (J := fun pc st_z => (pc = 158 ∧ ∃ B1, ldq_post B p7 p8 (none, B1) ∧ st_z = ([(2, 0), (0, sl), (0, n), (0, z3), (0, a), (0, b), (0, c), (0, p7), (0, p8), (0, p9)], [], B1))) ?_ 8 150 _ ?_
  · rintro pc st_z (⟨rfl, B1, lB1, rfl⟩)
    have gB1 := lB1.1.2.1
    have mB1 : ∀ k_z : Int, 0 ≤ k_z → k_z < 72 → -100 ≤ B1 7 k_z ∧ B1 7 k_z ≤ 100 := fun k_z k0_z k1_z => by have := hJ.1.b9 k0_z k1_z; have e1 := lB1.1.2.2.2.1 k_z; simp only at e1; omega
    refine wq_ok srt_Mseed (fr := []) (cuts := [166]) (J := fun pc st_z => (pc = 166 ∧ ∃ B2, ldq_post B1 p8 p9 (none, B2) ∧ st_z = ([(2, 0), (0, sl), (0, n), (0, z3), (0, a), (0, b), (0, c), (0, p7), (0, p8), (0, p9)], [], B2))) ?_ 8 158 _ ?_
    · rintro pc st_z (⟨rfl, B2, lB2, rfl⟩)
      have gB2 := lB2.1.2.1
      have mB2 : ∀ k_z : Int, 0 ≤ k_z → k_z < 72 → -100 ≤ B2 7 k_z ∧ B2 7 k_z ≤ 100 := fun k_z k0_z k1_z => by have := hJ.1.b9 k0_z k1_z; have e1 := lB1.1.2.2.2.1 k_z; have e2 := lB2.1.2.2.2.1 k_z; simp only at e1 e2; omega
      refine wq_ok srt_Mseed (fr := []) (cuts := [174]) (J := fun pc st_z => (pc = 174 ∧ ∃ B3, ldq_post B2 p9 p7 (none, B3) ∧ st_z = ([(2, 0), (0, sl), (0, n), (0, z3), (0, a), (0, b), (0, c), (0, p7), (0, p8), (0, p9)], [], B3))) ?_ 8 166 _ ?_
      · rintro pc st_z (⟨rfl, B3, lB3, rfl⟩)
        exact H B3 _ _ _ (hJ.step n1 cn hs3 ht hp7 hp8 hp9 lB1 lB2 lB3)
      · refine ⟨rM_0 (by omega) km0, ?_⟩
        refine (leads_exq (B := B2) (i := p9) (j := p7) gB2 (by rcases hp9 with e_z | e_z <;> omega) (by rcases hp9 with e_z | e_z <;> omega) (by rcases hp7 with e_z | e_z <;> omega) (by rcases hp7 with e_z | e_z <;> omega) mB2).imp ?_
        rintro ⟨r1_z, B3⟩ lB3
        have q1_z := lB3.1.1
        simp only at q1_z
        subst q1_z
        exact ⟨rfl, B3, lB3, rfl⟩
    · refine ⟨rM_0 (by omega) km0, ?_⟩
      refine (leads_exq (B := B1) (i := p8) (j := p9) gB1 (by rcases hp8 with e_z | e_z <;> omega) (by rcases hp8 with e_z | e_z <;> omega) (by rcases hp9 with e_z | e_z <;> omega) (by rcases hp9 with e_z | e_z <;> omega) mB1).imp ?_
      rintro ⟨r1_z, B2⟩ lB2
      have q1_z := lB2.1.1
      simp only at q1_z
      subst q1_z
      exact ⟨rfl, B2, lB2, rfl⟩
  · refine ⟨rM_0 (by omega) km0, ?_⟩
    refine (leads_exq (B := B) (i := p7) (j := p8) gB (by rcases hp7 with e_z | e_z <;> omega) (by rcases hp7 with e_z | e_z <;> omega) (by rcases hp8 with e_z | e_z <;> omega) (by rcases hp8 with e_z | e_z <;> omega) mB).imp ?_
    rintro ⟨r1_z, B1⟩ lB1
    have q1_z := lB1.1.1
    simp only at q1_z
    subst q1_z
    exact ⟨rfl, B1, lB1, rfl⟩
theorem sdr_117 {A B : pm_A} {sl n z3 a b c : Int} (hs : sl = 0 ∨ sl = 1) (hA : gH wM A) (hcut : cntF (fcs A sl) 100 ≤ 6) (n1 : n ≤ 10) (cn : c < n) (hs3 : sdT n (fcs A sl) a b c) (ht : tri3 a b c) (hJ : sdK A B sl n (100 * a + 10 * b + c)) (H : ∀ C_z w7 w8 w9, sdK A C_z sl n (100 * a + 10 * b + c + 1) → Tm pmt (an_sh wM) o_X10_seed 174 ([(2, 0), (0, sl), (0, n), (0, z3), (0, a), (0, b), (0, c), w7, w8, w9], [], C_z) (ms3 A sl n)) {w7 w8 w9 : pm_V} : Tm pmt (an_sh wM) o_X10_seed 117 ([(2, 0), (0, sl), (0, n), (0, z3), (0, a), (0, b), (0, c), w7, w8, w9], [], B) (ms3 A sl n) := by
  have ht2 := ht
  unfold tri3 at ht2
  refine wq_ok srt_Mseed (fr := []) (cuts := [126]) (J := fun pc st_z => (pc = 126 ∧ ∃ p7_z, plV (fcs A sl) (10 * a + b) p7_z ∧ st_z = ([(2, 0), (0, sl), (0, n), (0, z3), (0, a), (0, b), (0, c), w7, w8, w9], [(0, p7_z)], B))) ?_ 9 117 _ ?_
  · rintro pc st_z (⟨rfl, p7_z, hp7, rfl⟩)
    refine wq_ok srt_Mseed (fr := []) (cuts := [137]) (J := fun pc st_z => (pc = 137 ∧ ∃ p8, plV (fcs A sl) (10 * b + c) p8 ∧ st_z = ([(2, 0), (0, sl), (0, n), (0, z3), (0, a), (0, b), (0, c), (0, p7_z), w8, w9], [(0, p8)], B))) ?_ 10 126 _ ?_
    · rintro pc st_z (⟨rfl, p8, hp8, rfl⟩)
      refine wq_ok srt_Mseed (fr := []) (cuts := [148]) (J := fun pc st_z => (pc = 148 ∧ ∃ p9, plV (fcs A sl) (10 * a + c) p9 ∧ st_z = ([(2, 0), (0, sl), (0, n), (0, z3), (0, a), (0, b), (0, c), (0, p7_z), (0, p8), w9], [(0, p9)], B))) ?_ 10 137 _ ?_
      · rintro pc st_z (⟨rfl, p9, hp9, rfl⟩)
        refine wq_ok srt_Mseed (fr := []) (cuts := [150]) (J := fun pc st_z => (pc = 150 ∧ st_z = ([(2, 0), (0, sl), (0, n), (0, z3), (0, a), (0, b), (0, c), (0, p7_z), (0, p8), (0, p9)], [], B))) ?_ 6 148 _ ?_
        · rintro pc st_z (⟨rfl, rfl⟩)
          exact sdr_150 hs hA hcut n1 cn hs3 ht hJ H hp7 hp8 hp9
        · exact ⟨rfl, rfl⟩
      · refine ⟨rM_0 (by omega) km0, ?_⟩
        refine (placeOf_ex (A := B) (sl := sl) (x := a) (y := c) hJ.1.1.1 (by omega) (by omega) (by omega) (by omega) (by omega)).imp ?_
        rintro ⟨r1_z, C_z⟩ hpo
        obtain ⟨q1_z, p9, q2_z, hp9⟩ := po_plV hJ.1.1 hA hcut (by omega) (by omega) hpo
        simp only at q1_z q2_z
        subst q1_z
        subst q2_z
        exact ⟨rfl, p9, hp9, rfl⟩
    · refine ⟨rM_0 (by omega) km0, ?_⟩
      refine (placeOf_ex (A := B) (sl := sl) (x := b) (y := c) hJ.1.1.1 (by omega) (by omega) (by omega) (by omega) (by omega)).imp ?_
      rintro ⟨r1_z, C_z⟩ hpo
      obtain ⟨q1_z, p8, q2_z, hp8⟩ := po_plV hJ.1.1 hA hcut (by omega) (by omega) hpo
      simp only at q1_z q2_z
      subst q1_z
      subst q2_z
      exact ⟨rfl, p8, hp8, rfl⟩
  · refine ⟨rM_0 (by omega) km0, ?_⟩
    refine (placeOf_ex (A := B) (sl := sl) (x := a) (y := b) hJ.1.1.1 (by omega) (by omega) (by omega) (by omega) (by omega)).imp ?_
    rintro ⟨r1_z, C_z⟩ hpo
    obtain ⟨q1_z, p7_z, q2_z, hp7⟩ := po_plV hJ.1.1 hA hcut (by omega) (by omega) hpo
    simp only at q1_z q2_z
    subst q1_z
    subst q2_z
    exact ⟨rfl, p7_z, hp7, rfl⟩
theorem sdr_72 {A : pm_A} {sl n z3 a b : Int} (hs : sl = 0 ∨ sl = 1) (hA : gH wM A) (hcut : cntF (fcs A sl) 100 ≤ 6) (n9 : n ≤ 9) (hn : n = A 31 sl) (a0 : 0 ≤ a) (ab : a < b) (bn : b < n) (H : ∀ C_z w6_z w7_z w8 w9, sdK A C_z sl n (100 * a + 10 * b + 10) → Tm pmt (an_sh wM) o_X10_seed 180 ([(2, 0), (0, sl), (0, n), (0, z3), (0, a), (0, b), w6_z, w7_z, w8, w9], [], C_z) (ms3 A sl n)) : ∀ (m_z : Nat) (c_z : Int) (w7_z w8 w9 : pm_V) (B_z : pm_A), (10 - c_z).toNat < m_z → b < c_z → c_z ≤ 10 → sdK A B_z sl n (100 * a + 10 * b + c_z) → Tm pmt (an_sh wM) o_X10_seed 72 ([(2, 0), (0, sl), (0, n), (0, z3), (0, a), (0, b), (0, c_z), w7_z, w8, w9], [], B_z) (ms3 A sl n) := by
  intro m_z
  induction m_z with
  | zero => intro c_z w7_z w8 w9 B_z h_z; omega
  | succ m_z ih_z =>
    intro c_z w7_z w8 w9 B_z hm_z c0_z c1_z hJ
    have eF : fcs B_z sl = fcs A sl := fcs_sd hJ.1.1
    have e31_z : B_z 31 sl = n := by rw [hJ.1.1.2 31 sl (by omega) (by omega), hn]
    have h174 : c_z < n → ∀ C_z w7_z w8 w9, sdK A C_z sl n (100 * a + 10 * b + c_z + 1) → Tm pmt (an_sh wM) o_X10_seed 174 ([(2, 0), (0, sl), (0, n), (0, z3), (0, a), (0, b), (0, c_z), w7_z, w8, w9], [], C_z) (ms3 A sl n) := fun hc_z C_z w7_z w8 w9 hC => by
      refine wq_ok srt_Mseed (fr := []) (cuts := [72]) (J := fun pc st_z => (pc = 72 ∧ st_z = ([(2, 0), (0, sl), (0, n), (0, z3), (0, a), (0, b), (0, c_z + 1), w7_z, w8, w9], [], C_z))) ?_ 7 174 _ ?_
      · rintro pc st_z (⟨rfl, rfl⟩)
        exact ih_z (c_z + 1) _ _ _ C_z (by omega) (by omega) (by omega) (hC.up (by omega) (by omega) (fun v_z v0_z v1_z x_z y_z z_z x0_z xy_z yz zn e_z => by omega))
      · refine ⟨⟨by omega, by omega⟩, ?_⟩
        exact ⟨rfl, rfl⟩
    refine wq_ok srt_Mseed (fr := []) (cuts := [87, 180]) (J := fun pc st_z => (pc = 180 ∧ (n ≤ c_z) ∧ st_z = ([(2, 0), (0, sl), (0, n), (0, z3), (0, a), (0, b), (0, c_z), w7_z, w8, w9], [], B_z)) ∨ (pc = 87 ∧ (c_z < n) ∧ ∃ x1_z : Int, ((x1_z = 1 ∧ side (B_z 31 sl) (fcs B_z sl) a b) ∨ (x1_z = 0 ∧ ¬ side (B_z 31 sl) (fcs B_z sl) a b)) ∧ st_z = ([(2, 0), (0, sl), (0, n), (0, z3), (0, a), (0, b), (0, c_z), w7_z, w8, w9], [(0, x1_z)], B_z))) ?_ 12 72 _ ?_
    · rintro pc st_z (⟨rfl, h0, rfl⟩ | ⟨rfl, hcn, x1_z, hx1, rfl⟩)
      · exact H B_z _ _ _ _ (hJ.up (by omega) (by omega) (fun v_z v0_z v1_z x_z y_z z_z x0_z xy_z yz zn e_z => by omega))
      · refine wq_ok srt_Mseed (fr := []) (cuts := [99, 174]) (J := fun pc st_z => (pc = 174 ∧ (x1_z = 0) ∧ st_z = ([(2, 0), (0, sl), (0, n), (0, z3), (0, a), (0, b), (0, c_z), w7_z, w8, w9], [], B_z)) ∨ (pc = 99 ∧ (¬ x1_z = 0) ∧ ∃ x2_z : Int, ((x2_z = 1 ∧ side (B_z 31 sl) (fcs B_z sl) b c_z) ∨ (x2_z = 0 ∧ ¬ side (B_z 31 sl) (fcs B_z sl) b c_z)) ∧ st_z = ([(2, 0), (0, sl), (0, n), (0, z3), (0, a), (0, b), (0, c_z), w7_z, w8, w9], [(0, x2_z)], B_z))) ?_ 10 87 _ ?_
        · rintro pc st_z (⟨rfl, h0, rfl⟩ | ⟨rfl, hz1, x2_z, hx2, rfl⟩)
          · refine h174 (by omega) B_z _ _ _ (hJ.no (by omega) a0 ab c0_z (by omega) (fun q_z => ?_))
            rw [e31_z, eF] at hx1
            rcases hx1 with ⟨e_z, _⟩ | ⟨_, e_z⟩
            · omega
            · exact e_z q_z.1
          · refine wq_ok srt_Mseed (fr := []) (cuts := [111, 174]) (J := fun pc st_z => (pc = 174 ∧ (x2_z = 0) ∧ st_z = ([(2, 0), (0, sl), (0, n), (0, z3), (0, a), (0, b), (0, c_z), w7_z, w8, w9], [], B_z)) ∨ (pc = 111 ∧ (¬ x2_z = 0) ∧ ∃ x3 : Int, ((x3 = 1 ∧ side (B_z 31 sl) (fcs B_z sl) a c_z) ∨ (x3 = 0 ∧ ¬ side (B_z 31 sl) (fcs B_z sl) a c_z)) ∧ st_z = ([(2, 0), (0, sl), (0, n), (0, z3), (0, a), (0, b), (0, c_z), w7_z, w8, w9], [(0, x3)], B_z))) ?_ 10 99 _ ?_
            · rintro pc st_z (⟨rfl, h0, rfl⟩ | ⟨rfl, hz2, x3, hx3, rfl⟩)
              · refine h174 (by omega) B_z _ _ _ (hJ.no (by omega) a0 ab c0_z (by omega) (fun q_z => ?_))
                rw [e31_z, eF] at hx2
                rcases hx2 with ⟨e_z, _⟩ | ⟨_, e_z⟩
                · omega
                · exact e_z q_z.2.1
              · refine wq_ok srt_Mseed (fr := []) (cuts := [117, 174]) (J := fun pc st_z => (pc = 117 ∧ (¬ x3 = 0) ∧ st_z = ([(2, 0), (0, sl), (0, n), (0, z3), (0, a), (0, b), (0, c_z), w7_z, w8, w9], [], B_z)) ∨ (pc = 174 ∧ (x3 = 0) ∧ st_z = ([(2, 0), (0, sl), (0, n), (0, z3), (0, a), (0, b), (0, c_z), w7_z, w8, w9], [], B_z))) ?_ 7 111 _ ?_
                · rintro pc st_z (⟨rfl, h0, rfl⟩ | ⟨rfl, h0, rfl⟩)
                  · refine sdr_117 hs hA hcut (by omega) (by omega) ⟨?_, ?_, ?_⟩ ⟨a0, ab, c0_z, by omega⟩ hJ (h174 (by omega))
                    · rw [e31_z, eF] at hx1
                      rcases hx1 with ⟨_, e_z⟩ | ⟨e_z, _⟩
                      · exact e_z
                      · omega
                    · rw [e31_z, eF] at hx2
                      rcases hx2 with ⟨_, e_z⟩ | ⟨e_z, _⟩
                      · exact e_z
                      · omega
                    · rw [e31_z, eF] at hx3
                      rcases hx3 with ⟨_, e_z⟩ | ⟨e_z, _⟩
                      · exact e_z
                      · omega
                  · refine h174 (by omega) B_z _ _ _ (hJ.no (by omega) a0 ab c0_z (by omega) (fun q_z => ?_))
                    rw [e31_z, eF] at hx3
                    rcases hx3 with ⟨e_z, _⟩ | ⟨_, e_z⟩
                    · omega
                    · exact e_z q_z.2.2
                · refine ⟨fun h0 => ?_, fun h0 => ?_⟩
                  · exact Or.inl (⟨rfl, h0, rfl⟩)
                  · exact Or.inr (⟨rfl, h0, rfl⟩)
            · refine ⟨fun h0 => ?_, fun h0 => ?_⟩
              · exact Or.inl (⟨rfl, h0, rfl⟩)
              · refine ⟨rM_0 (by omega) km0, ?_⟩
                refine (isSide_ex (A := B_z) (sl := sl) (x := a) (y := c_z) hJ.1.1.1 (by omega) (by omega) (by omega) (by omega) (by omega) (by omega)).imp ?_
                rintro ⟨r1_z, C_z⟩ ⟨q1_z, x3, q2_z, hx3⟩
                simp only at q1_z q2_z
                subst q1_z
                subst q2_z
                exact Or.inr (⟨rfl, h0, x3, hx3, rfl⟩)
        · refine ⟨fun h0 => ?_, fun h0 => ?_⟩
          · exact Or.inl (⟨rfl, h0, rfl⟩)
          · refine ⟨rM_0 (by omega) km0, ?_⟩
            refine (isSide_ex (A := B_z) (sl := sl) (x := b) (y := c_z) hJ.1.1.1 (by omega) (by omega) (by omega) (by omega) (by omega) (by omega)).imp ?_
            rintro ⟨r1_z, C_z⟩ ⟨q1_z, x2_z, q2_z, hx2⟩
            simp only at q1_z q2_z
            subst q1_z
            subst q2_z
            exact Or.inr (⟨rfl, h0, x2_z, hx2, rfl⟩)
    · refine ⟨fun h0 => ?_, fun h0 => ?_⟩
      · exact Or.inl (⟨rfl, h0, rfl⟩)
      · refine ⟨rM_0 (by omega) km0, ?_⟩
        refine (isSide_ex (A := B_z) (sl := sl) (x := a) (y := b) hJ.1.1.1 (by omega) (by omega) (by omega) (by omega) (by omega) (by omega)).imp ?_
        rintro ⟨r1_z, C_z⟩ ⟨q1_z, x1_z, q2_z, hx1⟩
        simp only at q1_z q2_z
        subst q1_z
        subst q2_z
        exact Or.inr (⟨rfl, h0, x1_z, hx1, rfl⟩)
theorem sdr_60 {A : pm_A} {sl n z3 a : Int} (hs : sl = 0 ∨ sl = 1) (hA : gH wM A) (hcut : cntF (fcs A sl) 100 ≤ 6) (n9 : n ≤ 9) (hn : n = A 31 sl) (a0 : 0 ≤ a) (an : a < n) (H : ∀ C_z w5 w6_z w7_z w8 w9, sdK A C_z sl n (100 * a + 100) → Tm pmt (an_sh wM) o_X10_seed 186 ([(2, 0), (0, sl), (0, n), (0, z3), (0, a), w5, w6_z, w7_z, w8, w9], [], C_z) (ms3 A sl n)) : ∀ (m_z : Nat) (b_z : Int) (w6_z w7_z w8 w9 : pm_V) (B_z : pm_A), (10 - b_z).toNat < m_z → a < b_z → b_z ≤ 10 → sdK A B_z sl n (100 * a + 10 * b_z) → Tm pmt (an_sh wM) o_X10_seed 60 ([(2, 0), (0, sl), (0, n), (0, z3), (0, a), (0, b_z), w6_z, w7_z, w8, w9], [], B_z) (ms3 A sl n) := by
  intro m_z
  induction m_z with
  | zero => intro b_z w6_z w7_z w8 w9 B_z h_z; omega
  | succ m_z ih_z =>
    intro b_z w6_z w7_z w8 w9 B_z hm_z b0 b1 hJ
    have h180 : b_z < n → ∀ C_z w6_z w7_z w8 w9, sdK A C_z sl n (100 * a + 10 * b_z + 10) → Tm pmt (an_sh wM) o_X10_seed 180 ([(2, 0), (0, sl), (0, n), (0, z3), (0, a), (0, b_z), w6_z, w7_z, w8, w9], [], C_z) (ms3 A sl n) := fun hc_z C_z w6_z w7_z w8 w9 hC => by
      refine wq_ok srt_Mseed (fr := []) (cuts := [60]) (J := fun pc st_z => (pc = 60 ∧ st_z = ([(2, 0), (0, sl), (0, n), (0, z3), (0, a), (0, b_z + 1), w6_z, w7_z, w8, w9], [], C_z))) ?_ 7 180 _ ?_
      · rintro pc st_z (⟨rfl, rfl⟩)
        exact ih_z (b_z + 1) _ _ _ _ C_z (by omega) (by omega) (by omega) (hC.up (by omega) (by omega) (fun v_z v0_z v1_z x_z y_z z_z x0_z xy_z yz zn e_z => by omega))
      · refine ⟨⟨by omega, by omega⟩, ?_⟩
        exact ⟨rfl, rfl⟩
    refine wq_ok srt_Mseed (fr := []) (cuts := [72, 186]) (J := fun pc st_z => (pc = 186 ∧ (n ≤ b_z) ∧ st_z = ([(2, 0), (0, sl), (0, n), (0, z3), (0, a), (0, b_z), w6_z, w7_z, w8, w9], [], B_z)) ∨ (pc = 72 ∧ (b_z < n) ∧ st_z = ([(2, 0), (0, sl), (0, n), (0, z3), (0, a), (0, b_z), (0, b_z + 1), w7_z, w8, w9], [], B_z))) ?_ 12 60 _ ?_
    · rintro pc st_z (⟨rfl, h0, rfl⟩ | ⟨rfl, h0, rfl⟩)
      · exact H B_z _ _ _ _ _ (hJ.up (by omega) (by omega) (fun v_z v0_z v1_z x_z y_z z_z x0_z xy_z yz zn e_z => by rcases Int.lt_trichotomy x_z a with q_z | q_z | q_z <;> omega))
      · exact sdr_72 hs hA hcut n9 hn a0 b0 (by omega) (h180 (by omega)) _ (b_z + 1) _ _ _ B_z (Nat.lt_succ_self _) (by omega) (by omega) (hJ.up (by omega) (by omega) (fun v_z v0_z v1_z x_z y_z z_z x0_z xy_z yz zn e_z => by omega))
    · refine ⟨fun h0 => ?_, fun h0 => ?_⟩
      · exact Or.inl (⟨rfl, h0, rfl⟩)
      · refine ⟨⟨by omega, by omega⟩, ?_⟩
        exact Or.inr (⟨rfl, h0, rfl⟩)
theorem sdr_192 {A B : pm_A} {sl n : Int} (h : RI A) (hJ : sdK A B sl n 1000) {w1 w2 w3 w4 w5 w6 w7 w8 w9 : pm_V} : Tm pmt (an_sh wM) o_X10_seed 192 ([(2, 0), w1, w2, w3, w4, w5, w6, w7, w8, w9], [], B) (ms3 A sl n) := by
  have hB_z : RI B := hJ.1.1.ri h (fun j_z j0 j1 => by have := hJ.1.b9 j0 j1; omega)
  refine wq_ok srt_Mseed (fr := []) (cuts := [196]) (J := fun pc st_z => (pc = 196 ∧ ∃ C_z x_z, RI C_z ∧ (bgA (B 0 12) (B 7) x_z ∧ (C_z 0 12 = B 0 12 ∧ C_z 0 13 = B 0 13 ∧ ∀ k_z : Int, 0 ≤ k_z → C_z 7 k_z = B 7 k_z) ∧ ((x_z = 0 ∧ lsz (B 0 12) (B 7) (C_z 10) ∧ ∃ E_z, gpF B E_z ∧ szd E_z ∧ bgJ E_z C_z) ∨ (¬ x_z = 0 ∧ gpF B C_z))) ∧ st_z = ([(2, 0), w1, w2, w3, w4, w5, w6, w7, w8, w9], [(0, x_z)], C_z))) ?_ 6 192 _ ?_
  · rintro pc st_z (⟨rfl, C_z, x_z, q2_z, ⟨q3_z, q4_z, q5_z⟩, rfl⟩)
    have q6_z : (x_z = 0 ∧ lsz (B 0 12) (B 7) (C_z 10) ∧ ∃ E_z, gpF B E_z ∧ szd E_z ∧ bgJ E_z C_z) ∨ (¬ x_z = 0 ∧ gpF B C_z) := q5_z
    have b9 : ∀ k_z : Int, 0 ≤ k_z → k_z < 72 → -9 ≤ B 7 k_z ∧ B 7 k_z ≤ 9 := fun k_z k0_z k1_z => by have := hJ.1.b9 k0_z k1_z; omega
    refine wq_ok srt_Mseed (fr := []) (cuts := []) (J := fun _ _ => False) ?_ 8 196 _ ?_
    · intro pc st_z h; exact h.elim
    · refine ⟨fun h0 => ?_, fun h0 => ?_⟩
      · exact ⟨rfl, ⟨⟨_, rfl⟩, q2_z⟩, B, x_z, hB_z, hJ.1.1, hJ.2.1, b9, hJ.2.2, q3_z, by rw [if_neg h0], q4_z, q6_z⟩
      · exact ⟨rfl, ⟨⟨_, rfl⟩, q2_z⟩, B, x_z, hB_z, hJ.1.1, hJ.2.1, b9, hJ.2.2, q3_z, by rw [if_pos h0], q4_z, q6_z⟩
  · refine ⟨rM_0 (by omega) km0, ?_⟩
    refine (mbegin_fr3 hB_z).imp ?_
    rintro ⟨r1_z, C_z⟩ ⟨⟨⟨_, q2_z⟩, x_z, q1_z, q3_z, q5_z⟩, q4_z⟩
    simp only at q1_z q2_z q3_z q4_z q5_z
    subst q1_z
    exact ⟨rfl, C_z, x_z, q2_z, ⟨q3_z, q4_z, q5_z⟩, rfl⟩
theorem sdr_48 {A : pm_A} {sl n z3 : Int} (h : RI A) (hs : sl = 0 ∨ sl = 1) (hcut : cntF (fcs A sl) 100 ≤ 6) (n9 : n ≤ 9) (hn : n = A 31 sl) : ∀ (m_z : Nat) (a_z : Int) (w5 w6_z w7_z w8 w9 : pm_V) (B_z : pm_A), (10 - a_z).toNat < m_z → 0 ≤ a_z → a_z ≤ 10 → sdK A B_z sl n (100 * a_z) → Tm pmt (an_sh wM) o_X10_seed 48 ([(2, 0), (0, sl), (0, n), (0, z3), (0, a_z), w5, w6_z, w7_z, w8, w9], [], B_z) (ms3 A sl n) := by
  intro m_z
  induction m_z with
  | zero => intro a_z w5 w6_z w7_z w8 w9 B_z h; omega
  | succ m_z ih_z =>
    intro a_z w5 w6_z w7_z w8 w9 B_z hm_z a0_z a1_z hJ
    have h186 : a_z < n → ∀ C_z w5 w6_z w7_z w8 w9, sdK A C_z sl n (100 * a_z + 100) → Tm pmt (an_sh wM) o_X10_seed 186 ([(2, 0), (0, sl), (0, n), (0, z3), (0, a_z), w5, w6_z, w7_z, w8, w9], [], C_z) (ms3 A sl n) := fun hc_z C_z w5 w6_z w7_z w8 w9 hC => by
      refine wq_ok srt_Mseed (fr := []) (cuts := [48]) (J := fun pc st_z => (pc = 48 ∧ st_z = ([(2, 0), (0, sl), (0, n), (0, z3), (0, a_z + 1), w5, w6_z, w7_z, w8, w9], [], C_z))) ?_ 7 186 _ ?_
      · rintro pc st_z (⟨rfl, rfl⟩)
        exact ih_z (a_z + 1) _ _ _ _ _ C_z (by omega) (by omega) (by omega) (hC.up (by omega) (by omega) (fun v_z v0_z v1_z x_z y_z z_z x0_z xy_z yz zn e_z => by omega))
      · refine ⟨⟨by omega, by omega⟩, ?_⟩
        exact ⟨rfl, rfl⟩
    refine wq_ok srt_Mseed (fr := []) (cuts := [60, 192]) (J := fun pc st_z => (pc = 192 ∧ (n ≤ a_z) ∧ st_z = ([(2, 0), (0, sl), (0, n), (0, z3), (0, a_z), w5, w6_z, w7_z, w8, w9], [], B_z)) ∨ (pc = 60 ∧ (a_z < n) ∧ st_z = ([(2, 0), (0, sl), (0, n), (0, z3), (0, a_z), (0, a_z + 1), w6_z, w7_z, w8, w9], [], B_z))) ?_ 12 48 _ ?_
    · rintro pc st_z (⟨rfl, h0, rfl⟩ | ⟨rfl, h0, rfl⟩)
      · exact sdr_192 h (hJ.up (by omega) (by omega) (fun v_z v0_z v1_z x_z y_z z_z x0_z xy_z yz zn e_z => by omega))
      · exact sdr_60 hs h.g hcut n9 hn a0_z (by omega) (h186 (by omega)) _ (a_z + 1) _ _ _ _ B_z (Nat.lt_succ_self _) (by omega) (by omega) (hJ.up (by omega) (by omega) (fun v_z v0_z v1_z x_z y_z z_z x0_z xy_z yz zn e_z => by omega))
    · refine ⟨fun h0 => ?_, fun h0 => ?_⟩
      · exact Or.inl (⟨rfl, h0, rfl⟩)
      · refine ⟨⟨by omega, by omega⟩, ?_⟩
        exact Or.inr (⟨rfl, h0, rfl⟩)

def mS3 (A : pm_A) (sl : Int) (r : pm_R) : Prop := (¬ okSd sl (A 31 sl) (fcs A sl) ∧ r = (some (0, 0), A)) ∨ (okSd sl (A 31 sl) (fcs A sl) ∧ ms3 A sl (A 31 sl) r)
theorem smr_36 {A : pm_A} {sl : Int} (h : RI A) (ho : okSd sl (A 31 sl) (fcs A sl)) : Tm pmt (an_sh wM) o_X10_seed 36 ([(2, 0), (0, sl), (0, A 31 sl), (9, 0), (9, 0), (9, 0), (9, 0), (9, 0), (9, 0), (9, 0)], [], A) (mS3 A sl) := by
  have hs := ho.1
  have b31 := eM_31 h.g (r := 31) (by omega) kn31 (j := sl) (by omega) (by omega)
  have hc_z := ho.2.1
  have h9 := ho.2.2
  have h44 : ∀ B_z, sdF A B_z → B_z 0 12 = A 31 sl - 3 → B_z 0 13 = 0 → (∀ j_z : Int, 0 ≤ j_z → j_z < 72 → B_z 7 j_z = 0) → Tm pmt (an_sh wM) o_X10_seed 44 ([(2, 0), (0, sl), (0, A 31 sl), (9, 0), (9, 0), (9, 0), (9, 0), (9, 0), (9, 0), (9, 0)], [(0, 1)], B_z) (mS3 A sl) := fun B_z q3_z q4_z q5_z q6_z => by
    refine wq_ok srt_Mseed (fr := []) (cuts := [48]) (J := fun pc st_z => (pc = 48 ∧ st_z = ([(2, 0), (0, sl), (0, A 31 sl), (0, 1), (0, 0), (9, 0), (9, 0), (9, 0), (9, 0), (9, 0)], [], B_z))) ?_ 8 44 _ ?_
    · rintro pc st_z (⟨rfl, rfl⟩)
      have t_z := sdr_48 h hs (by omega) (by omega) rfl _ 0 (9, 0) (9, 0) (9, 0) (9, 0) (9, 0) B_z (z3 := 1) (Nat.lt_succ_self _) (by omega) (by omega) ⟨⟨q3_z, fun i_z j_z i0_z i1_z j0 j1 => by rw [q6_z (6 * i_z + j_z) (by omega) (by omega)]; exact ⟨by omega, Or.inl rfl⟩⟩, fun k_z k0_z k1_z => by rw [q6_z k_z k0_z k1_z]; rfl, q4_z, q5_z⟩
      obtain ⟨k_z, r_z, c1_z, q_z⟩ := t_z
      exact ⟨k_z, r_z, c1_z, Or.inr ⟨ho, q_z⟩⟩
    · exact ⟨rfl, rfl⟩
  refine wq_ok srt_Mseed (fr := []) (cuts := [44]) (J := fun pc st_z => (pc = 44 ∧ ∃ B_z, sdF A B_z ∧ B_z 0 12 = A 31 sl - 3 ∧ B_z 0 13 = 0 ∧ (∀ j_z : Int, 0 ≤ j_z → j_z < 72 → B_z 7 j_z = 0) ∧ st_z = ([(2, 0), (0, sl), (0, A 31 sl), (9, 0), (9, 0), (9, 0), (9, 0), (9, 0), (9, 0), (9, 0)], [(0, 1)], B_z))) ?_ 10 36 _ ?_
  · rintro pc st_z (⟨rfl, B_z, q3_z, q4_z, q5_z, q6_z, rfl⟩)
    exact h44 B_z q3_z q4_z q5_z q6_z
  · refine ⟨⟨by omega, by omega⟩, ?_⟩
    refine ⟨rM_0 (by omega) km0, ?_⟩
    refine (table_ex h.g (A 31 sl - 3) 0).imp ?_
    rintro ⟨r1_z, B_z⟩ (⟨q1_z, q2_z, q3_z⟩ | ⟨q1_z, q2_z, q3_z, q4_z, q5_z, q6_z⟩)
    · exact absurd (show okT (A 31 sl - 3) 0 from ⟨⟨by omega, by omega⟩, by omega, by omega⟩) q3_z
    · simp only at q1_z q3_z q4_z q5_z q6_z
      subst q1_z
      exact ⟨rfl, B_z, q3_z, q4_z, q5_z, q6_z, rfl⟩
theorem mseed_ex3 {A : pm_A} {sl : Int} (h : RI A) : Cl pmt (an_sh wM) 183 [(2, 0), (0, sl)] A (mS3 A sl) := by
  have c48_z := pM_48 h.g
  have e48 : A (A 0 48) sl = A 31 sl := by rw [c48_z]
  have h8 : sl = 0 ∨ sl = 1 → Tm pmt (an_sh wM) o_X10_seed 8 ([(2, 0), (0, sl), (9, 0), (9, 0), (9, 0), (9, 0), (9, 0), (9, 0), (9, 0), (9, 0)], [], A) (mS3 A sl) := fun hs => by
    have b31 := eM_31 h.g (r := 31) (by omega) kn31 (j := sl) (by omega) (by omega)
    refine wq_ok srt_Mseed (fr := []) (cuts := [13]) (J := fun pc st_z => (pc = 13 ∧ ∃ y_z : Int, ((y_z = 1 ∧ cntF (fcs A sl) 100 = A 31 sl - 3) ∨ (y_z = 0 ∧ ¬ cntF (fcs A sl) 100 = A 31 sl - 3)) ∧ st_z = ([(2, 0), (0, sl), (9, 0), (9, 0), (9, 0), (9, 0), (9, 0), (9, 0), (9, 0), (9, 0)], [(0, y_z)], A))) ?_ 7 8 _ ?_
    · rintro pc st_z (⟨rfl, y_z, hy, rfl⟩)
      refine wq_ok srt_Mseed (fr := []) (cuts := [36]) (J := fun pc st_z => (pc = 36 ∧ (¬ y_z = 0) ∧ (¬ (A (A 0 48) sl) = 10) ∧ st_z = ([(2, 0), (0, sl), (0, A (A 0 48) sl), (9, 0), (9, 0), (9, 0), (9, 0), (9, 0), (9, 0), (9, 0)], [], A))) ?_ 17 13 _ ?_
      · rintro pc st_z (⟨rfl, h0, h1, rfl⟩)
        rw [c48_z]
        exact smr_36 h ⟨hs, (by rcases hy with ⟨_, e_z⟩ | ⟨e_z, _⟩; exact e_z; omega), by omega⟩
      · refine ⟨fun h0 => ?_, fun h0 => ?_⟩
        · exact ⟨rfl, Or.inl ⟨fun q_z => absurd q_z.2.1 (by rcases hy with ⟨e_z, _⟩ | ⟨_, e_z⟩; omega; exact e_z), rfl⟩⟩
        · refine ⟨oM_0 (by omega) km0 48 rfl, ?_⟩
          refine ⟨aM_31 (r := A 0 48) (by rw [c48_z]; omega) (by rw [c48_z]; exact kn31) (by omega) (by omega), ?_⟩
          have e1 : A (A 0 48) sl = A 31 sl := by rw [c48_z]
          refine ⟨fun h1 => ?_, fun h1 => ?_⟩
          · refine ⟨oM_0 (by omega) km0 48 rfl, ?_⟩
            refine ⟨aM_31 (r := A 0 48) (by rw [c48_z]; omega) (by rw [c48_z]; exact kn31) (by omega) (by omega), ?_⟩
            have e2 : A (A 0 48) sl = A 31 sl := by rw [c48_z]
            exact ⟨rfl, h0, h1, rfl⟩
          · exact ⟨rfl, Or.inl ⟨fun q_z => by have := q_z.2.2; omega, rfl⟩⟩
    · refine ⟨rM_0 (by omega) km0, ?_⟩
      refine (isCutting_ex h.g (by omega) (by omega)).imp ?_
      rintro ⟨r1_z, C_z⟩ ⟨q1_z, y_z, q2_z, hy⟩
      simp only at q1_z q2_z
      subst q1_z
      subst q2_z
      exact ⟨rfl, y_z, hy, rfl⟩
  refine Cl.of (Nat.le_of_ble_eq_true rfl) ?_
  refine wq_ok (full := o_X10_seed) srt_Mseed (fr := []) (cuts := [5]) (J := fun pc st_z => (pc = 5 ∧ ∃ x_z : Int, ((x_z = 1 ∧ (sl = 0 ∨ sl = 1)) ∨ (x_z = 0 ∧ ¬ (sl = 0 ∨ sl = 1))) ∧ st_z = ([(2, 0), (0, sl), (9, 0), (9, 0), (9, 0), (9, 0), (9, 0), (9, 0), (9, 0), (9, 0)], [(0, x_z)], A))) ?_ 7 0 _ ?_
  · rintro pc st_z (⟨rfl, x_z, hx, rfl⟩)
    refine wq_ok srt_Mseed (fr := []) (cuts := [8]) (J := fun pc st_z => (pc = 8 ∧ (¬ x_z = 0) ∧ st_z = ([(2, 0), (0, sl), (9, 0), (9, 0), (9, 0), (9, 0), (9, 0), (9, 0), (9, 0), (9, 0)], [], A))) ?_ 7 5 _ ?_
    · rintro pc st_z (⟨rfl, h0, rfl⟩)
      exact h8 (by rcases hx with ⟨_, e_z⟩ | ⟨e_z, _⟩; exact e_z; omega)
    · refine ⟨fun h0 => ?_, fun h0 => ?_⟩
      · exact ⟨rfl, Or.inl ⟨fun q_z => absurd q_z.1 (by rcases hx with ⟨e_z, _⟩ | ⟨_, e_z⟩; omega; exact e_z), rfl⟩⟩
      · exact ⟨rfl, h0, rfl⟩
  · refine ⟨rM_0 (by omega) km0, ?_⟩
    refine (MisSlot_ex).imp ?_
    rintro ⟨r1_z, C_z⟩ ⟨q1_z, x_z, q2_z, hx⟩
    simp only at q1_z q2_z
    subst q1_z
    subst q2_z
    exact ⟨rfl, x_z, hx, rfl⟩
/-- the reference's seed is begun anew from the table T -/
def mnw (T : Int → Int) (n m : Int) (C : pm_A) : Prop := ∃ s_z : cx_Sd 12, Tru s_z [] C ∧ tld s_z T n m ∧ (C 0 7 = n ∧ C 0 8 = m ∧ C 0 10 = 0)
theorem bgJ.nw {A B C : pm_A} (h9 : ∀ k_z : Int, 0 ≤ k_z → k_z < 72 → -9 ≤ A 7 k_z ∧ A 7 k_z ≤ 9) (hA : gH wM A) (p1 : 1 ≤ A 0 12) (hB : gpF A B) (hz : szd B) (h : bgJ B C) : mnw (A 7) (A 0 12) (A 0 13) C := by
  have p12_z := fM_0_12 hA (r := 0) (by omega) km0
  have p13_z := fM_0_13 hA (r := 0) (by omega) km0
  have f12_z : B 0 12 = A 0 12 := hB.2 0 12 (by omega) (by omega) (by omega)
  have f13_z : B 0 13 = A 0 13 := hB.2 0 13 (by omega) (by omega) (by omega)
  have f7_z : ∀ j_z : Int, B 7 j_z = A 7 j_z := fun j_z => hB.2 7 j_z (by omega) (by omega) (by omega)
  refine ⟨Sd0 B hz (by omega) (by omega), bg_tru hz (fun j_z j0 j1 => by rw [f7_z]; exact h9 j_z j0 j1) (by omega) (by omega) (by omega) (by omega) h, fun i_z j_z hj => ⟨fun hi_z => ?_, fun hi_z => ?_⟩, by rw [h.2.1, f12_z], by rw [h.2.2.1, f13_z], h.2.2.2.2.2.1⟩
  · show bbs B i_z.1 j_z.1 = _
    unfold bbs bb0
    rw [if_pos (by omega), if_pos (by omega), if_pos (by omega), f7_z]
  · show bbs B i_z.1 j_z.1 = _
    unfold bbs bb0
    rw [if_pos (by omega), if_neg (by omega)]
