/-! the class's hasTable, isSameAs, exactly -/
abbrev rwS (P : Int) (S : Int → Int) (i : Int) : Int := if i < P then S i else i
def htc (T U : Int → Int) (S : Int → Int) (W P : Int) : Prop := ∀ i_z j_z : Int, 0 ≤ i_z → i_z < W → 0 ≤ j_z → j_z < P → T (i_z * 6 + j_z) = U (0 + rwS P S i_z * 6 + S j_z)
def htH (A : pm_A) (g o S : Int) : Prop := gH wX A ∧ (0 ≤ g ∧ wX.2 g = 1) ∧ (0 ≤ o ∧ wX.2 o = 10) ∧ (0 ≤ S ∧ wX.2 S = 13) ∧ ∀ i_z : Int, 0 ≤ i_z → i_z < A g 0 → 0 ≤ A S i_z ∧ A S i_z ≤ 5
theorem htx_40 {A : pm_A} {g o S i : Int} (hH : htH A g o S) (i0 : 0 ≤ i) (i1 : i < bgW A g) (H : ∀ v6 : pm_V, (∀ j_z : Int, 0 ≤ j_z → j_z < A g 0 → A (A g 2) (i * 6 + j_z) = A o (0 + rwS (A g 0) (A S) i * 6 + A S j_z)) → Tm pmt (an_sh wX) o_X7_hasTable 87 ([(2, g), (2, o), (0, 0), (2, S), (0, i), (0, rwS (A g 0) (A S) i), v6], [], A) (abP A (htc (A (A g 2)) (A o) (A S) (bgW A g) (A g 0)))) : ∀ (m_z : Nat) (j_z : Int), (6 - j_z).toNat < m_z → 0 ≤ j_z → j_z ≤ A g 0 → (∀ d_z : Int, 0 ≤ d_z → d_z < j_z → A (A g 2) (i * 6 + d_z) = A o (0 + rwS (A g 0) (A S) i * 6 + A S d_z)) → Tm pmt (an_sh wX) o_X7_hasTable 40 ([(2, g), (2, o), (0, 0), (2, S), (0, i), (0, rwS (A g 0) (A S) i), (0, j_z)], [], A) (abP A (htc (A (A g 2)) (A o) (A S) (bgW A g) (A g 0))) := by
  obtain ⟨hA, hg, ho, hS_z, hs⟩ := hH
  have p6_z := fX_1_0 hA hg.1 hg.2
  have h6 := fX_1_1 hA hg.1 hg.2
  have t2_z := fX_1_2 hA hg.1 hg.2
  have hw : bgW A g = A g 0 + A g 1 := rfl
  have hrw : 0 ≤ rwS (A g 0) (A S) i ∧ rwS (A g 0) (A S) i ≤ 11 := by
    by_cases e_z : i < A g 0
    · rw [show rwS (A g 0) (A S) i = A S i from if_pos e_z]
      have := hs i i0 e_z
      omega
    · rw [show rwS (A g 0) (A S) i = i from if_neg e_z]
      omega
  generalize hR : rwS (A g 0) (A S) i = R_z at H hrw ⊢
  intro m_z
  induction m_z with
  | zero => intro j_z h_z; omega
  | succ m_z ih_z =>
    intro j_z hm_z j0 j1 hc_z
    refine wq_ok srt_hasTable (fr := []) (cuts := [40, 87]) (J := fun pc st_z => (pc = 87 ∧ j_z = A g 0 ∧ st_z = ([(2, g), (2, o), (0, 0), (2, S), (0, i), (0, R_z), (0, j_z)], [], A)) ∨ (pc = 40 ∧ j_z < A g 0 ∧ A (A g 2) (i * 6 + j_z) = A o (0 + R_z * 6 + A S j_z) ∧ st_z = ([(2, g), (2, o), (0, 0), (2, S), (0, i), (0, R_z), (0, j_z + 1)], [], A))) ?_ 40 40 _ ?_
    · rintro pc st_z (⟨rfl, hj, rfl⟩ | ⟨rfl, hj, he, rfl⟩)
      · exact H _ (fun d_z d0_z d1_z => hc_z d_z d0_z (by omega))
      · refine ih_z (j_z + 1) (by omega) (by omega) (by omega) (fun d_z d0_z d1_z => ?_)
        by_cases e_z : d_z = j_z
        · rw [e_z]; exact he
        · exact hc_z d_z d0_z (by omega)
    · refine ⟨oX_1 hg.1 hg.2 0 rfl, ?_⟩
      refine ⟨fun h_z => Or.inl ⟨rfl, by omega, rfl⟩, fun h_z => ?_⟩
      have hsj := hs j_z j0 h_z
      refine ⟨oX_1 hg.1 hg.2 2 rfl, ?_⟩
      refine ⟨⟨by omega, by omega⟩, ?_⟩
      refine ⟨⟨by omega, by omega⟩, ?_⟩
      refine ⟨aX_10 t2_z.1 t2_z.2 (by omega) (by omega), ?_⟩
      refine ⟨⟨by omega, by omega⟩, ?_⟩
      refine ⟨⟨by omega, by omega⟩, ?_⟩
      refine ⟨aX_13 hS_z.1 hS_z.2 j0 (by omega), ?_⟩
      refine ⟨⟨by omega, by omega⟩, ?_⟩
      refine ⟨aX_10 ho.1 ho.2 (by omega) (by omega), ?_⟩
      refine ⟨fun h3 => ?_, fun h3 => ?_⟩
      · refine ⟨⟨by omega, by omega⟩, ?_⟩
        exact Or.inr ⟨rfl, h_z, h3, rfl⟩
      · refine ⟨rfl, rfl, Or.inr ⟨rfl, fun q_z => h3 ?_⟩⟩
        have h4 := q_z i j_z i0 i1 j0 h_z
        rw [hR] at h4
        exact h4
theorem htx_3 {A : pm_A} {g o S : Int} (hH : htH A g o S) : ∀ (m_z : Nat) (i_z : Int) (v5 v6 : pm_V), (12 - i_z).toNat < m_z → 0 ≤ i_z → i_z ≤ bgW A g → (∀ a_z j_z : Int, 0 ≤ a_z → a_z < i_z → 0 ≤ j_z → j_z < A g 0 → A (A g 2) (a_z * 6 + j_z) = A o (0 + rwS (A g 0) (A S) a_z * 6 + A S j_z)) → Tm pmt (an_sh wX) o_X7_hasTable 3 ([(2, g), (2, o), (0, 0), (2, S), (0, i_z), v5, v6], [], A) (abP A (htc (A (A g 2)) (A o) (A S) (bgW A g) (A g 0))) := by
  have hH0 := hH
  obtain ⟨hA, hg, ho, hS_z, hs⟩ := hH
  have p6_z := fX_1_0 hA hg.1 hg.2
  have h6 := fX_1_1 hA hg.1 hg.2
  have hw : bgW A g = A g 0 + A g 1 := rfl
  intro m_z
  induction m_z with
  | zero => intro i_z v5 v6 h_z; omega
  | succ m_z ih_z =>
    intro i_z v5 v6 hm_z i0_z i1_z hc_z
    refine wq_ok srt_hasTable (fr := []) (cuts := [40]) (J := fun pc st_z => pc = 40 ∧ i_z < bgW A g ∧ st_z = ([(2, g), (2, o), (0, 0), (2, S), (0, i_z), (0, rwS (A g 0) (A S) i_z), (0, 0)], [], A)) ?_ 40 3 _ ?_
    · rintro pc st_z ⟨rfl, hi_z, rfl⟩
      refine htx_40 hH0 i0_z hi_z (fun v6 hrow => ?_) _ 0 (Nat.lt_succ_self _) (by omega) p6_z.1 (fun d_z d0_z d1_z => by omega)
      refine wq_ok srt_hasTable (fr := []) (cuts := [3]) (J := fun pc st_z => pc = 3 ∧ st_z = ([(2, g), (2, o), (0, 0), (2, S), (0, i_z + 1), (0, rwS (A g 0) (A S) i_z), v6], [], A)) ?_ 40 87 _ ?_
      · rintro pc st_z ⟨rfl, rfl⟩
        refine ih_z (i_z + 1) _ v6 (by omega) (by omega) (by omega) (fun a_z j_z a0_z a1_z j0 j1 => ?_)
        by_cases e_z : a_z = i_z
        · rw [e_z]; exact hrow j_z j0 j1
        · exact hc_z a_z j_z a0_z (by omega) j0 j1
      · refine ⟨⟨by omega, by omega⟩, ?_⟩
        exact ⟨rfl, rfl⟩
    · refine ⟨oX_1 hg.1 hg.2 0 rfl, ?_⟩
      refine ⟨oX_1 hg.1 hg.2 1 rfl, ?_⟩
      refine ⟨⟨by omega, by omega⟩, ?_⟩
      refine ⟨fun h_z => ?_, fun h_z => ?_⟩
      · exact ⟨rfl, rfl, Or.inl ⟨rfl, fun a_z j_z a0_z a1_z j0 j1 => hc_z a_z j_z a0_z (by omega) j0 j1⟩⟩
      · refine ⟨oX_1 hg.1 hg.2 0 rfl, ?_⟩
        refine ⟨fun h2 => ?_, fun h2 => ?_⟩
        · refine ⟨rfl, h_z, ?_⟩
          rw [show rwS (A g 0) (A S) i_z = i_z from if_neg (by omega)]
          rfl
        · refine ⟨aX_13 hS_z.1 hS_z.2 i0_z (by omega), ?_⟩
          refine ⟨rfl, h_z, ?_⟩
          rw [show rwS (A g 0) (A S) i_z = A S i_z from if_pos h2]
          rfl
theorem hasTable_ex {A : pm_A} {g o S : Int} (hH : htH A g o S) : Cl pmt (an_sh wX) 68 [(2, g), (2, o), (0, 0), (2, S)] A (abP A (htc (A (A g 2)) (A o) (A S) (bgW A g) (A g 0))) := by
  have p6_z := fX_1_0 hH.1 hH.2.1.1 hH.2.1.2
  have h6 := fX_1_1 hH.1 hH.2.1.1 hH.2.1.2
  refine Cl.of (Nat.le_of_ble_eq_true rfl) ?_
  refine wq_ok (full := o_X7_hasTable) srt_hasTable (fr := []) (cuts := [3]) (J := fun pc st_z => pc = 3 ∧ ∃ v5 v6, st_z = ([(2, g), (2, o), (0, 0), (2, S), (0, 0), v5, v6], [], A)) ?_ 20 0 _ ?_
  · rintro pc st_z ⟨rfl, v5, v6, rfl⟩
    exact htx_3 hH _ 0 v5 v6 (Nat.lt_succ_self _) (by omega) (by unfold bgW; omega) (fun a_z j_z a0_z a1_z => by omega)
  · exact ⟨rfl, _, _, rfl⟩
