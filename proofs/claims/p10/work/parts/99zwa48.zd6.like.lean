/-! the class's isLike, placeOf, hasTable, isSameAs, exactly -/
theorem srt_isLike : pm_srt o_X8_isLike = true := by decide +kernel
def lk (A : pm_A) (s o : Int) : Prop := (A s 1 = A o 1 ∧ A s 0 = A o 0) ∧ (∀ t_z : Int, 0 ≤ t_z → t_z < A s 1 → A (A s 2) t_z = A (A o 2) t_z) ∧ ∀ c_z : Int, 0 ≤ c_z → c_z < A s 1 * A s 0 → A (A s 3) c_z = A (A o 3) c_z
def abP (A : pm_A) (P : Prop) (r : pm_R) : Prop := r.2 = A ∧ ((r.1 = some (0, 1) ∧ P) ∨ (r.1 = some (0, 0) ∧ ¬ P))
theorem il_60 {A : pm_A} {s o : Int} (hA : gH wX A) (hs : 0 ≤ s ∧ wX.2 s = 2) (ho : 0 ≤ o ∧ wX.2 o = 2) (h1 : A s 1 = A o 1 ∧ A s 0 = A o 0) (h2 : ∀ t_z : Int, 0 ≤ t_z → t_z < A s 1 → A (A s 2) t_z = A (A o 2) t_z) : ∀ (m_z : Nat) (c_z : Int), (2400 - c_z).toNat < m_z → 0 ≤ c_z → c_z ≤ 2400 → (∀ d_z : Int, 0 ≤ d_z → d_z < c_z → A (A s 3) d_z = A (A o 3) d_z) → Tm pmt (an_sh wX) o_X8_isLike 60 ([(2, s), (2, o), (0, c_z)], [], A) (abP A (lk A s o)) := by
  have ps_z := fX_2_3 hA hs.1 hs.2
  have po := fX_2_3 hA ho.1 ho.2
  have w0_z := fX_2_0 hA hs.1 hs.2
  have l0 := fX_2_1 hA hs.1 hs.2
  have m0_z : 0 ≤ A s 1 * A s 0 := Int.mul_nonneg l0.1 w0_z.1
  have m1_z : A s 1 * A s 0 ≤ 200 * 12 := Int.mul_le_mul l0.2 w0_z.2 w0_z.1 (by omega)
  intro m_z
  induction m_z with
  | zero => intro c_z h_z; omega
  | succ m_z ih_z =>
    intro c_z hm_z c0_z c1_z hc_z
    refine wq_ok srt_isLike (fr := []) (cuts := [60]) (J := fun pc st_z => pc = 60 ∧ c_z < A s 1 * A s 0 ∧ A (A s 3) c_z = A (A o 3) c_z ∧ st_z = ([(2, s), (2, o), (0, c_z + 1)], [], A)) ?_ 30 60 _ ?_
    · rintro pc st_z ⟨rfl, hl, he, rfl⟩
      refine ih_z (c_z + 1) (by omega) (by omega) (by omega) (fun d_z d0_z d1_z => ?_)
      by_cases e_z : d_z = c_z
      · rw [e_z]; exact he
      · exact hc_z d_z d0_z (by omega)
    · refine ⟨oX_2 hs.1 hs.2 1 rfl, ?_⟩
      refine ⟨oX_2 hs.1 hs.2 0 rfl, ?_⟩
      refine ⟨⟨by omega, by omega⟩, ?_⟩
      refine ⟨fun h_z => ?_, fun h_z => ?_⟩
      · exact ⟨rfl, rfl, Or.inl ⟨rfl, h1, h2, fun d_z d0_z d1_z => hc_z d_z d0_z (by omega)⟩⟩
      · refine ⟨oX_2 hs.1 hs.2 3 rfl, ?_⟩
        refine ⟨aX_15 ps_z.1 ps_z.2 c0_z (by omega), ?_⟩
        refine ⟨oX_2 ho.1 ho.2 3 rfl, ?_⟩
        refine ⟨aX_15 po.1 po.2 c0_z (by omega), ?_⟩
        refine ⟨fun h3 => ?_, fun h3 => ?_⟩
        · refine ⟨⟨by omega, by omega⟩, ?_⟩
          exact ⟨rfl, h_z, h3, rfl⟩
        · exact ⟨rfl, rfl, Or.inr ⟨rfl, fun q_z => h3 (q_z.2.2 c_z c0_z h_z)⟩⟩
theorem il_26 {A : pm_A} {s o : Int} (hA : gH wX A) (hs : 0 ≤ s ∧ wX.2 s = 2) (ho : 0 ≤ o ∧ wX.2 o = 2) (h1 : A s 1 = A o 1 ∧ A s 0 = A o 0) : ∀ (m_z : Nat) (t_z : Int), (200 - t_z).toNat < m_z → 0 ≤ t_z → t_z ≤ 200 → (∀ d_z : Int, 0 ≤ d_z → d_z < t_z → A (A s 2) d_z = A (A o 2) d_z) → Tm pmt (an_sh wX) o_X8_isLike 26 ([(2, s), (2, o), (0, t_z)], [], A) (abP A (lk A s o)) := by
  have ns := fX_2_2 hA hs.1 hs.2
  have no_z := fX_2_2 hA ho.1 ho.2
  have l0 := fX_2_1 hA hs.1 hs.2
  intro m_z
  induction m_z with
  | zero => intro t_z h_z; omega
  | succ m_z ih_z =>
    intro t_z hm_z t0_z t1_z hc_z
    refine wq_ok srt_isLike (fr := []) (cuts := [26, 60]) (J := fun pc st_z => (pc = 60 ∧ A s 1 ≤ t_z ∧ st_z = ([(2, s), (2, o), (0, 0)], [], A)) ∨ (pc = 26 ∧ t_z < A s 1 ∧ A (A s 2) t_z = A (A o 2) t_z ∧ st_z = ([(2, s), (2, o), (0, t_z + 1)], [], A))) ?_ 30 26 _ ?_
    · rintro pc st_z (⟨rfl, hl, rfl⟩ | ⟨rfl, hl, he, rfl⟩)
      · exact il_60 hA hs ho h1 (fun d_z d0_z d1_z => hc_z d_z d0_z (by omega)) _ 0 (Nat.lt_succ_self _) (by omega) (by omega) (fun d_z d0_z d1_z => by omega)
      · refine ih_z (t_z + 1) (by omega) (by omega) (by omega) (fun d_z d0_z d1_z => ?_)
        by_cases e_z : d_z = t_z
        · rw [e_z]; exact he
        · exact hc_z d_z d0_z (by omega)
    · refine ⟨oX_2 hs.1 hs.2 1 rfl, ?_⟩
      refine ⟨fun h_z => Or.inl ⟨rfl, h_z, rfl⟩, fun h_z => ?_⟩
      refine ⟨oX_2 hs.1 hs.2 2 rfl, ?_⟩
      refine ⟨aX_14 ns.1 ns.2 t0_z (by omega), ?_⟩
      refine ⟨oX_2 ho.1 ho.2 2 rfl, ?_⟩
      refine ⟨aX_14 no_z.1 no_z.2 t0_z (by omega), ?_⟩
      refine ⟨fun h3 => ?_, fun h3 => ?_, fun h3 => ?_⟩
      · refine ⟨fun hh => absurd hh (by decide), fun _ => ?_⟩
        exact ⟨rfl, rfl, Or.inr ⟨rfl, fun q_z => by have := q_z.2.1 t_z t0_z h_z; omega⟩⟩
      · refine ⟨fun _ => ?_, fun hh => absurd rfl hh⟩
        refine ⟨⟨by omega, by omega⟩, ?_⟩
        exact Or.inr ⟨rfl, h_z, h3, rfl⟩
      · refine ⟨fun hh => absurd hh (by decide), fun _ => ?_⟩
        exact ⟨rfl, rfl, Or.inr ⟨rfl, fun q_z => by have := q_z.2.1 t_z t0_z h_z; omega⟩⟩
theorem isLike_ex {A : pm_A} {s o : Int} (hA : gH wX A) (hs : 0 ≤ s ∧ wX.2 s = 2) (ho : 0 ≤ o ∧ wX.2 o = 2) : Cl pmt (an_sh wX) 80 [(2, s), (2, o)] A (abP A (lk A s o)) := by
  refine Cl.of (Nat.le_of_ble_eq_true rfl) ?_
  refine wq_ok (full := o_X8_isLike) srt_isLike (fr := []) (cuts := [26]) (J := fun pc st_z => pc = 26 ∧ (A s 1 = A o 1 ∧ A s 0 = A o 0) ∧ st_z = ([(2, s), (2, o), (0, 0)], [], A)) ?_ 20 0 _ ?_
  · rintro pc st_z ⟨rfl, h1, rfl⟩
    exact il_26 hA hs ho h1 _ 0 (Nat.lt_succ_self _) (by omega) (by omega) (fun d_z d0_z d1_z => by omega)
  · refine ⟨oX_2 hs.1 hs.2 1 rfl, ?_⟩
    refine ⟨oX_2 ho.1 ho.2 1 rfl, ?_⟩
    refine ⟨fun h_z => ?_, fun h_z => ?_⟩
    · exact ⟨rfl, rfl, Or.inr ⟨rfl, fun q_z => h_z q_z.1.1⟩⟩
    · refine ⟨oX_2 hs.1 hs.2 0 rfl, ?_⟩
      refine ⟨oX_2 ho.1 ho.2 0 rfl, ?_⟩
      refine ⟨fun h2 => ?_, fun h2 => ?_⟩
      · exact ⟨rfl, ⟨h_z, h2⟩, rfl⟩
      · exact ⟨rfl, rfl, Or.inr ⟨rfl, fun q_z => h2 q_z.1.2⟩⟩
theorem srt_XplaceOf : pm_srt o_X7_placeOf = true := by decide +kernel
def poP (A : pm_A) (g o : Int) (r : pm_R) : Prop := r.2 = A ∧ ∃ z_z : Int, r.1 = some (0, z_z) ∧ ((z_z = -1 ∧ ∀ i_z : Int, 0 ≤ i_z → i_z < A g 0 → ¬ lk A (A (A g 4) i_z) o) ∨ ((0 ≤ z_z ∧ z_z < A g 0) ∧ lk A (A (A g 4) z_z) o ∧ ∀ i_z : Int, 0 ≤ i_z → i_z < z_z → ¬ lk A (A (A g 4) i_z) o))
theorem po_2 {A : pm_A} {g o : Int} (hA : gH wX A) (hg : 0 ≤ g ∧ wX.2 g = 1) (ho : 0 ≤ o ∧ wX.2 o = 2) : ∀ (m_z : Nat) (i_z : Int), (6 - i_z).toNat < m_z → 0 ≤ i_z → i_z ≤ A g 0 → (∀ d_z : Int, 0 ≤ d_z → d_z < i_z → ¬ lk A (A (A g 4) d_z) o) → Tm pmt (an_sh wX) o_X7_placeOf 2 ([(2, g), (2, o), (0, i_z)], [], A) (poP A g o) := by
  have p6_z := fX_1_0 hA hg.1 hg.2
  have l4 := fX_1_4 hA hg.1 hg.2
  intro m_z
  induction m_z with
  | zero => intro i_z h_z; omega
  | succ m_z ih_z =>
    intro i_z hm_z i0_z i1_z hc_z
    refine wq_ok srt_XplaceOf (fr := []) (cuts := [2]) (J := fun pc st_z => pc = 2 ∧ i_z < A g 0 ∧ (¬ lk A (A (A g 4) i_z) o) ∧ st_z = ([(2, g), (2, o), (0, i_z + 1)], [], A)) ?_ 20 2 _ ?_
    · rintro pc st_z ⟨rfl, hi_z, hl, rfl⟩
      refine ih_z (i_z + 1) (by omega) (by omega) (by omega) (fun d_z d0_z d1_z => ?_)
      by_cases e_z : d_z = i_z
      · rw [e_z]; exact hl
      · exact hc_z d_z d0_z (by omega)
    · refine ⟨oX_1 hg.1 hg.2 0 rfl, ?_⟩
      refine ⟨fun h_z => ?_, fun h_z => ?_⟩
      · exact ⟨rfl, rfl, -1, rfl, Or.inl ⟨rfl, fun d_z d0_z d1_z => hc_z d_z d0_z (by omega)⟩⟩
      · have e0_z := eX_12 hA l4.1 l4.2 i0_z (show i_z < 6 by omega)
        refine ⟨oX_1 hg.1 hg.2 4 rfl, ?_⟩
        refine ⟨aX_12 l4.1 l4.2 i0_z (by omega), ?_⟩
        refine ⟨rX_2 e0_z.1 e0_z.2, ?_⟩
        refine (isLike_ex hA e0_z ho).imp ?_
        rintro ⟨r1_z, C_z⟩ ⟨g1, g2⟩
        simp only at g1 g2
        subst g1
        rcases g2 with ⟨rfl, g3_z⟩ | ⟨rfl, g3_z⟩
        · refine ⟨fun hh => absurd hh (by decide), fun _ => ?_⟩
          exact ⟨rfl, rfl, i_z, rfl, Or.inr ⟨⟨i0_z, h_z⟩, g3_z, hc_z⟩⟩
        · refine ⟨fun _ => ?_, fun hh => absurd rfl hh⟩
          refine ⟨⟨by omega, by omega⟩, ?_⟩
          exact ⟨rfl, h_z, g3_z, rfl⟩
theorem XplaceOf_ex {A : pm_A} {g o : Int} (hA : gH wX A) (hg : 0 ≤ g ∧ wX.2 g = 1) (ho : 0 ≤ o ∧ wX.2 o = 2) : Cl pmt (an_sh wX) 71 [(2, g), (2, o)] A (poP A g o) := by
  refine Cl.of (Nat.le_of_ble_eq_true rfl) ?_
  refine wq_ok (full := o_X7_placeOf) srt_XplaceOf (fr := []) (cuts := [2]) (J := fun pc st_z => pc = 2 ∧ st_z = ([(2, g), (2, o), (0, 0)], [], A)) ?_ 20 0 _ ?_
  · rintro pc st_z ⟨rfl, rfl⟩
    exact po_2 hA hg ho _ 0 (Nat.lt_succ_self _) (by omega) (fX_1_0 hA hg.1 hg.2).1 (fun d_z d0_z d1_z => by omega)
  · exact ⟨rfl, rfl⟩
theorem lk_ls {A : pm_A} {s o : Int} (h : lk A s o) : LSx A s = LSx A o := by
  obtain ⟨⟨h1, h0⟩, h2, h3⟩ := h
  unfold LSx lsf
  rw [← h1]
  refine List.map_congr_left (fun t_z ht => ?_)
  have ht := List.mem_range.1 ht
  show (A (A s 2) (t_z : Int), xeX A s (t_z : Int)) = (A (A o 2) (t_z : Int), xeX A o (t_z : Int))
  rw [h2 t_z (by omega) (by omega)]
  have e_z : xeX A s (t_z : Int) = xeX A o (t_z : Int) := funext fun j_z => by
    show (if (j_z.1 : Int) < A s 0 then A (A s 3) ((t_z : Int) * A s 0 + (j_z.1 : Int)) else 0) = if (j_z.1 : Int) < A o 0 then A (A o 3) ((t_z : Int) * A o 0 + (j_z.1 : Int)) else 0
    rw [← h0]
    by_cases e_z : (j_z.1 : Int) < A s 0
    · have h5 := lt_mul (q := (t_z : Int)) (t := A s 1) (w := A s 0) (v := (j_z.1 : Int)) (by omega) (by omega) e_z
      have h6 := Int.mul_nonneg (show (0 : Int) ≤ (t_z : Int) by omega) (show 0 ≤ A s 0 by omega)
      rw [if_pos e_z, if_pos e_z]; exact h3 _ (by omega) h5
    · rw [if_neg e_z, if_neg e_z]
  rw [e_z]
