/-! the class's start of a seed, exactly -/
theorem srt_becomeVariable : pm_srt o_X8_becomeVariable = true := by decide +kernel
theorem srt_start : pm_srt o_X7_start = true := by decide +kernel
def bvF (A B : pm_A) (s n : Int) : Prop := gH wX B ∧ only A B s ∧ (B s 2 = A s 2 ∧ B s 3 = A s 3) ∧ B s 0 = n ∧ B s 1 = 1 ∧ B (A s 2) 0 = 1
def bvP (A : pm_A) (s v n : Int) (r : pm_R) : Prop := r.1 = none ∧ bvF A r.2 s n ∧ ∀ u_z : Int, 0 ≤ u_z → u_z < n → r.2 (A s 3) u_z = if u_z = v then 1 else 0
theorem bv_19 {A : pm_A} {s v n : Int} (hA : gH wX A) (hs : 0 ≤ s ∧ wX.2 s = 2) (n0 : 0 ≤ n) (n1 : n ≤ 12) : ∀ (m_z : Nat) (u_z : Int) (B_z : pm_A), (12 - u_z).toNat < m_z → 0 ≤ u_z → u_z ≤ n → bvF A B_z s n → (∀ w_z : Int, 0 ≤ w_z → w_z < u_z → B_z (A s 3) w_z = if w_z = v then 1 else 0) → Tm pmt (an_sh wX) o_X8_becomeVariable 19 ([(2, s), (0, v), (0, n), (0, u_z)], [], B_z) (bvP A s v n) := by
  have ns := fX_2_2 hA hs.1 hs.2
  have ps_z := fX_2_3 hA hs.1 hs.2
  obtain ⟨⟨q1_z, q2_z, q3_z⟩, _, _⟩ := shNP.of hA hs.1 hs.2
  intro m_z
  induction m_z with
  | zero => intro u_z B_z h_z; omega
  | succ m_z ih_z =>
    intro u_z B_z hm_z u0 u1_z hF hp
    obtain ⟨f1_z, f2_z, ⟨f3_z, f4_z⟩, f5_z, f6_z, f7_z⟩ := hF
    refine wq_ok srt_becomeVariable (fr := []) (cuts := [19]) (J := fun pc st_z => pc = 19 ∧ u_z < n ∧ ∃ c_z : Int, (c_z = if u_z = v then 1 else 0) ∧ st_z = ([(2, s), (0, v), (0, n), (0, u_z + 1)], [], pm_upd B_z (B_z s 3) u_z c_z)) ?_ 20 19 _ ?_
    · rintro pc st_z ⟨rfl, hu, c_z, hc_z, rfl⟩
      rw [f4_z]
      have hc2 : 0 ≤ c_z ∧ c_z ≤ 1 := by
        rw [hc_z]
        by_cases e_z : u_z = v
        · rw [if_pos e_z]; omega
        · rw [if_neg e_z]; omega
      refine ih_z (u_z + 1) _ (by omega) (by omega) (by omega) ⟨uX_15 f1_z ps_z.2 (by omega) (by omega), only_upd f2_z (Or.inr (Or.inr rfl)), ⟨by rw [upd_ne q2_z]; exact f3_z, by rw [upd_ne q2_z]; exact f4_z⟩, by rw [upd_ne q2_z]; exact f5_z, by rw [upd_ne q2_z]; exact f6_z, by rw [upd_ne q3_z]; exact f7_z⟩ (fun w_z w0_z w1_z => ?_)
      by_cases e_z : w_z = u_z
      · rw [e_z, upd_at]; exact hc_z
      · rw [upd_n2 e_z]; exact hp w_z w0_z (by omega)
    · refine ⟨fun h_z => ?_, fun h_z => ?_⟩
      · exact ⟨rfl, ⟨f1_z, f2_z, ⟨f3_z, f4_z⟩, f5_z, f6_z, f7_z⟩, fun w_z w0_z w1_z => hp w_z w0_z (by omega)⟩
      · refine ⟨oX_2 hs.1 hs.2 3 rfl, ?_⟩
        refine ⟨fun h2 => ?_, fun h2 => ?_⟩
        · refine ⟨tX_15 (by rw [f4_z]; exact ps_z.1) (by rw [f4_z]; exact ps_z.2) u0 (by omega) rfl, ?_⟩
          refine ⟨⟨by omega, by omega⟩, ?_⟩
          exact ⟨rfl, h_z, 0, by rw [if_neg h2], rfl⟩
        · refine ⟨tX_15 (by rw [f4_z]; exact ps_z.1) (by rw [f4_z]; exact ps_z.2) u0 (by omega) rfl, ?_⟩
          refine ⟨⟨by omega, by omega⟩, ?_⟩
          exact ⟨rfl, h_z, 1, by rw [if_pos h2], rfl⟩
theorem becomeVariable_ex {A : pm_A} {s v n : Int} (hA : gH wX A) (hs : 0 ≤ s ∧ wX.2 s = 2) (n0 : 0 ≤ n) (n1 : n ≤ 12) : Cl pmt (an_sh wX) 74 [(2, s), (0, v), (0, n)] A (bvP A s v n) := by
  have ns := fX_2_2 hA hs.1 hs.2
  have ps_z := fX_2_3 hA hs.1 hs.2
  obtain ⟨⟨q1_z, q2_z, q3_z⟩, _, _⟩ := shNP.of hA hs.1 hs.2
  refine Cl.of (Nat.le_of_ble_eq_true rfl) ?_
  refine wq_ok (full := o_X8_becomeVariable) srt_becomeVariable (fr := []) (cuts := [5]) (J := fun pc st_z => pc = 5 ∧ ∃ v3, st_z = ([(2, s), (0, v), (0, n), v3], [], pm_upd (pm_upd A s 0 n) s 1 0)) ?_ 20 0 _ ?_
  · rintro pc st_z ⟨rfl, v3, rfl⟩
    have b0 : pm_upd (pm_upd A s 0 n) s 1 0 s 0 = n := by rw [upd_n2 (by omega), upd_at]
    have bo : ∀ r_z j_z : Int, ¬ r_z = s → pm_upd (pm_upd A s 0 n) s 1 0 r_z j_z = A r_z j_z := fun r_z j_z hr => by rw [upd_ne hr, upd_ne hr]
    have b2 : pm_upd (pm_upd A s 0 n) s 1 0 s 2 = A s 2 := by rw [upd_n2 (by omega), upd_n2 (by omega)]
    have b3 : pm_upd (pm_upd A s 0 n) s 1 0 s 3 = A s 3 := by rw [upd_n2 (by omega), upd_n2 (by omega)]
    have bg : gH wX (pm_upd (pm_upd A s 0 n) s 1 0) := clr_gH hA hs.2 n0 n1
    generalize pm_upd (pm_upd A s 0 n) s 1 0 = B_z at b0 bo b2 b3 bg
    refine wq_ok srt_becomeVariable (fr := []) (cuts := [10]) (J := fun pc st_z => pc = 10 ∧ st_z = ([(2, s), (0, v), (0, n), v3], [], pm_upd B_z s 1 1)) ?_ 20 5 _ ?_
    · rintro pc st_z ⟨rfl, rfl⟩
      have d1_z : pm_upd B_z s 1 1 s 1 = 1 := upd_at
      have d0_z : pm_upd B_z s 1 1 s 0 = n := by rw [upd_n2 (by omega)]; exact b0
      have d2_z : pm_upd B_z s 1 1 s 2 = A s 2 := by rw [upd_n2 (by omega)]; exact b2
      have d3_z : pm_upd B_z s 1 1 s 3 = A s 3 := by rw [upd_n2 (by omega)]; exact b3
      have dd : ∀ r_z j_z : Int, ¬ r_z = s → pm_upd B_z s 1 1 r_z j_z = A r_z j_z := fun r_z j_z hr => by rw [upd_ne hr]; exact bo r_z j_z hr
      have dg : gH wX (pm_upd B_z s 1 1) := gH_upd bg (k := (0, 8, 4, [(0, 0, 12), (0, 0, 200), (2, 14, 0), (2, 15, 0)])) (by rw [hs.2]; rfl) (fun _ j_z a_z hj ej => by
        have : j_z = 1 := by omega
        subst this
        cases hj
        exact ⟨rfl, by simp only; omega, by simp only; omega⟩) (fun q_z => by cases q_z)
      generalize pm_upd B_z s 1 1 = D_z at d1_z d0_z d2_z d3_z dd dg
      refine wq_ok srt_becomeVariable (fr := []) (cuts := [19]) (J := fun pc st_z => pc = 19 ∧ st_z = ([(2, s), (0, v), (0, n), (0, 0)], [], pm_upd D_z (D_z s 2) 0 1)) ?_ 20 10 _ ?_
      · rintro pc st_z ⟨rfl, rfl⟩
        rw [d2_z]
        exact bv_19 hA hs n0 n1 _ 0 _ (Nat.lt_succ_self _) (by omega) n0 ⟨uX_14 dg ns.2 (by omega) (by omega), only_upd (fun r_z j_z a1_z a2 a3 => dd r_z j_z a1_z) (Or.inr (Or.inl rfl)), ⟨by rw [upd_ne q1_z]; exact d2_z, by rw [upd_ne q1_z]; exact d3_z⟩, by rw [upd_ne q1_z]; exact d0_z, by rw [upd_ne q1_z]; exact d1_z, upd_at⟩ (fun w_z w0_z w1_z => by omega)
      · refine ⟨oX_2 hs.1 hs.2 2 rfl, ?_⟩
        refine ⟨tX_14 (by rw [d2_z]; exact ns.1) (by rw [d2_z]; exact ns.2) (by omega) (by omega) rfl, ?_⟩
        exact ⟨rfl, rfl⟩
    · refine ⟨oX_2 hs.1 hs.2 1 rfl, ?_⟩
      exact ⟨rfl, rfl⟩
  · refine ⟨rX_2 hs.1 hs.2, ?_⟩
    refine (clear_exX hA hs.1 hs.2 n0 n1).imp ?_
    rintro r_z rfl
    exact ⟨rfl, _, rfl⟩
theorem bvP.ok {A : pm_A} {s n : Int} {k : Fin 12} {r : pm_R} (hk : (k.1 : Int) < n) (h : bvP A s k.1 n r) : srX r.2 s ∧ cfX r.2 s ∧ ∀ x_z : cr_Pv 12, VX r.2 s x_z = x_z.1 k := by
  obtain ⟨_, ⟨f1_z, f2_z, ⟨f3_z, f4_z⟩, f5_z, f6_z, f7_z⟩, h2⟩ := h
  refine ⟨fun a_z b_z a0_z ab b1 => by rw [f6_z] at b1; omega, fun a_z a0_z a1_z => ?_, fun x_z => ?_⟩
  · rw [f6_z] at a1_z
    rw [f3_z, show a_z = 0 by omega, f7_z]
    omega
  · rw [VX_one f6_z, f3_z, f7_z]
    have e_z : xeX r.2 s 0 = cr_up (fun _ => 0) k 1 := funext fun j_z => by
      show (if (j_z.1 : Int) < r.2 s 0 then r.2 (r.2 s 3) (0 * r.2 s 0 + (j_z.1 : Int)) else 0) = if j_z = k then 1 else 0
      rw [f5_z, f4_z, Int.zero_mul, Int.zero_add]
      by_cases e1 : (j_z.1 : Int) < n
      · rw [if_pos e1, h2 j_z.1 (by omega) e1]
        by_cases e2 : j_z = k
        · rw [if_pos e2, if_pos (by rw [e2])]
        · rw [if_neg e2, if_neg (fun q_z => e2 (Fin.ext (by omega)))]
      · rw [if_neg e1, if_neg (fun q_z => e1 (by rw [q_z]; exact hk))]
    rw [e_z, cr_mo_e, Rat.zpow_one, show ((1 : Int) : Rat) = 1 from rfl, Rat.one_mul]
def stH (A : pm_A) (g n m T Z : Int) : Prop := gH wX A ∧ (0 ≤ g ∧ wX.2 g = 1) ∧ ((1 ≤ n ∧ n ≤ 6) ∧ 0 ≤ m ∧ m ≤ 6) ∧ ((0 ≤ T ∧ wX.2 T = 16) ∧ 0 ≤ Z ∧ wX.2 Z = 11 ∧ ¬ Z = g + 2) ∧ (∀ c_z : Int, 0 ≤ c_z → wX.2 c_z = 1 → A c_z 2 = c_z + 1 ∧ A c_z 3 = c_z + 2 ∧ A c_z 4 = c_z + 3) ∧ (∀ a_z : Int, 0 ≤ a_z → wX.2 a_z = 2 → A a_z 2 = a_z + 1 ∧ A a_z 3 = a_z + 2) ∧ ∀ i_z j_z : Int, 0 ≤ i_z → i_z < 6 → 0 ≤ j_z → j_z < 6 → ¬ i_z = j_z → ¬ A (g + 3) i_z = A (g + 3) j_z
def svP (B : pm_A) (s w : Int) (k : Int) : Prop := B s 0 = w ∧ B s 1 = 1 ∧ srX B s ∧ cfX B s ∧ ∀ (f_z : Fin 12), (f_z.1 : Int) = k → ∀ x_z : cr_Pv 12, VX B s x_z = x_z.1 f_z
def stI (A B : pm_A) (g n m T Z i : Int) : Prop := scF A B g ∧ (B g 0 = n ∧ B g 1 = m) ∧ (∀ j_z : Int, 0 ≤ j_z → j_z < 72 → B (g + 1) j_z = A T j_z) ∧ (∀ j_z : Int, 0 ≤ j_z → j_z < 6 → B (g + 2) j_z = A Z j_z) ∧ ∀ k_z : Int, 0 ≤ k_z → k_z < i → svP B (A (g + 3) k_z) (n + m) k_z
theorem svP.keep {B C : pm_A} {s w k : Int} (h : svP B s w k) (sm : sme B C s) : svP C s w k :=
  ⟨by rw [sm.1 0]; exact h.1, by rw [sm.1 1]; exact h.2.1, sm.sr h.2.2.1, sm.cf h.2.2.2.1, fun f_z hf x_z => by rw [VX_of sm x_z]; exact h.2.2.2.2 f_z hf x_z⟩
theorem st_k {A : pm_A} {g n m T Z : Int} (hH : stH A g n m T Z) : (wX.2 (g + 1) = 10 ∧ wX.2 (g + 2) = 11 ∧ wX.2 (g + 3) = 12) ∧ ∀ i_z : Int, 0 ≤ i_z → i_z < 6 → 0 ≤ A (g + 3) i_z ∧ wX.2 (A (g + 3) i_z) = 2 := by
  obtain ⟨hA, hc_z, _, _, hk, _⟩ := hH
  have e_z := hk g hc_z.1 hc_z.2
  have t2_z := fX_1_2 hA hc_z.1 hc_z.2
  have t3_z := fX_1_3 hA hc_z.1 hc_z.2
  have t4_z := fX_1_4 hA hc_z.1 hc_z.2
  rw [e_z.1] at t2_z
  rw [e_z.2.1] at t3_z
  rw [e_z.2.2] at t4_z
  exact ⟨⟨t2_z.2, t3_z.2, t4_z.2⟩, fun i_z i0_z i1_z => eX_12 hA t4_z.1 t4_z.2 i0_z i1_z⟩
theorem scF.ns {A B : pm_A} {g n m T Z r j : Int} {l : Nat} (hF : scF A B g) (hH : stH A g n m T Z) (hr : wX.2 r = l) (h1 : ¬ r = g ∨ (¬ j = 0 ∧ ¬ j = 1)) (h2 : ¬ r = g + 1) (h3 : ¬ r = g + 2) (n1 : ¬ l = 2) (n2 : ¬ l = 14) (n3 : ¬ l = 15) : B r j = A r j := by
  have k_z := st_k hH
  obtain ⟨hA, _, _, _, _, hs, _⟩ := hH
  refine hF.2.1 r j (fun q_z => by omega) h2 h3 (fun n m0_z m1_z => ?_)
  have kn_z := k_z.2 n m0_z m1_z
  have e_z := hs _ kn_z.1 kn_z.2
  have a2 := fX_2_2 hA kn_z.1 kn_z.2
  have a3 := fX_2_3 hA kn_z.1 kn_z.2
  rw [e_z.1] at a2
  rw [e_z.2] at a3
  exact ⟨knd hr kn_z.2 n1, knd hr a2.2 n2, knd hr a3.2 n3⟩
def stP (A : pm_A) (g n m T Z : Int) (r : pm_R) : Prop := r.1 = none ∧ stI A r.2 g n m T Z n
theorem st_38 {A : pm_A} {g n m T Z : Int} (hH : stH A g n m T Z) : ∀ (l : Nat) (i_z : Int) (B_z : pm_A), (6 - i_z).toNat < l → 0 ≤ i_z → i_z ≤ n → stI A B_z g n m T Z i_z → Tm pmt (an_sh wX) o_X7_start 38 ([(2, g), (0, n), (0, m), (2, T), (2, Z), (0, i_z)], [], B_z) (stP A g n m T Z) := by
  have hH0 := hH
  have kg := st_k hH0
  obtain ⟨hA, hg, ⟨hn, hm_z⟩, ⟨hT_z, hZ⟩, hk, hs, hl2⟩ := hH
  have eg := hk g hg.1 hg.2
  intro l
  induction l with
  | zero => intro i_z B_z h_z; omega
  | succ l ih_z =>
    intro i_z B_z hl i0_z i1_z hI
    have hI0 := hI
    obtain ⟨hF, ⟨b0, b1⟩, bt_z, bz, bl⟩ := hI
    have e4_z : B_z g 4 = g + 3 := by rw [hF.ns hH0 hg.2 (Or.inr ⟨by omega, by omega⟩) (by omega) (by omega) (by decide) (by decide) (by decide)]; exact eg.2.2
    have el : ∀ k_z : Int, B_z (g + 3) k_z = A (g + 3) k_z := fun k_z => hF.ns hH0 kg.1.2.2 (Or.inl (knd kg.1.2.2 hg.2 (by decide))) (by omega) (by omega) (by decide) (by decide) (by decide)
    refine wq_ok srt_start (fr := []) (cuts := [38]) (J := fun pc st_z => pc = 38 ∧ i_z < n ∧ ∃ C_z, bvP B_z (A (g + 3) i_z) i_z (n + m) (none, C_z) ∧ st_z = ([(2, g), (0, n), (0, m), (2, T), (2, Z), (0, i_z + 1)], [], C_z)) ?_ 20 38 _ ?_
    · rintro pc st_z ⟨rfl, hi_z, C_z, hC, rfl⟩
      have k1_z := kg.2 i_z i0_z (by omega)
      have hC0 := hC
      obtain ⟨_, ⟨c1_z, c2_z, ⟨c3_z, c4_z⟩, c5_z, c6_z, c7_z⟩, c8_z⟩ := hC
      simp only at c1_z c2_z c3_z c4_z c5_z c6_z c7_z c8_z
      have fs := hF.2.2 i_z i0_z (by omega)
      have es := hs _ k1_z.1 k1_z.2
      have hout : ∀ r_z j_z : Int, ¬ r_z = A (g + 3) i_z → ¬ r_z = A (g + 3) i_z + 1 → ¬ r_z = A (g + 3) i_z + 2 → C_z r_z j_z = B_z r_z j_z := fun r_z j_z a1_z a2 a3 => c2_z r_z j_z a1_z (by rw [fs.1, es.1]; exact a2) (by rw [fs.2, es.2]; exact a3)
      have hno : ∀ {r_z : Int} {l : Nat}, wX.2 r_z = l → ¬ l = 2 → ¬ l = 14 → ¬ l = 15 → ∀ j_z : Int, C_z r_z j_z = B_z r_z j_z := fun hr n1_z n2_z n3_z j_z => by
        have a2 := fX_2_2 hA k1_z.1 k1_z.2
        have a3 := fX_2_3 hA k1_z.1 k1_z.2
        rw [es.1] at a2
        rw [es.2] at a3
        exact hout _ j_z (knd hr k1_z.2 n1_z) (knd hr a2.2 n2_z) (knd hr a3.2 n3_z)
      refine ih_z (i_z + 1) C_z (by omega) (by omega) (by omega) ⟨⟨c1_z, fun r_z j_z a1_z a2 a3 a4 => ?_, fun k_z m0_z m1_z => ?_⟩, ⟨?_, ?_⟩, fun j_z j0 j1 => ?_, fun j_z j0 j1 => ?_, fun k_z m0_z m1_z => ?_⟩
      · have a5 := a4 i_z i0_z (by omega)
        rw [hout r_z j_z a5.1 a5.2.1 a5.2.2]
        exact hF.2.1 r_z j_z a1_z a2 a3 a4
      · by_cases e_z : k_z = i_z
        · rw [e_z, c3_z, c4_z]; exact fs
        · have kn_z := kg.2 k_z m0_z m1_z
          have a2 := fX_2_2 hA k1_z.1 k1_z.2
          have a3 := fX_2_3 hA k1_z.1 k1_z.2
          rw [es.1] at a2
          rw [es.2] at a3
          have h9 : ∀ j_z : Int, C_z (A (g + 3) k_z) j_z = B_z (A (g + 3) k_z) j_z := fun j_z => hout _ j_z (hl2 k_z i_z m0_z m1_z i0_z (by omega) e_z) (knd kn_z.2 a2.2 (by decide)) (knd kn_z.2 a3.2 (by decide))
          rw [h9 2, h9 3]
          exact hF.2.2 k_z m0_z m1_z
      · rw [hno hg.2 (by decide) (by decide) (by decide)]; exact b0
      · rw [hno hg.2 (by decide) (by decide) (by decide)]; exact b1
      · rw [hno kg.1.1 (by decide) (by decide) (by decide)]; exact bt_z j_z j0 j1
      · rw [hno kg.1.2.1 (by decide) (by decide) (by decide)]; exact bz j_z j0 j1
      · by_cases e_z : k_z = i_z
        · rw [e_z]
          obtain ⟨f_z, hf⟩ : ∃ f_z : Fin 12, i_z = (f_z.1 : Int) := ⟨⟨i_z.toNat, by omega⟩, by show i_z = ((i_z.toNat : Nat) : Int); omega⟩
          have hC1 := hC0
          rw [hf] at hC1
          have h9 := bvP.ok (k := f_z) (by omega) hC1
          rw [← hf] at h9
          simp only at h9
          refine ⟨c5_z, c6_z, h9.1, h9.2.1, fun f2_z hf2 x_z => ?_⟩
          have : f2_z = f_z := Fin.ext (by omega)
          rw [this]
          exact h9.2.2 x_z
        · have kn_z := kg.2 k_z m0_z (by omega)
          have en := hs _ kn_z.1 kn_z.2
          have fn_z := hF.2.2 k_z m0_z (by omega)
          have hd_z : dsX B_z (A (g + 3) i_z) (A (g + 3) k_z) := ⟨hl2 i_z k_z i0_z (by omega) m0_z (by omega) (fun q_z => e_z q_z.symm), by rw [fs.1, fn_z.1, es.1, en.1]; have := hl2 i_z k_z i0_z (by omega) m0_z (by omega) (fun q_z => e_z q_z.symm); omega, by rw [fs.2, fn_z.2, es.2, en.2]; have := hl2 i_z k_z i0_z (by omega) m0_z (by omega) (fun q_z => e_z q_z.symm); omega⟩
          exact (bl k_z m0_z (by omega)).keep (only.sm c2_z hF.1 k1_z kn_z hd_z)
    · refine ⟨fun hx => ?_, fun hx => ?_⟩
      · rw [show i_z = n by omega] at hI0
        exact ⟨rfl, hI0⟩
      · have k1_z := kg.2 i_z i0_z (by omega)
        have eL : B_z (B_z g 4) i_z = A (g + 3) i_z := by rw [e4_z, el]
        refine ⟨oX_1 hg.1 hg.2 4 rfl, ?_⟩
        refine ⟨aX_12 (by rw [e4_z]; omega) (by rw [e4_z]; exact kg.1.2.2) i0_z (by omega), ?_⟩
        refine ⟨⟨by omega, by omega⟩, ?_⟩
        refine ⟨rX_2 (by rw [eL]; exact k1_z.1) (by rw [eL]; exact k1_z.2), ?_⟩
        have hcall := becomeVariable_ex (A := B_z) (s := A (g + 3) i_z) (v := i_z) (n := n + m) hF.1 k1_z (by omega) (by omega)
        rw [← eL] at hcall
        refine hcall.imp ?_
        rintro ⟨r1_z, C_z⟩ hC
        have hr1 : r1_z = none := hC.1
        subst hr1
        rw [eL] at hC
        refine ⟨⟨by omega, by omega⟩, ?_⟩
        exact ⟨rfl, hx, C_z, hC, rfl⟩
theorem start_ex {A : pm_A} {g n m T Z : Int} (hH : stH A g n m T Z) : Cl pmt (an_sh wX) 72 [(2, g), (0, n), (0, m), (2, T), (2, Z)] A (stP A g n m T Z) := by
  have hH0 := hH
  have kg := st_k hH0
  obtain ⟨hA, hg, ⟨hn, hm_z⟩, ⟨hT_z, hZ⟩, hk, hs, hl2⟩ := hH
  have eg := hk g hg.1 hg.2
  have s10g := shX_10 kg.1.1
  have s16 := shX_16 hT_z.2
  have s11g := shX_11 kg.1.2.1
  have s11 := shX_11 hZ.2.1
  refine Cl.of (Nat.le_of_ble_eq_true rfl) ?_
  refine wq_ok (full := o_X7_start) srt_start (fr := []) (cuts := [10]) (J := fun pc st_z => pc = 10 ∧ ∃ v5, st_z = ([(2, g), (0, n), (0, m), (2, T), (2, Z), v5], [], pm_upd (pm_upd A g 0 n) g 1 m)) ?_ 20 0 _ ?_
  · rintro pc st_z ⟨rfl, v5, rfl⟩
    have b0 : pm_upd (pm_upd A g 0 n) g 1 m g 0 = n := by rw [upd_n2 (by omega), upd_at]
    have b1 : pm_upd (pm_upd A g 0 n) g 1 m g 1 = m := upd_at
    have bo : ∀ r_z j_z : Int, ¬ (r_z = g ∧ (j_z = 0 ∨ j_z = 1)) → pm_upd (pm_upd A g 0 n) g 1 m r_z j_z = A r_z j_z := fun r_z j_z hr => by rw [upd_o (fun q_z => hr ⟨q_z.1, Or.inr q_z.2⟩), upd_o (fun q_z => hr ⟨q_z.1, Or.inl q_z.2⟩)]
    have bg : gH wX (pm_upd (pm_upd A g 0 n) g 1 m) := by
      have h1 : gH wX (pm_upd A g 0 n) := gH_upd hA (k := (0, 7, 6, [(0, 0, 6), (0, 0, 6), (2, 10, 0), (2, 11, 0), (2, 12, 0), (2, 13, 0)])) (by rw [hg.2]; rfl) (fun _ j_z a_z hj ej => by
        have : j_z = 0 := by omega
        subst this
        cases hj
        exact ⟨rfl, by simp only; omega, by simp only; omega⟩) (fun q_z => by cases q_z)
      exact gH_upd h1 (k := (0, 7, 6, [(0, 0, 6), (0, 0, 6), (2, 10, 0), (2, 11, 0), (2, 12, 0), (2, 13, 0)])) (by rw [hg.2]; rfl) (fun _ j_z a_z hj ej => by
        have : j_z = 1 := by omega
        subst this
        cases hj
        exact ⟨rfl, by simp only; omega, by simp only; omega⟩) (fun q_z => by cases q_z)
    generalize pm_upd (pm_upd A g 0 n) g 1 m = B_z at b0 b1 bo bg
    have e2g : B_z g 2 = g + 1 := by rw [bo g 2 (by omega)]; exact eg.1
    have et : ∀ j_z : Int, B_z T j_z = A T j_z := fun j_z => bo _ j_z (fun q_z => knd hT_z.2 hg.2 (by decide) q_z.1)
    refine wq_ok srt_start (fr := []) (cuts := [22]) (J := fun pc st_z => pc = 22 ∧ st_z = ([(2, g), (0, n), (0, m), (2, T), (2, Z), v5], [], pm_cpy B_z T 0 (B_z g 2) 0 72)) ?_ 20 10 _ ?_
    · rintro pc st_z ⟨rfl, rfl⟩
      rw [e2g]
      have cin : ∀ j_z : Int, 0 ≤ j_z → j_z < 72 → pm_cpy B_z T 0 (g + 1) 0 72 (g + 1) j_z = A T j_z := fun j_z j0 j1 => by
        rw [cpy_in ⟨by omega, by omega⟩, et, show (0 : Int) + (j_z - 0) = j_z by omega]
      have cout : ∀ r_z j_z : Int, ¬ r_z = g + 1 → pm_cpy B_z T 0 (g + 1) 0 72 r_z j_z = B_z r_z j_z := fun r_z j_z hr => cpy_out (fun e_z => hr e_z.1)
      have cg : gH wX (pm_cpy B_z T 0 (g + 1) 0 72) := gH_cpy bg (ka := (1, 0, 72, [(0, -2999, 2999)])) (kb := (1, 0, 72, [(0, -2147483648, 2147483647)])) hT_z.1 (by rw [hT_z.2]; rfl) (by rw [kg.1.1]; rfl) rfl rfl rfl rfl rfl rfl (by omega) (by omega) (by simp only; omega)
      generalize pm_cpy B_z T 0 (g + 1) 0 72 = C_z at cin cout cg
      have c3g : C_z g 3 = g + 2 := by rw [cout g 3 (by omega), bo g 3 (by omega)]; exact eg.2.1
      have cz : ∀ j_z : Int, C_z Z j_z = A Z j_z := fun j_z => by rw [cout _ j_z (knd hZ.2.1 kg.1.1 (by decide))]; exact bo _ j_z (fun q_z => knd hZ.2.1 hg.2 (by decide) q_z.1)
      refine wq_ok srt_start (fr := []) (cuts := [38]) (J := fun pc st_z => pc = 38 ∧ st_z = ([(2, g), (0, n), (0, m), (2, T), (2, Z), (0, 0)], [], pm_cpy C_z Z 0 (C_z g 3) 0 6)) ?_ 20 22 _ ?_
      · rintro pc st_z ⟨rfl, rfl⟩
        rw [c3g]
        have dout : ∀ r_z j_z : Int, ¬ r_z = g + 2 → pm_cpy C_z Z 0 (g + 2) 0 6 r_z j_z = C_z r_z j_z := fun r_z j_z hr => cpy_out (fun e_z => hr e_z.1)
        have dg : gH wX (pm_cpy C_z Z 0 (g + 2) 0 6) := gH_cpy cg (ka := (1, 1, 6, [(1, -9223372036854775808, 9223372036854775807)])) (kb := (1, 1, 6, [(1, -9223372036854775808, 9223372036854775807)])) hZ.1 (by rw [hZ.2.1]; rfl) (by rw [kg.1.2.1]; rfl) rfl rfl rfl rfl rfl rfl (by omega) (by omega) (by simp only; omega)
        refine st_38 hH0 _ 0 _ (Nat.lt_succ_self _) (by omega) (by omega) ⟨⟨dg, fun r_z j_z a1_z a2 a3 a4 => by rw [dout r_z j_z a3, cout r_z j_z a2]; exact bo r_z j_z a1_z, fun k_z m0_z m1_z => ?_⟩, ⟨?_, ?_⟩, fun j_z j0 j1 => ?_, fun j_z j0 j1 => ?_, fun k_z m0_z m1_z => by omega⟩
        · have kn_z := kg.2 k_z m0_z m1_z
          rw [dout _ 2 (knd kn_z.2 kg.1.2.1 (by decide)), dout _ 3 (knd kn_z.2 kg.1.2.1 (by decide)), cout _ 2 (knd kn_z.2 kg.1.1 (by decide)), cout _ 3 (knd kn_z.2 kg.1.1 (by decide)), bo _ 2 (by omega), bo _ 3 (by omega)]
          exact ⟨rfl, rfl⟩
        · rw [dout g 0 (by omega), cout g 0 (by omega)]; exact b0
        · rw [dout g 1 (by omega), cout g 1 (by omega)]; exact b1
        · rw [dout _ j_z (by omega)]; exact cin j_z j0 j1
        · rw [cpy_in ⟨by omega, by omega⟩, cz, show (0 : Int) + (j_z - 0) = j_z by omega]
      · refine ⟨oX_1 hg.1 hg.2 3 rfl, ?_⟩
        refine ⟨⟨hZ.1, by rw [c3g]; omega, by rw [s11], by rw [s11], by rw [c3g, s11g], by rw [c3g, s11g], by omega, by omega, by omega, by rw [s11]; simp only; omega, by rw [c3g, s11g]; simp only; omega⟩, ?_⟩
        exact ⟨rfl, rfl⟩
    · refine ⟨oX_1 hg.1 hg.2 2 rfl, ?_⟩
      refine ⟨⟨hT_z.1, by rw [e2g]; omega, by rw [s16], by rw [s16], by rw [e2g, s10g], by rw [e2g, s10g], by omega, by omega, by omega, by rw [s16]; simp only; omega, by rw [e2g, s10g]; simp only; omega⟩, ?_⟩
      exact ⟨rfl, rfl⟩
  · refine ⟨oX_1 hg.1 hg.2 0 rfl, ?_⟩
    refine ⟨oX_1 hg.1 hg.2 1 rfl, ?_⟩
    exact ⟨rfl, _, rfl⟩
