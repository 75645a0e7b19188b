section
/-! sums and least powers on both sides; the class's remember -/
def smP (f : Int → Int) : Nat → Int
  | 0 => 0
  | n_z + 1 => smP f n_z + f (n_z : Int)
theorem smP_b {f : Int → Int} : ∀ n_z : Nat, n_z ≤ 200 → (∀ q_z : Int, 0 ≤ q_z → q_z < n_z → 1 ≤ f q_z ∧ f q_z ≤ 1000000000000) → 0 ≤ smP f n_z ∧ smP f n_z ≤ 1000000000000 * (n_z : Int)
  | 0, _, _ => by show (0 : Int) ≤ 0 ∧ (0 : Int) ≤ _; omega
  | n_z + 1, h_z, hf => by
    have h1 := smP_b n_z (by omega) (fun q_z q0 q1_z => hf q_z q0 (by omega))
    have h2 := hf n_z (by omega) (by omega)
    show 0 ≤ smP f n_z + f n_z ∧ smP f n_z + f n_z ≤ _
    omega
theorem smP_c {f g : Int → Int} : ∀ n_z : Nat, (∀ q_z : Int, 0 ≤ q_z → q_z < n_z → f q_z = g q_z) → smP f n_z = smP g n_z
  | 0, _ => rfl
  | n_z + 1, h_z => by
    show smP f n_z + f n_z = smP g n_z + g n_z
    rw [smP_c n_z (fun q_z q0 q1_z => h_z q_z q0 (by omega)), h_z n_z (by omega) (by omega)]
def mnP (f : Int → Int) : Nat → Int
  | 0 => f 0
  | n_z + 1 => min (mnP f n_z) (f ((n_z : Int) + 1))
theorem mnP_c {f g : Int → Int} : ∀ n_z : Nat, (∀ q_z : Int, 0 ≤ q_z → q_z ≤ n_z → f q_z = g q_z) → mnP f n_z = mnP g n_z
  | 0, h_z => h_z 0 (by omega) (by omega)
  | n_z + 1, h_z => by
    show min (mnP f n_z) (f ((n_z : Int) + 1)) = min (mnP g n_z) (g ((n_z : Int) + 1))
    rw [mnP_c n_z (fun q_z q0 q1_z => h_z q_z q0 (by omega)), h_z ((n_z : Int) + 1) (by omega) (by omega)]
theorem mnP_b {f : Int → Int} {a b : Int} : ∀ n_z : Nat, (∀ q_z : Int, 0 ≤ q_z → q_z ≤ n_z → a ≤ f q_z ∧ f q_z ≤ b) → a ≤ mnP f n_z ∧ mnP f n_z ≤ b
  | 0, h_z => h_z 0 (by omega) (by omega)
  | n_z + 1, h_z => by
    have h1 := mnP_b n_z (fun q_z q0 q1_z => h_z q_z q0 (by omega))
    have h2 := h_z ((n_z : Int) + 1) (by omega) (by omega)
    show a ≤ min (mnP f n_z) (f ((n_z : Int) + 1)) ∧ min (mnP f n_z) (f ((n_z : Int) + 1)) ≤ b
    omega
theorem srt_sum : pm_srt o_X8_sum = true := by decide +kernel
theorem srt_leastPower : pm_srt o_X8_leastPower = true := by decide +kernel
theorem sx_4 {A : pm_A} {c : Int} (hA : gH wX A) (hc : 0 ≤ c ∧ wX.2 c = 2) (hf : cfX A c) : ∀ (m_z t_z : Nat), 200 - t_z < m_z → (t_z : Int) ≤ A c 1 → Tm pmt (an_sh wX) o_X8_sum 4 ([(2, c), (1, smP (A (A c 2)) t_z), (9, 0), (0, (t_z : Int))], [], A) (fun r_z => r_z = (some (1, smP (A (A c 2)) (A c 1).toNat), A)) := by
  have m1_z := fX_2_1 hA hc.1 hc.2
  have n2_z := fX_2_2 hA hc.1 hc.2
  intro m_z
  induction m_z with
  | zero => intro t_z h_z; omega
  | succ m_z ih_z =>
    intro t_z hm_z t1_z
    refine wq_ok srt_sum (fr := []) (cuts := [4]) (J := fun pc st_z => pc = 4 ∧ (t_z : Int) < A c 1 ∧ st_z = ([(2, c), (1, smP (A (A c 2)) t_z + A (A c 2) (t_z : Int)), (9, 0), (0, (t_z : Int) + 1)], [], A)) ?_ 30 4 _ ?_
    · rintro pc st_z ⟨rfl, h1, rfl⟩
      rw [show (t_z : Int) + 1 = ((t_z + 1 : Nat) : Int) by omega]
      exact ih_z (t_z + 1) (by omega) (by omega)
    · refine ⟨oX_2 hc.1 hc.2 1 rfl, ?_⟩
      refine ⟨fun h_z => ?_, fun h_z => ?_⟩
      · have e_z : t_z = (A c 1).toNat := by omega
        exact ⟨rfl, by rw [e_z]⟩
      · have b_z := smP_b (f := A (A c 2)) t_z (by omega) (fun q_z q0 q1_z => hf q_z q0 (by omega))
        have b2 := hf t_z (by omega) h_z
        refine ⟨oX_2 hc.1 hc.2 2 rfl, ?_⟩
        refine ⟨aX_14 n2_z.1 n2_z.2 (by omega) (by omega), ?_⟩
        refine ⟨⟨by omega, by omega⟩, ?_⟩
        refine ⟨⟨by omega, by omega⟩, ?_⟩
        exact ⟨rfl, h_z, rfl⟩
theorem sum_ex {A : pm_A} {c : Int} (hA : gH wX A) (hc : 0 ≤ c ∧ wX.2 c = 2) (hf : cfX A c) : Cl pmt (an_sh wX) 82 [(2, c)] A (fun r_z => r_z = (some (1, smP (A (A c 2)) (A c 1).toNat), A)) := by
  have m1_z := fX_2_1 hA hc.1 hc.2
  refine Cl.of (Nat.le_of_ble_eq_true rfl) ?_
  refine wq_ok (full := o_X8_sum) srt_sum (fr := []) (cuts := [4]) (J := fun pc st_z => pc = 4 ∧ st_z = ([(2, c), (1, 0), (9, 0), (0, 0)], [], A)) ?_ 20 0 _ ?_
  · rintro pc st_z ⟨rfl, rfl⟩
    exact sx_4 hA hc hf _ 0 (Nat.lt_succ_self _) (by omega)
  · exact ⟨rfl, rfl⟩
theorem lx_20 {A : pm_A} {c v : Int} (hA : gH wX A) (hc : 0 ≤ c ∧ wX.2 c = 2) (h0 : 1 ≤ A c 1) (v0 : 0 ≤ v) (v1 : v < A c 0) : ∀ (m_z t_z : Nat), 200 - t_z < m_z → 1 ≤ t_z → (t_z : Int) ≤ A c 1 → Tm pmt (an_sh wX) o_X8_leastPower 20 ([(2, c), (0, v), (0, mnP (fun q_z => A (A c 3) (q_z * A c 0 + v)) (t_z - 1)), (0, (t_z : Int))], [], A) (fun r_z => r_z = (some (0, mnP (fun q_z => A (A c 3) (q_z * A c 0 + v)) ((A c 1).toNat - 1)), A)) := by
  have m1_z := fX_2_1 hA hc.1 hc.2
  have w1_z := fX_2_0 hA hc.1 hc.2
  have n3_z := fX_2_3 hA hc.1 hc.2
  intro m_z
  induction m_z with
  | zero => intro t_z h_z; omega
  | succ m_z ih_z =>
    intro t_z hm_z t0_z t1_z
    have st1_z : mnP (fun q_z => A (A c 3) (q_z * A c 0 + v)) t_z = min (mnP (fun q_z => A (A c 3) (q_z * A c 0 + v)) (t_z - 1)) (A (A c 3) ((t_z : Int) * A c 0 + v)) := by
      obtain ⟨u_z, rfl⟩ : ∃ u_z : Nat, t_z = u_z + 1 := ⟨t_z - 1, by omega⟩
      show min (mnP (fun q_z => A (A c 3) (q_z * A c 0 + v)) u_z) (A (A c 3) (((u_z : Int) + 1) * A c 0 + v)) = _
      rw [show ((u_z + 1 : Nat) : Int) = (u_z : Int) + 1 by omega, show u_z + 1 - 1 = u_z by omega]
    refine wq_ok srt_leastPower (fr := []) (cuts := [20]) (J := fun pc st_z => pc = 20 ∧ (t_z : Int) < A c 1 ∧ st_z = ([(2, c), (0, v), (0, min (mnP (fun q_z => A (A c 3) (q_z * A c 0 + v)) (t_z - 1)) (A (A c 3) ((t_z : Int) * A c 0 + v))), (0, (t_z : Int) + 1)], [], A)) ?_ 40 20 _ ?_
    · rintro pc st_z ⟨rfl, h1, rfl⟩
      rw [← st1_z, show (t_z : Int) + 1 = ((t_z + 1 : Nat) : Int) by omega]
      exact ih_z (t_z + 1) (by omega) (by omega) (by omega)
    · refine ⟨oX_2 hc.1 hc.2 1 rfl, ?_⟩
      refine ⟨fun h_z => ?_, fun h_z => ?_⟩
      · have e_z : t_z = (A c 1).toNat := by omega
        exact ⟨rfl, by rw [e_z]⟩
      · have hm0 : 0 ≤ (t_z : Int) * A c 0 := Int.mul_nonneg (by omega) w1_z.1
        have hm1 : (t_z : Int) * A c 0 ≤ 199 * A c 0 := Int.mul_le_mul_of_nonneg_right (by omega) w1_z.1
        refine ⟨oX_2 hc.1 hc.2 3 rfl, ?_⟩
        refine ⟨oX_2 hc.1 hc.2 0 rfl, ?_⟩
        refine ⟨⟨by omega, by omega⟩, ?_⟩
        refine ⟨⟨by omega, by omega⟩, ?_⟩
        refine ⟨aX_15 n3_z.1 n3_z.2 (by omega) (by omega), ?_⟩
        refine ⟨⟨by omega, by omega⟩, ?_⟩
        exact ⟨rfl, h_z, rfl⟩
theorem leastPower_ex {A : pm_A} {c v : Int} (hA : gH wX A) (hc : 0 ≤ c ∧ wX.2 c = 2) (h0 : 1 ≤ A c 1) (v0 : 0 ≤ v) (v1 : v < A c 0) : Cl pmt (an_sh wX) 81 [(2, c), (0, v)] A (fun r_z => r_z = (some (0, mnP (fun q_z => A (A c 3) (q_z * A c 0 + v)) ((A c 1).toNat - 1)), A)) := by
  have m1_z := fX_2_1 hA hc.1 hc.2
  have w1_z := fX_2_0 hA hc.1 hc.2
  have n3_z := fX_2_3 hA hc.1 hc.2
  refine Cl.of (Nat.le_of_ble_eq_true rfl) ?_
  refine wq_ok (full := o_X8_leastPower) srt_leastPower (fr := []) (cuts := [20]) (J := fun pc st_z => pc = 20 ∧ st_z = ([(2, c), (0, v), (0, A (A c 3) v), (0, 1)], [], A)) ?_ 20 0 _ ?_
  · rintro pc st_z ⟨rfl, rfl⟩
    have h1 := lx_20 hA hc h0 v0 v1 _ 1 (Nat.lt_succ_self _) (by omega) (by omega)
    have e1 : mnP (fun q_z => A (A c 3) (q_z * A c 0 + v)) (1 - 1) = A (A c 3) v := by
      show A (A c 3) (0 * A c 0 + v) = _
      rw [Int.zero_mul, Int.zero_add]
    rw [e1] at h1
    exact h1
  · refine ⟨oX_2 hc.1 hc.2 1 rfl, ?_⟩
    refine ⟨fun h_z => absurd h_z (by omega), fun h_z => ?_⟩
    refine ⟨oX_2 hc.1 hc.2 3 rfl, ?_⟩
    refine ⟨aX_15 n3_z.1 n3_z.2 v0 (by omega), ?_⟩
    exact ⟨rfl, rfl⟩
theorem srt_remember : pm_srt o_X0_remember = true := by decide +kernel
/-- what is told of the letters -/
def toldL (A B : pm_A) (n : Int) : Prop := ∀ l : Int, 0 ≤ l → l < n → B 104 l = A (107 + 3 * l) 1 ∧ B 105 l = smP (A (108 + 3 * l)) (A (107 + 3 * l) 1).toNat ∧ ∀ v_z : Int, 0 ≤ v_z → v_z < A 79 0 + A 79 1 → B 106 (12 * l + v_z) = mnP (fun q_z => A (109 + 3 * l) (q_z * A (107 + 3 * l) 0 + v_z)) ((A (107 + 3 * l) 1).toNat - 1)
def reF (A B : pm_A) : Prop := gH wX B ∧ (∀ r_z j_z : Int, ¬ (r_z = 72 ∧ (j_z = 13 ∨ j_z = 14)) → ¬ (104 ≤ r_z ∧ r_z ≤ 106) → B r_z j_z = A r_z j_z) ∧ B 72 13 = A 72 1 ∧ B 72 14 = A 79 0 + A 79 1
def reP (A : pm_A) (r : pm_R) : Prop := r.1 = none ∧ reF A r.2 ∧ toldL A r.2 (A 72 1)
def reH (A : pm_A) : Prop := gH wX A ∧ AT A ∧ (∀ a_z : Int, 0 ≤ a_z → wX.2 a_z = 2 → A a_z 2 = a_z + 1 ∧ A a_z 3 = a_z + 2) ∧ (∀ l : Int, 0 ≤ l → l < A 72 1 → cfX A (107 + 3 * l) ∧ 1 ≤ A (107 + 3 * l) 1 ∧ A (107 + 3 * l) 0 = A 79 0 + A 79 1) ∧ A 72 1 ≤ 100
theorem g5_13 {B : pm_A} {t : Int} (hB : gH wX B) (t0 : -1 ≤ t) (t1 : t ≤ 100) : gH wX (pm_upd B 72 13 t) := by
  refine gH_upd hB (k := (0, 0, 18, [(2, 22, 0), (0, 0, 100), (2, 23, 0), (2, 24, 0), (2, 25, 0), (2, 26, 0), (2, 26, 0), (0, 0, 150), (2, 1, 0), (2, 27, 0), (1, (-9223372036854775808), 9223372036854775807), (1, (-9223372036854775808), 9223372036854775807), (2, 17, 0), (0, (-1), 100), (0, 0, 12), (2, 19, 0), (2, 28, 0), (2, 29, 0)])) (by rw [kk72]; rfl) (fun _ j_z v_z hj ej => ?_) (fun q_z => by cases q_z)
  have : j_z = 13 := by omega
  subst this
  cases hj
  exact ⟨rfl, t0, t1⟩
theorem g5_14 {B : pm_A} {t : Int} (hB : gH wX B) (t0 : 0 ≤ t) (t1 : t ≤ 12) : gH wX (pm_upd B 72 14 t) := by
  refine gH_upd hB (k := (0, 0, 18, [(2, 22, 0), (0, 0, 100), (2, 23, 0), (2, 24, 0), (2, 25, 0), (2, 26, 0), (2, 26, 0), (0, 0, 150), (2, 1, 0), (2, 27, 0), (1, (-9223372036854775808), 9223372036854775807), (1, (-9223372036854775808), 9223372036854775807), (2, 17, 0), (0, (-1), 100), (0, 0, 12), (2, 19, 0), (2, 28, 0), (2, 29, 0)])) (by rw [kk72]; rfl) (fun _ j_z v_z hj ej => ?_) (fun q_z => by cases q_z)
  have : j_z = 14 := by omega
  subst this
  cases hj
  exact ⟨rfl, t0, t1⟩
theorem rk104 : wX.2 104 = 19 ∧ wX.2 105 = 28 ∧ wX.2 106 = 29 := by decide
theorem re_69 {A : pm_A} {l : Int} (hH : reH A) (l0 : 0 ≤ l) (l1 : l < A 72 1) (H : ∀ (B_z : pm_A) (v_z : pm_V), reF A B_z → toldL A B_z (l + 1) → Tm pmt (an_sh wX) o_X0_remember 104 ([(2, 72), (0, l), v_z], [], B_z) (reP A)) : ∀ (m_z : Nat) (v_z : Int) (B_z : pm_A), (12 - v_z).toNat < m_z → 0 ≤ v_z → v_z ≤ A 79 0 + A 79 1 → reF A B_z → toldL A B_z l → (B_z 104 l = A (107 + 3 * l) 1 ∧ B_z 105 l = smP (A (108 + 3 * l)) (A (107 + 3 * l) 1).toNat) → (∀ w_z : Int, 0 ≤ w_z → w_z < v_z → B_z 106 (12 * l + w_z) = mnP (fun q_z => A (109 + 3 * l) (q_z * A (107 + 3 * l) 0 + w_z)) ((A (107 + 3 * l) 1).toNat - 1)) → Tm pmt (an_sh wX) o_X0_remember 69 ([(2, 72), (0, l), (0, v_z)], [], B_z) (reP A) := by
  obtain ⟨hA, hT_z, hsh, hlt, h100⟩ := hH
  have p6_z := fX_1_0 hA z79 kk79
  have q6_z := fX_1_1 hA z79 kk79
  have hk : 0 ≤ 107 + 3 * l ∧ wX.2 (107 + 3 * l) = 2 := ⟨by omega, kkLt l0 (by omega)⟩
  have hs := hsh _ hk.1 hk.2
  have hl := hlt l l0 l1
  intro m_z
  induction m_z with
  | zero => intro v_z B_z h_z; omega
  | succ m_z ih_z =>
    intro v_z B_z hm_z v0_z v1_z hF ht h45 hd_z
    have b72 : ∀ j_z : Int, ¬ j_z = 13 → ¬ j_z = 14 → B_z 72 j_z = A 72 j_z := fun j_z h1 h2 => hF.2.1 72 j_z (by omega) (by omega)
    have e14_z := hF.2.2.2
    have a0_z : B_z 72 0 = 73 := by rw [b72 0 (by omega) (by omega)]; exact hT_z.1.1
    have a17 : B_z 72 17 = 106 := by rw [b72 17 (by omega) (by omega)]; exact hT_z.2.1.2.2
    have eL : B_z 73 l = 107 + 3 * l := by rw [hF.2.1 73 l (by omega) (by omega)]; exact hT_z.2.2.2 l l0 (by omega)
    have bs : ∀ j_z : Int, B_z (107 + 3 * l) j_z = A (107 + 3 * l) j_z := fun j_z => hF.2.1 _ j_z (by omega) (by omega)
    have b9 : B_z (109 + 3 * l) = A (109 + 3 * l) := funext fun j_z => hF.2.1 _ j_z (by omega) (by omega)
    refine wq_ok srt_remember (fr := []) (cuts := [97, 104]) (J := fun pc st_z => (pc = 104 ∧ v_z = A 79 0 + A 79 1 ∧ st_z = ([(2, 72), (0, l), (0, v_z)], [], B_z)) ∨ (pc = 97 ∧ v_z < A 79 0 + A 79 1 ∧ st_z = ([(2, 72), (0, l), (0, v_z)], [(0, mnP (fun q_z => A (109 + 3 * l) (q_z * A (107 + 3 * l) 0 + v_z)) ((A (107 + 3 * l) 1).toNat - 1)), (0, l * 12 + v_z), (2, 106)], B_z))) ?_ 40 69 _ ?_
    · rintro pc st_z (⟨rfl, hv, rfl⟩ | ⟨rfl, hv, rfl⟩)
      · refine H B_z _ hF (fun a_z a0_z a1_z => ?_)
        by_cases e_z : a_z = l
        · rw [e_z]; exact ⟨h45.1, h45.2, fun w_z w0_z w1_z => hd_z w_z w0_z (by omega)⟩
        · exact ht a_z a0_z (by omega)
      · have hmn : -2147483648 ≤ mnP (fun q_z => A (109 + 3 * l) (q_z * A (107 + 3 * l) 0 + v_z)) ((A (107 + 3 * l) 1).toNat - 1) ∧ mnP (fun q_z => A (109 + 3 * l) (q_z * A (107 + 3 * l) 0 + v_z)) ((A (107 + 3 * l) 1).toNat - 1) ≤ 2147483647 := by
          have m1_z := fX_2_1 hA hk.1 hk.2
          have n3_z := fX_2_3 hA hk.1 hk.2
          rw [hs.2, show 107 + 3 * l + 2 = 109 + 3 * l by omega] at n3_z
          have w1_z := fX_2_0 hA hk.1 hk.2
          refine mnP_b _ (fun q_z q0 q1_z => ?_)
          have hm0 : 0 ≤ q_z * A (107 + 3 * l) 0 := Int.mul_nonneg q0 w1_z.1
          have hm1 : q_z * A (107 + 3 * l) 0 ≤ 199 * A (107 + 3 * l) 0 := Int.mul_le_mul_of_nonneg_right (by omega) w1_z.1
          exact eX_15 hA n3_z.1 n3_z.2 (j := q_z * A (107 + 3 * l) 0 + v_z) (by omega) (by omega)
        generalize hy : mnP (fun q_z => A (109 + 3 * l) (q_z * A (107 + 3 * l) 0 + v_z)) ((A (107 + 3 * l) 1).toNat - 1) = y_z at hmn
        refine wq_ok srt_remember (fr := []) (cuts := [69]) (J := fun pc st_z => pc = 69 ∧ st_z = ([(2, 72), (0, l), (0, v_z + 1)], [], pm_upd B_z 106 (l * 12 + v_z) y_z)) ?_ 40 97 _ ?_
        · rintro pc st_z ⟨rfl, rfl⟩
          rw [show l * 12 + v_z = 12 * l + v_z by omega]
          refine ih_z (v_z + 1) _ (by omega) (by omega) (by omega) ⟨uX_29 hF.1 rk104.2.2 hmn.1 hmn.2, fun r_z j_z h1 h2 => by rw [upd_ne (by omega)]; exact hF.2.1 r_z j_z h1 h2, by rw [upd_ne (by omega)]; exact hF.2.2.1, by rw [upd_ne (by omega)]; exact hF.2.2.2⟩ (fun a_z a0_z a1_z => ?_) (by rw [upd_ne (by omega), upd_ne (by omega)]; exact h45) (fun w_z w0_z w1_z => ?_)
          · rw [upd_ne (by omega), upd_ne (by omega)]
            have h5 := ht a_z a0_z a1_z
            refine ⟨h5.1, h5.2.1, fun w_z w0_z w1_z => ?_⟩
            rw [upd_n2 (by omega)]
            exact h5.2.2 w_z w0_z w1_z
          · by_cases e_z : w_z = v_z
            · rw [e_z, upd_at]; exact hy.symm
            · rw [upd_n2 (by omega)]; exact hd_z w_z w0_z (by omega)
        · refine ⟨tX_29 (r := 106) (by omega) rk104.2.2 (by omega) (by omega) rfl, ?_⟩
          refine ⟨⟨by omega, by omega⟩, ?_⟩
          exact ⟨rfl, rfl⟩
    · refine ⟨oX_5 z72 kk72 14 rfl, ?_⟩
      refine ⟨fun h_z => ?_, fun h_z => ?_⟩
      · rw [e14_z] at h_z
        exact Or.inl ⟨rfl, by omega, rfl⟩
      · rw [e14_z] at h_z
        refine ⟨oX_5 z72 kk72 17 rfl, ?_⟩
        refine ⟨⟨by omega, by omega⟩, ?_⟩
        refine ⟨⟨by omega, by omega⟩, ?_⟩
        refine ⟨oX_5 z72 kk72 0 rfl, ?_⟩
        refine ⟨aX_22 (r := B_z 72 0) (by rw [a0_z]; omega) (by rw [a0_z]; exact kk73) l0 (by omega), ?_⟩
        refine ⟨rX_2 (r := B_z (B_z 72 0) l) (by rw [a0_z, eL]; exact hk.1) (by rw [a0_z, eL]; exact hk.2), ?_⟩
        show Cl pmt (an_sh wX) 81 [(2, B_z (B_z 72 0) l), (0, v_z)] B_z _
        rw [a0_z, eL]
        refine (leastPower_ex (A := B_z) (c := 107 + 3 * l) (v := v_z) hF.1 hk (by rw [bs 1]; exact hl.2.1) v0_z (by rw [bs 0, hl.2.2]; exact h_z)).imp ?_
        rintro r_z rfl
        refine Or.inr ⟨rfl, h_z, ?_⟩
        rw [bs 3, hs.2, show 107 + 3 * l + 2 = 109 + 3 * l by omega, b9, bs 0, bs 1, a17]
        rfl
theorem re_29 {A : pm_A} (hH : reH A) : ∀ (m_z : Nat) (l : Int) (v_z : pm_V) (B_z : pm_A), (100 - l).toNat < m_z → 0 ≤ l → l ≤ A 72 1 → reF A B_z → toldL A B_z l → Tm pmt (an_sh wX) o_X0_remember 29 ([(2, 72), (0, l), v_z], [], B_z) (reP A) := by
  have hH0 := hH
  obtain ⟨hA, hT_z, hsh, hlt, h100⟩ := hH
  have p6_z := fX_1_0 hA z79 kk79
  have q6_z := fX_1_1 hA z79 kk79
  intro m_z
  induction m_z with
  | zero => intro l v_z B_z h_z; omega
  | succ m_z ih_z =>
    intro l v_z B_z hm_z l0 l1 hF ht
    have b72 : ∀ j_z : Int, ¬ j_z = 13 → ¬ j_z = 14 → B_z 72 j_z = A 72 j_z := fun j_z h1 h2 => hF.2.1 72 j_z (by omega) (by omega)
    have a0_z : B_z 72 0 = 73 := by rw [b72 0 (by omega) (by omega)]; exact hT_z.1.1
    have a15 : B_z 72 15 = 104 := by rw [b72 15 (by omega) (by omega)]; exact hT_z.2.1.1
    have a16 : B_z 72 16 = 105 := by rw [b72 16 (by omega) (by omega)]; exact hT_z.2.1.2.1
    have e1 : B_z 72 1 = A 72 1 := b72 1 (by omega) (by omega)
    refine wq_ok srt_remember (fr := []) (cuts := [52]) (J := fun pc st_z => pc = 52 ∧ l < A 72 1 ∧ st_z = ([(2, 72), (0, l), v_z], [], pm_upd B_z (B_z 72 15) l (B_z (B_z (B_z 72 0) l) 1))) ?_ 40 29 _ ?_
    · rintro pc st_z ⟨rfl, hl, rfl⟩
      have hk : 0 ≤ 107 + 3 * l ∧ wX.2 (107 + 3 * l) = 2 := ⟨by omega, kkLt l0 (by omega)⟩
      have hs := hsh _ hk.1 hk.2
      have hlt2 := hlt l l0 hl
      have eL : B_z 73 l = 107 + 3 * l := by rw [hF.2.1 73 l (by omega) (by omega)]; exact hT_z.2.2.2 l l0 (by omega)
      have bs : ∀ j_z : Int, B_z (107 + 3 * l) j_z = A (107 + 3 * l) j_z := fun j_z => hF.2.1 _ j_z (by omega) (by omega)
      have m1_z := fX_2_1 hA hk.1 hk.2
      rw [a15, a0_z, eL, bs 1]
      have hC : gH wX (pm_upd B_z 104 l (A (107 + 3 * l) 1)) := uX_19 hF.1 rk104.1 (by omega) (by omega)
      have c1_z : ∀ r_z j_z : Int, ¬ r_z = 104 → pm_upd B_z 104 l (A (107 + 3 * l) 1) r_z j_z = B_z r_z j_z := fun r_z j_z hr => upd_ne hr
      have c2_z : pm_upd B_z 104 l (A (107 + 3 * l) 1) 104 l = A (107 + 3 * l) 1 := upd_at
      have c3_z : ∀ j_z : Int, ¬ j_z = l → pm_upd B_z 104 l (A (107 + 3 * l) 1) 104 j_z = B_z 104 j_z := fun j_z hj => upd_n2 hj
      generalize pm_upd B_z 104 l (A (107 + 3 * l) 1) = C_z at hC c1_z c2_z c3_z
      have d0_z : C_z 72 0 = 73 := by rw [c1_z 72 0 (by omega)]; exact a0_z
      have d16_z : C_z 72 16 = 105 := by rw [c1_z 72 16 (by omega)]; exact a16
      have dL_z : C_z 73 l = 107 + 3 * l := by rw [c1_z 73 l (by omega)]; exact eL
      have cs : ∀ j_z : Int, C_z (107 + 3 * l) j_z = A (107 + 3 * l) j_z := fun j_z => (c1_z _ j_z (by omega)).trans (bs j_z)
      have c8_z : C_z (108 + 3 * l) = A (108 + 3 * l) := funext fun j_z => (c1_z _ j_z (by omega)).trans (hF.2.1 _ j_z (by omega) (by omega))
      have hcf : cfX C_z (107 + 3 * l) := fun q_z q0 q1_z => by
        rw [cs 1] at q1_z
        rw [cs 2, hs.1, show 107 + 3 * l + 1 = 108 + 3 * l by omega, c8_z]
        have h5 := hlt2.1 q_z q0 q1_z
        rw [hs.1, show 107 + 3 * l + 1 = 108 + 3 * l by omega] at h5
        exact h5
      have hb_z := smP_b (f := A (108 + 3 * l)) (A (107 + 3 * l) 1).toNat (by omega) (fun q_z q0 q1_z => by
        have h5 := hlt2.1 q_z q0 (by omega)
        rw [hs.1, show 107 + 3 * l + 1 = 108 + 3 * l by omega] at h5
        exact h5)
      refine wq_ok srt_remember (fr := []) (cuts := [69]) (J := fun pc st_z => pc = 69 ∧ st_z = ([(2, 72), (0, l), (0, 0)], [], pm_upd C_z 105 l (smP (A (108 + 3 * l)) (A (107 + 3 * l) 1).toNat))) ?_ 40 52 _ ?_
      · rintro pc st_z ⟨rfl, rfl⟩
        refine re_69 hH0 l0 hl (fun D_z w_z hD htD => ?_) _ 0 _ (Nat.lt_succ_self _) (by omega) (by omega) ⟨uX_28 hC rk104.2.1 (by omega) (by omega), fun r_z j_z h1 h2 => by rw [upd_ne (by omega), c1_z r_z j_z (by omega)]; exact hF.2.1 r_z j_z h1 h2, by rw [upd_ne (by omega), c1_z 72 13 (by omega)]; exact hF.2.2.1, by rw [upd_ne (by omega), c1_z 72 14 (by omega)]; exact hF.2.2.2⟩ (fun a_z a0_z a1_z => ?_) ⟨by rw [upd_ne (by omega)]; exact c2_z, upd_at⟩ (fun w_z w0_z w1_z => by omega)
        · refine wq_ok srt_remember (fr := []) (cuts := [29]) (J := fun pc st_z => pc = 29 ∧ st_z = ([(2, 72), (0, l + 1), w_z], [], D_z)) ?_ 40 104 _ ?_
          · rintro pc st_z ⟨rfl, rfl⟩
            exact ih_z (l + 1) w_z D_z (by omega) (by omega) (by omega) hD htD
          · refine ⟨⟨by omega, by omega⟩, ?_⟩
            exact ⟨rfl, rfl⟩
        · have h5 := ht a_z a0_z a1_z
          rw [upd_ne (by omega), c3_z a_z (by omega), upd_n2 (by omega), c1_z 105 a_z (by omega)]
          refine ⟨h5.1, h5.2.1, fun w_z w0_z w1_z => ?_⟩
          rw [upd_ne (by omega), c1_z 106 _ (by omega)]
          exact h5.2.2 w_z w0_z w1_z
      · refine ⟨oX_5 z72 kk72 16 rfl, ?_⟩
        refine ⟨oX_5 z72 kk72 0 rfl, ?_⟩
        refine ⟨aX_22 (r := C_z 72 0) (by rw [d0_z]; omega) (by rw [d0_z]; exact kk73) l0 (by omega), ?_⟩
        refine ⟨rX_2 (r := C_z (C_z 72 0) l) (by rw [d0_z, dL_z]; exact hk.1) (by rw [d0_z, dL_z]; exact hk.2), ?_⟩
        show Cl pmt (an_sh wX) 82 [(2, C_z (C_z 72 0) l)] C_z _
        rw [d0_z, dL_z, d16_z]
        refine (sum_ex hC hk hcf).imp ?_
        rintro r_z rfl
        rw [cs 1, cs 2, hs.1, show 107 + 3 * l + 1 = 108 + 3 * l by omega, c8_z]
        refine ⟨tX_28 (r := 105) (by omega) rk104.2.1 l0 (by omega) rfl, ?_⟩
        exact ⟨rfl, rfl⟩
    · refine ⟨oX_5 z72 kk72 1 rfl, ?_⟩
      refine ⟨fun h_z => ?_, fun h_z => ?_⟩
      · rw [e1] at h_z
        have e_z : l = A 72 1 := by omega
        rw [e_z] at ht
        exact ⟨rfl, hF, ht⟩
      · rw [e1] at h_z
        have hk : 0 ≤ 107 + 3 * l ∧ wX.2 (107 + 3 * l) = 2 := ⟨by omega, kkLt l0 (by omega)⟩
        have eL : B_z 73 l = 107 + 3 * l := by rw [hF.2.1 73 l (by omega) (by omega)]; exact hT_z.2.2.2 l l0 (by omega)
        refine ⟨oX_5 z72 kk72 15 rfl, ?_⟩
        refine ⟨oX_5 z72 kk72 0 rfl, ?_⟩
        refine ⟨aX_22 (r := B_z 72 0) (by rw [a0_z]; omega) (by rw [a0_z]; exact kk73) l0 (by omega), ?_⟩
        refine ⟨oX_2 (r := B_z (B_z 72 0) l) (by rw [a0_z, eL]; exact hk.1) (by rw [a0_z, eL]; exact hk.2) 1 rfl, ?_⟩
        refine ⟨tX_19 (r := B_z 72 15) (by rw [a15]; omega) (by rw [a15]; exact rk104.1) l0 (by omega) rfl, ?_⟩
        exact ⟨rfl, h_z, rfl⟩
theorem remember_ex {A : pm_A} (hH : reH A) : Cl pmt (an_sh wX) 12 [(2, 72)] A (reP A) := by
  have hA := hH.1
  have hT_z := hH.2.1
  have f1_z := fX_5_1 hA z72 kk72
  have p6_z := fX_1_0 hA z79 kk79
  have q6_z := fX_1_1 hA z79 kk79
  have a8 := hT_z.1.2.2.2.2.2.2.1
  have h1 := g5_13 hA (t := A 72 1) (by omega) (by omega)
  have h2 := g5_14 h1 (t := A 79 0 + A 79 1) (by omega) (by omega)
  refine Cl.of (Nat.le_of_ble_eq_true rfl) ?_
  refine wq_ok (full := o_X0_remember) srt_remember (fr := []) (cuts := [8]) (J := fun pc st_z => pc = 8 ∧ ∃ v1_z v2, st_z = ([(2, 72), v1_z, v2], [], pm_upd A 72 13 (A 72 1))) ?_ 30 0 _ ?_
  · rintro pc st_z ⟨rfl, v1_z, v2, rfl⟩
    have c1_z : ∀ r_z j_z : Int, ¬ (r_z = 72 ∧ j_z = 13) → pm_upd A 72 13 (A 72 1) r_z j_z = A r_z j_z := fun r_z j_z hr => by
      by_cases e_z : r_z = 72
      · rw [e_z, upd_n2 (by omega)]
      · exact upd_ne e_z
    have c2_z : pm_upd A 72 13 (A 72 1) 72 13 = A 72 1 := upd_at
    generalize pm_upd A 72 13 (A 72 1) = C_z at h1 h2 c1_z c2_z
    have d8_z : C_z 72 8 = 79 := by rw [c1_z 72 8 (by omega)]; exact a8
    have e0_z : C_z 79 0 = A 79 0 := c1_z 79 0 (by omega)
    have e1 : C_z 79 1 = A 79 1 := c1_z 79 1 (by omega)
    refine wq_ok srt_remember (fr := []) (cuts := [29]) (J := fun pc st_z => pc = 29 ∧ st_z = ([(2, 72), (0, 0), v2], [], pm_upd C_z 72 14 (C_z (C_z 72 8) 0 + C_z (C_z 72 8) 1))) ?_ 30 8 _ ?_
    · rintro pc st_z ⟨rfl, rfl⟩
      rw [d8_z, e0_z, e1]
      refine re_29 hH _ 0 v2 _ (Nat.lt_succ_self _) (by omega) f1_z.1 ⟨h2, fun r_z j_z n1_z n2_z => ?_, ?_, upd_at⟩ (fun l l0 l1 => by omega)
      · by_cases e_z : r_z = 72
        · rw [e_z] at n1_z ⊢
          rw [upd_n2 (by omega)]; exact c1_z 72 j_z (by omega)
        · rw [upd_ne e_z]; exact c1_z r_z j_z (by omega)
      · rw [upd_n2 (by omega)]; exact c2_z
    · refine ⟨oX_5 z72 kk72 8 rfl, ?_⟩
      refine ⟨oX_1 (r := C_z 72 8) (by rw [d8_z]; omega) (by rw [d8_z]; exact kk79) 0 rfl, ?_⟩
      refine ⟨oX_5 z72 kk72 8 rfl, ?_⟩
      refine ⟨oX_1 (r := C_z 72 8) (by rw [d8_z]; omega) (by rw [d8_z]; exact kk79) 1 rfl, ?_⟩
      refine ⟨⟨by rw [d8_z]; omega, by rw [d8_z]; omega⟩, ?_⟩
      refine ⟨oX_5 z72 kk72 14 rfl, ?_⟩
      exact ⟨rfl, rfl⟩
  · refine ⟨oX_5 z72 kk72 1 rfl, ?_⟩
    refine ⟨oX_5 z72 kk72 13 rfl, ?_⟩
    exact ⟨rfl, _, _, rfl⟩
end

section
/-! the class's explore: arrive's picture, the step, the loops -/
def tdF (A B : pm_A) : Prop := (B 72 13 = A 72 13 ∧ B 72 14 = A 72 14) ∧ ∀ r_z j_z : Int, 104 ≤ r_z → r_z ≤ 106 → B r_z j_z = A r_z j_z
theorem avF.xa {s : cx_Sd 12} {ks : List (Fin 12)} {A G H : pm_A} (hX : xaF s ks A G) (hH : gH wX H) (hf : ∀ q_z j_z : Int, ¬ (q_z = 72 ∧ (j_z = 7 ∨ j_z = 10 ∨ j_z = 11)) → ¬ q_z = 103 → ¬ (74 ≤ q_z ∧ q_z ≤ 78) → H q_z j_z = G q_z j_z) : xaF s ks A H := by
  refine hX.put hH (fun q_z j_z hq => hf q_z j_z (fun e_z => hq (by unfold atC; omega)) (fun e_z => hq (by unfold atC; omega)) (fun e_z => hq (by unfold atC; omega))) (fun q_z j_z q0 qk hj => hf q_z j_z (fun e_z => ?_) (knd qk kk103 (by decide)) (fun e_z => ?_)) (fun j_z j0 j1 => by rw [hf 82 j_z (by omega) (by omega) (by omega)]; exact hX.1.2.1.2.2.2.1 j_z j0 j1)
  · omega
  · have h_z : q_z = 74 ∨ q_z = 75 ∨ q_z = 76 ∨ q_z = 77 ∨ q_z = 78 := by omega
    rcases h_z with rfl | rfl | rfl | rfl | rfl <;> exact absurd qk (by decide)
theorem av_pic {s : cx_Sd 12} {ks : List (Fin 12)} {A G : pm_A} {La : List Fun12} {Rh : List (List (Fin 12))} {W P : Int} {r : Nat} {p : List (Fin 12)} {k : Fin 12} {q : pm_R} (hs : sWP s W P) (hX : xaF s ks A G) (hp : pcA s G La Rh W P) (hr : Rh[r]? = some p) (hk : (k.1 : Int) < P) (hok : okS s p W P k) (hc : cuS s G La W P (p ++ [k])) (hq : avP G (k.1 : Int) q) : xaF s ks A q.2 ∧ (∀ a_z j_z : Int, (a_z = 72 ∧ (j_z = 13 ∨ j_z = 14)) ∨ (104 ≤ a_z ∧ a_z ≤ 106) → q.2 a_z j_z = G a_z j_z) ∧ ((q.1 = some (0, 0) ∧ (¬ ∃ u_z ∈ Rh, smS s (p ++ [k]) s u_z W P) ∧ ¬ Rh.length < 150) ∨ (q.1 = some (0, 1) ∧ ∃ Rh', (((∃ u_z ∈ Rh, smS s (p ++ [k]) s u_z W P) ∧ Rh' = Rh) ∨ ((¬ ∃ u_z ∈ Rh, smS s (p ++ [k]) s u_z W P) ∧ Rh.length < 150 ∧ Rh' = Rh ++ [p ++ [k]])) ∧ pcA s q.2 La Rh' W P)) := by
  obtain ⟨p1_z, p2_z, p3_z, p4_z, p5_z⟩ := hp
  have hp0 : pcA s G La Rh W P := ⟨p1_z, p2_z, p3_z, p4_z, p5_z⟩
  have hrp := p4_z r p hr
  have hWP := hs.2.1.1
  have hpin : p ∈ Rh := List.mem_of_getElem? hr
  have hsh : ∀ l : Int, 0 ≤ l → l < G 72 1 → (G (107 + 3 * l) 2 = 108 + 3 * l ∧ G (107 + 3 * l) 3 = 109 + 3 * l) := fun l l0 l1 => by
    have h100 := p2_z.1
    have e2 := hX.1.2.1.2.1 (107 + 3 * l) (by omega) (kkLt l0 (by omega))
    have e3 := hX.1.2.2.2.1 (107 + 3 * l) (by omega) (kkLt l0 (by omega))
    omega
  rcases hq with ⟨hno, hq⟩ | ⟨r', hr', M_z, hM_z, e1, C_z, hC, hH, e2⟩
  · have hno2 : ¬ ∃ u_z ∈ Rh, smS s (p ++ [k]) s u_z W P := fun ⟨u_z, hu, hsm⟩ => by
      obtain ⟨m_z, hm_z⟩ := List.mem_iff_getElem?.mp hu
      have h1 := (List.getElem?_eq_some_iff.mp hm_z).1
      exact hno m_z (by omega) (by omega) (T_thr hs p1_z p2_z.2.2.1 hc (p4_z m_z u_z hm_z) hsm)
    rcases hq with ⟨h150, e1, hav⟩ | ⟨h150, e1, B_z, C_z, ⟨hB_z, hC⟩, D_z, hD, hH, e2⟩
    · refine ⟨avF.xa hX hav.1 (fun a_z j_z h1 h2 h3 => hav.2 a_z j_z (fun e_z => h1 (by omega)) h2), fun a_z j_z ha_z => hav.2 a_z j_z (by omega) (by omega), Or.inl ⟨e1, hno2, by omega⟩⟩
    · obtain ⟨b1, b2, b10, b11⟩ := hB_z
      have cG : ∀ a_z j_z : Int, ¬ (a_z = 72 ∧ (j_z = 10 ∨ j_z = 11)) → ¬ a_z = 103 → C_z a_z j_z = G a_z j_z := fun a_z j_z h1 h2 => (hC.2 a_z j_z h2).trans (b2 a_z j_z h1)
      have c10_z : C_z 72 10 = loM (G 102) P.toNat := by rw [hC.2 72 10 (by omega), b10, p1_z.1]
      have c11_z : C_z 72 11 = hgM (G 102) P.toNat := by rw [hC.2 72 11 (by omega), b11, p1_z.1]
      have c7_z : C_z 72 7 = G 72 7 := cG 72 7 (by omega) (by omega)
      have c79 : C_z 79 0 = P := by rw [cG 79 0 (by omega) (by omega)]; exact p1_z.1
      obtain ⟨d1_z, d2_z, d3_z, d4_z, ⟨d5_z, d6_z⟩, ⟨d7_z, d8_z, d9_z⟩, d10_z⟩ := hD
      rw [c7_z] at d3_z d4_z d5_z d6_z d7_z d8_z d9_z d10_z
      rw [c79] at d4_z
      have hG7 : G 72 7 = (Rh.length : Int) := p3_z.1
      have hh : ∀ a_z j_z : Int, ¬ (a_z = 72 ∧ (j_z = 7 ∨ j_z = 10 ∨ j_z = 11)) → ¬ a_z = 103 → ¬ (74 ≤ a_z ∧ a_z ≤ 78) → q.2 a_z j_z = G a_z j_z := fun a_z j_z h1 h2 h3 => by
        rw [e2, upd_ne (by omega), d2_z a_z j_z (by omega) h2 (by omega) (by omega) (by omega) (by omega) (by omega)]
        exact cG a_z j_z (by omega) h2
      have h74 : ∀ j_z : Int, j_z < 6 * G 72 7 → q.2 74 j_z = G 74 j_z := fun j_z hj => by
        rw [e2, upd_ne (by omega), (d3_z j_z hj).1]; exact cG 74 j_z (by omega) (by omega)
      have n74 : ∀ d_z : Int, 0 ≤ d_z → d_z < P → q.2 74 (6 * G 72 7 + d_z) = G 102 d_z := fun d_z d0_z d1_z => by
        rw [e2, upd_ne (by omega), (d4_z d_z d0_z d1_z).2.1]; exact cG 102 d_z (by omega) (by omega)
      have h76 : ∀ j_z : Int, j_z < 72 * G 72 7 → q.2 76 j_z = G 76 j_z := fun j_z hj => by
        rw [e2, upd_ne (by omega), d5_z j_z hj]; exact cG 76 j_z (by omega) (by omega)
      have n76 : ∀ j_z : Int, 0 ≤ j_z → j_z < 72 → q.2 76 (72 * G 72 7 + j_z) = G 80 j_z := fun j_z j0 j1 => by
        rw [e2, upd_ne (by omega), d6_z j_z j0 j1]; exact cG 80 j_z (by omega) (by omega)
      have h77 : ∀ j_z : Int, ¬ j_z = G 72 7 → q.2 77 j_z = G 77 j_z ∧ q.2 78 j_z = G 78 j_z := fun j_z hj => by
        rw [e2, upd_ne (by omega), upd_ne (by omega), (d7_z j_z hj).1, (d7_z j_z hj).2]; exact ⟨cG 77 j_z (by omega) (by omega), cG 78 j_z (by omega) (by omega)⟩
      have n77 : q.2 77 (G 72 7) = loM (G 102) P.toNat ∧ q.2 78 (G 72 7) = hgM (G 102) P.toNat := by
        rw [e2, upd_ne (by omega), upd_ne (by omega), d8_z, d9_z]; exact ⟨c10_z, c11_z⟩
      have h75 : ∀ j_z : Int, j_z < 6 * G 72 7 → q.2 75 j_z = G 75 j_z := fun j_z hj => by
        rw [e2, upd_n2 (by omega), (d3_z j_z hj).2]; exact cG 75 j_z (by omega) (by omega)
      have n75 : ∀ d_z : Int, 0 ≤ d_z → d_z < P → ¬ d_z = (k.1 : Int) → q.2 75 (6 * G 72 7 + d_z) = 0 := fun d_z d0_z d1_z hd_z => by
        rw [e2, upd_n2 (by omega)]; exact (d4_z d_z d0_z d1_z).2.2
      have h727 : q.2 72 7 = G 72 7 + 1 := by rw [e2, upd_ne (by omega)]; exact d10_z
      have hsp : ∀ (m_z : Nat) (u_z : List (Fin 12)), (Rh ++ [p ++ [k]])[m_z]? = some u_z → Rh[m_z]? = some u_z ∨ (m_z = Rh.length ∧ u_z = p ++ [k]) := fun m_z u_z hm_z => by
        by_cases w_z : m_z < Rh.length
        · rw [List.getElem?_append_left w_z] at hm_z; exact Or.inl hm_z
        · have h1 := (List.getElem?_eq_some_iff.mp hm_z).1
          rw [List.length_append, List.length_singleton] at h1
          have h2 : m_z = Rh.length := by omega
          rw [h2, List.getElem?_append_right (Nat.le_refl _), Nat.sub_self] at hm_z
          exact Or.inr ⟨h2, (Option.some.inj hm_z).symm⟩
      have hmk := mark (s := s) (p := p) (q := p ++ [k]) (f := fun i_z => i_z) (k := k) ⟨fun _ h_z => h_z, fun _ _ => rfl, fun _ _ _ => rfl, fun _ _ _ _ => rfl⟩ hWP hrp.1.1 (pthP_n hrp.1.1 hk) hrp.1.2.1 (zrw_n hrp.1.2.1 hk) hk hrp.1.2.2 hok.1
      refine ⟨avF.xa hX hH hh, fun a_z j_z ha_z => hh a_z j_z (by omega) (by omega) (by omega), Or.inr ⟨e1, Rh ++ [p ++ [k]], Or.inr ⟨hno2, by omega, rfl⟩, ⟨?_, ?_, ⟨?_, ?_⟩, fun m_z u_z hm_z => ?_, fun m_z u_z k' hm_z hk' hne => ?_⟩⟩⟩
      · rw [hh 79 0 (by omega) (by omega) (by omega), hh 79 1 (by omega) (by omega) (by omega)]; exact p1_z
      · refine p2_z.of (hh 72 1 (by omega) (by omega) (by omega)) (fun l l0 l1 => ?_)
        have e5 := hsh l l0 l1
        exact ⟨fun j_z => hh _ j_z (by omega) (by omega) (by omega), fun j_z => by rw [e5.1]; exact hh _ j_z (by omega) (by omega) (by omega), fun j_z => by rw [e5.2]; exact hh _ j_z (by omega) (by omega) (by omega)⟩
      · rw [h727, List.length_append, List.length_singleton]; omega
      · rw [List.length_append, List.length_singleton]; omega
      · rcases hsp m_z u_z hm_z with h1 | ⟨h1, h2⟩
        · have h3 := (List.getElem?_eq_some_iff.mp h1).1
          exact (p4_z m_z u_z h1).of (fun _ _ w_z => w_z) (fun j_z _ _ => h74 j_z (by omega)) (fun j_z _ _ => h76 j_z (by omega)) (h77 _ (by omega)) hs.1.2 hs.2.1.2
        · rw [h2, show ((m_z : Nat) : Int) = G 72 7 by omega]
          refine ⟨⟨pthP_n hrp.1.1 hk, zrw_n hrp.1.2.1 hk, it_bd.1 hok.2⟩, fun i_z hi_z => ?_, fun i_z j_z hi_z hj => ?_, ?_, ?_⟩
          · obtain ⟨l, a1_z, a2⟩ := hc.1 i_z hi_z
            exact ⟨l, by rw [n74 _ (by omega) hi_z]; exact a1_z, a2⟩
          · have h4 := hs.1
            have h5 := hs.2.1
            rw [n76 _ (by omega) (by omega)]; exact hc.2 i_z j_z hi_z hj
          · rw [n77.1]
            exact bitsV_c2 (fun f_z f0_z f1_z => (n74 f_z f0_z (by omega)).symm)
          · rw [n77.2]
            exact bitsV_c3 (fun f_z f0_z f1_z => (n74 f_z f0_z (by omega)).symm)
      · have h6 := hs.1
        rcases hsp m_z u_z hm_z with h1 | ⟨h1, h2⟩
        · have h3 := (List.getElem?_eq_some_iff.mp h1).1
          rw [h75 _ (by omega)] at hne
          obtain ⟨a1_z, v_z, hv, a2⟩ := p5_z m_z u_z k' h1 hk' hne
          exact ⟨a1_z, v_z, List.mem_append.2 (Or.inl hv), a2⟩
        · rw [show ((m_z : Nat) : Int) = G 72 7 by omega] at hne
          have e7_z : k' = k := by
            refine Fin.ext (Classical.byContradiction (fun w_z => hne (n75 _ (by omega) hk' ?_)))
            omega
          rw [e7_z, h2]
          exact ⟨hmk.1, p, List.mem_append.2 (Or.inl hpin), hmk.2⟩
  · have hr2 : r'.toNat < Rh.length := by have := p3_z.1; omega
    have hu : Rh[r'.toNat]? = some (Rh[r'.toNat]'hr2) := List.getElem?_eq_getElem hr2
    generalize Rh[r'.toNat]'hr2 = u_z at hu
    have hru := p4_z _ u_z hu
    rw [Int.toNat_of_nonneg hr'.1] at hru
    obtain ⟨hT_z, hv⟩ := thr_T hs p1_z hc hru hM_z
    have hyes : ∃ u_z ∈ Rh, smS s (p ++ [k]) s u_z W P := ⟨u_z, List.mem_of_getElem? hu, smT_S hT_z⟩
    have hmk := mark hT_z hWP hrp.1.1 hru.1.1 hrp.1.2.1 hru.1.2.1 hk hrp.1.2.2 hok.1
    have hMk := hM_z.1 (k.1 : Int) (by omega) (by rw [p1_z.1]; exact hk)
    rw [p1_z.1] at hMk
    have h6 := hs.1
    have hh : ∀ a_z j_z : Int, ¬ (a_z = 72 ∧ (j_z = 7 ∨ j_z = 10 ∨ j_z = 11)) → ¬ a_z = 103 → ¬ (74 ≤ a_z ∧ a_z ≤ 78) → q.2 a_z j_z = G a_z j_z := fun a_z j_z h1 h2 h3 => by
      rw [e2, upd_ne (by omega)]; exact hC.2 a_z j_z (by omega) h2
    have hh2 : ∀ a_z j_z : Int, 74 ≤ a_z → a_z ≤ 78 → ¬ a_z = 75 → q.2 a_z j_z = G a_z j_z := fun a_z j_z h1 h2 h3 => by
      rw [e2, upd_ne h3]; exact hC.2 a_z j_z (by omega) (by omega)
    have h7 : q.2 72 7 = G 72 7 := by rw [e2, upd_ne (by omega)]; exact hC.2 72 7 (by omega) (by omega)
    refine ⟨avF.xa hX hH hh, fun a_z j_z ha_z => hh a_z j_z (by omega) (by omega) (by omega), Or.inr ⟨e1, Rh, Or.inl ⟨hyes, rfl⟩, ⟨?_, ?_, ?_, fun m_z v_z hm_z => ?_, fun m_z v_z k' hm_z hk' hne => ?_⟩⟩⟩
    · rw [hh 79 0 (by omega) (by omega) (by omega), hh 79 1 (by omega) (by omega) (by omega)]; exact p1_z
    · refine p2_z.of (hh 72 1 (by omega) (by omega) (by omega)) (fun l l0 l1 => ?_)
      have e5 := hsh l l0 l1
      exact ⟨fun j_z => hh _ j_z (by omega) (by omega) (by omega), fun j_z => by rw [e5.1]; exact hh _ j_z (by omega) (by omega) (by omega), fun j_z => by rw [e5.2]; exact hh _ j_z (by omega) (by omega) (by omega)⟩
    · rw [h7]; exact p3_z
    · exact (p4_z m_z v_z hm_z).of (fun _ _ w_z => w_z) (fun j_z _ _ => hh2 74 j_z (by omega) (by omega) (by omega)) (fun j_z _ _ => hh2 76 j_z (by omega) (by omega) (by omega)) ⟨hh2 77 _ (by omega) (by omega) (by omega), hh2 78 _ (by omega) (by omega) (by omega)⟩ hs.1.2 hs.2.1.2
    · by_cases w_z : 6 * (m_z : Int) + (k'.1 : Int) = 6 * r' + M_z (k.1 : Int)
      · have hvk := hv k hk
        have e7_z : m_z = r'.toNat := by omega
        have e8 : k' = sgm P M_z k := Fin.ext (by omega)
        rw [e7_z, hu] at hm_z
        rw [e8, ← Option.some.inj hm_z]
        exact ⟨hmk.1, p, hpin, hmk.2⟩
      · rw [e2, upd_n2 w_z, hC.2 75 _ (by omega) (by omega)] at hne
        exact p5_z m_z v_z k' hm_z hk' hne
def exQ (s : cx_Sd 12) (ks : List (Fin 12)) (A : pm_A) (W P : Int) (Z : Option (List Fun12 × List (List (Fin 12))) → Prop) (q : pm_R) : Prop := (xaF s ks A q.2 ∧ tdF A q.2 ∧ Z none ∧ q.1 = some (0, -2)) ∨ ∃ (La_z : List Fun12) (Rh : List (List (Fin 12))) (B_z : pm_A), Z (some (La_z, Rh)) ∧ q.1 = some (0, (Rh.length : Int)) ∧ xaF s ks A B_z ∧ pcA s B_z La_z Rh W P ∧ reP B_z (none, q.2)
theorem tdF.tr {A B C : pm_A} (h : tdF A B) (e1 : C 72 13 = B 72 13 ∧ C 72 14 = B 72 14) (e2 : ∀ r_z j_z : Int, 104 ≤ r_z → r_z ≤ 106 → C r_z j_z = B r_z j_z) : tdF A C := ⟨⟨e1.1.trans h.1.1, e1.2.trans h.1.2⟩, fun r_z j_z h0 h1 => (e2 r_z j_z h0 h1).trans (h.2 r_z j_z h0 h1)⟩
theorem kk104 : wX.2 104 = 19 := by decide
theorem kk105 : wX.2 105 = 28 := by decide
theorem kk106 : wX.2 106 = 29 := by decide
theorem tdF.ex {A B C : pm_A} (h : tdF A B) (hB : gH wX B) (hF : exF B C 28) : tdF A C := by
  refine h.tr ⟨hF.ce hB kk72 (by decide) (by decide) (by decide) (by decide) 13, hF.ce hB kk72 (by decide) (by decide) (by decide) (by decide) 14⟩ (fun r_z j_z h0 h1 => ?_)
  have h2 : r_z = 104 ∨ r_z = 105 ∨ r_z = 106 := by omega
  rcases h2 with rfl | rfl | rfl
  · exact hF.ce hB kk104 (by decide) (by decide) (by decide) (by decide) j_z
  · exact hF.ce hB kk105 (by decide) (by decide) (by decide) (by decide) j_z
  · exact hF.ce hB kk106 (by decide) (by decide) (by decide) (by decide) j_z
theorem xq_130 {s : cx_Sd 12} {ks : List (Fin 12)} {A F : pm_A} {La La' : List Fun12} {Rh : List (List (Fin 12))} {W P l : Int} {r : Nat} {p : List (Fin 12)} {k : Fin 12} {Z : Option (List Fun12 × List (List (Fin 12))) → Prop} (hs : sWP s W P) (hX : xaF s ks A F) (hp : pcA s F La' Rh W P) (ht : tdF A F) (hr : Rh[r]? = some p) (hk : (k.1 : Int) < P) (hok : okS s p W P k) (hL : (gpf s (p ++ [k]) k ∈ La ∧ La' = La) ∨ (¬ gpf s (p ++ [k]) k ∈ La ∧ La.length < 100 ∧ La' = La ++ [gpf s (p ++ [k]) k])) (hl : 0 ≤ l ∧ l ≤ 99) (hln : La'[l.toNat]? = some (gpf s (p ++ [k]) k)) (h102 : ∀ i_z : Fin 12, (i_z.1 : Int) < P → ¬ i_z = k → ∃ m_z : Nat, F 102 (i_z.1 : Int) = (m_z : Int) ∧ La'[m_z]? = some (gpf s p i_z)) (h80 : ∀ i_z j_z : Fin 12, (i_z.1 : Int) < W → (j_z.1 : Int) < P → cr_bs s.b (p ++ [k]) i_z j_z = F 80 ((i_z.1 : Int) * 6 + (j_z.1 : Int))) (hin : ∀ u_z ∈ Rh, ∀ i_z : Fin 12, (i_z.1 : Int) < P → gpf s u_z i_z ∈ La) (hfail : stepA s W P La Rh p k none → Z none) (H : ∀ (Lb : List Fun12) (Rb_z : List (List (Fin 12))) (D_z : pm_A), stepA s W P La Rh p k (some (Lb, Rb_z)) → xaF s ks A D_z → pcA s D_z Lb Rb_z W P → tdF A D_z → Tm pmt (an_sh wX) o_X0_explore 154 ([(2, 72), (2, 1), (2, 28), (0, (r : Int)), (0, (k.1 : Int))], [], D_z) (exQ s ks A W P Z)) : Tm pmt (an_sh wX) o_X0_explore 130 ([(2, 72), (2, 1), (2, 28), (0, (r : Int)), (0, (k.1 : Int))], [(0, l), (0, (k.1 : Int)), (2, 102)], F) (exQ s ks A W P Z) := by
  have h6 := hs.1
  have hG : gH wX (pm_upd F 102 (k.1 : Int) l) := uX_27 hX.1.1 kk102 (by omega) hl.2
  have g1 : ∀ q_z j_z : Int, ¬ q_z = 102 → pm_upd F 102 (k.1 : Int) l q_z j_z = F q_z j_z := fun q_z j_z hq => upd_ne hq
  have g2 : pm_upd F 102 (k.1 : Int) l 102 (k.1 : Int) = l := upd_at
  have g3_z : ∀ j_z : Int, ¬ j_z = (k.1 : Int) → pm_upd F 102 (k.1 : Int) l 102 j_z = F 102 j_z := fun j_z hj => upd_n2 hj
  refine wq_ok srt_explore (fr := []) (cuts := [131]) (J := fun pc st_z => pc = 131 ∧ st_z = ([(2, 72), (2, 1), (2, 28), (0, (r : Int)), (0, (k.1 : Int))], [], pm_upd F 102 (k.1 : Int) l)) ?_ 30 130 _ ?_
  · rintro pc st_z ⟨rfl, rfl⟩
    generalize pm_upd F 102 (k.1 : Int) l = G_z at hG g1 g2 g3_z
    have hXG : xaF s ks A G_z := hX.put hG (fun q_z j_z hq => g1 q_z j_z (fun e_z => hq (by unfold atC; omega))) (fun q_z j_z q0 qk hj => g1 q_z j_z (knd qk kk102 (by decide))) (fun j_z j0 j1 => by rw [g1 82 j_z (by omega)]; exact hX.1.2.1.2.2.2.1 j_z j0 j1)
    have hsh : ∀ a_z : Int, 0 ≤ a_z → a_z < F 72 1 → sme F G_z (107 + 3 * a_z) := fun a_z a0_z a1_z => by
      have h100 := hp.2.1.1
      have e2 := hX.1.2.1.2.1 (107 + 3 * a_z) (by omega) (kkLt a0_z (by omega))
      have e3 := hX.1.2.2.2.1 (107 + 3 * a_z) (by omega) (kkLt a0_z (by omega))
      exact ⟨fun j_z => g1 _ j_z (by omega), fun j_z => by rw [e2]; exact g1 _ j_z (by omega), fun j_z => by rw [e3]; exact g1 _ j_z (by omega)⟩
    have hpG : pcA s G_z La' Rh W P := hp.of hs (g1 72 1 (by omega)) (g1 72 7 (by omega)) ⟨g1 79 0 (by omega), g1 79 1 (by omega)⟩ (fun q_z j_z q0 q1_z => g1 q_z j_z (by omega)) hsh
    have htG : tdF A G_z := ht.tr ⟨g1 72 13 (by omega), g1 72 14 (by omega)⟩ (fun q_z j_z h0 h1 => g1 q_z j_z (by omega))
    have hcu : cuS s G_z La' W P (p ++ [k]) := by
      refine ⟨fun i_z hi_z => ?_, fun i_z j_z hi_z hj => by rw [g1 80 _ (by omega)]; exact h80 i_z j_z hi_z hj⟩
      by_cases e_z : i_z = k
      · rw [e_z]
        exact ⟨l.toNat, by rw [g2]; omega, hln⟩
      · obtain ⟨m_z, a1_z, a2⟩ := h102 i_z hi_z e_z
        refine ⟨m_z, by rw [g3_z _ (fun w_z => e_z (Fin.ext (by omega)))]; exact a1_z, ?_⟩
        rw [a2]
        refine congrArg some (funext fun x_z => ?_)
        show (cr_gp s.b p x_z).1 i_z = (cr_gp s.b (p ++ [k]) x_z).1 i_z
        rw [cr_gp_snoc]
        exact (cr_step_ne _ _ e_z).symm
    have e79 : G_z 79 0 = P := hpG.1.1
    have hav : avH G_z := by
      refine ⟨hXG.2.1, by rw [e79]; exact num_dst h6.2 hpG.2.1.1.2 hcu.1, fun a_z a0_z a1_z => ?_⟩
      have hr2 : a_z.toNat < Rh.length := by have := hpG.2.2.1.1; omega
      have hu : Rh[a_z.toNat]? = some (Rh[a_z.toNat]'hr2) := List.getElem?_eq_getElem hr2
      have h9 := hpG.2.2.2.1 _ _ hu
      rw [Int.toNat_of_nonneg a0_z] at h9
      rw [e79]
      exact ⟨num_dst h6.2 hpG.2.1.1.2 h9.2.1, h9.2.2.2.1, h9.2.2.2.2⟩
    have e9_z : G_z 72 9 = 102 := hXG.2.1.1.2.2.2.2.2.2.2.1
    refine wq_ok srt_explore (fr := []) (cuts := [154]) (J := fun pc st_z => pc = 154 ∧ ∃ (Rb_z : List (List (Fin 12))) (D_z : pm_A), stepA s W P La Rh p k (some (La', Rb_z)) ∧ xaF s ks A D_z ∧ pcA s D_z La' Rb_z W P ∧ tdF A D_z ∧ st_z = ([(2, 72), (2, 1), (2, 28), (0, (r : Int)), (0, (k.1 : Int))], [], D_z)) ?_ 30 131 _ ?_
    · rintro pc st_z ⟨rfl, Rb_z, D_z, d1_z, d2_z, d3_z, d4_z, rfl⟩
      exact H La' Rb_z D_z d1_z d2_z d3_z d4_z
    · refine ⟨oX_5 z72 kk72 9 rfl, ?_⟩
      refine ⟨aX_27 (r := G_z 72 9) (by rw [e9_z]; omega) (by rw [e9_z]; exact kk102) (by omega) (by omega), ?_⟩
      refine ⟨fun q_z => ?_, fun q_z => ?_⟩
      · rw [e9_z, g2] at q_z
        omega
      · refine ⟨rX_5 z72 kk72, ?_⟩
        refine (arrive_ex hG hav (by omega) (by rw [e79]; exact hk)).imp ?_
        rintro ⟨q1_z, D_z⟩ hD
        obtain ⟨a1_z, a2, a3⟩ := av_pic hs hXG hpG hr hk hok hcu hD
        simp only at a1_z a2 a3
        have htD : tdF A D_z := htG.tr ⟨a2 72 13 (Or.inl ⟨rfl, Or.inl rfl⟩), a2 72 14 (Or.inl ⟨rfl, Or.inr rfl⟩)⟩ (fun q_z j_z h0 h1 => a2 q_z j_z (Or.inr ⟨h0, h1⟩))
        rcases a3 with ⟨rfl, b1, b2⟩ | ⟨rfl, Rb_z, b1, b2⟩
        · refine ⟨fun hh => absurd rfl hh, fun _ => ?_⟩
          exact ⟨rfl, Or.inl ⟨a1_z, htD, hfail (Or.inr (Or.inr ⟨hok, b1, Or.inl ⟨b2, rfl⟩⟩)), rfl⟩⟩
        · refine ⟨fun _ => ?_, fun hh => absurd hh (by decide)⟩
          refine ⟨rfl, Rb_z, D_z, ?_, a1_z, b2, htD, rfl⟩
          rcases b1 with ⟨c1_z, c2_z⟩ | ⟨c1_z, c2_z, c3_z⟩
          · rcases hL with ⟨d1_z, d2_z⟩ | ⟨d1_z, d2_z, d3_z⟩
            · rw [c2_z, d2_z]
              exact Or.inr (Or.inl ⟨hok, c1_z, rfl⟩)
            · obtain ⟨u_z, hu, hsm⟩ := c1_z
              obtain ⟨f_z, hf⟩ := smS_T hsm
              have h9 := hin u_z hu (f_z k) (hf.1 k hk)
              have e5 : gpf s u_z (f_z k) = gpf s (p ++ [k]) k := funext fun x_z => hf.2.2.1 k hk x_z
              rw [e5] at h9
              exact absurd h9 d1_z
          · rw [c3_z]
            rcases hL with ⟨d1_z, d2_z⟩ | ⟨d1_z, d2_z, d3_z⟩
            · rw [d2_z]
              exact Or.inr (Or.inr ⟨hok, c1_z, Or.inr (Or.inl ⟨d1_z, c2_z, rfl⟩)⟩)
            · rw [d3_z]
              exact Or.inr (Or.inr ⟨hok, c1_z, Or.inr (Or.inr (Or.inr ⟨d1_z, d2_z, c2_z, rfl⟩))⟩)
  · refine ⟨tX_27 (r := 102) (by omega) kk102 (by omega) (by omega) rfl, ?_⟩
    exact ⟨rfl, rfl⟩
end

section
/-! the class's explore and all, exactly -/
theorem xq_130n {s : cx_Sd 12} {ks : List (Fin 12)} {A F : pm_A} {La : List Fun12} {Rh : List (List (Fin 12))} {W P : Int} {r : Nat} {p : List (Fin 12)} {k : Fin 12} {Z : Option (List Fun12 × List (List (Fin 12))) → Prop} (hs : sWP s W P) (hX : xaF s ks A F) (ht : tdF A F) (hk : (k.1 : Int) < P) (hz : Z none) : Tm pmt (an_sh wX) o_X0_explore 130 ([(2, 72), (2, 1), (2, 28), (0, (r : Int)), (0, (k.1 : Int))], [(0, -1), (0, (k.1 : Int)), (2, 102)], F) (exQ s ks A W P Z) := by
  have h6 := hs.1
  have hG : gH wX (pm_upd F 102 (k.1 : Int) (-1)) := uX_27 hX.1.1 kk102 (by omega) (by omega)
  have g1 : ∀ q_z j_z : Int, ¬ q_z = 102 → pm_upd F 102 (k.1 : Int) (-1) q_z j_z = F q_z j_z := fun q_z j_z hq => upd_ne hq
  have g2 : pm_upd F 102 (k.1 : Int) (-1) 102 (k.1 : Int) = -1 := upd_at
  refine wq_ok srt_explore (fr := []) (cuts := [131]) (J := fun pc st_z => pc = 131 ∧ st_z = ([(2, 72), (2, 1), (2, 28), (0, (r : Int)), (0, (k.1 : Int))], [], pm_upd F 102 (k.1 : Int) (-1))) ?_ 30 130 _ ?_
  · rintro pc st_z ⟨rfl, rfl⟩
    generalize pm_upd F 102 (k.1 : Int) (-1) = G_z at hG g1 g2
    have hXG : xaF s ks A G_z := hX.put hG (fun q_z j_z hq => g1 q_z j_z (fun e_z => hq (by unfold atC; omega))) (fun q_z j_z q0 qk hj => g1 q_z j_z (knd qk kk102 (by decide))) (fun j_z j0 j1 => by rw [g1 82 j_z (by omega)]; exact hX.1.2.1.2.2.2.1 j_z j0 j1)
    have htG : tdF A G_z := ht.tr ⟨g1 72 13 (by omega), g1 72 14 (by omega)⟩ (fun q_z j_z h0 h1 => g1 q_z j_z (by omega))
    have e9_z : G_z 72 9 = 102 := hXG.2.1.1.2.2.2.2.2.2.2.1
    refine wq_ok srt_explore (fr := []) (cuts := []) (J := fun _ _ => False) (fun _ _ h_z => h_z.elim) 30 131 _ ?_
    refine ⟨oX_5 z72 kk72 9 rfl, ?_⟩
    refine ⟨aX_27 (r := G_z 72 9) (by rw [e9_z]; omega) (by rw [e9_z]; exact kk102) (by omega) (by omega), ?_⟩
    refine ⟨fun q_z => ?_, fun q_z => ?_⟩
    · exact ⟨rfl, Or.inl ⟨hXG, htG, hz, rfl⟩⟩
    · rw [e9_z, g2] at q_z
      exact absurd rfl q_z
  · refine ⟨tX_27 (r := 102) (by omega) kk102 (by omega) (by omega) rfl, ?_⟩
    exact ⟨rfl, rfl⟩
/-- how a step goes on -/
abbrev nxA (s : cx_Sd 12) (ks : List (Fin 12)) (A : pm_A) (La : List Fun12) (Rh : List (List (Fin 12))) (W P : Int) (r : Nat) (p : List (Fin 12)) (k : Fin 12) (Z : Option (List Fun12 × List (List (Fin 12))) → Prop) : Prop := ∀ (Lb : List Fun12) (Rb_z : List (List (Fin 12))) (D_z : pm_A), stepA s W P La Rh p k (some (Lb, Rb_z)) → xaF s ks A D_z → pcA s D_z Lb Rb_z W P → tdF A D_z → Tm pmt (an_sh wX) o_X0_explore 154 ([(2, 72), (2, 1), (2, 28), (0, (r : Int)), (0, (k.1 : Int))], [], D_z) (exQ s ks A W P Z)
theorem pc_in {s : cx_Sd 12} {B : pm_A} {La : List Fun12} {Rh : List (List (Fin 12))} {W P : Int} (hp : pcA s B La Rh W P) : ∀ u_z ∈ Rh, ∀ i_z : Fin 12, (i_z.1 : Int) < P → gpf s u_z i_z ∈ La := fun u_z hu i_z hi_z => by
  obtain ⟨m_z, hm_z⟩ := List.mem_iff_getElem?.mp hu
  obtain ⟨l, _, h2⟩ := (hp.2.2.2.1 m_z u_z hm_z).2.1 i_z hi_z
  exact List.mem_of_getElem? h2
theorem xq_116 {s : cx_Sd 12} {ks : List (Fin 12)} {A E : pm_A} {La : List Fun12} {Rh : List (List (Fin 12))} {W P : Int} {r : Nat} {p : List (Fin 12)} {k : Fin 12} {Z : Option (List Fun12 × List (List (Fin 12))) → Prop} (hs : sWP s W P) (hX : xaF s ks A E) (hp : pcA s E La Rh W P) (ht : tdF A E) (hr : Rh[r]? = some p) (hk : (k.1 : Int) < P) (hok : okS s p W P k) (hf : ltr E (E 28 0) (gpf s (p ++ [k]) k) W) (h102 : ∀ i_z : Int, 0 ≤ i_z → i_z < P → E 102 i_z = E 74 (6 * (r : Int) + i_z)) (h80 : ∀ i_z j_z : Fin 12, (i_z.1 : Int) < W → (j_z.1 : Int) < P → cr_bs s.b (p ++ [k]) i_z j_z = E 80 ((i_z.1 : Int) * 6 + (j_z.1 : Int))) (hfail : stepA s W P La Rh p k none → Z none) (H : nxA s ks A La Rh W P r p k Z) : Tm pmt (an_sh wX) o_X0_explore 116 ([(2, 72), (2, 1), (2, 28), (0, (r : Int)), (0, (k.1 : Int))], [], E) (exQ s ks A W P Z) := by
  have f0_z := fX_4_0 hX.1.1 z28 kk28
  have f72 := mil72 hX.1 (n := 0) (by omega) (by omega)
  have e9_z : E 72 9 = 102 := hX.2.1.1.2.2.2.2.2.2.2.1
  refine wq_ok srt_explore (fr := []) (cuts := [130]) (J := fun pc st_z => pc = 130 ∧ ∃ (l : Int) (F_z : pm_A), nbP E (E 28 0) (some (0, l), F_z) ∧ st_z = ([(2, 72), (2, 1), (2, 28), (0, (r : Int)), (0, (k.1 : Int))], [(0, l), (0, (k.1 : Int)), (2, E 72 9)], F_z)) ?_ 30 116 _ ?_
  · rintro pc st_z ⟨rfl, l, F_z, hN_z, rfl⟩
    rw [e9_z]
    rcases nb_pic hs hX hp f0_z f72 hf (gpf_pos s _ k) hN_z with ⟨b1, b2, b3, b4⟩ | ⟨La', b1, b2, b3, b4, b5, b6⟩
    · subst b4
      rw [b1]
      refine xq_130n (La := La) (Rh := Rh) (p := p) hs hX ht hk (hfail (Or.inr (Or.inr ⟨hok, ?_, Or.inr (Or.inr (Or.inl ⟨b2, b3, rfl⟩))⟩)))
      rintro ⟨u_z, hu, hsm⟩
      obtain ⟨f_z, hf2⟩ := smS_T hsm
      have h9 := pc_in hp u_z hu (f_z k) (hf2.1 k hk)
      have e5 : gpf s u_z (f_z k) = gpf s (p ++ [k]) k := funext fun x_z => hf2.2.2.1 k hk x_z
      rw [e5] at h9
      exact b2 h9
    · have hpre : ∀ (m_z : Nat) (g_z : Fun12), La[m_z]? = some g_z → La'[m_z]? = some g_z := fun m_z g_z hm_z => by
        rcases b1 with ⟨_, c2_z⟩ | ⟨_, _, c2_z⟩
        · rw [c2_z]; exact hm_z
        · rw [c2_z, List.getElem?_append_left (List.getElem?_eq_some_iff.mp hm_z).1]; exact hm_z
      refine xq_130 hs b5 b4 (ht.tr ⟨b6 72 13 (by omega) (by omega), b6 72 14 (by omega) (by omega)⟩ (fun q_z j_z h0 h1 => b6 q_z j_z (by omega) (by omega))) hr hk hok b1 b2 b3 (fun i_z hi_z hne => ?_) (fun i_z j_z hi_z hj => by rw [b6 80 _ (by omega) (by omega)]; exact h80 i_z j_z hi_z hj) (pc_in hp) hfail H
      obtain ⟨m_z, a1_z, a2⟩ := (hp.2.2.2.1 r p hr).2.1 i_z hi_z
      exact ⟨m_z, by rw [b6 102 _ (by omega) (by omega), h102 _ (by omega) hi_z]; exact a1_z, hpre m_z _ a2⟩
  · refine ⟨oX_5 z72 kk72 9 rfl, ?_⟩
    refine ⟨oX_4 z28 kk28 0 rfl, ?_⟩
    refine ⟨rX_5 z72 kk72, ?_⟩
    refine (numberOf_ex hX.1.1 hX.2.1 (fun a_z a0_z ak => ⟨hX.1.2.1.2.1 a_z a0_z ak, hX.1.2.2.2.1 a_z a0_z ak⟩) f0_z (fun x_z x0_z x1_z => by omega)).imp ?_
    rintro ⟨q1_z, F_z⟩ hN_z
    have hq : ∃ l, q1_z = some (0, l) := by
      rcases hN_z with ⟨i_z, _, _, e_z⟩ | ⟨_, ⟨_, e_z⟩ | ⟨_, e_z, _⟩⟩
      · injection e_z with e1 _; exact ⟨i_z, e1⟩
      · injection e_z with e1 _; exact ⟨-1, e1⟩
      · exact ⟨_, e_z⟩
    obtain ⟨l, rfl⟩ := hq
    exact ⟨rfl, l, F_z, hN_z, rfl⟩
theorem xq_82 {s : cx_Sd 12} {ks : List (Fin 12)} {A D : pm_A} {La : List Fun12} {Rh : List (List (Fin 12))} {W P : Int} {r : Nat} {p : List (Fin 12)} {k : Fin 12} {Z : Option (List Fun12 × List (List (Fin 12))) → Prop} (hs : sWP s W P) (hX : xaF s ks A D) (hp : pcA s D La Rh W P) (ht : tdF A D) (hr : Rh[r]? = some p) (hk : (k.1 : Int) < P) (hok : okS s p W P k) (hT : TrX s p D 79) (hf : ltr D (D 28 0) (gpf s (p ++ [k]) k) W) (h102 : ∀ i_z : Int, 0 ≤ i_z → i_z < P → D 102 i_z = D 74 (6 * (r : Int) + i_z)) (hfail : stepA s W P La Rh p k none → Z none) (H : nxA s ks A La Rh W P r p k Z) : Tm pmt (an_sh wX) o_X0_explore 82 ([(2, 72), (2, 1), (2, 28), (0, (r : Int)), (0, (k.1 : Int))], [], D) (exQ s ks A W P Z) := by
  have e0_z : D 79 0 = P := hp.1.1
  have eW : D 79 0 + D 79 1 = W := hp.1.2
  have a8 : D 72 8 = 79 := hX.2.1.1.2.2.2.2.2.2.1
  have t2_z : D 79 2 = 80 := hX.2.1.2.2.1.1
  have h6 := hs.1
  have h7 := hs.2.1
  have q6_z := fX_1_1 hX.1.1 z79 kk79
  have hWb : bgW D 79 = W := eW
  have hb_z := hT.2.2.2.2.2.2.1
  rw [t2_z, hWb, e0_z] at hb_z
  refine wq_ok srt_explore (fr := []) (cuts := [116]) (J := fun pc st_z => pc = 116 ∧ ∃ E_z, ttP D 80 W P k.1 (none, E_z) ∧ st_z = ([(2, 72), (2, 1), (2, 28), (0, (r : Int)), (0, (k.1 : Int))], [], E_z)) ?_ 30 82 _ ?_
  · rintro pc st_z ⟨rfl, E_z, hE, rfl⟩
    obtain ⟨_, ⟨c1_z, c2_z⟩, c3_z⟩ := hE
    simp only at c1_z c2_z c3_z
    have hXE : xaF s ks A E_z := hX.put c1_z (fun q_z j_z hq => c2_z q_z j_z (fun e_z => hq (by unfold atC; omega))) (fun q_z j_z q0 qk hj => c2_z q_z j_z (knd qk kk80 (by decide))) (fun j_z j0 j1 => by rw [c2_z 82 j_z (by omega)]; exact hX.1.2.1.2.2.2.1 j_z j0 j1)
    have hpE : pcA s E_z La Rh W P := hp.of hs (c2_z 72 1 (by omega)) (c2_z 72 7 (by omega)) ⟨c2_z 79 0 (by omega), c2_z 79 1 (by omega)⟩ (fun q_z j_z q0 q1_z => c2_z q_z j_z (by omega)) (fun l l0 l1 => by
      have h100 := hp.2.1.1
      have e2 := hX.1.2.1.2.1 (107 + 3 * l) (by omega) (kkLt l0 (by omega))
      have e3 := hX.1.2.2.2.1 (107 + 3 * l) (by omega) (kkLt l0 (by omega))
      exact ⟨fun j_z => c2_z _ j_z (by omega), fun j_z => by rw [e2]; exact c2_z _ j_z (by omega), fun j_z => by rw [e3]; exact c2_z _ j_z (by omega)⟩)
    have htE : tdF A E_z := ht.tr ⟨c2_z 72 13 (by omega), c2_z 72 14 (by omega)⟩ (fun q_z j_z h0 h1 => c2_z q_z j_z (by omega))
    have f0_z := fX_4_0 hX.1.1 z28 kk28
    have f72 := mil72 hX.1 (n := 0) (by omega) (by omega)
    have e28_z : E_z 28 0 = D 28 0 := c2_z 28 0 (by omega)
    have g2 := hX.1.2.1.2.1 _ f0_z.1 f0_z.2
    have g3_z := hX.1.2.2.2.1 _ f0_z.1 f0_z.2
    have smf : sme D E_z (D 28 0) := ⟨fun j_z => c2_z _ j_z (by omega), fun j_z => by rw [g2]; exact c2_z _ j_z (by omega), fun j_z => by rw [g3_z]; exact c2_z _ j_z (by omega)⟩
    refine xq_116 hs hXE hpE htE hr hk hok (by rw [e28_z]; exact hf.sm smf) (fun i_z i0_z i1_z => by rw [c2_z 102 i_z (by omega), c2_z 74 _ (by omega)]; exact h102 i_z i0_z i1_z) (fun i_z j_z hi_z hj => ?_) hfail H
    rw [c3_z i_z.1 j_z.1 (by omega) hi_z (by omega) hj, cr_bs_snoc]
    have h9 := tv_trX hT (k := k) (i := i_z) (j := j_z) (by rw [e0_z]; exact hk) (by rw [e0_z]; exact hj) (by rw [hWb]; exact hi_z)
    rw [t2_z] at h9
    exact h9
  · refine ⟨oX_5 z72 kk72 8 rfl, ?_⟩
    refine ⟨oX_1 (r := D 72 8) (by rw [a8]; omega) (by rw [a8]; exact kk79) 2 rfl, ?_⟩
    refine ⟨oX_5 z72 kk72 8 rfl, ?_⟩
    refine ⟨oX_1 (r := D 72 8) (by rw [a8]; omega) (by rw [a8]; exact kk79) 0 rfl, ?_⟩
    refine ⟨oX_5 z72 kk72 8 rfl, ?_⟩
    refine ⟨oX_1 (r := D 72 8) (by rw [a8]; omega) (by rw [a8]; exact kk79) 1 rfl, ?_⟩
    refine ⟨⟨by rw [a8]; omega, by rw [a8]; omega⟩, ?_⟩
    refine ⟨oX_5 z72 kk72 8 rfl, ?_⟩
    refine ⟨oX_1 (r := D 72 8) (by rw [a8]; omega) (by rw [a8]; exact kk79) 0 rfl, ?_⟩
    refine ⟨rfl, ?_⟩
    show Cl pmt (an_sh wX) 116 [(2, D (D 72 8) 2), (0, D (D 72 8) 0 + D (D 72 8) 1), (0, D (D 72 8) 0), (0, (k.1 : Int))] D _
    rw [a8, t2_z, eW, e0_z]
    refine (turnTable_ex (t := 80) (R := W) (P := P) (k := (k.1 : Int)) hX.1.1 ⟨⟨by omega, kk80⟩, hb_z, ⟨by omega, hk⟩, h7.1, h7.2, h6.2⟩).imp ?_
    rintro ⟨q1_z, E_z⟩ hE
    have hq1 : q1_z = none := hE.1
    subst hq1
    exact ⟨rfl, E_z, hE, rfl⟩
theorem xq_66 {s : cx_Sd 12} {ks : List (Fin 12)} {A C : pm_A} {La : List Fun12} {Rh : List (List (Fin 12))} {W P : Int} {r : Nat} {p : List (Fin 12)} {k : Fin 12} {Z : Option (List Fun12 × List (List (Fin 12))) → Prop} (hs : sWP s W P) (hX : xaF s ks A C) (hp : pcA s C La Rh W P) (ht : tdF A C) (hr : Rh[r]? = some p) (hk : (k.1 : Int) < P) (hT : TrX s p C 79) (h102 : ∀ i_z : Int, 0 ≤ i_z → i_z < P → C 102 i_z = C 74 (6 * (r : Int) + i_z)) (hfail : stepA s W P La Rh p k none → Z none) (H : nxA s ks A La Rh W P r p k Z) : Tm pmt (an_sh wX) o_X0_explore 66 ([(2, 72), (2, 1), (2, 28), (0, (r : Int)), (0, (k.1 : Int))], [], C) (exQ s ks A W P Z) := by
  have e0_z : C 79 0 = P := hp.1.1
  have eW : bgW C 79 = W := hp.1.2
  have a8 : C 72 8 = 79 := hX.2.1.1.2.2.2.2.2.2.1
  have h3 := hX.1.ex79
  refine wq_ok srt_explore (fr := []) (cuts := [82]) (J := fun pc st_z => pc = 82 ∧ ∃ D_z, exPX s p k C 28 79 (some (0, 1), D_z) ∧ st_z = ([(2, 72), (2, 1), (2, 28), (0, (r : Int)), (0, (k.1 : Int))], [], D_z)) ?_ 30 66 _ ?_
  · rintro pc st_z ⟨rfl, D_z, hD, rfl⟩
    obtain ⟨hF, hD⟩ := hD
    simp only at hF hD
    rcases hD with ⟨q_z, _⟩ | ⟨_, hok, c0_z, cs, cc, cv⟩
    · cases q_z
    · have hXD := hX.ex hF
      have hits := (hT.its (k := k) (by rw [e0_z]; exact hk)).1 hok.2
      rw [eW, e0_z] at hits
      have e28_z : D_z 28 0 = C 28 0 := hF.ce hX.1.1 kk28 (by decide) (by decide) (by decide) (by decide) 0
      have hce : ∀ {q_z : Int} {l : Nat}, wX.2 q_z = l → ¬ l = 2 → ¬ l = 14 → ¬ l = 15 → ¬ l = 18 → ∀ j_z : Int, D_z q_z j_z = C q_z j_z := fun hq n1_z n2_z n3_z n4_z j_z => hF.ce hX.1.1 hq n1_z n2_z n3_z n4_z j_z
      have hpD : pcA s D_z La Rh W P := hp.of hs (hce kk72 (by decide) (by decide) (by decide) (by decide) 1) (hce kk72 (by decide) (by decide) (by decide) (by decide) 7) ⟨hce kk79 (by decide) (by decide) (by decide) (by decide) 0, hce kk79 (by decide) (by decide) (by decide) (by decide) 1⟩ (fun q_z j_z q0 q1_z => by
        have h_z : q_z = 74 ∨ q_z = 75 ∨ q_z = 76 ∨ q_z = 77 ∨ q_z = 78 := by omega
        rcases h_z with rfl | rfl | rfl | rfl | rfl
        · exact hce kk74 (by decide) (by decide) (by decide) (by decide) j_z
        · exact hce kk75 (by decide) (by decide) (by decide) (by decide) j_z
        · exact hce kk76 (by decide) (by decide) (by decide) (by decide) j_z
        · exact hce kk77 (by decide) (by decide) (by decide) (by decide) j_z
        · exact hce kk78 (by decide) (by decide) (by decide) (by decide) j_z) (fun l l0 l1 => by
        have h100 := hp.2.1.1
        have e2 := hX.1.2.1.2.1 (107 + 3 * l) (by omega) (kkLt l0 (by omega))
        have e3 := hX.1.2.2.2.1 (107 + 3 * l) (by omega) (kkLt l0 (by omega))
        exact ⟨fun j_z => hF.hi hX.1 (by omega) j_z, fun j_z => by rw [e2]; exact hF.hi hX.1 (by omega) j_z, fun j_z => by rw [e3]; exact hF.hi hX.1 (by omega) j_z⟩)
      refine xq_82 hs hXD hpD (ht.ex hX.1.1 hF) hr hk ⟨hok.1, hits⟩ (hT.keep h3 hF) ?_ (fun i_z i0_z i1_z => by rw [hce kk102 (by decide) (by decide) (by decide) (by decide), hce kk74 (by decide) (by decide) (by decide) (by decide)]; exact h102 i_z i0_z i1_z) hfail H
      rw [e28_z]
      exact ⟨cs, cc, by rw [c0_z]; exact eW, fun x_z => cv x_z⟩
  · refine ⟨oX_5 z72 kk72 8 rfl, ?_⟩
    refine ⟨rX_4 z28 kk28, ?_⟩
    show Cl pmt (an_sh wX) 42 [(2, 28), (2, C 72 8), (0, (k.1 : Int))] C _
    rw [a8]
    refine (exchange_exX hT h3 (by rw [e0_z]; exact hk)).imp ?_
    rintro ⟨q1_z, D_z⟩ hD
    have hD0 := hD
    obtain ⟨hF, hD⟩ := hD
    simp only at hF hD
    rcases hD with ⟨rfl, hno⟩ | ⟨rfl, _⟩
    · refine ⟨fun hh => absurd rfl hh, fun _ => ?_⟩
      have hn := nok (hT.its (k := k) (by rw [e0_z]; exact hk)) hno
      rw [eW, e0_z] at hn
      exact ⟨rfl, Or.inl ⟨hX.ex hF, ht.ex hX.1.1 hF, hfail (Or.inl ⟨hn, rfl⟩), rfl⟩⟩
    · refine ⟨fun _ => ?_, fun hh => absurd hh (by decide)⟩
      exact ⟨rfl, D_z, hD0, rfl⟩
theorem stepA_pre {s : cx_Sd 12} {W P : Int} {La La' : List Fun12} {Rh Rh' : List (List (Fin 12))} {p : List (Fin 12)} {k : Fin 12} (h : stepA s W P La Rh p k (some (La', Rh'))) {r : Nat} {u : List (Fin 12)} (hr : Rh[r]? = some u) : Rh'[r]? = some u := by
  have hpre : (Rh ++ [p ++ [k]])[r]? = some u := by rw [List.getElem?_append_left (List.getElem?_eq_some_iff.mp hr).1]; exact hr
  rcases h with ⟨_, a2⟩ | ⟨_, _, a3⟩ | ⟨_, _, a3⟩
  · cases a2
  · injection a3 with a3
    injection a3 with _ a3
    rw [a3]; exact hr
  · rcases a3 with ⟨_, c2_z⟩ | ⟨_, _, c3_z⟩ | ⟨_, _, c3_z⟩ | ⟨_, _, _, c4_z⟩
    · cases c2_z
    · injection c3_z with c3_z
      injection c3_z with _ c3_z
      rw [c3_z]; exact hpre
    · cases c3_z
    · injection c4_z with c4_z
      injection c4_z with _ c4_z
      rw [c4_z]; exact hpre
theorem xq_31 {s : cx_Sd 12} {ks : List (Fin 12)} {A : pm_A} {W P : Int} {r : Nat} {p : List (Fin 12)} {Z : Option (List Fun12 × List (List (Fin 12))) → Prop} (hs : sWP s W P) (r1 : r ≤ 149) (H : ∀ (La_z : List Fun12) (Rh : List (List (Fin 12))) (D_z : pm_A) (v_z : pm_V), (∀ n_z o, allA s W P n_z La_z Rh (r + 1) 0 o → Z o) → r < Rh.length → xaF s ks A D_z → pcA s D_z La_z Rh W P → tdF A D_z → Tm pmt (an_sh wX) o_X0_explore 160 ([(2, 72), (2, 1), (2, 28), (0, (r : Int)), v_z], [], D_z) (exQ s ks A W P Z)) : ∀ (n_z k_z : Nat) (La_z : List Fun12) (Rh : List (List (Fin 12))) (B_z : pm_A), 6 - k_z < n_z → (k_z : Int) ≤ P → Rh[r]? = some p → (∀ n_z o, allA s W P n_z La_z Rh r k_z o → Z o) → xaF s ks A B_z → pcA s B_z La_z Rh W P → tdF A B_z → Tm pmt (an_sh wX) o_X0_explore 31 ([(2, 72), (2, 1), (2, 28), (0, (r : Int)), (0, (k_z : Int))], [], B_z) (exQ s ks A W P Z) := by
  intro n_z
  induction n_z with
  | zero => intro k_z La_z Rh B_z h_z; omega
  | succ n_z ih_z =>
    intro k_z La_z Rh B_z hn k1_z hr hZ hX hp ht
    have h6 := hs.1
    have e0_z : B_z 79 0 = P := hp.1.1
    have a8 : B_z 72 8 = 79 := hX.2.1.1.2.2.2.2.2.2.1
    have a3 : B_z 72 3 = 75 := hX.2.1.1.2.2.1
    have hrl := (List.getElem?_eq_some_iff.mp hr).1
    have go_z : ∀ (f_z : Fin 12), f_z.1 = k_z → (k_z : Int) < P → ∀ (Lb : List Fun12) (Rb_z : List (List (Fin 12))) (D_z : pm_A), stepA s W P La_z Rh p f_z (some (Lb, Rb_z)) → xaF s ks A D_z → pcA s D_z Lb Rb_z W P → tdF A D_z → Tm pmt (an_sh wX) o_X0_explore 154 ([(2, 72), (2, 1), (2, 28), (0, (r : Int)), (0, (k_z : Int))], [], D_z) (exQ s ks A W P Z) := fun f_z hf hk Lb Rb_z D_z hst hXD hpD htD => by
      refine wq_ok srt_explore (fr := []) (cuts := [31]) (J := fun pc st_z => pc = 31 ∧ st_z = ([(2, 72), (2, 1), (2, 28), (0, (r : Int)), (0, (k_z : Int) + 1)], [], D_z)) ?_ 30 154 _ ?_
      · rintro pc st_z ⟨rfl, rfl⟩
        rw [show (k_z : Int) + 1 = ((k_z + 1 : Nat) : Int) by omega]
        exact ih_z (k_z + 1) Lb Rb_z D_z (by omega) (by omega) (stepA_pre hst hr) (fun n_z o ho => hZ (n_z + 1) o (Or.inr (Or.inr ⟨hk, p, f_z, hr, hf, Or.inr ⟨Lb, Rb_z, hst, ho⟩⟩))) hXD hpD htD
      · refine ⟨⟨by omega, by omega⟩, ?_⟩
        exact ⟨rfl, rfl⟩
    refine wq_ok srt_explore (fr := []) (cuts := [66, 154, 160]) (J := fun pc st_z => (pc = 160 ∧ P ≤ (k_z : Int) ∧ st_z = ([(2, 72), (2, 1), (2, 28), (0, (r : Int)), (0, (k_z : Int))], [], B_z)) ∨ (pc = 154 ∧ ((k_z : Int) < P ∧ ¬ B_z 75 (6 * (r : Int) + (k_z : Int)) = 0) ∧ st_z = ([(2, 72), (2, 1), (2, 28), (0, (r : Int)), (0, (k_z : Int))], [], B_z)) ∨ (pc = 66 ∧ (k_z : Int) < P ∧ ∃ C_z, ldF B_z C_z r (B_z 79 0) ∧ st_z = ([(2, 72), (2, 1), (2, 28), (0, (r : Int)), (0, (k_z : Int))], [], C_z))) ?_ 30 31 _ ?_
    · rintro pc st_z (⟨rfl, hk, rfl⟩ | ⟨rfl, hk, rfl⟩ | ⟨rfl, hk, C_z, hC, rfl⟩)
      · exact H La_z Rh B_z _ (fun n_z o ho => hZ (n_z + 1) o (Or.inr (Or.inl ⟨hrl, hk, ho⟩))) hrl hX hp ht
      · obtain ⟨b1, b2⟩ := hp.2.2.2.2 r p ⟨k_z, by omega⟩ hr hk.1 hk.2
        exact go_z ⟨k_z, by omega⟩ rfl hk.1 La_z Rh B_z (Or.inr (Or.inl ⟨b1, b2, rfl⟩)) hX hp ht
      · obtain ⟨c1_z, c2_z, c3_z, c4_z⟩ := ld_pic hs hX hp hr hC
        have hk12 : k_z < 12 := by omega
        refine xq_66 (k := ⟨k_z, hk12⟩) hs c1_z c2_z (ht.tr ⟨hC.2.1 72 13 (by omega) (by omega) (by omega), hC.2.1 72 14 (by omega) (by omega) (by omega)⟩ (fun q_z j_z h0 h1 => hC.2.1 q_z j_z (by omega) (by omega) (by omega))) hr hk c3_z c4_z (fun hst => hZ 1 none (Or.inr (Or.inr ⟨hk, p, ⟨k_z, hk12⟩, hr, rfl, Or.inl ⟨hst, rfl⟩⟩))) (fun Lb Rb_z D_z hst hXD hpD htD => go_z ⟨k_z, hk12⟩ rfl hk Lb Rb_z D_z hst hXD hpD htD)
    · refine ⟨oX_5 z72 kk72 8 rfl, ?_⟩
      refine ⟨oX_1 (r := B_z 72 8) (by rw [a8]; omega) (by rw [a8]; exact kk79) 0 rfl, ?_⟩
      refine ⟨fun h_z => ?_, fun h_z => ?_⟩
      · rw [a8, e0_z] at h_z
        exact Or.inl ⟨rfl, h_z, rfl⟩
      · rw [a8, e0_z] at h_z
        refine ⟨oX_5 z72 kk72 3 rfl, ?_⟩
        refine ⟨⟨by omega, by omega⟩, ?_⟩
        refine ⟨⟨by omega, by omega⟩, ?_⟩
        refine ⟨aX_24 (r := B_z 72 3) (by rw [a3]; omega) (by rw [a3]; exact kk75) (by omega) (by omega), ?_⟩
        have ev_z : B_z (B_z 72 3) ((r : Int) * 6 + (k_z : Int)) = B_z 75 (6 * (r : Int) + (k_z : Int)) := by rw [a3, show (r : Int) * 6 + (k_z : Int) = 6 * (r : Int) + (k_z : Int) by omega]
        refine ⟨fun h2 => ?_, fun h2 => ?_⟩
        · refine ⟨rX_5 z72 kk72, ?_⟩
          refine (load_ex hX.2.1 hX.1.1 (r := (r : Int)) (by omega) (by omega)).imp ?_
          rintro ⟨q1_z, C_z⟩ hC
          have hq1 : q1_z = none := hC.1
          subst hq1
          exact Or.inr (Or.inr ⟨rfl, h_z, C_z, hC.2, rfl⟩)
        · rw [ev_z] at h2
          exact Or.inr (Or.inl ⟨rfl, ⟨h_z, h2⟩, rfl⟩)
theorem pc_reH {s : cx_Sd 12} {ks : List (Fin 12)} {A B : pm_A} {La : List Fun12} {Rh : List (List (Fin 12))} {W P : Int} (hX : xaF s ks A B) (hp : pcA s B La Rh W P) : reH B := by
  refine ⟨hX.1.1, hX.2.1, fun a_z a0_z ak => ⟨hX.1.2.1.2.1 a_z a0_z ak, hX.1.2.2.2.1 a_z a0_z ak⟩, fun l l0 l1 => ?_, by have := hp.2.1.1; omega⟩
  have hr2 : l.toNat < La.length := by have := hp.2.1.1; omega
  have hu : La[l.toNat]? = some (La[l.toNat]'hr2) := List.getElem?_eq_getElem hr2
  have h1 := hp.2.1.2.1 _ _ hu
  rw [Int.toNat_of_nonneg l0] at h1
  refine ⟨h1.2.1, ?_, by rw [h1.2.2.1]; exact hp.1.2.symm⟩
  have hk : 0 ≤ 107 + 3 * l ∧ wX.2 (107 + 3 * l) = 2 := ⟨by omega, kkLt l0 (by have := hp.2.1.1; omega)⟩
  have m_z := fX_2_1 hX.1.1 hk.1 hk.2
  refine Classical.byContradiction (fun hneg => ?_)
  let o : cr_Pv 12 := ⟨fun _ => 1, fun _ => by grind⟩
  have h2 := h1.2.2.2 o
  have h0 : VX B (107 + 3 * l) o = 0 := by
    unfold VX LSx
    rw [show B (107 + 3 * l) 1 = 0 by omega]; rfl
  rw [h0] at h2
  have h3 := hp.2.1.2.2.2 _ (List.mem_of_getElem? hu) o
  rw [h2] at h3
  grind
end

section
/-! the class's explore from its beginning, and all -/
theorem xq_13 {s : cx_Sd 12} {ks : List (Fin 12)} {A : pm_A} {W P : Int} {Z : Option (List Fun12 × List (List (Fin 12))) → Prop} (hs : sWP s W P) : ∀ (n_z r_z : Nat) (v_z : pm_V) (La_z : List Fun12) (Rh : List (List (Fin 12))) (B_z : pm_A), 150 - r_z < n_z → r_z ≤ Rh.length → (∀ n_z o, allA s W P n_z La_z Rh r_z 0 o → Z o) → xaF s ks A B_z → pcA s B_z La_z Rh W P → tdF A B_z → Tm pmt (an_sh wX) o_X0_explore 13 ([(2, 72), (2, 1), (2, 28), (0, (r_z : Int)), v_z], [], B_z) (exQ s ks A W P Z) := by
  intro n_z
  induction n_z with
  | zero => intro r_z v_z La_z Rh B_z h_z; omega
  | succ n_z ih_z =>
    intro r_z v_z La_z Rh B_z hn r1_z hZ hX hp ht
    have e7_z : B_z 72 7 = (Rh.length : Int) := hp.2.2.1.1
    have h150 := hp.2.2.1.2
    have h6 := hs.1
    have fin_z : Rh.length ≤ r_z → Tm pmt (an_sh wX) o_X0_explore 166 ([(2, 72), (2, 1), (2, 28), (0, (r_z : Int)), v_z], [], B_z) (exQ s ks A W P Z) := fun hr => by
      refine wq_ok srt_explore (fr := []) (cuts := []) (J := fun pc st_z => False) (fun _ _ h_z => h_z.elim) 20 166 _ ?_
      refine ⟨rX_5 z72 kk72, ?_⟩
      refine (remember_ex (pc_reH hX hp)).imp ?_
      rintro ⟨q1_z, C_z⟩ hC
      have hq1 : q1_z = none := hC.1
      subst hq1
      refine ⟨oX_5 z72 kk72 7 rfl, ?_⟩
      refine ⟨rfl, Or.inr ⟨La_z, Rh, B_z, hZ 1 _ (Or.inl ⟨hr, rfl⟩), ?_, hX, hp, hC⟩⟩
      show some ((0 : Nat), C_z 72 7) = some (0, (Rh.length : Int))
      have hf7 : C_z 72 7 = B_z 72 7 := hC.2.1.2.1 72 7 (by omega) (by omega)
      rw [hf7, e7_z]
    refine wq_ok srt_explore (fr := []) (cuts := [31, 166]) (J := fun pc st_z => (pc = 166 ∧ Rh.length ≤ r_z ∧ st_z = ([(2, 72), (2, 1), (2, 28), (0, (r_z : Int)), v_z], [], B_z)) ∨ (pc = 31 ∧ r_z < Rh.length ∧ st_z = ([(2, 72), (2, 1), (2, 28), (0, (r_z : Int)), (0, 0)], [], B_z))) ?_ 30 13 _ ?_
    · rintro pc st_z (⟨rfl, hr, rfl⟩ | ⟨rfl, hr, rfl⟩)
      · exact fin_z hr
      · have hu : Rh[r_z]? = some (Rh[r_z]'hr) := List.getElem?_eq_getElem hr
        refine xq_31 (p := Rh[r_z]'hr) hs (by omega) (fun Lb Rb_z D_z w_z hZ2 hrl hXD hpD htD => ?_) _ 0 La_z Rh B_z (Nat.lt_succ_self _) (by omega) hu hZ hX hp ht
        refine wq_ok srt_explore (fr := []) (cuts := [13]) (J := fun pc st_z => pc = 13 ∧ st_z = ([(2, 72), (2, 1), (2, 28), (0, (r_z : Int) + 1), w_z], [], D_z)) ?_ 30 160 _ ?_
        · rintro pc st_z ⟨rfl, rfl⟩
          rw [show (r_z : Int) + 1 = ((r_z + 1 : Nat) : Int) by omega]
          exact ih_z (r_z + 1) w_z Lb Rb_z D_z (by omega) (by omega) hZ2 hXD hpD htD
        · refine ⟨⟨by omega, by omega⟩, ?_⟩
          exact ⟨rfl, rfl⟩
    · refine ⟨oX_5 z72 kk72 7 rfl, ?_⟩
      refine ⟨fun h_z => ?_, fun h_z => ?_⟩
      · rw [e7_z] at h_z
        exact Or.inl ⟨rfl, by omega, rfl⟩
      · rw [e7_z] at h_z
        refine ⟨fun h2 => Or.inl ⟨rfl, by omega, rfl⟩, fun h2 => ?_⟩
        exact Or.inr ⟨rfl, by omega, rfl⟩
def fin12 (m : Nat) : Fin 12 := ⟨m % 12, Nat.mod_lt _ (by omega)⟩
theorem fin12_v {m : Nat} (h : m < 12) : (fin12 m).1 = m := Nat.mod_eq_of_lt h
def firstL (s : cx_Sd 12) (ks : List (Fin 12)) (n : Nat) : List Fun12 := (List.range n).map (fun m_z => gpf s ks (fin12 m_z))
theorem firstL_s (s : cx_Sd 12) (ks : List (Fin 12)) (n : Nat) : firstL s ks (n + 1) = firstL s ks n ++ [gpf s ks (fin12 n)] := by
  unfold firstL
  rw [List.range_succ, List.map_append]
  rfl
theorem firstL_len (s : cx_Sd 12) (ks : List (Fin 12)) (n : Nat) : (firstL s ks n).length = n := by
  unfold firstL
  rw [List.length_map, List.length_range]
theorem firstL_at {s : cx_Sd 12} {ks : List (Fin 12)} {n m : Nat} (h : m < n) : (firstL s ks n)[m]? = some (gpf s ks (fin12 m)) := by
  unfold firstL
  rw [List.getElem?_map, List.getElem?_range h]
  rfl
theorem firstL_no {s : cx_Sd 12} {ks : List (Fin 12)} {n : Nat} (h : n < 12) : ¬ gpf s ks (fin12 n) ∈ firstL s ks n := fun hin => by
  unfold firstL at hin
  obtain ⟨m_z, hm_z, e_z⟩ := List.mem_map.1 hin
  have hm_z := List.mem_range.1 hm_z
  refine gp_ne s ks (i := fin12 m_z) (j := fin12 n) (fun q_z => ?_) (fun x_z => congrFun e_z x_z)
  have h1 := congrArg Fin.val q_z
  rw [fin12_v (by omega), fin12_v h] at h1
  omega
/-- the first letters are numbered -/
def efI (s : cx_Sd 12) (ks : List (Fin 12)) (A B : pm_A) (W P : Int) (n : Nat) : Prop := xaF s ks A B ∧ pcA s B (firstL s ks n) [] W P ∧ tdF A B ∧ (∀ d_z : Int, 0 ≤ d_z → d_z < n → B 102 d_z = d_z) ∧ (∀ j_z : Int, 0 ≤ j_z → j_z < 72 → B 80 j_z = B 2 j_z) ∧ ∀ j_z : Int, B 2 j_z = A 2 j_z
def efP (s : cx_Sd 12) (ks : List (Fin 12)) (A : pm_A) (W P : Int) (q : pm_R) : Prop := q.1 = some (0, 1) ∧ xaF s ks A q.2 ∧ pcA s q.2 (firstL s ks P.toNat) [ks] W P ∧ tdF A q.2
theorem eg_94 {s : cx_Sd 12} {ks : List (Fin 12)} {A B : pm_A} {W P : Int} {v : pm_V} (hs : sWP s W P) (e1 : A 1 0 = P ∧ bgW A 1 = W) (hI : efI s ks A B W P P.toNat) : Tm pmt (an_sh wX) o_X0_enterFirst 94 ([(2, 72), (2, 1), v], [], B) (efP s ks A W P) := by
  obtain ⟨hX, hp, ht, h102, h80, h2⟩ := hI
  obtain ⟨p1_z, p2_z, p3_z, p4_z, p5_z⟩ := hp
  have h6 := hs.1
  have h7 := hs.2.1
  have hT_z := hX.2.2.1
  have m8_z := hX.1.2.2.2.2.2.1 1 (by omega) kk1
  have b1 : ∀ j_z : Int, B 1 j_z = A 1 j_z := hX.2.2.2.2.2.1
  have eP : B 1 0 = P := by rw [b1 0]; exact e1.1
  have eW : bgW B 1 = W := by unfold bgW; rw [b1 0, b1 1]; exact e1.2
  have hseat : ∀ i_z : Fin 12, (i_z.1 : Int) < P → ∃ l : Nat, B 102 (i_z.1 : Int) = (l : Int) ∧ (firstL s ks P.toNat)[l]? = some (gpf s ks i_z) := fun i_z hi_z => by
    refine ⟨i_z.1, h102 _ (by omega) (by omega), ?_⟩
    rw [firstL_at (by omega)]
    have e_z : fin12 i_z.1 = i_z := Fin.ext (fin12_v i_z.2)
    rw [e_z]
  refine wq_ok srt_enterFirst (fr := []) (cuts := [98]) (J := fun pc st_z => pc = 98 ∧ ∃ C_z, gaF B C_z (B 79 0).toNat ∧ st_z = ([(2, 72), (2, 1), v], [], C_z)) ?_ 30 94 _ ?_
  · rintro pc st_z ⟨rfl, C_z, hC, rfl⟩
    obtain ⟨c1_z, c2_z, c10_z, c11_z⟩ := hC
    rw [p1_z.1] at c10_z c11_z
    have hTC : AT C_z := hX.2.1.of (fun j_z _ _ _ n1_z n2_z _ _ => c2_z 72 j_z (by omega)) ⟨c2_z 79 2 (by omega), c2_z 79 4 (by omega)⟩ (fun j_z _ => c2_z 73 j_z (by omega))
    refine wq_ok srt_enterFirst (fr := []) (cuts := []) (J := fun pc st_z => False) (fun _ _ h_z => h_z.elim) 20 98 _ ?_
    refine ⟨rX_5 z72 kk72, ?_⟩
    refine (enter_ex c1_z hTC (fun d_z d0_z d1_z => ?_)).imp ?_
    · rw [c2_z 79 0 (by omega), p1_z.1] at d1_z
      rw [c2_z 102 d_z (by omega), h102 d_z d0_z (by omega)]
      exact d0_z
    · have c7_z : C_z 72 7 = 0 := by rw [c2_z 72 7 (by omega), p3_z.1]; rfl
      rintro ⟨q1_z, D_z⟩ (⟨_, hlt⟩ | ⟨_, e_z, hD⟩)
      · rw [c7_z] at hlt
        exact absurd (show (0 : Int) < 150 by omega) hlt
      · simp only at e_z hD
        subst e_z
        obtain ⟨d1_z, d2_z, d3_z, d4_z, ⟨d5_z, d6_z⟩, ⟨d7_z, d8_z, d9_z⟩, d10_z⟩ := hD
        rw [c7_z] at d3_z d4_z d5_z d6_z d7_z d8_z d9_z d10_z
        rw [c2_z 79 0 (by omega), p1_z.1] at d4_z
        have hh : ∀ a_z j_z : Int, ¬ (a_z = 72 ∧ (j_z = 7 ∨ j_z = 10 ∨ j_z = 11)) → ¬ a_z = 103 → ¬ (74 ≤ a_z ∧ a_z ≤ 78) → D_z a_z j_z = B a_z j_z := fun a_z j_z h1 h2 h3 => by
          rw [d2_z a_z j_z (by omega) h2 (by omega) (by omega) (by omega) (by omega) (by omega)]
          exact c2_z a_z j_z (by omega)
        have n74 : ∀ d_z : Int, 0 ≤ d_z → d_z < P → D_z 74 (6 * 0 + d_z) = B 102 d_z := fun d_z d0_z d1_z => by
          rw [(d4_z d_z d0_z d1_z).2.1]; exact c2_z 102 d_z (by omega)
        refine ⟨rfl, rfl, avF.xa hX d1_z hh, ⟨?_, ?_, ⟨?_, ?_⟩, fun m_z u_z hm_z => ?_, fun m_z u_z k' hm_z hk' hne => ?_⟩, ht.tr ⟨hh 72 13 (by omega) (by omega) (by omega), hh 72 14 (by omega) (by omega) (by omega)⟩ (fun a_z j_z h0 h1 => hh a_z j_z (by omega) (by omega) (by omega))⟩
        · show D_z 79 0 = P ∧ D_z 79 0 + D_z 79 1 = W
          rw [hh 79 0 (by omega) (by omega) (by omega), hh 79 1 (by omega) (by omega) (by omega)]; exact p1_z
        · refine p2_z.of (hh 72 1 (by omega) (by omega) (by omega)) (fun l l0 l1 => ?_)
          have h100 := p2_z.1
          have e2 := hX.1.2.1.2.1 (107 + 3 * l) (by omega) (kkLt l0 (by omega))
          have e3 := hX.1.2.2.2.1 (107 + 3 * l) (by omega) (kkLt l0 (by omega))
          exact ⟨fun j_z => hh _ j_z (by omega) (by omega) (by omega), fun j_z => by rw [e2]; exact hh _ j_z (by omega) (by omega) (by omega), fun j_z => by rw [e3]; exact hh _ j_z (by omega) (by omega) (by omega)⟩
        · show D_z 72 7 = (([ks] : List (List (Fin 12))).length : Int)
          rw [d10_z]; rfl
        · exact Nat.le_of_ble_eq_true rfl
        · have hm0 : m_z = 0 := by
            have h1 := (List.getElem?_eq_some_iff.mp hm_z).1
            rw [List.length_singleton] at h1
            omega
          subst hm0
          have hu : ks = u_z := Option.some.inj hm_z
          subst hu
          have e0_z : (((0 : Nat) : Int)) = 0 := rfl
          rw [e0_z]
          refine ⟨⟨fun k_z hk => by have := hT_z.2.2.2.2.1 k_z hk; omega, fun i_z j_z hi_z hj => (hT_z.2.2.2.1 i_z j_z (by rw [eP]; exact hj)).2 (by rw [eW]; exact hi_z), fun i_z j_z hi_z hj => ?_⟩, fun i_z hi_z => ?_, fun i_z j_z hi_z hj => ?_, ?_, ?_⟩
          · rw [(hT_z.2.2.2.1 i_z j_z (by rw [eP]; exact hj)).1 (by rw [eW]; exact hi_z)]
            exact hT_z.2.2.2.2.2.2.1 i_z.1 j_z.1 (by omega) (by rw [eW]; exact hi_z) (by omega) (by rw [eP]; exact hj)
          · obtain ⟨l, a1_z, a2⟩ := hseat i_z hi_z
            exact ⟨l, by show D_z 74 (6 * 0 + (i_z.1 : Int)) = _; rw [n74 _ (by omega) hi_z]; exact a1_z, a2⟩
          · show cr_bs s.b ks i_z j_z = D_z 76 (72 * 0 + ((i_z.1 : Int) * 6 + (j_z.1 : Int)))
            rw [d6_z _ (by omega) (by omega), c2_z 80 _ (by omega), h80 _ (by omega) (by omega), (hT_z.2.2.2.1 i_z j_z (by rw [eP]; exact hj)).1 (by rw [eW]; exact hi_z), m8_z.1]
            rfl
          · show D_z 77 0 = _
            rw [d8_z, c10_z]
            exact bitsV_c2 (fun f_z f0_z f1_z => (n74 f_z f0_z (by omega)).symm)
          · show D_z 78 0 = _
            rw [d9_z, c11_z]
            exact bitsV_c3 (fun f_z f0_z f1_z => (n74 f_z f0_z (by omega)).symm)
        · have hm0 : m_z = 0 := by
            have h1 := (List.getElem?_eq_some_iff.mp hm_z).1
            rw [List.length_singleton] at h1
            omega
          subst hm0
          exact absurd ((d4_z (k'.1 : Int) (by omega) hk').2.2) hne
  · refine ⟨rX_5 z72 kk72, ?_⟩
    refine (gather_ex hX.1.1 hX.2.1).imp ?_
    rintro ⟨q1_z, C_z⟩ hC
    have hq1 : q1_z = none := hC.1
    subst hq1
    exact ⟨rfl, C_z, hC.2, rfl⟩
theorem eg_52 {s : cx_Sd 12} {ks : List (Fin 12)} {A : pm_A} {W P : Int} (hs : sWP s W P) (e1 : A 1 0 = P ∧ bgW A 1 = W) : ∀ (m_z n_z : Nat) (B_z : pm_A), 6 - n_z < m_z → (n_z : Int) ≤ P → efI s ks A B_z W P n_z → Tm pmt (an_sh wX) o_X0_enterFirst 52 ([(2, 72), (2, 1), (0, (n_z : Int))], [], B_z) (efP s ks A W P) := by
  intro m_z
  induction m_z with
  | zero => intro n_z B_z h_z; omega
  | succ m_z ih_z =>
    intro n_z B_z hm_z n1_z hI
    have hI0 := hI
    obtain ⟨hX, hp, ht, h102, h80, h2⟩ := hI
    have h6 := hs.1
    have hT_z := hX.2.2.1
    have b1 : ∀ j_z : Int, B_z 1 j_z = A 1 j_z := hX.2.2.2.2.2.1
    have eP : B_z 1 0 = P := by rw [b1 0]; exact e1.1
    have eW : bgW B_z 1 = W := by unfold bgW; rw [b1 0, b1 1]; exact e1.2
    have m8_z := hX.1.2.2.2.2.2.1 1 (by omega) kk1
    have e9_z : B_z 72 9 = 102 := hX.2.1.1.2.2.2.2.2.2.2.1
    have l4 := fX_1_4 hX.1.1 z1 kk1
    refine wq_ok srt_enterFirst (fr := []) (cuts := [75, 94]) (J := fun pc st_z => (pc = 94 ∧ (n_z : Int) = P ∧ st_z = ([(2, 72), (2, 1), (0, (n_z : Int))], [], B_z)) ∨ (pc = 75 ∧ (n_z : Int) < P ∧ ∃ (l : Int) (C_z : pm_A), nbP B_z (B_z 4 (n_z : Int)) (some (0, l), C_z) ∧ st_z = ([(2, 72), (2, 1), (0, (n_z : Int))], [(0, l), (0, (n_z : Int)), (2, B_z 72 9)], C_z))) ?_ 30 52 _ ?_
    · rintro pc st_z (⟨rfl, hn, rfl⟩ | ⟨rfl, hn, l, C_z, hN_z, rfl⟩)
      · have e_z : n_z = P.toNat := by omega
        rw [e_z] at hI0
        exact eg_94 hs e1 hI0
      · rw [e9_z]
        have x0_z := eX_12 hX.1.1 l4.1 l4.2 (j := (n_z : Int)) (by omega) (by omega)
        rw [m8_z.2.2] at x0_z
        have hp72 := (hX.1.2.1.2.2.2.2.1 (n_z : Int) (by omega) (by omega)).1
        have e4_z := own_pc (A := B_z) own1 (show (0 : Int) ≤ (n_z : Int) by omega) (show (n_z : Int) ≤ 5 by omega)
        rw [Int.zero_add] at e4_z
        rw [e4_z] at hp72
        have hfn : ((fin12 n_z).1 : Int) = (n_z : Int) := by rw [fin12_v (by omega)]
        obtain ⟨a1_z, a2, a3, a5⟩ := hT_z.2.2.2.2.2.2.2 (fin12 n_z) (by rw [hfn, eP]; exact hn)
        rw [hfn, m8_z.2.2] at a1_z a2 a3 a5
        rw [eW] at a3
        have hlt : ltr B_z (B_z 4 (n_z : Int)) (gpf s ks (fin12 n_z)) W := ⟨a1_z, a2, a3, fun x_z => a5 x_z⟩
        rcases nb_pic hs hX hp x0_z hp72 hlt (gpf_pos s ks _) hN_z with ⟨_, _, b3, _⟩ | ⟨La', b1', b2, b3, b4, b5, b6⟩
        · rw [firstL_len] at b3
          exact absurd (show n_z < 100 by omega) b3
        · rcases b1' with ⟨c1_z, _⟩ | ⟨_, _, c3_z⟩
          · exact absurd c1_z (firstL_no (by omega))
          · rw [← firstL_s] at c3_z
            subst c3_z
            have hl : l = (n_z : Int) := by
              have h5 := firstL_at (s := s) (ks := ks) (n := n_z + 1) (m := n_z) (by omega)
              have h8 := b4.2.1.2.2.1 l.toNat n_z _ b3 h5
              omega
            subst hl
            have hD : gH wX (pm_upd C_z 102 (n_z : Int) (n_z : Int)) := uX_27 b5.1.1 kk102 (by omega) (by omega)
            have g1 : ∀ q_z j_z : Int, ¬ q_z = 102 → pm_upd C_z 102 (n_z : Int) (n_z : Int) q_z j_z = C_z q_z j_z := fun q_z j_z hq => upd_ne hq
            have g2 : pm_upd C_z 102 (n_z : Int) (n_z : Int) 102 (n_z : Int) = (n_z : Int) := upd_at
            have g3_z : ∀ j_z : Int, ¬ j_z = (n_z : Int) → pm_upd C_z 102 (n_z : Int) (n_z : Int) 102 j_z = C_z 102 j_z := fun j_z hj => upd_n2 hj
            refine wq_ok srt_enterFirst (fr := []) (cuts := [76]) (J := fun pc st_z => pc = 76 ∧ st_z = ([(2, 72), (2, 1), (0, (n_z : Int))], [], pm_upd C_z 102 (n_z : Int) (n_z : Int))) ?_ 30 75 _ ?_
            · rintro pc st_z ⟨rfl, rfl⟩
              generalize pm_upd C_z 102 (n_z : Int) (n_z : Int) = D_z at hD g1 g2 g3_z
              have hXD : xaF s ks A D_z := b5.put hD (fun q_z j_z hq => g1 q_z j_z (fun e_z => hq (by unfold atC; omega))) (fun q_z j_z q0 qk hj => g1 q_z j_z (knd qk kk102 (by decide))) (fun j_z j0 j1 => by rw [g1 82 j_z (by omega)]; exact b5.1.2.1.2.2.2.1 j_z j0 j1)
              have d9_z : D_z 72 9 = 102 := hXD.2.1.1.2.2.2.2.2.2.2.1
              have hpD : pcA s D_z (firstL s ks (n_z + 1)) [] W P := b4.of hs (g1 72 1 (by omega)) (g1 72 7 (by omega)) ⟨g1 79 0 (by omega), g1 79 1 (by omega)⟩ (fun q_z j_z q0 q1_z => g1 q_z j_z (by omega)) (fun a_z a0_z a1_z => by
                have h100 := b4.2.1.1
                have e2 := b5.1.2.1.2.1 (107 + 3 * a_z) (by omega) (kkLt a0_z (by omega))
                have e3 := b5.1.2.2.2.1 (107 + 3 * a_z) (by omega) (kkLt a0_z (by omega))
                exact ⟨fun j_z => g1 _ j_z (by omega), fun j_z => by rw [e2]; exact g1 _ j_z (by omega), fun j_z => by rw [e3]; exact g1 _ j_z (by omega)⟩)
              refine wq_ok srt_enterFirst (fr := []) (cuts := [52]) (J := fun pc st_z => pc = 52 ∧ st_z = ([(2, 72), (2, 1), (0, (n_z : Int) + 1)], [], D_z)) ?_ 30 76 _ ?_
              · rintro pc st_z ⟨rfl, rfl⟩
                rw [show (n_z : Int) + 1 = ((n_z + 1 : Nat) : Int) by omega]
                refine ih_z (n_z + 1) D_z (by omega) (by omega) ⟨hXD, hpD, ht.tr ⟨(g1 72 13 (by omega)).trans (b6 72 13 (by omega) (by omega)), (g1 72 14 (by omega)).trans (b6 72 14 (by omega) (by omega))⟩ (fun q_z j_z h0 h1 => (g1 q_z j_z (by omega)).trans (b6 q_z j_z (by omega) (by omega))), fun d_z d0_z d1_z => ?_, fun j_z j0 j1 => ?_, fun j_z => ?_⟩
                · by_cases e_z : d_z = (n_z : Int)
                  · rw [e_z]; exact g2
                  · rw [g3_z d_z e_z, b6 102 d_z (by omega) (by omega)]; exact h102 d_z d0_z (by omega)
                · rw [g1 80 j_z (by omega), g1 2 j_z (by omega), b6 80 j_z (by omega) (by omega), b6 2 j_z (by omega) (by omega)]; exact h80 j_z j0 j1
                · rw [g1 2 j_z (by omega), b6 2 j_z (by omega) (by omega)]; exact h2 j_z
              · refine ⟨oX_5 z72 kk72 9 rfl, ?_⟩
                refine ⟨aX_27 (r := D_z 72 9) (by rw [d9_z]; omega) (by rw [d9_z]; exact kk102) (by omega) (by omega), ?_⟩
                refine ⟨fun q_z => ?_, fun q_z => ?_⟩
                · refine ⟨⟨by omega, by omega⟩, ?_⟩
                  exact ⟨rfl, rfl⟩
                · rw [d9_z, g2] at q_z
                  omega
            · refine ⟨tX_27 (r := 102) (by omega) kk102 (by omega) (by omega) rfl, ?_⟩
              exact ⟨rfl, rfl⟩
    · refine ⟨oX_1 z1 kk1 0 rfl, ?_⟩
      refine ⟨fun h_z => Or.inl ⟨rfl, by omega, rfl⟩, fun h_z => ?_⟩
      have hn : (n_z : Int) < P := by omega
      have x0_z := eX_12 hX.1.1 l4.1 l4.2 (j := (n_z : Int)) (by omega) (by omega)
      have hp72 := (hX.1.2.1.2.2.2.2.1 (n_z : Int) (by omega) (by omega)).1
      have e4_z := own_pc (A := B_z) own1 (show (0 : Int) ≤ (n_z : Int) by omega) (show (n_z : Int) ≤ 5 by omega)
      rw [Int.zero_add] at e4_z
      rw [e4_z] at hp72
      have hp72' : B_z 4 (n_z : Int) < 72 := hp72
      refine ⟨oX_5 z72 kk72 9 rfl, ?_⟩
      refine ⟨oX_1 z1 kk1 4 rfl, ?_⟩
      refine ⟨aX_12 l4.1 l4.2 (by omega) (by omega), ?_⟩
      refine ⟨rX_5 z72 kk72, ?_⟩
      show Cl pmt (an_sh wX) 11 [(2, 72), (2, B_z (B_z 1 4) (n_z : Int))] B_z _
      rw [m8_z.2.2] at x0_z ⊢
      refine (numberOf_ex hX.1.1 hX.2.1 (fun a_z a0_z ak => ⟨hX.1.2.1.2.1 a_z a0_z ak, hX.1.2.2.2.1 a_z a0_z ak⟩) x0_z (fun x_z x0_z x1_z e_z => by have e5 : 107 + 3 * x_z = B_z 4 (n_z : Int) := e_z; omega)).imp ?_
      rintro ⟨q1_z, F_z⟩ hN_z
      have hq : ∃ l, q1_z = some (0, l) := by
        rcases hN_z with ⟨i_z, _, _, e_z⟩ | ⟨_, ⟨_, e_z⟩ | ⟨_, e_z, _⟩⟩
        · injection e_z with e1 _; exact ⟨i_z, e1⟩
        · injection e_z with e1 _; exact ⟨-1, e1⟩
        · exact ⟨_, e_z⟩
      obtain ⟨l, rfl⟩ := hq
      exact Or.inr ⟨rfl, hn, l, F_z, hN_z, rfl⟩
theorem xaF.self {s : cx_Sd 12} {ks : List (Fin 12)} {A : pm_A} (hS : StE A) (hA : AT A) (hT : TrX s ks A 1) : xaF s ks A A := ⟨hS, hA, hT, fun _ => rfl, fun _ => rfl, fun _ => rfl, fun _ => rfl, fun _ => rfl, fun _ _ _ => rfl⟩
theorem xaF.p1 {s : cx_Sd 12} {ks : List (Fin 12)} {A B : pm_A} {r j x : Int} (h : xaF s ks A B) (hC : gH wX (pm_upd B r j x)) (ha : atC r j) (hk : ¬ wX.2 r = 2) (h82 : ¬ r = 82) : xaF s ks A (pm_upd B r j x) := by
  refine h.put hC (fun q_z i_z hq => ?_) (fun q_z i_z q0 qk hi_z => upd_ne (fun e_z => hk (by rw [← e_z]; exact qk))) (fun i_z i0_z i1_z => by rw [upd_ne (fun e_z => h82 e_z.symm)]; exact h.1.2.1.2.2.2.1 i_z i0_z i1_z)
  by_cases e_z : q_z = r
  · rw [e_z] at hq ⊢
    by_cases e2 : i_z = j
    · rw [e2] at hq; exact absurd ha hq
    · exact upd_n2 e2
  · exact upd_ne e_z
theorem enterFirst_ex {s : cx_Sd 12} {ks : List (Fin 12)} {A : pm_A} {W P : Int} (hs : sWP s W P) (hS : StE A) (hA : AT A) (hT : TrX s ks A 1) (e1 : A 1 0 = P ∧ bgW A 1 = W) : Cl pmt (an_sh wX) 6 [(2, 72), (2, 1)] A (efP s ks A W P) := by
  have p0_z := fX_1_0 hS.1 z1 kk1
  have q0 := fX_1_1 hS.1 z1 kk1
  have hX0 := xaF.self hS hA hT
  have hX1 := hX0.p1 (g5_1 hS.1 (t := 0) (by omega) (by omega)) (by unfold atC; omega) (by decide) (by omega)
  have hX2 := hX1.p1 (g5_7 hX1.1.1 (t := 0) (by omega) (by omega)) (by unfold atC; omega) (by decide) (by omega)
  have f2_z : ∀ r_z j_z : Int, ¬ r_z = 72 → pm_upd (pm_upd A 72 1 0) 72 7 0 r_z j_z = A r_z j_z := fun r_z j_z hr => by rw [upd_ne hr, upd_ne hr]
  have g2 : pm_upd (pm_upd A 72 1 0) 72 7 0 72 1 = 0 ∧ pm_upd (pm_upd A 72 1 0) 72 7 0 72 7 = 0 := ⟨by rw [upd_n2 (by omega), upd_at], upd_at⟩
  have t2_z : tdF A (pm_upd (pm_upd A 72 1 0) 72 7 0) := ⟨⟨by rw [upd_n2 (by omega), upd_n2 (by omega)], by rw [upd_n2 (by omega), upd_n2 (by omega)]⟩, fun r_z j_z h0 h1 => f2_z r_z j_z (by omega)⟩
  refine Cl.of (Nat.le_of_ble_eq_true rfl) ?_
  refine wq_ok (full := o_X0_enterFirst) srt_enterFirst (fr := []) (cuts := [10]) (J := fun pc st_z => pc = 10 ∧ ∃ v_z, st_z = ([(2, 72), (2, 1), v_z], [], pm_upd (pm_upd A 72 1 0) 72 7 0)) ?_ 30 0 _ ?_
  · rintro pc st_z ⟨rfl, v_z, rfl⟩
    generalize pm_upd (pm_upd A 72 1 0) 72 7 0 = B_z at hX2 f2_z g2 t2_z
    have a8 : B_z 72 8 = 79 := hX2.2.1.1.2.2.2.2.2.2.1
    refine wq_ok srt_enterFirst (fr := []) (cuts := [21]) (J := fun pc st_z => pc = 21 ∧ st_z = ([(2, 72), (2, 1), v_z], [], pm_upd B_z (B_z 72 8) 0 (B_z 1 0))) ?_ 30 10 _ ?_
    · rintro pc st_z ⟨rfl, rfl⟩
      rw [a8, f2_z 1 0 (by omega)]
      have hX3 := hX2.p1 (g79_0 hX2.1.1 p0_z.1 p0_z.2).1 (by unfold atC; omega) (by decide) (by omega)
      have f3_z : ∀ r_z j_z : Int, ¬ r_z = 79 → pm_upd B_z 79 0 (A 1 0) r_z j_z = B_z r_z j_z := fun r_z j_z hr => upd_ne hr
      have g3_z : pm_upd B_z 79 0 (A 1 0) 79 0 = A 1 0 := upd_at
      generalize pm_upd B_z 79 0 (A 1 0) = C_z at hX3 f3_z g3_z
      have c8_z : C_z 72 8 = 79 := hX3.2.1.1.2.2.2.2.2.2.1
      refine wq_ok srt_enterFirst (fr := []) (cuts := [32]) (J := fun pc st_z => pc = 32 ∧ st_z = ([(2, 72), (2, 1), v_z], [], pm_upd C_z (C_z 72 8) 1 (C_z 1 1))) ?_ 30 21 _ ?_
      · rintro pc st_z ⟨rfl, rfl⟩
        rw [c8_z, f3_z 1 1 (by omega), f2_z 1 1 (by omega)]
        have hX4 := hX3.p1 (g79_0 hX3.1.1 q0.1 q0.2).2 (by unfold atC; omega) (by decide) (by omega)
        have f4_z : ∀ r_z j_z : Int, ¬ r_z = 79 → pm_upd C_z 79 1 (A 1 1) r_z j_z = C_z r_z j_z := fun r_z j_z hr => upd_ne hr
        have g4 : pm_upd C_z 79 1 (A 1 1) 79 0 = A 1 0 ∧ pm_upd C_z 79 1 (A 1 1) 79 1 = A 1 1 := ⟨by rw [upd_n2 (by omega)]; exact g3_z, upd_at⟩
        generalize pm_upd C_z 79 1 (A 1 1) = D_z at hX4 f4_z g4
        have fD_z : ∀ r_z j_z : Int, ¬ r_z = 72 → ¬ r_z = 79 → D_z r_z j_z = A r_z j_z := fun r_z j_z h1 h2 => by rw [f4_z r_z j_z h2, f3_z r_z j_z h2]; exact f2_z r_z j_z h1
        have f72 : ∀ j_z : Int, D_z 72 j_z = B_z 72 j_z := fun j_z => by rw [f4_z 72 j_z (by omega)]; exact f3_z 72 j_z (by omega)
        have d8_z : D_z 72 8 = 79 := hX4.2.1.1.2.2.2.2.2.2.1
        have dt : D_z 79 2 = 80 := hX4.2.1.2.2.1.1
        have m8_z := hX4.1.2.2.2.2.2.1 1 (by omega) kk1
        have kk2 : wX.2 2 = 10 := by decide
        have s1_z := shX_10 kk2
        have s2_z := shX_10 kk80
        refine wq_ok srt_enterFirst (fr := []) (cuts := [52]) (J := fun pc st_z => pc = 52 ∧ st_z = ([(2, 72), (2, 1), (0, 0)], [], pm_cpy D_z (D_z 1 2) 0 (D_z (D_z 72 8) 2) 0 72)) ?_ 30 32 _ ?_
        · rintro pc st_z ⟨rfl, rfl⟩
          have m12 : D_z 1 2 = 2 := m8_z.1
          rw [m12, d8_z, dt]
          have hE : gH wX (pm_cpy D_z 2 0 80 0 72) := gH_cpy hX4.1.1 (ka := (1, 0, 72, [(0, -2147483648, 2147483647)])) (kb := (1, 0, 72, [(0, -2147483648, 2147483647)])) (by omega) (by rw [kk2]; rfl) (by rw [kk80]; rfl) rfl rfl rfl rfl rfl rfl (by omega) (by omega) (by simp only; omega)
          have fE_z : ∀ r_z j_z : Int, ¬ r_z = 80 → pm_cpy D_z 2 0 80 0 72 r_z j_z = D_z r_z j_z := fun r_z j_z hr => cpy_ne hr
          have gE : ∀ j_z : Int, 0 ≤ j_z → j_z < 72 → pm_cpy D_z 2 0 80 0 72 80 j_z = D_z 2 j_z := fun j_z j0 j1 => by rw [cpy_in ⟨j0, by omega⟩, show 0 + (j_z - 0) = j_z by omega]
          have hX5 : xaF s ks A (pm_cpy D_z 2 0 80 0 72) := hX4.put hE (fun q_z j_z hq => fE_z q_z j_z (fun e_z => hq (by unfold atC; omega))) (fun q_z j_z _ qk _ => fE_z q_z j_z (knd qk kk80 (by decide))) (fun j_z j0 j1 => by rw [fE_z 82 j_z (by omega)]; exact hX4.1.2.1.2.2.2.1 j_z j0 j1)
          generalize pm_cpy D_z 2 0 80 0 72 = E_z at hX5 hE fE_z gE
          refine eg_52 hs e1 _ 0 E_z (Nat.lt_succ_self _) (by have := hs.1; omega) ⟨hX5, ⟨?_, ⟨⟨?_, ?_⟩, fun l f_z hl => ?_, fun l m_z f_z hl => ?_, fun f_z hf => ?_⟩, ⟨?_, ?_⟩, fun r_z p_z hr => ?_, fun r_z p_z k_z hr => ?_⟩, ?_, fun d_z d0_z d1_z => by omega, fun j_z j0 j1 => by rw [gE j_z j0 j1, fE_z 2 j_z (by omega)], fun j_z => by rw [fE_z 2 j_z (by omega)]; exact fD_z 2 j_z (by omega) (by omega)⟩
          · rw [fE_z 79 0 (by omega), fE_z 79 1 (by omega), g4.1, g4.2]; exact e1
          · rw [fE_z 72 1 (by omega), f72, g2.1]; rfl
          · exact Nat.zero_le _
          · cases hl
          · cases hl
          · cases hf
          · rw [fE_z 72 7 (by omega), f72, g2.2]; rfl
          · exact Nat.zero_le _
          · cases hr
          · cases hr
          · exact t2_z.tr ⟨by rw [fE_z 72 13 (by omega)]; exact f72 13, by rw [fE_z 72 14 (by omega)]; exact f72 14⟩ (fun r_z j_z h0 h1 => by rw [fE_z r_z j_z (by omega), f4_z r_z j_z (by omega)]; exact f3_z r_z j_z (by omega))
        · refine ⟨oX_1 z1 kk1 2 rfl, ?_⟩
          refine ⟨oX_5 z72 kk72 8 rfl, ?_⟩
          refine ⟨oX_1 (r := D_z 72 8) (by rw [d8_z]; omega) (by rw [d8_z]; exact kk79) 2 rfl, ?_⟩
          refine ⟨⟨by rw [m8_z.1]; omega, by rw [d8_z, dt]; omega, by rw [m8_z.1]; exact congrArg (·.1) s1_z, by rw [m8_z.1]; exact congrArg (·.2.1) s1_z, by rw [d8_z, dt, s2_z], by rw [d8_z, dt, s2_z], by omega, by omega, by omega, by rw [m8_z.1]; show (72 : Int) + 0 ≤ _; rw [show (1 : Int) + 1 = 2 by omega, s1_z]; decide, by rw [d8_z, dt, s2_z]; simp only; omega⟩, ?_⟩
          exact ⟨rfl, rfl⟩
      · refine ⟨oX_5 z72 kk72 8 rfl, ?_⟩
        refine ⟨oX_1 z1 kk1 1 rfl, ?_⟩
        refine ⟨oX_1 (r := C_z 72 8) (by rw [c8_z]; omega) (by rw [c8_z]; exact kk79) 1 rfl, ?_⟩
        exact ⟨rfl, rfl⟩
    · refine ⟨oX_5 z72 kk72 8 rfl, ?_⟩
      refine ⟨oX_1 z1 kk1 0 rfl, ?_⟩
      refine ⟨oX_1 (r := B_z 72 8) (by rw [a8]; omega) (by rw [a8]; exact kk79) 0 rfl, ?_⟩
      exact ⟨rfl, rfl⟩
  · refine ⟨oX_5 z72 kk72 1 rfl, ?_⟩
    refine ⟨oX_5 z72 kk72 7 rfl, ?_⟩
    exact ⟨rfl, _, rfl⟩
theorem explore_ex {s : cx_Sd 12} {ks : List (Fin 12)} {A : pm_A} {W P : Int} (hs : sWP s W P) (hS : StE A) (hA : AT A) (hT : TrX s ks A 1) (e1 : A 1 0 = P ∧ bgW A 1 = W) : Cl pmt (an_sh wX) 7 [(2, 72), (2, 1), (2, 28)] A (exQ s ks A W P (fun o => ∃ n_z, allA s W P n_z (firstL s ks P.toNat) [ks] 0 0 o)) := by
  refine Cl.of (Nat.le_of_ble_eq_true rfl) ?_
  refine wq_ok (full := o_X0_explore) srt_explore (fr := []) (cuts := [13]) (J := fun pc st_z => pc = 13 ∧ ∃ C_z v_z, efP s ks A W P (some (0, 1), C_z) ∧ st_z = ([(2, 72), (2, 1), (2, 28), (0, 0), v_z], [], C_z)) ?_ 30 0 _ ?_
  · rintro pc st_z ⟨rfl, C_z, v_z, hC, rfl⟩
    obtain ⟨_, c1_z, c2_z, c3_z⟩ := hC
    exact xq_13 hs _ 0 v_z _ [ks] C_z (Nat.lt_succ_self _) (Nat.zero_le _) (fun n_z o ho => ⟨n_z, ho⟩) c1_z c2_z c3_z
  · refine ⟨rX_5 z72 kk72, ?_⟩
    refine (enterFirst_ex hs hS hA hT e1).imp ?_
    rintro ⟨q1_z, C_z⟩ hC
    have hq1 : q1_z = some (0, 1) := hC.1
    subst hq1
    refine ⟨fun _ => ?_, fun hh => absurd hh (by decide)⟩
    exact ⟨rfl, C_z, _, hC, rfl⟩
/-- all: what explore did, and the number of seeds is kept -/
def xlP2 (s : cx_Sd 12) (ks : List (Fin 12)) (A : pm_A) (W P : Int) (q : pm_R) : Prop := ∃ (C_z : pm_A) (z_z : Int), exQ s ks A W P (fun o => ∃ n_z, allA s W P n_z (firstL s ks P.toNat) [ks] 0 0 o) (some (0, z_z), C_z) ∧ q.1 = some (0, z_z) ∧ q.2 = pm_upd C_z 0 10 (max z_z 0) ∧ gH wX q.2
theorem xall_ex {s : cx_Sd 12} {ks : List (Fin 12)} {A : pm_A} {W P : Int} (hs : sWP s W P) (hS : StE A) (hA : AT A) (hT : TrX s ks A 1) (e1 : A 1 0 = P ∧ bgW A 1 = W) : Cl pmt (an_sh wX) 83 [(2, 0)] A (xlP2 s ks A W P) := by
  have a1_z := hS.2.1.1.1
  have a2 := hS.2.1.1.2.1
  have a4 := hS.2.1.1.2.2.2.1
  refine Cl.of (Nat.le_of_ble_eq_true rfl) ?_
  refine wq_ok (full := o_X9_all) srt_all (fr := []) (cuts := [15]) (J := fun pc st_z => pc = 15 ∧ ∃ z_z C_z v_z, exQ s ks A W P (fun o => ∃ n_z, allA s W P n_z (firstL s ks P.toNat) [ks] 0 0 o) (some (0, z_z), C_z) ∧ st_z = ([(2, 0), v_z], [(0, z_z)], C_z)) ?_ 30 0 _ ?_
  · rintro pc st_z ⟨rfl, z_z, C_z, v_z, hC, rfl⟩
    have hb_z : gH wX C_z ∧ -2 ≤ z_z ∧ z_z ≤ 150 := by
      rcases hC with ⟨c1_z, _, _, c4_z⟩ | ⟨La_z, Rh, B_z, _, c2_z, _, c4_z, c5_z⟩
      · have c4' : z_z = -2 := by injection c4_z with c4_z; injection c4_z
        exact ⟨c1_z.1.1, by omega, by omega⟩
      · have c2' : z_z = (Rh.length : Int) := by injection c2_z with c2_z; injection c2_z
        have := c4_z.2.2.1.2
        exact ⟨c5_z.2.1.1, by omega, by omega⟩
    refine wq_ok srt_all (fr := []) (cuts := []) (J := fun pc st_z => False) (fun _ _ h_z => h_z.elim) 20 15 _ ?_
    refine ⟨oX_0 z0 kk0 10 rfl, ?_⟩
    refine ⟨rfl, C_z, z_z, hC, rfl, rfl, ?_⟩
    refine gH_upd hb_z.1 (k := (0, 9, 15, [(2, 1, 0), (2, 3, 0), (2, 4, 0), (2, 19, 0), (0, 0, 100), (2, 20, 0), (2, 21, 0), (0, 0, 12), (2, 1, 0), (2, 5, 0), (0, (-2147483648), 2147483647), (2, 6, 0), (2, 7, 0), (2, 34, 0), (2, 8, 0)])) (by rw [kk0]; rfl) (fun _ j_z a_z hj ej => ?_) (fun q_z => by cases q_z)
    have : j_z = 10 := by omega
    subst this
    cases hj
    exact ⟨rfl, (by show (-2147483648 : Int) ≤ max z_z 0; omega), (by show max z_z 0 ≤ (2147483647 : Int); omega)⟩
  · refine ⟨oX_0 z0 kk0 9 rfl, ?_⟩
    refine ⟨oX_0 z0 kk0 0 rfl, ?_⟩
    refine ⟨oX_0 z0 kk0 2 rfl, ?_⟩
    refine ⟨rX_5 (r := A 0 9) (by rw [a4]; omega) (by rw [a4]; exact kk72), ?_⟩
    show Cl pmt (an_sh wX) 7 [(2, A 0 9), (2, A 0 0), (2, A 0 2)] A _
    rw [a1_z, a2, a4]
    refine (explore_ex hs hS hA hT e1).imp ?_
    rintro ⟨q1_z, C_z⟩ hC
    have hq : ∃ z_z, q1_z = some (0, z_z) := by
      rcases hC with ⟨_, _, _, c4_z⟩ | ⟨_, _, _, _, c2_z, _⟩
      · exact ⟨_, c4_z⟩
      · exact ⟨_, c2_z⟩
    obtain ⟨z_z, rfl⟩ := hq
    exact ⟨rfl, z_z, C_z, _, hC, rfl⟩
end
