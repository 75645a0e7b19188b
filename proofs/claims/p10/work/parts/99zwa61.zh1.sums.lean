/-! sums and least powers on both sides; the class's remember -/
def smP (f : Int → Int) : Nat → Int
  | 0 => 0
  | n_z + 1 => smP f n_z + f (n_z : Int)
theorem smP_b {f : Int → Int} : ∀ n_z : Nat, n_z ≤ 200 → (∀ q_z : Int, 0 ≤ q_z → q_z < n_z → 1 ≤ f q_z ∧ f q_z ≤ 1000000000000) → 0 ≤ smP f n_z ∧ smP f n_z ≤ 1000000000000 * (n_z : Int)
  | 0, _, _ => by show (0 : Int) ≤ 0 ∧ (0 : Int) ≤ _; omega
  | n_z + 1, h_z, hf => by
    have h1 := smP_b n_z (by omega) (fun q_z q0 q1_z => hf q_z q0 (by omega))
    have h2 := hf n_z (by omega) (by omega)
    show 0 ≤ smP f n_z + f n_z ∧ smP f n_z + f n_z ≤ _
    omega
theorem smP_c {f g : Int → Int} : ∀ n_z : Nat, (∀ q_z : Int, 0 ≤ q_z → q_z < n_z → f q_z = g q_z) → smP f n_z = smP g n_z
  | 0, _ => rfl
  | n_z + 1, h_z => by
    show smP f n_z + f n_z = smP g n_z + g n_z
    rw [smP_c n_z (fun q_z q0 q1_z => h_z q_z q0 (by omega)), h_z n_z (by omega) (by omega)]
def mnP (f : Int → Int) : Nat → Int
  | 0 => f 0
  | n_z + 1 => min (mnP f n_z) (f ((n_z : Int) + 1))
theorem mnP_c {f g : Int → Int} : ∀ n_z : Nat, (∀ q_z : Int, 0 ≤ q_z → q_z ≤ n_z → f q_z = g q_z) → mnP f n_z = mnP g n_z
  | 0, h_z => h_z 0 (by omega) (by omega)
  | n_z + 1, h_z => by
    show min (mnP f n_z) (f ((n_z : Int) + 1)) = min (mnP g n_z) (g ((n_z : Int) + 1))
    rw [mnP_c n_z (fun q_z q0 q1_z => h_z q_z q0 (by omega)), h_z ((n_z : Int) + 1) (by omega) (by omega)]
theorem mnP_b {f : Int → Int} {a b : Int} : ∀ n_z : Nat, (∀ q_z : Int, 0 ≤ q_z → q_z ≤ n_z → a ≤ f q_z ∧ f q_z ≤ b) → a ≤ mnP f n_z ∧ mnP f n_z ≤ b
  | 0, h_z => h_z 0 (by omega) (by omega)
  | n_z + 1, h_z => by
    have h1 := mnP_b n_z (fun q_z q0 q1_z => h_z q_z q0 (by omega))
    have h2 := h_z ((n_z : Int) + 1) (by omega) (by omega)
    show a ≤ min (mnP f n_z) (f ((n_z : Int) + 1)) ∧ min (mnP f n_z) (f ((n_z : Int) + 1)) ≤ b
    omega
theorem srt_sum : pm_srt o_X8_sum = true := by decide +kernel
theorem srt_leastPower : pm_srt o_X8_leastPower = true := by decide +kernel
theorem sx_4 {A : pm_A} {c : Int} (hA : gH wX A) (hc : 0 ≤ c ∧ wX.2 c = 2) (hf : cfX A c) : ∀ (m_z t_z : Nat), 200 - t_z < m_z → (t_z : Int) ≤ A c 1 → Tm pmt (an_sh wX) o_X8_sum 4 ([(2, c), (1, smP (A (A c 2)) t_z), (9, 0), (0, (t_z : Int))], [], A) (fun r_z => r_z = (some (1, smP (A (A c 2)) (A c 1).toNat), A)) := by
  have m1_z := fX_2_1 hA hc.1 hc.2
  have n2_z := fX_2_2 hA hc.1 hc.2
  intro m_z
  induction m_z with
  | zero => intro t_z h_z; omega
  | succ m_z ih_z =>
    intro t_z hm_z t1_z
    refine wq_ok srt_sum (fr := []) (cuts := [4]) (J := fun pc st_z => pc = 4 ∧ (t_z : Int) < A c 1 ∧ st_z = ([(2, c), (1, smP (A (A c 2)) t_z + A (A c 2) (t_z : Int)), (9, 0), (0, (t_z : Int) + 1)], [], A)) ?_ 30 4 _ ?_
    · rintro pc st_z ⟨rfl, h1, rfl⟩
      rw [show (t_z : Int) + 1 = ((t_z + 1 : Nat) : Int) by omega]
      exact ih_z (t_z + 1) (by omega) (by omega)
    · refine ⟨oX_2 hc.1 hc.2 1 rfl, ?_⟩
      refine ⟨fun h_z => ?_, fun h_z => ?_⟩
      · have e_z : t_z = (A c 1).toNat := by omega
        exact ⟨rfl, by rw [e_z]⟩
      · have b_z := smP_b (f := A (A c 2)) t_z (by omega) (fun q_z q0 q1_z => hf q_z q0 (by omega))
        have b2 := hf t_z (by omega) h_z
        refine ⟨oX_2 hc.1 hc.2 2 rfl, ?_⟩
        refine ⟨aX_14 n2_z.1 n2_z.2 (by omega) (by omega), ?_⟩
        refine ⟨⟨by omega, by omega⟩, ?_⟩
        refine ⟨⟨by omega, by omega⟩, ?_⟩
        exact ⟨rfl, h_z, rfl⟩
theorem sum_ex {A : pm_A} {c : Int} (hA : gH wX A) (hc : 0 ≤ c ∧ wX.2 c = 2) (hf : cfX A c) : Cl pmt (an_sh wX) 82 [(2, c)] A (fun r_z => r_z = (some (1, smP (A (A c 2)) (A c 1).toNat), A)) := by
  have m1_z := fX_2_1 hA hc.1 hc.2
  refine Cl.of (Nat.le_of_ble_eq_true rfl) ?_
  refine wq_ok (full := o_X8_sum) srt_sum (fr := []) (cuts := [4]) (J := fun pc st_z => pc = 4 ∧ st_z = ([(2, c), (1, 0), (9, 0), (0, 0)], [], A)) ?_ 20 0 _ ?_
  · rintro pc st_z ⟨rfl, rfl⟩
    exact sx_4 hA hc hf _ 0 (Nat.lt_succ_self _) (by omega)
  · exact ⟨rfl, rfl⟩
theorem lx_20 {A : pm_A} {c v : Int} (hA : gH wX A) (hc : 0 ≤ c ∧ wX.2 c = 2) (h0 : 1 ≤ A c 1) (v0 : 0 ≤ v) (v1 : v < A c 0) : ∀ (m_z t_z : Nat), 200 - t_z < m_z → 1 ≤ t_z → (t_z : Int) ≤ A c 1 → Tm pmt (an_sh wX) o_X8_leastPower 20 ([(2, c), (0, v), (0, mnP (fun q_z => A (A c 3) (q_z * A c 0 + v)) (t_z - 1)), (0, (t_z : Int))], [], A) (fun r_z => r_z = (some (0, mnP (fun q_z => A (A c 3) (q_z * A c 0 + v)) ((A c 1).toNat - 1)), A)) := by
  have m1_z := fX_2_1 hA hc.1 hc.2
  have w1_z := fX_2_0 hA hc.1 hc.2
  have n3_z := fX_2_3 hA hc.1 hc.2
  intro m_z
  induction m_z with
  | zero => intro t_z h_z; omega
  | succ m_z ih_z =>
    intro t_z hm_z t0_z t1_z
    have st1_z : mnP (fun q_z => A (A c 3) (q_z * A c 0 + v)) t_z = min (mnP (fun q_z => A (A c 3) (q_z * A c 0 + v)) (t_z - 1)) (A (A c 3) ((t_z : Int) * A c 0 + v)) := by
      obtain ⟨u_z, rfl⟩ : ∃ u_z : Nat, t_z = u_z + 1 := ⟨t_z - 1, by omega⟩
      show min (mnP (fun q_z => A (A c 3) (q_z * A c 0 + v)) u_z) (A (A c 3) (((u_z : Int) + 1) * A c 0 + v)) = _
      rw [show ((u_z + 1 : Nat) : Int) = (u_z : Int) + 1 by omega, show u_z + 1 - 1 = u_z by omega]
    refine wq_ok srt_leastPower (fr := []) (cuts := [20]) (J := fun pc st_z => pc = 20 ∧ (t_z : Int) < A c 1 ∧ st_z = ([(2, c), (0, v), (0, min (mnP (fun q_z => A (A c 3) (q_z * A c 0 + v)) (t_z - 1)) (A (A c 3) ((t_z : Int) * A c 0 + v))), (0, (t_z : Int) + 1)], [], A)) ?_ 40 20 _ ?_
    · rintro pc st_z ⟨rfl, h1, rfl⟩
      rw [← st1_z, show (t_z : Int) + 1 = ((t_z + 1 : Nat) : Int) by omega]
      exact ih_z (t_z + 1) (by omega) (by omega) (by omega)
    · refine ⟨oX_2 hc.1 hc.2 1 rfl, ?_⟩
      refine ⟨fun h_z => ?_, fun h_z => ?_⟩
      · have e_z : t_z = (A c 1).toNat := by omega
        exact ⟨rfl, by rw [e_z]⟩
      · have hm0 : 0 ≤ (t_z : Int) * A c 0 := Int.mul_nonneg (by omega) w1_z.1
        have hm1 : (t_z : Int) * A c 0 ≤ 199 * A c 0 := Int.mul_le_mul_of_nonneg_right (by omega) w1_z.1
        refine ⟨oX_2 hc.1 hc.2 3 rfl, ?_⟩
        refine ⟨oX_2 hc.1 hc.2 0 rfl, ?_⟩
        refine ⟨⟨by omega, by omega⟩, ?_⟩
        refine ⟨⟨by omega, by omega⟩, ?_⟩
        refine ⟨aX_15 n3_z.1 n3_z.2 (by omega) (by omega), ?_⟩
        refine ⟨⟨by omega, by omega⟩, ?_⟩
        exact ⟨rfl, h_z, rfl⟩
theorem leastPower_ex {A : pm_A} {c v : Int} (hA : gH wX A) (hc : 0 ≤ c ∧ wX.2 c = 2) (h0 : 1 ≤ A c 1) (v0 : 0 ≤ v) (v1 : v < A c 0) : Cl pmt (an_sh wX) 81 [(2, c), (0, v)] A (fun r_z => r_z = (some (0, mnP (fun q_z => A (A c 3) (q_z * A c 0 + v)) ((A c 1).toNat - 1)), A)) := by
  have m1_z := fX_2_1 hA hc.1 hc.2
  have w1_z := fX_2_0 hA hc.1 hc.2
  have n3_z := fX_2_3 hA hc.1 hc.2
  refine Cl.of (Nat.le_of_ble_eq_true rfl) ?_
  refine wq_ok (full := o_X8_leastPower) srt_leastPower (fr := []) (cuts := [20]) (J := fun pc st_z => pc = 20 ∧ st_z = ([(2, c), (0, v), (0, A (A c 3) v), (0, 1)], [], A)) ?_ 20 0 _ ?_
  · rintro pc st_z ⟨rfl, rfl⟩
    have h1 := lx_20 hA hc h0 v0 v1 _ 1 (Nat.lt_succ_self _) (by omega) (by omega)
    have e1 : mnP (fun q_z => A (A c 3) (q_z * A c 0 + v)) (1 - 1) = A (A c 3) v := by
      show A (A c 3) (0 * A c 0 + v) = _
      rw [Int.zero_mul, Int.zero_add]
    rw [e1] at h1
    exact h1
  · refine ⟨oX_2 hc.1 hc.2 1 rfl, ?_⟩
    refine ⟨fun h_z => absurd h_z (by omega), fun h_z => ?_⟩
    refine ⟨oX_2 hc.1 hc.2 3 rfl, ?_⟩
    refine ⟨aX_15 n3_z.1 n3_z.2 v0 (by omega), ?_⟩
    exact ⟨rfl, rfl⟩
theorem srt_remember : pm_srt o_X0_remember = true := by decide +kernel
/-- what is told of the letters -/
def toldL (A B : pm_A) (n : Int) : Prop := ∀ l : Int, 0 ≤ l → l < n → B 104 l = A (107 + 3 * l) 1 ∧ B 105 l = smP (A (108 + 3 * l)) (A (107 + 3 * l) 1).toNat ∧ ∀ v_z : Int, 0 ≤ v_z → v_z < A 79 0 + A 79 1 → B 106 (12 * l + v_z) = mnP (fun q_z => A (109 + 3 * l) (q_z * A (107 + 3 * l) 0 + v_z)) ((A (107 + 3 * l) 1).toNat - 1)
def reF (A B : pm_A) : Prop := gH wX B ∧ (∀ r_z j_z : Int, ¬ (r_z = 72 ∧ (j_z = 13 ∨ j_z = 14)) → ¬ (104 ≤ r_z ∧ r_z ≤ 106) → B r_z j_z = A r_z j_z) ∧ B 72 13 = A 72 1 ∧ B 72 14 = A 79 0 + A 79 1
def reP (A : pm_A) (r : pm_R) : Prop := r.1 = none ∧ reF A r.2 ∧ toldL A r.2 (A 72 1)
def reH (A : pm_A) : Prop := gH wX A ∧ AT A ∧ (∀ a_z : Int, 0 ≤ a_z → wX.2 a_z = 2 → A a_z 2 = a_z + 1 ∧ A a_z 3 = a_z + 2) ∧ (∀ l : Int, 0 ≤ l → l < A 72 1 → cfX A (107 + 3 * l) ∧ 1 ≤ A (107 + 3 * l) 1 ∧ A (107 + 3 * l) 0 = A 79 0 + A 79 1) ∧ A 72 1 ≤ 100
theorem g5_13 {B : pm_A} {t : Int} (hB : gH wX B) (t0 : -1 ≤ t) (t1 : t ≤ 100) : gH wX (pm_upd B 72 13 t) := by
  refine gH_upd hB (k := (0, 0, 18, [(2, 22, 0), (0, 0, 100), (2, 23, 0), (2, 24, 0), (2, 25, 0), (2, 26, 0), (2, 26, 0), (0, 0, 150), (2, 1, 0), (2, 27, 0), (1, (-9223372036854775808), 9223372036854775807), (1, (-9223372036854775808), 9223372036854775807), (2, 17, 0), (0, (-1), 100), (0, 0, 12), (2, 19, 0), (2, 28, 0), (2, 29, 0)])) (by rw [kk72]; rfl) (fun _ j_z v_z hj ej => ?_) (fun q_z => by cases q_z)
  have : j_z = 13 := by omega
  subst this
  cases hj
  exact ⟨rfl, t0, t1⟩
theorem g5_14 {B : pm_A} {t : Int} (hB : gH wX B) (t0 : 0 ≤ t) (t1 : t ≤ 12) : gH wX (pm_upd B 72 14 t) := by
  refine gH_upd hB (k := (0, 0, 18, [(2, 22, 0), (0, 0, 100), (2, 23, 0), (2, 24, 0), (2, 25, 0), (2, 26, 0), (2, 26, 0), (0, 0, 150), (2, 1, 0), (2, 27, 0), (1, (-9223372036854775808), 9223372036854775807), (1, (-9223372036854775808), 9223372036854775807), (2, 17, 0), (0, (-1), 100), (0, 0, 12), (2, 19, 0), (2, 28, 0), (2, 29, 0)])) (by rw [kk72]; rfl) (fun _ j_z v_z hj ej => ?_) (fun q_z => by cases q_z)
  have : j_z = 14 := by omega
  subst this
  cases hj
  exact ⟨rfl, t0, t1⟩
theorem rk104 : wX.2 104 = 19 ∧ wX.2 105 = 28 ∧ wX.2 106 = 29 := by decide
theorem re_69 {A : pm_A} {l : Int} (hH : reH A) (l0 : 0 ≤ l) (l1 : l < A 72 1) (H : ∀ (B_z : pm_A) (v_z : pm_V), reF A B_z → toldL A B_z (l + 1) → Tm pmt (an_sh wX) o_X0_remember 104 ([(2, 72), (0, l), v_z], [], B_z) (reP A)) : ∀ (m_z : Nat) (v_z : Int) (B_z : pm_A), (12 - v_z).toNat < m_z → 0 ≤ v_z → v_z ≤ A 79 0 + A 79 1 → reF A B_z → toldL A B_z l → (B_z 104 l = A (107 + 3 * l) 1 ∧ B_z 105 l = smP (A (108 + 3 * l)) (A (107 + 3 * l) 1).toNat) → (∀ w_z : Int, 0 ≤ w_z → w_z < v_z → B_z 106 (12 * l + w_z) = mnP (fun q_z => A (109 + 3 * l) (q_z * A (107 + 3 * l) 0 + w_z)) ((A (107 + 3 * l) 1).toNat - 1)) → Tm pmt (an_sh wX) o_X0_remember 69 ([(2, 72), (0, l), (0, v_z)], [], B_z) (reP A) := by
  obtain ⟨hA, hT_z, hsh, hlt, h100⟩ := hH
  have p6_z := fX_1_0 hA z79 kk79
  have q6_z := fX_1_1 hA z79 kk79
  have hk : 0 ≤ 107 + 3 * l ∧ wX.2 (107 + 3 * l) = 2 := ⟨by omega, kkLt l0 (by omega)⟩
  have hs := hsh _ hk.1 hk.2
  have hl := hlt l l0 l1
  intro m_z
  induction m_z with
  | zero => intro v_z B_z h_z; omega
  | succ m_z ih_z =>
    intro v_z B_z hm_z v0_z v1_z hF ht h45 hd_z
    have b72 : ∀ j_z : Int, ¬ j_z = 13 → ¬ j_z = 14 → B_z 72 j_z = A 72 j_z := fun j_z h1 h2 => hF.2.1 72 j_z (by omega) (by omega)
    have e14_z := hF.2.2.2
    have a0_z : B_z 72 0 = 73 := by rw [b72 0 (by omega) (by omega)]; exact hT_z.1.1
    have a17 : B_z 72 17 = 106 := by rw [b72 17 (by omega) (by omega)]; exact hT_z.2.1.2.2
    have eL : B_z 73 l = 107 + 3 * l := by rw [hF.2.1 73 l (by omega) (by omega)]; exact hT_z.2.2.2 l l0 (by omega)
    have bs : ∀ j_z : Int, B_z (107 + 3 * l) j_z = A (107 + 3 * l) j_z := fun j_z => hF.2.1 _ j_z (by omega) (by omega)
    have b9 : B_z (109 + 3 * l) = A (109 + 3 * l) := funext fun j_z => hF.2.1 _ j_z (by omega) (by omega)
    refine wq_ok srt_remember (fr := []) (cuts := [97, 104]) (J := fun pc st_z => (pc = 104 ∧ v_z = A 79 0 + A 79 1 ∧ st_z = ([(2, 72), (0, l), (0, v_z)], [], B_z)) ∨ (pc = 97 ∧ v_z < A 79 0 + A 79 1 ∧ st_z = ([(2, 72), (0, l), (0, v_z)], [(0, mnP (fun q_z => A (109 + 3 * l) (q_z * A (107 + 3 * l) 0 + v_z)) ((A (107 + 3 * l) 1).toNat - 1)), (0, l * 12 + v_z), (2, 106)], B_z))) ?_ 40 69 _ ?_
    · rintro pc st_z (⟨rfl, hv, rfl⟩ | ⟨rfl, hv, rfl⟩)
      · refine H B_z _ hF (fun a_z a0_z a1_z => ?_)
        by_cases e_z : a_z = l
        · rw [e_z]; exact ⟨h45.1, h45.2, fun w_z w0_z w1_z => hd_z w_z w0_z (by omega)⟩
        · exact ht a_z a0_z (by omega)
      · have hmn : -2147483648 ≤ mnP (fun q_z => A (109 + 3 * l) (q_z * A (107 + 3 * l) 0 + v_z)) ((A (107 + 3 * l) 1).toNat - 1) ∧ mnP (fun q_z => A (109 + 3 * l) (q_z * A (107 + 3 * l) 0 + v_z)) ((A (107 + 3 * l) 1).toNat - 1) ≤ 2147483647 := by
          have m1_z := fX_2_1 hA hk.1 hk.2
          have n3_z := fX_2_3 hA hk.1 hk.2
          rw [hs.2, show 107 + 3 * l + 2 = 109 + 3 * l by omega] at n3_z
          have w1_z := fX_2_0 hA hk.1 hk.2
          refine mnP_b _ (fun q_z q0 q1_z => ?_)
          have hm0 : 0 ≤ q_z * A (107 + 3 * l) 0 := Int.mul_nonneg q0 w1_z.1
          have hm1 : q_z * A (107 + 3 * l) 0 ≤ 199 * A (107 + 3 * l) 0 := Int.mul_le_mul_of_nonneg_right (by omega) w1_z.1
          exact eX_15 hA n3_z.1 n3_z.2 (j := q_z * A (107 + 3 * l) 0 + v_z) (by omega) (by omega)
        generalize hy : mnP (fun q_z => A (109 + 3 * l) (q_z * A (107 + 3 * l) 0 + v_z)) ((A (107 + 3 * l) 1).toNat - 1) = y_z at hmn
        refine wq_ok srt_remember (fr := []) (cuts := [69]) (J := fun pc st_z => pc = 69 ∧ st_z = ([(2, 72), (0, l), (0, v_z + 1)], [], pm_upd B_z 106 (l * 12 + v_z) y_z)) ?_ 40 97 _ ?_
        · rintro pc st_z ⟨rfl, rfl⟩
          rw [show l * 12 + v_z = 12 * l + v_z by omega]
          refine ih_z (v_z + 1) _ (by omega) (by omega) (by omega) ⟨uX_29 hF.1 rk104.2.2 hmn.1 hmn.2, fun r_z j_z h1 h2 => by rw [upd_ne (by omega)]; exact hF.2.1 r_z j_z h1 h2, by rw [upd_ne (by omega)]; exact hF.2.2.1, by rw [upd_ne (by omega)]; exact hF.2.2.2⟩ (fun a_z a0_z a1_z => ?_) (by rw [upd_ne (by omega), upd_ne (by omega)]; exact h45) (fun w_z w0_z w1_z => ?_)
          · rw [upd_ne (by omega), upd_ne (by omega)]
            have h5 := ht a_z a0_z a1_z
            refine ⟨h5.1, h5.2.1, fun w_z w0_z w1_z => ?_⟩
            rw [upd_n2 (by omega)]
            exact h5.2.2 w_z w0_z w1_z
          · by_cases e_z : w_z = v_z
            · rw [e_z, upd_at]; exact hy.symm
            · rw [upd_n2 (by omega)]; exact hd_z w_z w0_z (by omega)
        · refine ⟨tX_29 (r := 106) (by omega) rk104.2.2 (by omega) (by omega) rfl, ?_⟩
          refine ⟨⟨by omega, by omega⟩, ?_⟩
          exact ⟨rfl, rfl⟩
    · refine ⟨oX_5 z72 kk72 14 rfl, ?_⟩
      refine ⟨fun h_z => ?_, fun h_z => ?_⟩
      · rw [e14_z] at h_z
        exact Or.inl ⟨rfl, by omega, rfl⟩
      · rw [e14_z] at h_z
        refine ⟨oX_5 z72 kk72 17 rfl, ?_⟩
        refine ⟨⟨by omega, by omega⟩, ?_⟩
        refine ⟨⟨by omega, by omega⟩, ?_⟩
        refine ⟨oX_5 z72 kk72 0 rfl, ?_⟩
        refine ⟨aX_22 (r := B_z 72 0) (by rw [a0_z]; omega) (by rw [a0_z]; exact kk73) l0 (by omega), ?_⟩
        refine ⟨rX_2 (r := B_z (B_z 72 0) l) (by rw [a0_z, eL]; exact hk.1) (by rw [a0_z, eL]; exact hk.2), ?_⟩
        show Cl pmt (an_sh wX) 81 [(2, B_z (B_z 72 0) l), (0, v_z)] B_z _
        rw [a0_z, eL]
        refine (leastPower_ex (A := B_z) (c := 107 + 3 * l) (v := v_z) hF.1 hk (by rw [bs 1]; exact hl.2.1) v0_z (by rw [bs 0, hl.2.2]; exact h_z)).imp ?_
        rintro r_z rfl
        refine Or.inr ⟨rfl, h_z, ?_⟩
        rw [bs 3, hs.2, show 107 + 3 * l + 2 = 109 + 3 * l by omega, b9, bs 0, bs 1, a17]
        rfl
theorem re_29 {A : pm_A} (hH : reH A) : ∀ (m_z : Nat) (l : Int) (v_z : pm_V) (B_z : pm_A), (100 - l).toNat < m_z → 0 ≤ l → l ≤ A 72 1 → reF A B_z → toldL A B_z l → Tm pmt (an_sh wX) o_X0_remember 29 ([(2, 72), (0, l), v_z], [], B_z) (reP A) := by
  have hH0 := hH
  obtain ⟨hA, hT_z, hsh, hlt, h100⟩ := hH
  have p6_z := fX_1_0 hA z79 kk79
  have q6_z := fX_1_1 hA z79 kk79
  intro m_z
  induction m_z with
  | zero => intro l v_z B_z h_z; omega
  | succ m_z ih_z =>
    intro l v_z B_z hm_z l0 l1 hF ht
    have b72 : ∀ j_z : Int, ¬ j_z = 13 → ¬ j_z = 14 → B_z 72 j_z = A 72 j_z := fun j_z h1 h2 => hF.2.1 72 j_z (by omega) (by omega)
    have a0_z : B_z 72 0 = 73 := by rw [b72 0 (by omega) (by omega)]; exact hT_z.1.1
    have a15 : B_z 72 15 = 104 := by rw [b72 15 (by omega) (by omega)]; exact hT_z.2.1.1
    have a16 : B_z 72 16 = 105 := by rw [b72 16 (by omega) (by omega)]; exact hT_z.2.1.2.1
    have e1 : B_z 72 1 = A 72 1 := b72 1 (by omega) (by omega)
    refine wq_ok srt_remember (fr := []) (cuts := [52]) (J := fun pc st_z => pc = 52 ∧ l < A 72 1 ∧ st_z = ([(2, 72), (0, l), v_z], [], pm_upd B_z (B_z 72 15) l (B_z (B_z (B_z 72 0) l) 1))) ?_ 40 29 _ ?_
    · rintro pc st_z ⟨rfl, hl, rfl⟩
      have hk : 0 ≤ 107 + 3 * l ∧ wX.2 (107 + 3 * l) = 2 := ⟨by omega, kkLt l0 (by omega)⟩
      have hs := hsh _ hk.1 hk.2
      have hlt2 := hlt l l0 hl
      have eL : B_z 73 l = 107 + 3 * l := by rw [hF.2.1 73 l (by omega) (by omega)]; exact hT_z.2.2.2 l l0 (by omega)
      have bs : ∀ j_z : Int, B_z (107 + 3 * l) j_z = A (107 + 3 * l) j_z := fun j_z => hF.2.1 _ j_z (by omega) (by omega)
      have m1_z := fX_2_1 hA hk.1 hk.2
      rw [a15, a0_z, eL, bs 1]
      have hC : gH wX (pm_upd B_z 104 l (A (107 + 3 * l) 1)) := uX_19 hF.1 rk104.1 (by omega) (by omega)
      have c1_z : ∀ r_z j_z : Int, ¬ r_z = 104 → pm_upd B_z 104 l (A (107 + 3 * l) 1) r_z j_z = B_z r_z j_z := fun r_z j_z hr => upd_ne hr
      have c2_z : pm_upd B_z 104 l (A (107 + 3 * l) 1) 104 l = A (107 + 3 * l) 1 := upd_at
      have c3_z : ∀ j_z : Int, ¬ j_z = l → pm_upd B_z 104 l (A (107 + 3 * l) 1) 104 j_z = B_z 104 j_z := fun j_z hj => upd_n2 hj
      generalize pm_upd B_z 104 l (A (107 + 3 * l) 1) = C_z at hC c1_z c2_z c3_z
      have d0_z : C_z 72 0 = 73 := by rw [c1_z 72 0 (by omega)]; exact a0_z
      have d16_z : C_z 72 16 = 105 := by rw [c1_z 72 16 (by omega)]; exact a16
      have dL_z : C_z 73 l = 107 + 3 * l := by rw [c1_z 73 l (by omega)]; exact eL
      have cs : ∀ j_z : Int, C_z (107 + 3 * l) j_z = A (107 + 3 * l) j_z := fun j_z => (c1_z _ j_z (by omega)).trans (bs j_z)
      have c8_z : C_z (108 + 3 * l) = A (108 + 3 * l) := funext fun j_z => (c1_z _ j_z (by omega)).trans (hF.2.1 _ j_z (by omega) (by omega))
      have hcf : cfX C_z (107 + 3 * l) := fun q_z q0 q1_z => by
        rw [cs 1] at q1_z
        rw [cs 2, hs.1, show 107 + 3 * l + 1 = 108 + 3 * l by omega, c8_z]
        have h5 := hlt2.1 q_z q0 q1_z
        rw [hs.1, show 107 + 3 * l + 1 = 108 + 3 * l by omega] at h5
        exact h5
      have hb_z := smP_b (f := A (108 + 3 * l)) (A (107 + 3 * l) 1).toNat (by omega) (fun q_z q0 q1_z => by
        have h5 := hlt2.1 q_z q0 (by omega)
        rw [hs.1, show 107 + 3 * l + 1 = 108 + 3 * l by omega] at h5
        exact h5)
      refine wq_ok srt_remember (fr := []) (cuts := [69]) (J := fun pc st_z => pc = 69 ∧ st_z = ([(2, 72), (0, l), (0, 0)], [], pm_upd C_z 105 l (smP (A (108 + 3 * l)) (A (107 + 3 * l) 1).toNat))) ?_ 40 52 _ ?_
      · rintro pc st_z ⟨rfl, rfl⟩
        refine re_69 hH0 l0 hl (fun D_z w_z hD htD => ?_) _ 0 _ (Nat.lt_succ_self _) (by omega) (by omega) ⟨uX_28 hC rk104.2.1 (by omega) (by omega), fun r_z j_z h1 h2 => by rw [upd_ne (by omega), c1_z r_z j_z (by omega)]; exact hF.2.1 r_z j_z h1 h2, by rw [upd_ne (by omega), c1_z 72 13 (by omega)]; exact hF.2.2.1, by rw [upd_ne (by omega), c1_z 72 14 (by omega)]; exact hF.2.2.2⟩ (fun a_z a0_z a1_z => ?_) ⟨by rw [upd_ne (by omega)]; exact c2_z, upd_at⟩ (fun w_z w0_z w1_z => by omega)
        · refine wq_ok srt_remember (fr := []) (cuts := [29]) (J := fun pc st_z => pc = 29 ∧ st_z = ([(2, 72), (0, l + 1), w_z], [], D_z)) ?_ 40 104 _ ?_
          · rintro pc st_z ⟨rfl, rfl⟩
            exact ih_z (l + 1) w_z D_z (by omega) (by omega) (by omega) hD htD
          · refine ⟨⟨by omega, by omega⟩, ?_⟩
            exact ⟨rfl, rfl⟩
        · have h5 := ht a_z a0_z a1_z
          rw [upd_ne (by omega), c3_z a_z (by omega), upd_n2 (by omega), c1_z 105 a_z (by omega)]
          refine ⟨h5.1, h5.2.1, fun w_z w0_z w1_z => ?_⟩
          rw [upd_ne (by omega), c1_z 106 _ (by omega)]
          exact h5.2.2 w_z w0_z w1_z
      · refine ⟨oX_5 z72 kk72 16 rfl, ?_⟩
        refine ⟨oX_5 z72 kk72 0 rfl, ?_⟩
        refine ⟨aX_22 (r := C_z 72 0) (by rw [d0_z]; omega) (by rw [d0_z]; exact kk73) l0 (by omega), ?_⟩
        refine ⟨rX_2 (r := C_z (C_z 72 0) l) (by rw [d0_z, dL_z]; exact hk.1) (by rw [d0_z, dL_z]; exact hk.2), ?_⟩
        show Cl pmt (an_sh wX) 82 [(2, C_z (C_z 72 0) l)] C_z _
        rw [d0_z, dL_z, d16_z]
        refine (sum_ex hC hk hcf).imp ?_
        rintro r_z rfl
        rw [cs 1, cs 2, hs.1, show 107 + 3 * l + 1 = 108 + 3 * l by omega, c8_z]
        refine ⟨tX_28 (r := 105) (by omega) rk104.2.1 l0 (by omega) rfl, ?_⟩
        exact ⟨rfl, rfl⟩
    · refine ⟨oX_5 z72 kk72 1 rfl, ?_⟩
      refine ⟨fun h_z => ?_, fun h_z => ?_⟩
      · rw [e1] at h_z
        have e_z : l = A 72 1 := by omega
        rw [e_z] at ht
        exact ⟨rfl, hF, ht⟩
      · rw [e1] at h_z
        have hk : 0 ≤ 107 + 3 * l ∧ wX.2 (107 + 3 * l) = 2 := ⟨by omega, kkLt l0 (by omega)⟩
        have eL : B_z 73 l = 107 + 3 * l := by rw [hF.2.1 73 l (by omega) (by omega)]; exact hT_z.2.2.2 l l0 (by omega)
        refine ⟨oX_5 z72 kk72 15 rfl, ?_⟩
        refine ⟨oX_5 z72 kk72 0 rfl, ?_⟩
        refine ⟨aX_22 (r := B_z 72 0) (by rw [a0_z]; omega) (by rw [a0_z]; exact kk73) l0 (by omega), ?_⟩
        refine ⟨oX_2 (r := B_z (B_z 72 0) l) (by rw [a0_z, eL]; exact hk.1) (by rw [a0_z, eL]; exact hk.2) 1 rfl, ?_⟩
        refine ⟨tX_19 (r := B_z 72 15) (by rw [a15]; omega) (by rw [a15]; exact rk104.1) l0 (by omega) rfl, ?_⟩
        exact ⟨rfl, h_z, rfl⟩
theorem remember_ex {A : pm_A} (hH : reH A) : Cl pmt (an_sh wX) 12 [(2, 72)] A (reP A) := by
  have hA := hH.1
  have hT_z := hH.2.1
  have f1_z := fX_5_1 hA z72 kk72
  have p6_z := fX_1_0 hA z79 kk79
  have q6_z := fX_1_1 hA z79 kk79
  have a8 := hT_z.1.2.2.2.2.2.2.1
  have h1 := g5_13 hA (t := A 72 1) (by omega) (by omega)
  have h2 := g5_14 h1 (t := A 79 0 + A 79 1) (by omega) (by omega)
  refine Cl.of (Nat.le_of_ble_eq_true rfl) ?_
  refine wq_ok (full := o_X0_remember) srt_remember (fr := []) (cuts := [8]) (J := fun pc st_z => pc = 8 ∧ ∃ v1_z v2, st_z = ([(2, 72), v1_z, v2], [], pm_upd A 72 13 (A 72 1))) ?_ 30 0 _ ?_
  · rintro pc st_z ⟨rfl, v1_z, v2, rfl⟩
    have c1_z : ∀ r_z j_z : Int, ¬ (r_z = 72 ∧ j_z = 13) → pm_upd A 72 13 (A 72 1) r_z j_z = A r_z j_z := fun r_z j_z hr => by
      by_cases e_z : r_z = 72
      · rw [e_z, upd_n2 (by omega)]
      · exact upd_ne e_z
    have c2_z : pm_upd A 72 13 (A 72 1) 72 13 = A 72 1 := upd_at
    generalize pm_upd A 72 13 (A 72 1) = C_z at h1 h2 c1_z c2_z
    have d8_z : C_z 72 8 = 79 := by rw [c1_z 72 8 (by omega)]; exact a8
    have e0_z : C_z 79 0 = A 79 0 := c1_z 79 0 (by omega)
    have e1 : C_z 79 1 = A 79 1 := c1_z 79 1 (by omega)
    refine wq_ok srt_remember (fr := []) (cuts := [29]) (J := fun pc st_z => pc = 29 ∧ st_z = ([(2, 72), (0, 0), v2], [], pm_upd C_z 72 14 (C_z (C_z 72 8) 0 + C_z (C_z 72 8) 1))) ?_ 30 8 _ ?_
    · rintro pc st_z ⟨rfl, rfl⟩
      rw [d8_z, e0_z, e1]
      refine re_29 hH _ 0 v2 _ (Nat.lt_succ_self _) (by omega) f1_z.1 ⟨h2, fun r_z j_z n1_z n2_z => ?_, ?_, upd_at⟩ (fun l l0 l1 => by omega)
      · by_cases e_z : r_z = 72
        · rw [e_z] at n1_z ⊢
          rw [upd_n2 (by omega)]; exact c1_z 72 j_z (by omega)
        · rw [upd_ne e_z]; exact c1_z r_z j_z (by omega)
      · rw [upd_n2 (by omega)]; exact c2_z
    · refine ⟨oX_5 z72 kk72 8 rfl, ?_⟩
      refine ⟨oX_1 (r := C_z 72 8) (by rw [d8_z]; omega) (by rw [d8_z]; exact kk79) 0 rfl, ?_⟩
      refine ⟨oX_5 z72 kk72 8 rfl, ?_⟩
      refine ⟨oX_1 (r := C_z 72 8) (by rw [d8_z]; omega) (by rw [d8_z]; exact kk79) 1 rfl, ?_⟩
      refine ⟨⟨by rw [d8_z]; omega, by rw [d8_z]; omega⟩, ?_⟩
      refine ⟨oX_5 z72 kk72 14 rfl, ?_⟩
      exact ⟨rfl, rfl⟩
  · refine ⟨oX_5 z72 kk72 1 rfl, ?_⟩
    refine ⟨oX_5 z72 kk72 13 rfl, ?_⟩
    exact ⟨rfl, _, _, rfl⟩
