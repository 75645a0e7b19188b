/-! sizes, exactly: the reference -/
def sy (p : Int) (T d : Int → Int) : Prop := (∀ i_z : Int, 0 ≤ i_z → i_z < p → 1 ≤ d i_z) ∧ ∀ i_z j_z : Int, 0 ≤ i_z → i_z < p → 0 ≤ j_z → j_z < p → d i_z * T (6 * i_z + j_z) = -(d j_z * T (6 * j_z + i_z))
def avx (x : Int) : Int := if x < 0 then -x else x
theorem avx_n (x : Int) : avx x = (x.natAbs : Int) := by unfold avx; split <;> omega
theorem sy_av {p : Int} {T d : Int → Int} (h : sy p T d) {i j : Int} (i0 : 0 ≤ i) (i1 : i < p) (j0 : 0 ≤ j) (j1 : j < p) : d i * avx (T (6 * i + j)) = d j * avx (T (6 * j + i)) := by
  have a_z := h.1 i i0 i1
  have b_z := h.1 j j0 j1
  have e_z := congrArg Int.natAbs (h.2 i j i0 i1 j0 j1)
  rw [Int.natAbs_neg, Int.natAbs_mul, Int.natAbs_mul] at e_z
  rw [avx_n, avx_n, show d i = ((d i).natAbs : Int) by omega, show d j = ((d j).natAbs : Int) by omega]
  rw [← Int.natCast_mul, ← Int.natCast_mul]
  exact congrArg _ e_z
theorem dvd_kg {z k x y : Int} (h1 : z ∣ k * x) (h2 : z ∣ k * y) : z ∣ k * (Int.gcd x y : Int) := by
  have h_z := Int.dvd_coe_gcd h1 h2
  rw [Int.gcd_mul_left, Int.natCast_mul] at h_z
  rcases Int.natAbs_eq k with e_z | e_z
  · rw [e_z]; exact h_z
  · rw [e_z, Int.neg_mul]; exact Int.dvd_neg.mpr h_z
def gy (A : pm_A) (r : Int) (B : pm_A) : Prop := B 11 r = 1 ∧ ∀ i_z : Int, 0 ≤ i_z → i_z < A 0 12 → (B 11 i_z = 0 ∧ B 9 i_z = A 9 i_z ∧ B 8 i_z = A 8 i_z) ∨ (B 11 i_z = 1 ∧ (i_z = r ∨ A 9 i_z = 0))
def gx (A : pm_A) (r : Int) (B : pm_A) : Prop := gy A r B ∧ ∀ d_z, sy (A 0 12) (A 7) d_z → ∀ i_z : Int, 0 ≤ i_z → i_z < A 0 12 → B 11 i_z = 1 → d_z i_z * B 9 i_z = d_z r * B 8 i_z
def clz (A B : pm_A) (i j : Int) : Prop := B 11 i = 1 → ¬ A 7 (6 * i + j) = 0 → ¬ B 9 j = 0
def GJ (A : pm_A) (r : Int) (B : pm_A) : Prop := GI A B ∧ gx A r B
theorem gx.put {A B C : pm_A} {r i j g u v t t' : Int} (h : gx A r B) (i0 : 0 ≤ i) (i1 : i < A 0 12) (hi : B 11 i = 1) (hj : B 9 j = 0) (hu : B 8 i * t = g * u) (hv : B 9 i * t' = g * v) (g1 : 1 ≤ g) (hd : ∀ d_z, sy (A 0 12) (A 7) d_z → d_z i * t = d_z j * t') (e8 : ∀ k_z, k_z ≠ j → C 8 k_z = B 8 k_z) (e9 : ∀ k_z, k_z ≠ j → C 9 k_z = B 9 k_z) (e11 : ∀ k_z, k_z ≠ j → C 11 k_z = B 11 k_z) (f8 : C 8 j = u) (f9 : C 9 j = v) (f11 : C 11 j = 1) : gx A r C := by
  refine ⟨⟨?_, fun k_z k0_z k1_z => ?_⟩, fun d_z sd_z k_z k0_z k1_z hk => ?_⟩
  · by_cases e_z : r = j
    · rw [e_z]; exact f11
    · rw [e11 r e_z]; exact h.1.1
  · by_cases e_z : k_z = j
    · refine Or.inr ⟨by rw [e_z]; exact f11, ?_⟩
      rcases h.1.2 k_z k0_z k1_z with ⟨_, q2_z, _⟩ | ⟨_, q2_z⟩
      · exact Or.inr (by rw [← q2_z, e_z]; exact hj)
      · exact q2_z
    · rw [e11 k_z e_z, e9 k_z e_z, e8 k_z e_z]; exact h.1.2 k_z k0_z k1_z
  · by_cases e_z : k_z = j
    · have q1_z := hd d_z sd_z
      have q2_z := h.2 d_z sd_z i i0 i1 hi
      rw [e_z, f9, f8]
      have e_z : g * (d_z j * v) = g * (d_z r * u) := by
        calc g * (d_z j * v) = d_z j * (g * v) := by rw [← Int.mul_assoc, Int.mul_comm g (d_z j), Int.mul_assoc]
          _ = d_z j * (B 9 i * t') := by rw [hv]
          _ = (d_z j * t') * B 9 i := by rw [Int.mul_comm (B 9 i) t', Int.mul_assoc]
          _ = (d_z i * t) * B 9 i := by rw [q1_z]
          _ = (d_z i * B 9 i) * t := by rw [Int.mul_right_comm]
          _ = (d_z r * B 8 i) * t := by rw [q2_z]
          _ = d_z r * (B 8 i * t) := by rw [Int.mul_assoc]
          _ = d_z r * (g * u) := by rw [hu]
          _ = g * (d_z r * u) := by rw [← Int.mul_assoc, Int.mul_comm (d_z r) g, Int.mul_assoc]
      exact Int.eq_of_mul_eq_mul_left (by omega) e_z
    · rw [e11 k_z e_z] at hk
      rw [e9 k_z e_z, e8 k_z e_z]; exact h.2 d_z sd_z k_z k0_z k1_z hk
def gq_post (A : pm_A) (rr : Int) (r : pm_R) : Prop := gp_post A r ∧ gy A rr r.2 ∧ (∀ a_z b_z : Int, 0 ≤ a_z → a_z < A 0 12 → 0 ≤ b_z → b_z < A 0 12 → clz A r.2 a_z b_z) ∧ ∀ d_z, sy (A 0 12) (A 7) d_z → ∃ c_z, ∀ i_z : Int, 0 ≤ i_z → i_z < A 0 12 → r.2 11 i_z = 1 → d_z i_z = c_z * r.2 8 i_z
def gQ (A B : pm_A) (u L G : Int) : Prop := ∀ d_z, sy (A 0 12) (A 7) d_z → ∃ c_z, (∀ i_z : Int, 0 ≤ i_z → i_z < u → i_z < A 0 12 → B 11 i_z = 1 → d_z i_z = c_z * B 8 i_z) ∧ ∀ i_z m_z x_z : Int, u ≤ i_z → i_z < A 0 12 → B 11 i_z = 1 → L = B 9 i_z * m_z → B 8 i_z * m_z = G * x_z → d_z i_z = c_z * x_z
def gC (A B : pm_A) : Prop := ∀ a_z b_z : Int, 0 ≤ a_z → a_z < A 0 12 → 0 ≤ b_z → b_z < A 0 12 → clz A B a_z b_z
theorem gq_317 {A : pm_A} {L G rr : Int} {w1 w2 w8 w9 w10 : pm_V} (hLG : (1 ≤ L ∧ L ≤ 531441) ∧ 0 ≤ G ∧ G ≤ 531441) (p6 : A 0 12 ≤ 6) : ∀ (m_z : Nat) (u_z : Int) (B_z : pm_A), (6 - u_z).toNat < m_z → 0 ≤ u_z → u_z ≤ 6 → gpF A B_z → kpz A B_z → gy A rr B_z → gC A B_z → gQ A B_z u_z L G → (∀ i_z : Int, 0 ≤ i_z → i_z ≤ 5 → ((i_z < u_z ∨ B_z 11 i_z = 0) ∧ Zs (A 0 12) B_z i_z) ∨ (u_z ≤ i_z ∧ i_z < A 0 12 ∧ B_z 11 i_z = 1 ∧ gfin B_z L G i_z)) → Tm pmt (an_sh wM) o_X10_group 317 ([(2, 0), w1, w2, (1, L), (9, 0), (1, G), (9, 0), (0, u_z), w8, w9, w10], [], B_z) (gq_post A rr) := by
  intro m_z
  induction m_z with
  | zero => intro u_z B_z h_z; omega
  | succ m_z ih_z =>
    intro u_z B_z hm_z u0 u1_z hF hk hy hcl hq hI
    have e12_z : B_z 0 12 = A 0 12 := hF.2 0 12 (by omega) (by omega) (by omega)
    have c15_z := pM_15 hF.1
    have c16 := pM_16 hF.1
    have c18_z := pM_18 hF.1
    have hfin : A 0 12 ≤ u_z → gq_post A rr (none, B_z) := fun hu => ⟨⟨rfl, hF, fun i_z i0_z i1_z => by
      rcases hI i_z i0_z i1_z with h_z | h_z
      · exact h_z.2
      · omega, hk⟩, hy, hcl, fun d_z sd_z => by
      obtain ⟨c_z, hc_z, _⟩ := hq d_z sd_z
      exact ⟨c_z, fun i_z i0_z i1_z h_z => hc_z i_z i0_z (by omega) i1_z h_z⟩⟩
    have h366 : ∀ (x_z mm : Int) (C_z : pm_A), B_z 11 u_z = 1 → L = B_z 9 u_z * mm → B_z 8 u_z * mm = G * x_z → 1 ≤ x_z → x_z ≤ 531441 → u_z < A 0 12 → C_z = pm_upd B_z 8 u_z x_z → Tm pmt (an_sh wM) o_X10_group 366 ([(2, 0), w1, w2, (1, L), (9, 0), (1, G), (9, 0), (0, u_z), w8, w9, w10], [], C_z) (gq_post A rr) := fun x_z mm C_z hu1 hm1 hm2 x1_z x2_z hu hC => by
      have hFC : gpF A C_z := by rw [hC]; exact hF.u8 (by omega) (by omega)
      have c16 := pM_16 hFC.1
      refine wq_ok srt_Mgroup (fr := []) (cuts := [317]) (J := fun pc st_z => (pc = 317 ∧ st_z = ([(2, 0), w1, w2, (1, L), (9, 0), (1, G), (9, 0), (0, u_z + 1), w8, w9, w10], [], pm_upd C_z (C_z 0 16) u_z 1))) ?_ 12 366 _ ?_
      · rintro pc st_z (⟨rfl, rfl⟩)
        rw [c16]
        have o9 : ∀ k_z, k_z ≠ u_z → pm_upd C_z 9 u_z 1 9 k_z = B_z 9 k_z := fun k_z hk => by rw [upd_o (by omega), hC, upd_o (by omega)]
        have o8_z : ∀ k_z, k_z ≠ u_z → pm_upd C_z 9 u_z 1 8 k_z = B_z 8 k_z := fun k_z hk => by rw [upd_o (by omega), hC, upd_o (by omega)]
        have o11 : ∀ k_z, pm_upd C_z 9 u_z 1 11 k_z = B_z 11 k_z := fun k_z => by rw [upd_o (by omega), hC, upd_o (by omega)]
        have hy2 : gy A rr (pm_upd C_z 9 u_z 1) := ⟨by rw [o11]; exact hy.1, fun k_z k0_z k1_z => by
          by_cases e_z : k_z = u_z
          · rcases hy.2 k_z k0_z k1_z with ⟨q1_z, _⟩ | q_z
            · rw [e_z] at q1_z; omega
            · rw [o11]; exact Or.inr q_z
          · rw [o11, o9 k_z e_z, o8_z k_z e_z]; exact hy.2 k_z k0_z k1_z⟩
        have hc2 : gC A (pm_upd C_z 9 u_z 1) := fun a_z b_z a0_z a1_z b0 b1 => by
          unfold clz
          rw [o11]
          by_cases e_z : b_z = u_z
          · rw [e_z, upd_at]; exact fun _ _ => by omega
          · rw [o9 b_z e_z]; exact hcl a_z b_z a0_z a1_z b0 b1
        have hq2 : gQ A (pm_upd C_z 9 u_z 1) (u_z + 1) L G := fun d_z sd_z => by
          obtain ⟨c_z, hc_z, hd_z⟩ := hq d_z sd_z
          refine ⟨c_z, fun k_z k0_z k1_z k2_z h_z => ?_, fun k_z m_z x' k0_z k1_z h_z => ?_⟩
          · rw [o11] at h_z
            by_cases e_z : k_z = u_z
            · rw [e_z, upd_o (by omega), hC, upd_at]
              rw [e_z] at k2_z
              exact hd_z u_z mm x_z (by omega) k2_z hu1 hm1 hm2
            · rw [o8_z k_z e_z]; exact hc_z k_z k0_z (by omega) k2_z h_z
          · rw [o11] at h_z
            rw [o9 k_z (by omega), o8_z k_z (by omega)]
            exact hd_z k_z m_z x' (by omega) k1_z h_z
        refine ih_z (u_z + 1) _ (by omega) (by omega) (by omega) (hFC.u9 (by omega) (by omega)) (fun k_z hk1 => ?_) hy2 hc2 hq2 (fun k_z k0_z k1_z => ?_)
        · by_cases e_z : k_z = u_z
          · rw [e_z, upd_at]; omega
          · rw [o9 k_z e_z]; exact hk k_z hk1
        · by_cases e_z : k_z = u_z
          · refine Or.inl ⟨Or.inl (by omega), Or.inr (Or.inr ⟨by rw [e_z, upd_at], ?_⟩)⟩
            rw [e_z, upd_o (by omega), hC, upd_at]; omega
          · unfold Zs gfin
            rw [o9 k_z e_z, o8_z k_z e_z, o11]
            rcases hI k_z k0_z k1_z with ⟨h1, h2⟩ | ⟨h1, h2, h3, h4⟩
            · exact Or.inl ⟨by omega, h2⟩
            · exact Or.inr ⟨by omega, h2, h3, h4⟩
      · refine ⟨oM_0 (by omega) km0 16 rfl, ?_⟩
        refine ⟨tM_9 (r := C_z 0 16) (by rw [c16]; omega) (by rw [c16]; exact kn9) (by omega) (by omega) rfl, ?_⟩
        refine ⟨⟨by omega, by omega⟩, ?_⟩
        exact ⟨rfl, rfl⟩
    by_cases hb_z : u_z < A 0 12 ∧ ¬ B_z 11 u_z = 0
    · have hmem : ∃ mm x_z, (B_z 11 u_z = 1 ∧ L = B_z 9 u_z * mm ∧ B_z 8 u_z * mm = G * x_z) ∧ Int.tdiv L (B_z 9 u_z) = mm ∧ Int.tdiv (B_z 8 u_z * mm) G = x_z ∧ 1 ≤ x_z ∧ x_z ≤ 531441 ∧ 1 ≤ B_z 8 u_z * mm ∧ B_z 8 u_z * mm ≤ 531441 ∧ 1 ≤ G ∧ 1 ≤ B_z 9 u_z ∧ B_z 9 u_z ≤ 531441 := by
        rcases hI u_z u0 (by omega) with ⟨h1, h2⟩ | ⟨h1, h2, h3, mm, x_z, q1_z, q2_z, q3_z, q4_z, q5_z, q6_z, q7_z, q8_z, q9_z, q10_z⟩
        · omega
        · have a_z := Int.mul_le_mul q7_z q2_z (by omega) (by omega)
          have b_z := Int.mul_le_mul_of_nonneg_left q2_z (show 0 ≤ B_z 9 u_z by omega)
          refine ⟨mm, x_z, ⟨h3, q1_z, q3_z⟩, ?_, ?_, q4_z, q5_z, by omega, q10_z, q6_z, q8_z, by omega⟩
          · rw [q1_z]; exact Int.mul_tdiv_cancel_left _ (by omega)
          · rw [q3_z]; exact Int.mul_tdiv_cancel_left _ (by omega)
      obtain ⟨mm, x_z, d0_z, d1_z, d2_z, x1_z, x2_z, y1, y2, G1_z, z1, z2⟩ := hmem
      refine wq_ok srt_Mgroup (fr := []) (cuts := [317, 366]) (J := fun pc st_z => (pc = 366 ∧ (u_z < (B_z 0 12)) ∧ (¬ (B_z (B_z 0 18) u_z) = 0) ∧ st_z = ([(2, 0), w1, w2, (1, L), (9, 0), (1, G), (9, 0), (0, u_z), w8, w9, w10], [], pm_upd B_z (B_z 0 15) u_z (Int.tdiv ((B_z (B_z 0 15) u_z) * (Int.tdiv L (B_z (B_z 0 16) u_z))) G))) ∨ (pc = 317 ∧ (u_z < (B_z 0 12)) ∧ ((B_z (B_z 0 18) u_z) = 0) ∧ st_z = ([(2, 0), w1, w2, (1, L), (9, 0), (1, G), (9, 0), (0, u_z + 1), w8, w9, w10], [], B_z))) ?_ 31 317 _ ?_
      · rintro pc st_z (⟨rfl, h0, h1, rfl⟩ | ⟨rfl, h0, h1, rfl⟩)
        · rw [c15_z, c16, d1_z, d2_z]
          exact h366 x_z mm _ d0_z.1 d0_z.2.1 d0_z.2.2 x1_z x2_z hb_z.1 rfl
        · rw [c18_z] at h1
          exact absurd h1 hb_z.2
      · refine ⟨oM_0 (by omega) km0 12 rfl, ?_⟩
        refine ⟨fun h0 => ?_, fun h0 => ?_⟩
        · exact absurd h0 (by omega)
        · refine ⟨oM_0 (by omega) km0 18 rfl, ?_⟩
          refine ⟨aM_11 (r := B_z 0 18) (by rw [c18_z]; omega) (by rw [c18_z]; exact kn11) (by omega) (by omega), ?_⟩
          have e1 : B_z (B_z 0 18) u_z = B_z 11 u_z := by rw [c18_z]
          refine ⟨fun h1 => ?_, fun h1 => ?_⟩
          · refine ⟨oM_0 (by omega) km0 15 rfl, ?_⟩
            refine ⟨oM_0 (by omega) km0 15 rfl, ?_⟩
            refine ⟨aM_8 (r := B_z 0 15) (by rw [c15_z]; omega) (by rw [c15_z]; exact kn8) (by omega) (by omega), ?_⟩
            have e2 : B_z (B_z 0 15) u_z = B_z 8 u_z := by rw [c15_z]
            refine ⟨oM_0 (by omega) km0 16 rfl, ?_⟩
            refine ⟨aM_9 (r := B_z 0 16) (by rw [c16]; omega) (by rw [c16]; exact kn9) (by omega) (by omega), ?_⟩
            have e3 : B_z (B_z 0 16) u_z = B_z 9 u_z := by rw [c16]
            refine ⟨⟨by omega, ⟨by omega, by omega⟩, ⟨by omega, by omega⟩, fun _ => by omega⟩, ?_⟩
            refine ⟨(show r64 (B_z (B_z 0 15) u_z * Int.tdiv L (B_z (B_z 0 16) u_z)) by rw [c15_z, c16, d1_z]; exact ⟨by omega, by omega⟩), ?_⟩
            refine ⟨(show ¬ G = 0 ∧ r64 (B_z (B_z 0 15) u_z * Int.tdiv L (B_z (B_z 0 16) u_z)) ∧ r64 G ∧ (B_z (B_z 0 15) u_z * Int.tdiv L (B_z (B_z 0 16) u_z) = -9223372036854775808 → ¬ G = -1) by rw [c15_z, c16, d1_z]; exact ⟨by omega, ⟨by omega, by omega⟩, ⟨by omega, by omega⟩, fun _ => by omega⟩), ?_⟩
            refine ⟨tM_8 (r := B_z 0 15) (by rw [c15_z]; omega) (by rw [c15_z]; exact kn8) (by omega) (by omega) rfl, ?_⟩
            exact Or.inl (⟨rfl, h0, h1, rfl⟩)
          · refine ⟨⟨by omega, by omega⟩, ?_⟩
            exact Or.inr (⟨rfl, h0, h1, rfl⟩)
    · have hz : u_z < A 0 12 → B_z 11 u_z = 0 := fun h_z => Classical.byContradiction (fun h2 => hb_z ⟨h_z, h2⟩)
      refine wq_ok srt_Mgroup (fr := []) (cuts := [317, 339]) (J := fun pc st_z => (pc = 339 ∧ (u_z < (B_z 0 12)) ∧ (¬ (B_z (B_z 0 18) u_z) = 0) ∧ st_z = ([(2, 0), w1, w2, (1, L), (9, 0), (1, G), (9, 0), (0, u_z), w8, w9, w10], [], B_z)) ∨ (pc = 317 ∧ (u_z < (B_z 0 12)) ∧ ((B_z (B_z 0 18) u_z) = 0) ∧ st_z = ([(2, 0), w1, w2, (1, L), (9, 0), (1, G), (9, 0), (0, u_z + 1), w8, w9, w10], [], B_z))) ?_ 17 317 _ ?_
      · rintro pc st_z (⟨rfl, h0, h1, rfl⟩ | ⟨rfl, h0, h1, rfl⟩)
        · rw [c18_z] at h1
          exact absurd (hz (by omega)) h1
        · rw [c18_z] at h1
          have hq2 : gQ A B_z (u_z + 1) L G := fun d_z sd_z => by
            obtain ⟨c_z, hc_z, hd_z⟩ := hq d_z sd_z
            refine ⟨c_z, fun k_z k0_z k1_z k2_z h_z => ?_, fun k_z m_z x' k0_z k1_z h_z => hd_z k_z m_z x' (by omega) k1_z h_z⟩
            by_cases e_z : k_z = u_z
            · rw [e_z] at h_z; omega
            · exact hc_z k_z k0_z (by omega) k2_z h_z
          refine ih_z (u_z + 1) B_z (by omega) (by omega) (by omega) hF hk hy hcl hq2 (fun k_z k0_z k1_z => ?_)
          rcases hI k_z k0_z k1_z with ⟨g1, g2⟩ | ⟨g1, g2, g3_z, g4⟩
          · exact Or.inl ⟨by omega, g2⟩
          · by_cases e_z : k_z = u_z
            · subst e_z; omega
            · exact Or.inr ⟨by omega, g2, g3_z, g4⟩
      · refine ⟨oM_0 (by omega) km0 12 rfl, ?_⟩
        refine ⟨fun h0 => ?_, fun h0 => ?_⟩
        · exact hfin (by omega)
        · refine ⟨oM_0 (by omega) km0 18 rfl, ?_⟩
          refine ⟨aM_11 (r := B_z 0 18) (by rw [c18_z]; omega) (by rw [c18_z]; exact kn11) (by omega) (by omega), ?_⟩
          have e1 : B_z (B_z 0 18) u_z = B_z 11 u_z := by rw [c18_z]
          refine ⟨fun h1 => ?_, fun h1 => ?_⟩
          · exact Or.inl (⟨rfl, h0, h1, rfl⟩)
          · refine ⟨⟨by omega, by omega⟩, ?_⟩
            exact Or.inr (⟨rfl, h0, h1, rfl⟩)
theorem gq_265 {A B : pm_A} {L rr : Int} {w1 w2 w8 w9 w10 : pm_V} (hL : 1 ≤ L ∧ L ≤ 531441) (p6 : A 0 12 ≤ 6) (hF : gpF A B) (hk : kpz A B) (hM : memL B (A 0 12) L) (hx : gx A rr B) (hcl : gC A B) : ∀ (m_z : Nat) (u_z G_z : Int), (6 - u_z).toNat < m_z → 0 ≤ u_z → u_z ≤ 6 → 0 ≤ G_z → G_z ≤ 531441 → (∀ i_z m_z : Int, 0 ≤ i_z → i_z < u_z → i_z ≤ 5 → B 11 i_z = 1 → L = B 9 i_z * m_z → G_z ∣ B 8 i_z * m_z) → (∀ k_z z_z : Int, (∀ i_z m_z : Int, 0 ≤ i_z → i_z < u_z → i_z < A 0 12 → B 11 i_z = 1 → L = B 9 i_z * m_z → z_z ∣ k_z * (B 8 i_z * m_z)) → z_z ∣ k_z * G_z) → Tm pmt (an_sh wM) o_X10_group 265 ([(2, 0), w1, w2, (1, L), (9, 0), (1, G_z), (9, 0), (0, u_z), w8, w9, w10], [], B) (gq_post A rr) := by
  have e12_z : B 0 12 = A 0 12 := hF.2 0 12 (by omega) (by omega) (by omega)
  have c15_z := pM_15 hF.1
  have c16 := pM_16 hF.1
  have c18_z := pM_18 hF.1
  intro m_z
  induction m_z with
  | zero => intro u_z G_z h_z; omega
  | succ m_z ih_z =>
    intro u_z G_z hm_z u0 u1_z G0_z G1_z hG hKz
    have hend : A 0 12 ≤ u_z → Tm pmt (an_sh wM) o_X10_group 317 ([(2, 0), w1, w2, (1, L), (9, 0), (1, G_z), (9, 0), (0, 0), w8, w9, w10], [], B) (gq_post A rr) := fun hu => gq_317 ⟨hL, G0_z, G1_z⟩ p6 _ 0 B (Nat.lt_succ_self _) (by omega) (by omega) hF hk hx.1 hcl (fun d_z sd_z => by
      have key_z : ∀ i_z m_z : Int, 0 ≤ i_z → i_z < A 0 12 → B 11 i_z = 1 → L = B 9 i_z * m_z → d_z rr * (B 8 i_z * m_z) = d_z i_z * L := fun i_z m_z i0_z i1_z h11 hm1 => by
        rw [← Int.mul_assoc, ← hx.2 d_z sd_z i_z i0_z i1_z h11, hm1, Int.mul_assoc]
      obtain ⟨c_z, hc_z⟩ := hKz (d_z rr) L (fun i_z m_z i0_z i1_z i2_z h11 hm1 => by rw [key_z i_z m_z i0_z i2_z h11 hm1]; exact ⟨d_z i_z, Int.mul_comm _ _⟩)
      refine ⟨c_z, fun i_z i0_z i1_z => by omega, fun i_z m_z x_z i0_z i1_z h11 hm1 hx1 => ?_⟩
      have e_z := key_z i_z m_z i0_z i1_z h11 hm1
      rw [hx1, ← Int.mul_assoc, hc_z, Int.mul_comm (d_z i_z) L, Int.mul_assoc] at e_z
      exact (Int.eq_of_mul_eq_mul_left (show L ≠ 0 by omega) e_z).symm) (fun i_z i0_z i1_z => by
      rcases hM i_z i0_z i1_z with ⟨h1, h2⟩ | ⟨h1, h2, mm, q1_z, q2_z, q3_z, q4_z, q5_z⟩
      · exact Or.inl ⟨Or.inr h1, h2⟩
      · obtain ⟨x_z, hx⟩ := hG i_z mm i0_z (by omega) i1_z h1 q1_z
        have a_z := Int.mul_le_mul q4_z q2_z (by omega) (by omega)
        have G2_z : 1 ≤ G_z := by
          refine Classical.byContradiction (fun h_z => ?_)
          rw [show G_z = 0 by omega, Int.zero_mul] at hx
          omega
        have x1_z : 1 ≤ x_z := by
          refine Classical.byContradiction (fun h_z => ?_)
          have := Int.mul_le_mul_of_nonneg_left (show x_z ≤ 0 by omega) G0_z
          omega
        have := Int.mul_le_mul_of_nonneg_right G2_z (show 0 ≤ x_z by omega)
        exact Or.inr ⟨i0_z, h2, h1, mm, x_z, q1_z, q2_z, hx, x1_z, by omega, G2_z, q4_z, q5_z, hL.2, q3_z⟩)
    by_cases hb_z : u_z < A 0 12 ∧ ¬ B 11 u_z = 0
    · have hmem : ∃ mm, Int.tdiv L (B 9 u_z) = mm ∧ L = B 9 u_z * mm ∧ 1 ≤ mm ∧ 1 ≤ B 8 u_z * mm ∧ B 8 u_z * mm ≤ 531441 ∧ 1 ≤ B 9 u_z ∧ B 9 u_z ≤ 531441 := by
        rcases hM u_z u0 (by omega) with ⟨h1, h2⟩ | ⟨h1, h2, mm, q1_z, q2_z, q3_z, q4_z, q5_z⟩
        · omega
        · have a_z := Int.mul_le_mul q4_z q2_z (by omega) (by omega)
          have b_z := Int.mul_le_mul_of_nonneg_left q2_z (show 0 ≤ B 9 u_z by omega)
          refine ⟨mm, ?_, q1_z, q2_z, by omega, q3_z, q5_z, by omega⟩
          rw [q1_z]; exact Int.mul_tdiv_cancel_left _ (by omega)
      obtain ⟨mm, d1_z, d2_z, d3_z, y1, y2, z1, z2⟩ := hmem
      refine wq_ok srt_Mgroup (fr := []) (cuts := [265, 306, 317]) (J := fun pc st_z => (pc = 317 ∧ ((B 0 12) ≤ u_z) ∧ st_z = ([(2, 0), w1, w2, (1, L), (9, 0), (1, G_z), (9, 0), (0, 0), w8, w9, w10], [], B)) ∨ (pc = 265 ∧ (u_z < (B 0 12)) ∧ ((B (B 0 18) u_z) = 0) ∧ st_z = ([(2, 0), w1, w2, (1, L), (9, 0), (1, G_z), (9, 0), (0, u_z + 1), w8, w9, w10], [], B)) ∨ (pc = 306 ∧ st_z = ([(2, 0), w1, w2, (1, L), (9, 0), (1, G_z), (9, 0), (0, u_z), w8, w9, w10], [(1, (Int.gcd (B 8 u_z * mm) G_z : Int))], B))) ?_ 26 265 _ ?_
      · rintro pc st_z (⟨rfl, h0, rfl⟩ | ⟨rfl, h0, h1, rfl⟩ | ⟨rfl, rfl⟩)
        · exact hend (by omega)
        · rw [c18_z] at h1
          exact absurd h1 hb_z.2
        · refine wq_ok srt_Mgroup (fr := []) (cuts := [265]) (J := fun pc st_z => (pc = 265 ∧ st_z = ([(2, 0), w1, w2, (1, L), (9, 0), (1, (Int.gcd (B 8 u_z * mm) G_z : Int)), (9, 0), (0, u_z + 1), w8, w9, w10], [], B))) ?_ 8 306 _ ?_
          · rintro pc st_z (⟨rfl, rfl⟩)
            have dv := Int.gcd_dvd_left (B 8 u_z * mm) G_z
            have dw := Int.gcd_dvd_right (B 8 u_z * mm) G_z
            have g1 := Int.le_of_dvd (by omega) dv
            refine ih_z (u_z + 1) _ (by omega) (by omega) (by omega) (by omega) (by omega) (fun i_z m_z i0_z i1_z i2_z h1 h2 => ?_) (fun k_z z_z hkz => dvd_kg (hkz u_z mm u0 (by omega) hb_z.1 (by
              rcases hM u_z u0 (by omega) with ⟨q1_z, _⟩ | ⟨q1_z, _⟩
              · exact absurd q1_z hb_z.2
              · exact q1_z) d2_z) (hKz k_z z_z (fun i_z m_z i0_z i1_z => hkz i_z m_z i0_z (by omega))))
            by_cases e_z : i_z = u_z
            · subst e_z
              have : m_z = mm := Int.eq_of_mul_eq_mul_left (show B 9 i_z ≠ 0 by omega) (by rw [← h2, ← d2_z])
              rw [this]; exact dv
            · exact Int.dvd_trans dw (hG i_z m_z i0_z (by omega) i2_z h1 h2)
          · refine ⟨⟨by omega, by omega⟩, ?_⟩
            exact ⟨rfl, rfl⟩
      · refine ⟨oM_0 (by omega) km0 12 rfl, ?_⟩
        refine ⟨fun h0 => ?_, fun h0 => ?_⟩
        · exact Or.inl (⟨rfl, h0, rfl⟩)
        · refine ⟨oM_0 (by omega) km0 18 rfl, ?_⟩
          refine ⟨aM_11 (r := B 0 18) (by rw [c18_z]; omega) (by rw [c18_z]; exact kn11) (by omega) (by omega), ?_⟩
          have e1 : B (B 0 18) u_z = B 11 u_z := by rw [c18_z]
          refine ⟨fun h1 => ?_, fun h1 => ?_⟩
          · refine ⟨⟨by omega, by omega⟩, ?_⟩
            exact Or.inr (Or.inl (⟨rfl, h0, h1, rfl⟩))
          · refine ⟨oM_0 (by omega) km0 15 rfl, ?_⟩
            refine ⟨aM_8 (r := B 0 15) (by rw [c15_z]; omega) (by rw [c15_z]; exact kn8) (by omega) (by omega), ?_⟩
            have e2 : B (B 0 15) u_z = B 8 u_z := by rw [c15_z]
            refine ⟨oM_0 (by omega) km0 16 rfl, ?_⟩
            refine ⟨aM_9 (r := B 0 16) (by rw [c16]; omega) (by rw [c16]; exact kn9) (by omega) (by omega), ?_⟩
            have e3 : B (B 0 16) u_z = B 9 u_z := by rw [c16]
            refine ⟨⟨by omega, ⟨by omega, by omega⟩, ⟨by omega, by omega⟩, fun _ => by omega⟩, ?_⟩
            refine ⟨(show r64 (B (B 0 15) u_z * Int.tdiv L (B (B 0 16) u_z)) by rw [c15_z, c16, d1_z]; exact ⟨by omega, by omega⟩), ?_⟩
            refine ⟨rfl, ?_⟩
            rw [c15_z, c16, d1_z]
            refine (common_ct (an_sh wM) B (a := B 8 u_z * mm) (b := G_z) (by omega) G0_z (by omega) (by omega)).imp ?_
            rintro r_z rfl
            exact Or.inr (Or.inr (⟨rfl, rfl⟩))
    · have hz : u_z < A 0 12 → B 11 u_z = 0 := fun h_z => Classical.byContradiction (fun h2 => hb_z ⟨h_z, h2⟩)
      refine wq_ok srt_Mgroup (fr := []) (cuts := [265, 284, 317]) (J := fun pc st_z => (pc = 317 ∧ ((B 0 12) ≤ u_z) ∧ st_z = ([(2, 0), w1, w2, (1, L), (9, 0), (1, G_z), (9, 0), (0, 0), w8, w9, w10], [], B)) ∨ (pc = 265 ∧ (u_z < (B 0 12)) ∧ ((B (B 0 18) u_z) = 0) ∧ st_z = ([(2, 0), w1, w2, (1, L), (9, 0), (1, G_z), (9, 0), (0, u_z + 1), w8, w9, w10], [], B)) ∨ (pc = 284 ∧ (u_z < (B 0 12)) ∧ (¬ (B (B 0 18) u_z) = 0) ∧ st_z = ([(2, 0), w1, w2, (1, L), (9, 0), (1, G_z), (9, 0), (0, u_z), w8, w9, w10], [], B))) ?_ 16 265 _ ?_
      · rintro pc st_z (⟨rfl, h0, rfl⟩ | ⟨rfl, h0, h1, rfl⟩ | ⟨rfl, h0, h1, rfl⟩)
        · exact hend (by omega)
        · rw [c18_z] at h1
          refine ih_z (u_z + 1) G_z (by omega) (by omega) (by omega) G0_z G1_z (fun i_z m_z i0_z i1_z i2_z g1 g2 => ?_) (fun k_z z_z hkz => hKz k_z z_z (fun i_z m_z i0_z i1_z => hkz i_z m_z i0_z (by omega)))
          by_cases e_z : i_z = u_z
          · subst e_z; omega
          · exact hG i_z m_z i0_z (by omega) i2_z g1 g2
        · rw [c18_z] at h1
          exact absurd (hz (by omega)) h1
      · refine ⟨oM_0 (by omega) km0 12 rfl, ?_⟩
        refine ⟨fun h0 => ?_, fun h0 => ?_⟩
        · exact Or.inl (⟨rfl, h0, rfl⟩)
        · refine ⟨oM_0 (by omega) km0 18 rfl, ?_⟩
          refine ⟨aM_11 (r := B 0 18) (by rw [c18_z]; omega) (by rw [c18_z]; exact kn11) (by omega) (by omega), ?_⟩
          have e1 : B (B 0 18) u_z = B 11 u_z := by rw [c18_z]
          refine ⟨fun h1 => ?_, fun h1 => ?_⟩
          · refine ⟨⟨by omega, by omega⟩, ?_⟩
            exact Or.inr (Or.inl (⟨rfl, h0, h1, rfl⟩))
          · exact Or.inr (Or.inr (⟨rfl, h0, h1, rfl⟩))
theorem gq_212 {A B : pm_A} {D rr : Int} {w1 w6 w7 w8 w9 w10 : pm_V} {f : Int} (p6 : A 0 12 ≤ 6) (hF : gpF A B) (hk : kpz A B) (hI : gpI (A 0 12) B D) (hx : gx A rr B) (hcl : gC A B) : ∀ (m_z : Nat) (u_z L_z : Int), (6 - u_z).toNat < m_z → 0 ≤ u_z → u_z ≤ 6 → 1 ≤ L_z → L_z ∣ D → (∀ i_z : Int, 0 ≤ i_z → i_z < u_z → i_z ≤ 5 → B 11 i_z = 1 → B 9 i_z ∣ L_z) → Tm pmt (an_sh wM) o_X10_group 212 ([(2, 0), w1, (0, f), (1, L_z), (9, 0), (0, u_z), w6, w7, w8, w9, w10], [], B) (gq_post A rr) := by
  have e12_z : B 0 12 = A 0 12 := hF.2 0 12 (by omega) (by omega) (by omega)
  have c16 := pM_16 hF.1
  have c18_z := pM_18 hF.1
  have hP := p9_le (cn_b (B 9)).2
  intro m_z
  induction m_z with
  | zero => intro u_z L_z h_z; omega
  | succ m_z ih_z =>
    intro u_z L_z hm_z u0 u1_z L1 hLD hG
    have L2_z := Int.le_of_dvd (by have := hI.1; omega) hLD
    have D1 := hI.1
    have hend : A 0 12 ≤ u_z → Tm pmt (an_sh wM) o_X10_group 265 ([(2, 0), w1, (0, f), (1, L_z), (9, 0), (1, 0), (9, 0), (0, 0), w8, w9, w10], [], B) (gq_post A rr) := fun hu => gq_265 ⟨L1, by omega⟩ p6 hF hk (fun i_z i0_z i1_z => by
      rcases hI.2 i_z i0_z i1_z with h_z | ⟨h1, h2, c_z, c1_z, c2_z, c3_z, c4_z, c5_z⟩
      · exact Or.inl h_z
      · obtain ⟨mm, hm_z⟩ := hG i_z i0_z (by omega) i1_z h1
        obtain ⟨e_z, he⟩ := hLD
        have hce : c_z = mm * e_z := Int.eq_of_mul_eq_mul_left (show B 9 i_z ≠ 0 by omega) (by rw [← c2_z, he, hm_z, Int.mul_assoc])
        have m1_z : 1 ≤ mm := by
          refine Classical.byContradiction (fun h_z => ?_)
          have := Int.mul_le_mul_of_nonneg_left (show mm ≤ 0 by omega) (show 0 ≤ B 9 i_z by omega)
          omega
        have e1 : 1 ≤ e_z := by
          refine Classical.byContradiction (fun h_z => ?_)
          have := Int.mul_le_mul_of_nonneg_left (show e_z ≤ 0 by omega) (show 0 ≤ mm by omega)
          omega
        have hle : mm ≤ c_z := by
          have := Int.mul_le_mul_of_nonneg_left e1 (show 0 ≤ mm by omega)
          omega
        have := Int.mul_le_mul_of_nonneg_left hle (show 0 ≤ B 8 i_z by omega)
        exact Or.inr ⟨h1, h2, mm, hm_z, m1_z, by omega, c4_z, c5_z⟩) hx hcl _ 0 0 (Nat.lt_succ_self _) (by omega) (by omega) (by omega) (by omega) (fun i_z m_z i0_z i1_z => by omega) (fun k_z z_z _ => by rw [Int.mul_zero]; exact Int.dvd_zero z_z)
    by_cases hb_z : u_z < A 0 12 ∧ ¬ B 11 u_z = 0
    · have b11 := eM_11 hF.1 (r := 11) (by omega) kn11 u0 (show u_z < 6 by omega)
      have hbd := hI.bd u0 (by omega) (show B 11 u_z = 1 by omega)
      have hdv : B 9 u_z ∣ D := by
        rcases hI.2 u_z u0 (by omega) with ⟨h1, h2⟩ | ⟨h1, h2, c_z, c1_z, c2_z, c3_z, c4_z, c5_z⟩
        · omega
        · exact ⟨c_z, c2_z⟩
      have hl := lcm1 L1 hbd.2.1 hLD hdv
      have hg1 := gcd_pos1 (b := B 9 u_z) L1
      have hle := Int.le_of_dvd (by omega) hl.1
      have hg2 := Int.le_of_dvd (by omega) (Int.gcd_dvd_left L_z (B 9 u_z))
      refine wq_ok srt_Mgroup (fr := []) (cuts := [212, 243, 265]) (J := fun pc st_z => (pc = 265 ∧ ((B 0 12) ≤ u_z) ∧ st_z = ([(2, 0), w1, (0, f), (1, L_z), (9, 0), (1, 0), (9, 0), (0, 0), w8, w9, w10], [], B)) ∨ (pc = 212 ∧ (u_z < (B 0 12)) ∧ ((B (B 0 18) u_z) = 0) ∧ st_z = ([(2, 0), w1, (0, f), (1, L_z), (9, 0), (0, u_z + 1), w6, w7, w8, w9, w10], [], B)) ∨ (pc = 243 ∧ st_z = ([(2, 0), w1, (0, f), (1, L_z), (9, 0), (0, u_z), w6, w7, w8, w9, w10], [(1, (Int.gcd L_z (B 9 u_z) : Int)), (1, L_z)], B))) ?_ 20 212 _ ?_
      · rintro pc st_z (⟨rfl, h0, rfl⟩ | ⟨rfl, h0, h1, rfl⟩ | ⟨rfl, rfl⟩)
        · exact hend (by omega)
        · rw [c18_z] at h1
          exact absurd h1 hb_z.2
        · refine wq_ok srt_Mgroup (fr := []) (cuts := [212]) (J := fun pc st_z => (pc = 212 ∧ st_z = ([(2, 0), w1, (0, f), (1, (Int.tdiv L_z ((Int.gcd L_z (B 9 u_z) : Int))) * (B (B 0 16) u_z)), (9, 0), (0, u_z + 1), w6, w7, w8, w9, w10], [], B))) ?_ 14 243 _ ?_
          · rintro pc st_z (⟨rfl, rfl⟩)
            rw [c16]
            refine ih_z (u_z + 1) _ (by omega) (by omega) (by omega) hl.2.2.2 hl.1 (fun i_z i0_z i1_z i2_z h1 => ?_)
            by_cases e_z : i_z = u_z
            · subst e_z; exact hl.2.2.1
            · exact Int.dvd_trans (hG i_z i0_z (by omega) i2_z h1) hl.2.1
          · refine ⟨⟨by omega, ⟨by omega, by omega⟩, ⟨by omega, by omega⟩, fun _ => by omega⟩, ?_⟩
            refine ⟨oM_0 (by omega) km0 16 rfl, ?_⟩
            refine ⟨aM_9 (r := B 0 16) (by rw [c16]; omega) (by rw [c16]; exact kn9) (by omega) (by omega), ?_⟩
            have e1 : B (B 0 16) u_z = B 9 u_z := by rw [c16]
            refine ⟨(show r64 (Int.tdiv L_z (Int.gcd L_z (B 9 u_z) : Int) * B (B 0 16) u_z) by rw [c16]; exact ⟨by omega, by omega⟩), ?_⟩
            refine ⟨⟨by omega, by omega⟩, ?_⟩
            exact ⟨rfl, rfl⟩
      · refine ⟨oM_0 (by omega) km0 12 rfl, ?_⟩
        refine ⟨fun h0 => ?_, fun h0 => ?_⟩
        · exact Or.inl (⟨rfl, h0, rfl⟩)
        · refine ⟨oM_0 (by omega) km0 18 rfl, ?_⟩
          refine ⟨aM_11 (r := B 0 18) (by rw [c18_z]; omega) (by rw [c18_z]; exact kn11) (by omega) (by omega), ?_⟩
          have e1 : B (B 0 18) u_z = B 11 u_z := by rw [c18_z]
          refine ⟨fun h1 => ?_, fun h1 => ?_⟩
          · refine ⟨⟨by omega, by omega⟩, ?_⟩
            exact Or.inr (Or.inl (⟨rfl, h0, h1, rfl⟩))
          · refine ⟨oM_0 (by omega) km0 16 rfl, ?_⟩
            refine ⟨aM_9 (r := B 0 16) (by rw [c16]; omega) (by rw [c16]; exact kn9) (by omega) (by omega), ?_⟩
            have e2 : B (B 0 16) u_z = B 9 u_z := by rw [c16]
            refine ⟨rfl, ?_⟩
            rw [c16]
            refine (common_ct (an_sh wM) B (a := L_z) (b := B 9 u_z) (by omega) (by omega) (by omega) (by omega)).imp ?_
            rintro r_z rfl
            exact Or.inr (Or.inr (⟨rfl, rfl⟩))
    · have hz : u_z < A 0 12 → B 11 u_z = 0 := fun h_z => Classical.byContradiction (fun h2 => hb_z ⟨h_z, h2⟩)
      refine wq_ok srt_Mgroup (fr := []) (cuts := [212, 231, 265]) (J := fun pc st_z => (pc = 265 ∧ ((B 0 12) ≤ u_z) ∧ st_z = ([(2, 0), w1, (0, f), (1, L_z), (9, 0), (1, 0), (9, 0), (0, 0), w8, w9, w10], [], B)) ∨ (pc = 212 ∧ (u_z < (B 0 12)) ∧ ((B (B 0 18) u_z) = 0) ∧ st_z = ([(2, 0), w1, (0, f), (1, L_z), (9, 0), (0, u_z + 1), w6, w7, w8, w9, w10], [], B)) ∨ (pc = 231 ∧ (u_z < (B 0 12)) ∧ (¬ (B (B 0 18) u_z) = 0) ∧ st_z = ([(2, 0), w1, (0, f), (1, L_z), (9, 0), (0, u_z), w6, w7, w8, w9, w10], [], B))) ?_ 16 212 _ ?_
      · rintro pc st_z (⟨rfl, h0, rfl⟩ | ⟨rfl, h0, h1, rfl⟩ | ⟨rfl, h0, h1, rfl⟩)
        · exact hend (by omega)
        · rw [c18_z] at h1
          refine ih_z (u_z + 1) L_z (by omega) (by omega) (by omega) L1 hLD (fun i_z i0_z i1_z i2_z g1 => ?_)
          by_cases e_z : i_z = u_z
          · subst e_z; omega
          · exact hG i_z i0_z (by omega) i2_z g1
        · rw [c18_z] at h1
          exact absurd (hz (by omega)) h1
      · refine ⟨oM_0 (by omega) km0 12 rfl, ?_⟩
        refine ⟨fun h0 => ?_, fun h0 => ?_⟩
        · exact Or.inl (⟨rfl, h0, rfl⟩)
        · refine ⟨oM_0 (by omega) km0 18 rfl, ?_⟩
          refine ⟨aM_11 (r := B 0 18) (by rw [c18_z]; omega) (by rw [c18_z]; exact kn11) (by omega) (by omega), ?_⟩
          have e1 : B (B 0 18) u_z = B 11 u_z := by rw [c18_z]
          refine ⟨fun h1 => ?_, fun h1 => ?_⟩
          · refine ⟨⟨by omega, by omega⟩, ?_⟩
            exact Or.inr (Or.inl (⟨rfl, h0, h1, rfl⟩))
          · exact Or.inr (Or.inr (⟨rfl, h0, h1, rfl⟩))
theorem gq_156 {A B : pm_A} {r f i j t t' a b : Int} {w9 w10 : pm_V} (p6 : A 0 12 ≤ 6) (hG : GJ A r B) (i0 : 0 ≤ i) (i1 : i < A 0 12) (hi : B 11 i = 1) (j0 : 0 ≤ j) (j1 : j < A 0 12) (hj : B 9 j = 0) (t1 : 1 ≤ t ∧ t ≤ 9) (t2 : 1 ≤ t' ∧ t' ≤ 9) (ha : a = B 8 i * t) (hb : b = B 9 i * t') (hd : ∀ d_z, sy (A 0 12) (A 7) d_z → d_z i * t = d_z j * t') (H : ∀ C_z w5 w6_z w7_z w8 w9 w10, GJ A r C_z → cn (C_z 9) = cn (B 9) + 1 → Tm pmt (an_sh wM) o_X10_group 192 ([(2, 0), (0, r), (0, 1), (0, i), (0, j), w5, w6_z, w7_z, w8, w9, w10], [], C_z) (gq_post A r)) : Tm pmt (an_sh wM) o_X10_group 156 ([(2, 0), (0, r), (0, f), (0, i), (0, j), (1, a), (9, 0), (1, b), (9, 0), w9, w10], [(1, (Int.gcd a b : Int))], B) (gq_post A r) := by
  obtain ⟨⟨hF, ⟨D_z, hI⟩, hk⟩, hx⟩ := hG
  have hbd := hI.bd i0 (by omega) hi
  have ma := mulb hbd.1.1 hbd.1.2 t1.1 t1.2
  have mb := mulb hbd.2.1 hbd.2.2 t2.1 t2.2
  rw [← ha] at ma
  rw [← hb] at mb
  obtain ⟨u_z, v_z, hu, hv, e1, e2, u1_z, v1_z, u2_z, v2⟩ := red1 ma.1 mb.1
  have g1 := gcd_pos1 (b := b) ma.1
  have g2 := Int.le_of_dvd (by omega) (Int.gcd_dvd_left a b)
  revert hu hv e1 e2 g1 g2
  generalize (Int.gcd a b : Int) = g_z
  intro hu hv e1 e2 g1 g2
  have c15_z := pM_15 hF.1
  have c16 : pm_upd B (B 0 15) j (Int.tdiv a g_z) 0 16 = 9 := by rw [c15_z, upd_o (by omega)]; exact pM_16 hF.1
  have c18_z : pm_upd (pm_upd B (B 0 15) j (Int.tdiv a g_z)) (pm_upd B (B 0 15) j (Int.tdiv a g_z) 0 16) j (Int.tdiv b g_z) 0 18 = 11 := by rw [c16, c15_z, upd_o (by omega), upd_o (by omega)]; exact pM_18 hF.1
  refine wq_ok srt_Mgroup (fr := []) (cuts := [192]) (J := fun pc st_z => (pc = 192 ∧ st_z = ([(2, 0), (0, r), (0, 1), (0, i), (0, j), (1, a), (9, 0), (1, b), (9, 0), (1, g_z), (9, 0)], [], pm_upd (pm_upd (pm_upd B (B 0 15) j (Int.tdiv a g_z)) ((pm_upd B (B 0 15) j (Int.tdiv a g_z)) 0 16) j (Int.tdiv b g_z)) ((pm_upd (pm_upd B (B 0 15) j (Int.tdiv a g_z)) ((pm_upd B (B 0 15) j (Int.tdiv a g_z)) 0 16) j (Int.tdiv b g_z)) 0 18) j 1))) ?_ 27 156 _ ?_
  · rintro pc st_z (⟨rfl, rfl⟩)
    rw [c18_z, c16, c15_z, hu, hv]
    have hFC : gpF A (pm_upd (pm_upd (pm_upd B 8 j u_z) 9 j v_z) 11 j 1) := gpF.u11 (gpF.u9 (hF.u8 (by omega) (by omega)) (by omega) (by omega)) (by omega) (by omega)
    have st_z := hI.step (C := pm_upd (pm_upd (pm_upd B 8 j u_z) 9 j v_z) 11 j 1) (t := t) (t' := t') (g := g_z) (u := u_z) (v := v_z) i0 (by omega) hi j0 j1 p6 hj t1 t2 (by rw [← ha, ← e1]) (by rw [← hb, ← e2]) g1 u1_z v1_z (fun k_z hk => by rw [upd_o (by omega), upd_o (by omega), upd_o (by omega)]) (fun k_z hk => by rw [upd_o (by omega), upd_o (by omega), upd_o (by omega)]) (fun k_z hk => by rw [upd_o (by omega), upd_o (by omega), upd_o (by omega)]) (by rw [upd_o (by omega), upd_o (by omega), upd_at]) (by rw [upd_o (by omega), upd_at]) upd_at
    refine H _ _ _ _ _ _ _ ⟨⟨hFC, ⟨_, st_z.1⟩, fun k_z hk1 => ?_⟩, hx.put (t := t) (t' := t') (g := g_z) (u := u_z) (v := v_z) i0 i1 hi hj (by rw [← ha, ← e1]) (by rw [← hb, ← e2]) g1 hd (fun k_z hk => by rw [upd_o (by omega), upd_o (by omega), upd_o (by omega)]) (fun k_z hk => by rw [upd_o (by omega), upd_o (by omega), upd_o (by omega)]) (fun k_z hk => by rw [upd_o (by omega), upd_o (by omega), upd_o (by omega)]) (by rw [upd_o (by omega), upd_o (by omega), upd_at]) (by rw [upd_o (by omega), upd_at]) upd_at⟩ st_z.2
    by_cases e_z : k_z = j
    · rw [e_z, upd_o (by omega), upd_at]; omega
    · rw [upd_o (by omega), upd_o (by omega), upd_o (by omega)]; exact hk k_z hk1
  · refine ⟨oM_0 (by omega) km0 15 rfl, ?_⟩
    refine ⟨⟨by omega, ⟨by omega, by omega⟩, ⟨by omega, by omega⟩, fun _ => by omega⟩, ?_⟩
    refine ⟨tM_8 (r := B 0 15) (by rw [c15_z]; omega) (by rw [c15_z]; exact kn8) (by omega) (by omega) rfl, ?_⟩
    refine ⟨oM_0 (by omega) km0 16 rfl, ?_⟩
    refine ⟨⟨by omega, ⟨by omega, by omega⟩, ⟨by omega, by omega⟩, fun _ => by omega⟩, ?_⟩
    refine ⟨tM_9 (r := (pm_upd B (B 0 15) j (Int.tdiv a g_z)) 0 16) (by rw [c16]; omega) (by rw [c16]; exact kn9) (by omega) (by omega) rfl, ?_⟩
    refine ⟨oM_0 (by omega) km0 18 rfl, ?_⟩
    refine ⟨tM_11 (r := (pm_upd (pm_upd B (B 0 15) j (Int.tdiv a g_z)) ((pm_upd B (B 0 15) j (Int.tdiv a g_z)) 0 16) j (Int.tdiv b g_z)) 0 18) (by rw [c18_z]; omega) (by rw [c18_z]; exact kn11) (by omega) (by omega) rfl, ?_⟩
    exact ⟨rfl, rfl⟩
theorem gq_145 {A B : pm_A} {r f i j t t' a low : Int} {w7 w8 w9 w10 : pm_V} (p6 : A 0 12 ≤ 6) (hG : GJ A r B) (i0 : 0 ≤ i) (i1 : i < A 0 12) (hi : B 11 i = 1) (j0 : 0 ≤ j) (j1 : j < A 0 12) (hj : B 9 j = 0) (t1 : 1 ≤ t ∧ t ≤ 9) (t2 : 1 ≤ t' ∧ t' ≤ 9) (ha : a = B 8 i * t) (hl : low = B 9 i) (hd : ∀ d_z, sy (A 0 12) (A 7) d_z → d_z i * t = d_z j * t') (H : ∀ C_z w5 w6_z w7 w8 w9 w10, GJ A r C_z → cn (C_z 9) = cn (B 9) + 1 → Tm pmt (an_sh wM) o_X10_group 192 ([(2, 0), (0, r), (0, 1), (0, i), (0, j), w5, w6_z, w7, w8, w9, w10], [], C_z) (gq_post A r)) : Tm pmt (an_sh wM) o_X10_group 145 ([(2, 0), (0, r), (0, f), (0, i), (0, j), (1, a), (9, 0), w7, w8, w9, w10], [(0, t'), (1, low)], B) (gq_post A r) := by
  obtain ⟨D_z, hI⟩ := hG.1.2.1
  have hbd := hI.bd i0 (by omega) hi
  have ma := mulb hbd.1.1 hbd.1.2 t1.1 t1.2
  have mb := mulb hbd.2.1 hbd.2.2 t2.1 t2.2
  rw [← ha] at ma
  rw [← hl] at mb
  refine wq_ok srt_Mgroup (fr := []) (cuts := [156]) (J := fun pc st_z => (pc = 156 ∧ st_z = ([(2, 0), (0, r), (0, f), (0, i), (0, j), (1, a), (9, 0), (1, low * t'), (9, 0), w9, w10], [(1, (Int.gcd a (low * t') : Int))], B))) ?_ 10 145 _ ?_
  · rintro pc st_z (⟨rfl, rfl⟩)
    exact gq_156 p6 hG i0 i1 hi j0 j1 hj t1 t2 ha (by rw [hl]) hd H
  · refine ⟨⟨by omega, by omega⟩, ?_⟩
    refine ⟨rfl, ?_⟩
    refine (common_ct (an_sh wM) B (a := a) (b := low * t') (by omega) (by omega) (by omega) (by omega)).imp ?_
    rintro r rfl
    exact ⟨rfl, rfl⟩
theorem gq_120 {A B : pm_A} {r f i j t up : Int} {w5 w6 w7 w8 w9 w10 : pm_V} (hT : tz A) (p6 : A 0 12 ≤ 6) (hG : GJ A r B) (i0 : 0 ≤ i) (i1 : i < A 0 12) (hi : B 11 i = 1) (j0 : 0 ≤ j) (j1 : j < A 0 12) (hj : B 9 j = 0) (hne : ¬ A 7 (6 * j + i) = 0) (t1 : 1 ≤ t ∧ t ≤ 9) (ha : up = B 8 i) (ht : t = avx (A 7 (6 * i + j))) (H : ∀ C_z w5 w6 w7 w8 w9 w10, GJ A r C_z → cn (C_z 9) = cn (B 9) + 1 → Tm pmt (an_sh wM) o_X10_group 192 ([(2, 0), (0, r), (0, 1), (0, i), (0, j), w5, w6, w7, w8, w9, w10], [], C_z) (gq_post A r)) : Tm pmt (an_sh wM) o_X10_group 120 ([(2, 0), (0, r), (0, f), (0, i), (0, j), w5, w6, w7, w8, w9, w10], [(0, t), (1, up)], B) (gq_post A r) := by
  obtain ⟨D_z, hI⟩ := hG.1.2.1
  have hF := hG.1.1
  have hbd := hI.bd i0 (by omega) hi
  have ma := mulb hbd.1.1 hbd.1.2 t1.1 t1.2
  rw [← ha] at ma
  have c14_z := pM_14 hF.1
  have c16 := pM_16 hF.1
  have h9 := hT.1 (6 * j + i) (by omega) (by omega)
  have e7_z : B 7 (6 * j + i) = A 7 (6 * j + i) := hF.2 7 _ (by omega) (by omega) (by omega)
  refine wq_ok srt_Mgroup (fr := []) (cuts := [145]) (J := fun pc st_z => (pc = 145 ∧ ∃ t' : Int, (1 ≤ t' ∧ t' ≤ 9) ∧ t' = avx (A 7 (6 * j + i)) ∧ st_z = ([(2, 0), (0, r), (0, f), (0, i), (0, j), (1, up * t), (9, 0), w7, w8, w9, w10], [(0, t'), (1, B (B 0 16) i)], B))) ?_ 20 120 _ ?_
  · rintro pc st_z (⟨rfl, t', t2_z, t3_z, rfl⟩)
    exact gq_145 p6 hG i0 i1 hi j0 j1 hj t1 t2_z (by rw [ha]) (by rw [c16]) (fun d_z sd_z => by rw [ht, t3_z]; exact sy_av sd_z i0 i1 j0 j1) H
  · refine ⟨⟨by omega, by omega⟩, ?_⟩
    refine ⟨oM_0 (by omega) km0 16 rfl, ?_⟩
    refine ⟨aM_9 (r := B 0 16) (by rw [c16]; omega) (by rw [c16]; exact kn9) (by omega) (by omega), ?_⟩
    have e1 : B (B 0 16) i = B 9 i := by rw [c16]
    refine ⟨oM_0 (by omega) km0 14 rfl, ?_⟩
    refine ⟨⟨by omega, by omega⟩, ?_⟩
    refine ⟨⟨by omega, by omega⟩, ?_⟩
    refine ⟨aM_7 (r := B 0 14) (by rw [c14_z]; omega) (by rw [c14_z]; exact kn7) (by omega) (by omega), ?_⟩
    have e2 : B (B 0 14) ((6 * j) + i) = B 7 ((6 * j) + i) := by rw [c14_z]
    refine ⟨rfl, ?_⟩
    rw [c14_z, e7_z]
    refine (without_ex (a := A 7 (6 * j + i)) (by omega) (by omega)).imp ?_
    rintro ⟨r1_z, C_z⟩ ⟨q1_z, q2_z⟩
    simp only at q1_z q2_z
    subst q1_z
    subst q2_z
    exact ⟨rfl, _, ⟨by unfold avx; split <;> omega, by unfold avx; split <;> omega⟩, rfl, rfl⟩
theorem gq_51 {A : pm_A} {r i n0 : Int} (hT : tz A) (p6 : A 0 12 ≤ 6) (i0 : 0 ≤ i) (i1 : i < A 0 12) (H : ∀ (f_z : Int) C_z w4_z w5 w6_z w7_z w8 w9 w10_z, GJ A r C_z → n0 ≤ cn (C_z 9) → (¬ f_z = 0 → n0 < cn (C_z 9)) → (f_z = 0 → ∀ a_z b_z : Int, 0 ≤ a_z → a_z < i + 1 → 0 ≤ b_z → b_z < A 0 12 → clz A C_z a_z b_z) → Tm pmt (an_sh wM) o_X10_group 198 ([(2, 0), (0, r), (0, f_z), (0, i), w4_z, w5, w6_z, w7_z, w8, w9, w10_z], [], C_z) (gq_post A r)) : ∀ (m_z : Nat) (j_z f_z : Int) (w5 w6_z w7_z w8 w9 w10_z : pm_V) (B_z : pm_A), (6 - j_z).toNat < m_z → 0 ≤ j_z → j_z ≤ 6 → GJ A r B_z → n0 ≤ cn (B_z 9) → (¬ f_z = 0 → n0 < cn (B_z 9)) → (f_z = 0 → ∀ a_z b_z : Int, 0 ≤ a_z → a_z < i → 0 ≤ b_z → b_z < A 0 12 → clz A B_z a_z b_z) → (f_z = 0 → ∀ b_z : Int, 0 ≤ b_z → b_z < j_z → b_z < A 0 12 → clz A B_z i b_z) → Tm pmt (an_sh wM) o_X10_group 51 ([(2, 0), (0, r), (0, f_z), (0, i), (0, j_z), w5, w6_z, w7_z, w8, w9, w10_z], [], B_z) (gq_post A r) := by
  intro m_z
  induction m_z with
  | zero => intro j_z f_z w5 w6_z w7_z w8 w9 w10_z B_z h_z; omega
  | succ m_z ih_z =>
    intro j_z f_z w5 w6_z w7_z w8 w9 w10_z B_z hm_z j0 j1 hG hn hf hqi hqj
    have hF := hG.1.1
    have e12_z : B_z 0 12 = A 0 12 := hF.2 0 12 (by omega) (by omega) (by omega)
    have c14_z := pM_14 hF.1
    have c15_z := pM_15 hF.1
    have c16 := pM_16 hF.1
    have c18_z := pM_18 hF.1
    have b11 := eM_11 hF.1 (r := 11) (by omega) kn11 i0 (show i < 6 by omega)
    have e7_z : ∀ x_z, B_z 7 x_z = A 7 x_z := fun x_z => hF.2 7 _ (by omega) (by omega) (by omega)
    have h192 : j_z < A 0 12 → ∀ (f_z : Int) C_z w5 w6_z w7_z w8 w9 w10_z, GJ A r C_z → n0 ≤ cn (C_z 9) → (¬ f_z = 0 → n0 < cn (C_z 9)) → (f_z = 0 → ∀ a_z b_z : Int, 0 ≤ a_z → a_z < i → 0 ≤ b_z → b_z < A 0 12 → clz A C_z a_z b_z) → (f_z = 0 → ∀ b_z : Int, 0 ≤ b_z → b_z < j_z + 1 → b_z < A 0 12 → clz A C_z i b_z) → Tm pmt (an_sh wM) o_X10_group 192 ([(2, 0), (0, r), (0, f_z), (0, i), (0, j_z), w5, w6_z, w7_z, w8, w9, w10_z], [], C_z) (gq_post A r) := fun hj f_z C_z w5 w6_z w7_z w8 w9 w10_z hC hC1 hC2 hC3 hC4 => by
      refine wq_ok srt_Mgroup (fr := []) (cuts := [51]) (J := fun pc st_z => (pc = 51 ∧ st_z = ([(2, 0), (0, r), (0, f_z), (0, i), (0, j_z + 1), w5, w6_z, w7_z, w8, w9, w10_z], [], C_z))) ?_ 7 192 _ ?_
      · rintro pc st_z (⟨rfl, rfl⟩)
        exact ih_z (j_z + 1) f_z _ _ _ _ _ _ C_z (by omega) (by omega) (by omega) hC hC1 hC2 hC3 hC4
      · refine ⟨⟨by omega, by omega⟩, ?_⟩
        exact ⟨rfl, rfl⟩
    have hnx : clz A B_z i j_z → (f_z = 0 → ∀ b_z : Int, 0 ≤ b_z → b_z < j_z + 1 → b_z < A 0 12 → clz A B_z i b_z) := fun hc_z hf0 b_z b0 b1 b2 => by
      by_cases e_z : b_z = j_z
      · rw [e_z]; exact hc_z
      · exact hqj hf0 b_z b0 (by omega) b2
    refine wq_ok srt_Mgroup (fr := []) (cuts := [120, 192, 198]) (J := fun pc st_z => (pc = 198 ∧ ((B_z 0 12) ≤ j_z) ∧ st_z = ([(2, 0), (0, r), (0, f_z), (0, i), (0, j_z), w5, w6_z, w7_z, w8, w9, w10_z], [], B_z)) ∨ (pc = 192 ∧ (j_z < (B_z 0 12)) ∧ ((B_z (B_z 0 18) i) = 0) ∧ st_z = ([(2, 0), (0, r), (0, f_z), (0, i), (0, j_z), w5, w6_z, w7_z, w8, w9, w10_z], [], B_z)) ∨ (pc = 192 ∧ (j_z < (B_z 0 12)) ∧ (¬ (B_z (B_z 0 18) i) = 0) ∧ (0 < (B_z (B_z 0 16) j_z)) ∧ st_z = ([(2, 0), (0, r), (0, f_z), (0, i), (0, j_z), w5, w6_z, w7_z, w8, w9, w10_z], [], B_z)) ∨ (pc = 120 ∧ j_z < A 0 12 ∧ B_z 11 i = 1 ∧ B_z 9 j_z = 0 ∧ ¬ A 7 (6 * j_z + i) = 0 ∧ ∃ t_z : Int, (1 ≤ t_z ∧ t_z ≤ 9) ∧ t_z = avx (A 7 (6 * i + j_z)) ∧ st_z = ([(2, 0), (0, r), (0, f_z), (0, i), (0, j_z), w5, w6_z, w7_z, w8, w9, w10_z], [(0, t_z), (1, B_z (B_z 0 15) i)], B_z)) ∨ (pc = 192 ∧ (j_z < (B_z 0 12)) ∧ (¬ (B_z (B_z 0 18) i) = 0) ∧ ((B_z (B_z 0 16) j_z) = 0) ∧ ((B_z (B_z 0 14) ((6 * i) + j_z)) = 0) ∧ st_z = ([(2, 0), (0, r), (0, f_z), (0, i), (0, j_z), w5, w6_z, w7_z, w8, w9, w10_z], [], B_z)) ∨ (pc = 192 ∧ (j_z < (B_z 0 12)) ∧ (¬ (B_z (B_z 0 18) i) = 0) ∧ ((B_z (B_z 0 16) j_z) < 0) ∧ st_z = ([(2, 0), (0, r), (0, f_z), (0, i), (0, j_z), w5, w6_z, w7_z, w8, w9, w10_z], [], B_z))) ?_ 42 51 _ ?_
    · rintro pc st_z (⟨rfl, h0, rfl⟩ | ⟨rfl, h0, h1, rfl⟩ | ⟨rfl, h0, h1, h2, rfl⟩ | ⟨rfl, g1, g2, g3_z, g4, t_z, t1_z, t3_z, rfl⟩ | ⟨rfl, h0, h1, h2, h3, rfl⟩ | ⟨rfl, h0, h1, h2, rfl⟩)
      · refine H f_z B_z _ _ _ _ _ _ _ hG hn hf (fun hf0 a_z b_z a0_z a1_z b0 b1 => ?_)
        by_cases e_z : a_z = i
        · rw [e_z]; exact hqj hf0 b_z b0 (by omega) b1
        · exact hqi hf0 a_z b_z a0_z (by omega) b0 b1
      · rw [c18_z] at h1
        exact h192 (by omega) f_z B_z _ _ _ _ _ _ hG hn hf hqi (hnx (fun q_z => by omega))
      · rw [c16] at h2
        exact h192 (by omega) f_z B_z _ _ _ _ _ _ hG hn hf hqi (hnx (fun _ _ => by omega))
      · exact gq_120 hT p6 hG i0 i1 g2 j0 g1 g3_z g4 t1_z (by rw [c15_z]) t3_z (fun C_z w5 w6_z w7_z w8 w9 w10_z q1_z q2_z => h192 g1 1 C_z _ _ _ _ _ _ q1_z (by omega) (fun _ => by omega) (fun e_z => absurd e_z (by omega)) (fun e_z => absurd e_z (by omega)))
      · rw [c14_z, e7_z] at h3
        exact h192 (by omega) f_z B_z _ _ _ _ _ _ hG hn hf hqi (hnx (fun _ q_z => absurd h3 q_z))
      · rw [c16] at h2
        exact h192 (by omega) f_z B_z _ _ _ _ _ _ hG hn hf hqi (hnx (fun _ _ => by omega))
    · refine ⟨oM_0 (by omega) km0 12 rfl, ?_⟩
      refine ⟨fun h0 => ?_, fun h0 => ?_⟩
      · exact Or.inl (⟨rfl, h0, rfl⟩)
      · refine ⟨oM_0 (by omega) km0 18 rfl, ?_⟩
        refine ⟨aM_11 (r := B_z 0 18) (by rw [c18_z]; omega) (by rw [c18_z]; exact kn11) (by omega) (by omega), ?_⟩
        have e1 : B_z (B_z 0 18) i = B_z 11 i := by rw [c18_z]
        refine ⟨fun h1 => ?_, fun h1 => ?_⟩
        · exact Or.inr (Or.inl (⟨rfl, h0, h1, rfl⟩))
        · refine ⟨oM_0 (by omega) km0 16 rfl, ?_⟩
          refine ⟨aM_9 (r := B_z 0 16) (by rw [c16]; omega) (by rw [c16]; exact kn9) (by omega) (by omega), ?_⟩
          have e2 : B_z (B_z 0 16) j_z = B_z 9 j_z := by rw [c16]
          refine ⟨fun h2 => ?_, fun h2 => ?_, fun h2 => ?_⟩
          · refine ⟨fun _ => ?_, fun hh => absurd hh (by decide)⟩
            exact Or.inr (Or.inr (Or.inl (⟨rfl, h0, h1, h2, rfl⟩)))
          · refine ⟨fun hh => absurd hh (by decide), fun _ => ?_⟩
            refine ⟨oM_0 (by omega) km0 14 rfl, ?_⟩
            refine ⟨⟨by omega, by omega⟩, ?_⟩
            refine ⟨⟨by omega, by omega⟩, ?_⟩
            refine ⟨aM_7 (r := B_z 0 14) (by rw [c14_z]; omega) (by rw [c14_z]; exact kn7) (by omega) (by omega), ?_⟩
            have e3 : B_z (B_z 0 14) ((6 * i) + j_z) = B_z 7 ((6 * i) + j_z) := by rw [c14_z]
            refine ⟨fun h3 => ?_, fun h3 => ?_⟩
            · refine ⟨oM_0 (by omega) km0 15 rfl, ?_⟩
              refine ⟨aM_8 (r := B_z 0 15) (by rw [c15_z]; omega) (by rw [c15_z]; exact kn8) (by omega) (by omega), ?_⟩
              have e4_z : B_z (B_z 0 15) i = B_z 8 i := by rw [c15_z]
              refine ⟨oM_0 (by omega) km0 14 rfl, ?_⟩
              refine ⟨⟨by omega, by omega⟩, ?_⟩
              refine ⟨⟨by omega, by omega⟩, ?_⟩
              refine ⟨aM_7 (r := B_z 0 14) (by rw [c14_z]; omega) (by rw [c14_z]; exact kn7) (by omega) (by omega), ?_⟩
              have e5 : B_z (B_z 0 14) ((6 * i) + j_z) = B_z 7 ((6 * i) + j_z) := by rw [c14_z]
              refine ⟨rfl, ?_⟩
              rw [c14_z, e7_z] at h3
              rw [c16] at h2
              rw [c18_z] at h1
              have h9 := hT.1 (6 * i + j_z) (by omega) (by omega)
              have hn7 : ¬ A 7 (6 * j_z + i) = 0 := fun e_z => h3 (hT.2 j_z i j0 (by omega) i0 i1 e_z)
              rw [c14_z, e7_z]
              refine (without_ex (a := A 7 (6 * i + j_z)) (by omega) (by omega)).imp ?_
              rintro ⟨r1_z, C_z⟩ ⟨q1_z, q2_z⟩
              simp only at q1_z q2_z
              subst q1_z
              subst q2_z
              exact Or.inr (Or.inr (Or.inr (Or.inl (⟨rfl, by omega, by omega, h2, hn7, _, ⟨by unfold avx; split <;> omega, by unfold avx; split <;> omega⟩, rfl, rfl⟩))))
            · exact Or.inr (Or.inr (Or.inr (Or.inr (Or.inl (⟨rfl, h0, h1, h2, h3, rfl⟩)))))
          · refine ⟨fun _ => ?_, fun hh => absurd hh (by decide)⟩
            exact Or.inr (Or.inr (Or.inr (Or.inr (Or.inr (⟨rfl, h0, h1, h2, rfl⟩)))))
theorem gq_40 {A : pm_A} {r n0 : Int} (hT : tz A) (p6 : A 0 12 ≤ 6) (H : ∀ (f_z : Int) C_z w3_z w4_z w5 w6_z w7_z w8 w9 w10_z, GJ A r C_z → n0 ≤ cn (C_z 9) → (¬ f_z = 0 → n0 < cn (C_z 9)) → (f_z = 0 → gC A C_z) → Tm pmt (an_sh wM) o_X10_group 32 ([(2, 0), (0, r), (0, f_z), w3_z, w4_z, w5, w6_z, w7_z, w8, w9, w10_z], [], C_z) (gq_post A r)) : ∀ (m_z : Nat) (i_z f_z : Int) (w4_z w5 w6_z w7_z w8 w9 w10_z : pm_V) (B_z : pm_A), (6 - i_z).toNat < m_z → 0 ≤ i_z → i_z ≤ 6 → GJ A r B_z → n0 ≤ cn (B_z 9) → (¬ f_z = 0 → n0 < cn (B_z 9)) → (f_z = 0 → ∀ a_z b_z : Int, 0 ≤ a_z → a_z < i_z → 0 ≤ b_z → b_z < A 0 12 → clz A B_z a_z b_z) → Tm pmt (an_sh wM) o_X10_group 40 ([(2, 0), (0, r), (0, f_z), (0, i_z), w4_z, w5, w6_z, w7_z, w8, w9, w10_z], [], B_z) (gq_post A r) := by
  intro m_z
  induction m_z with
  | zero => intro i_z f_z w4_z w5 w6_z w7_z w8 w9 w10_z B_z h_z; omega
  | succ m_z ih_z =>
    intro i_z f_z w4_z w5 w6_z w7_z w8 w9 w10_z B_z hm_z i0_z i1_z hG hn hf hqi
    have hF := hG.1.1
    have e12_z : B_z 0 12 = A 0 12 := hF.2 0 12 (by omega) (by omega) (by omega)
    have h198 : i_z < A 0 12 → ∀ (f_z : Int) C_z w4_z w5 w6_z w7_z w8 w9 w10_z, GJ A r C_z → n0 ≤ cn (C_z 9) → (¬ f_z = 0 → n0 < cn (C_z 9)) → (f_z = 0 → ∀ a_z b_z : Int, 0 ≤ a_z → a_z < i_z + 1 → 0 ≤ b_z → b_z < A 0 12 → clz A C_z a_z b_z) → Tm pmt (an_sh wM) o_X10_group 198 ([(2, 0), (0, r), (0, f_z), (0, i_z), w4_z, w5, w6_z, w7_z, w8, w9, w10_z], [], C_z) (gq_post A r) := fun hi_z f_z C_z w4_z w5 w6_z w7_z w8 w9 w10_z hC hC1 hC2 hC3 => by
      refine wq_ok srt_Mgroup (fr := []) (cuts := [40]) (J := fun pc st_z => (pc = 40 ∧ st_z = ([(2, 0), (0, r), (0, f_z), (0, i_z + 1), w4_z, w5, w6_z, w7_z, w8, w9, w10_z], [], C_z))) ?_ 7 198 _ ?_
      · rintro pc st_z (⟨rfl, rfl⟩)
        exact ih_z (i_z + 1) f_z _ _ _ _ _ _ _ C_z (by omega) (by omega) (by omega) hC hC1 hC2 hC3
      · refine ⟨⟨by omega, by omega⟩, ?_⟩
        exact ⟨rfl, rfl⟩
    refine wq_ok srt_Mgroup (fr := []) (cuts := [32, 51]) (J := fun pc st_z => (pc = 32 ∧ ((B_z 0 12) ≤ i_z) ∧ st_z = ([(2, 0), (0, r), (0, f_z), (0, i_z), w4_z, w5, w6_z, w7_z, w8, w9, w10_z], [], B_z)) ∨ (pc = 51 ∧ (i_z < (B_z 0 12)) ∧ st_z = ([(2, 0), (0, r), (0, f_z), (0, i_z), (0, 0), w5, w6_z, w7_z, w8, w9, w10_z], [], B_z))) ?_ 11 40 _ ?_
    · rintro pc st_z (⟨rfl, h0, rfl⟩ | ⟨rfl, h0, rfl⟩)
      · exact H f_z B_z _ _ _ _ _ _ _ _ hG hn hf (fun hf0 a_z b_z a0_z a1_z b0 b1 => hqi hf0 a_z b_z a0_z (by omega) b0 b1)
      · exact gq_51 hT p6 i0_z (by omega) (h198 (by omega)) _ 0 f_z _ _ _ _ _ _ B_z (Nat.lt_succ_self _) (by omega) (by omega) hG hn hf hqi (fun _ b_z b0 b1 => by omega)
    · refine ⟨oM_0 (by omega) km0 12 rfl, ?_⟩
      refine ⟨fun h0 => ?_, fun h0 => ?_⟩
      · exact Or.inl (⟨rfl, h0, rfl⟩)
      · exact Or.inr (⟨rfl, h0, rfl⟩)
theorem gq_32 {A : pm_A} {r : Int} (hT : tz A) (p6 : A 0 12 ≤ 6) : ∀ (m_z : Nat) (f_z n0_z : Int) (w3_z w4_z w5 w6_z w7_z w8 w9 w10_z : pm_V) (B_z : pm_A), (6 - n0_z).toNat < m_z → GJ A r B_z → n0_z ≤ 6 → n0_z ≤ cn (B_z 9) → (¬ f_z = 0 → n0_z < cn (B_z 9)) → (f_z = 0 → gC A B_z) → Tm pmt (an_sh wM) o_X10_group 32 ([(2, 0), (0, r), (0, f_z), w3_z, w4_z, w5, w6_z, w7_z, w8, w9, w10_z], [], B_z) (gq_post A r) := by
  intro m_z
  induction m_z with
  | zero => intro f_z n0_z w3_z w4_z w5 w6_z w7_z w8 w9 w10_z B_z h_z; omega
  | succ m_z ih_z =>
    intro f_z n0_z w3_z w4_z w5 w6_z w7_z w8 w9 w10_z B_z hm_z hG hn hn1 hf hqa
    have hb_z := cn_b (B_z 9)
    refine wq_ok srt_Mgroup (fr := []) (cuts := [40, 212]) (J := fun pc st_z => (pc = 212 ∧ (f_z = 0) ∧ st_z = ([(2, 0), (0, r), (0, f_z), (1, 1), (9, 0), (0, 0), w6_z, w7_z, w8, w9, w10_z], [], B_z)) ∨ (pc = 40 ∧ (¬ f_z = 0) ∧ st_z = ([(2, 0), (0, r), (0, 0), (0, 0), w4_z, w5, w6_z, w7_z, w8, w9, w10_z], [], B_z))) ?_ 11 32 _ ?_
    · rintro pc st_z (⟨rfl, h0, rfl⟩ | ⟨rfl, h0, rfl⟩)
      · obtain ⟨⟨hF, ⟨D_z, hI⟩, hk⟩, hx⟩ := hG
        exact gq_212 p6 hF hk hI hx (hqa h0) _ 0 1 (Nat.lt_succ_self _) (by omega) (by omega) (by omega) (Int.one_dvd D_z) (fun i_z i0_z i1_z => by omega)
      · have hc_z := hf h0
        exact gq_40 (n0 := cn (B_z 9)) hT p6 (fun f_z C_z w3_z w4_z w5 w6_z w7_z w8 w9 w10_z q1_z q2_z q3_z q4_z => ih_z f_z (cn (B_z 9)) _ _ _ _ _ _ _ _ C_z (by omega) q1_z (by omega) q2_z q3_z q4_z) _ 0 0 _ _ _ _ _ _ _ B_z (Nat.lt_succ_self _) (by omega) (by omega) hG (Int.le_refl _) (fun e_z => absurd rfl e_z) (fun _ a_z b_z a0_z a1_z => by omega)
    · refine ⟨fun h0 => ?_, fun h0 => ?_⟩
      · exact Or.inl (⟨rfl, h0, rfl⟩)
      · exact Or.inr (⟨rfl, h0, rfl⟩)
theorem gq_2 {A : pm_A} {r : Int} (hT : tz A) (p6 : A 0 12 ≤ 6) (r0 : 0 ≤ r) (r1 : r < A 0 12) (hZ : ∀ i_z : Int, 0 ≤ i_z → i_z ≤ 5 → Zs (A 0 12) A i_z) (hr : A 9 r = 1) (hr8 : A 8 r = 1) : ∀ (m_z : Nat) (i_z : Int) (w3_z w4_z w5 w6_z w7_z w8 w9 w10_z : pm_V) (B_z : pm_A), (6 - i_z).toNat < m_z → 0 ≤ i_z → i_z ≤ 6 → gH wM B_z → (∀ q_z j_z, q_z ≠ 11 → B_z q_z j_z = A q_z j_z) → (∀ k_z : Int, 0 ≤ k_z → k_z < i_z → B_z 11 k_z = if k_z = r then 1 else 0) → Tm pmt (an_sh wM) o_X10_group 2 ([(2, 0), (0, r), (0, i_z), w3_z, w4_z, w5, w6_z, w7_z, w8, w9, w10_z], [], B_z) (gq_post A r) := by
  intro m_z
  induction m_z with
  | zero => intro i_z w3_z w4_z w5 w6_z w7_z w8 w9 w10_z B_z h_z; omega
  | succ m_z ih_z =>
    intro i_z w3_z w4_z w5 w6_z w7_z w8 w9 w10_z B_z hm_z i0_z i1_z hB_z he hI
    have c18_z := pM_18 hB_z
    have go_z : i_z < 6 → ∀ x_z, x_z = (if i_z = r then (1 : Int) else 0) → Tm pmt (an_sh wM) o_X10_group 2 ([(2, 0), (0, r), (0, i_z + 1), w3_z, w4_z, w5, w6_z, w7_z, w8, w9, w10_z], [], pm_upd B_z 11 i_z x_z) (gq_post A r) := fun hi_z x_z hx => by
      refine ih_z (i_z + 1) _ _ _ _ _ _ _ _ _ (by omega) (by omega) (by omega) (uM_11 hB_z kn11 (by rw [hx]; split <;> omega) (by rw [hx]; split <;> omega)) (fun q_z j_z hq => by rw [upd_o (by omega)]; exact he q_z j_z hq) (fun k_z k0_z k1_z => ?_)
      by_cases e_z : k_z = i_z
      · rw [e_z, upd_at, hx]
      · rw [upd_o (by omega)]; exact hI k_z k0_z (by omega)
    have hend : 6 ≤ i_z → GJ A r B_z := fun hi_z => by
      have e9_z : B_z 9 = A 9 := funext fun j_z => he 9 j_z (by omega)
      have hq := p9_pos (cn (B_z 9))
      have hxx : gx A r B_z := by
        refine ⟨⟨by rw [hI r r0 (by omega), if_pos rfl], fun k_z k0_z k1_z => ?_⟩, fun d_z sd_z k_z k0_z k1_z h_z => ?_⟩
        · by_cases e_z : k_z = r
          · exact Or.inr ⟨by rw [hI k_z k0_z (by omega), if_pos e_z], Or.inl e_z⟩
          · exact Or.inl ⟨by rw [hI k_z k0_z (by omega), if_neg e_z], by rw [e9_z], he 8 k_z (by omega)⟩
        · by_cases e_z : k_z = r
          · rw [e_z, e9_z, hr, he 8 r (by omega), hr8]
          · rw [hI k_z k0_z (by omega), if_neg e_z] at h_z; omega
      refine ⟨⟨⟨hB_z, fun q_z j_z h1 h2 h3 => he q_z j_z h3⟩, ⟨1, ⟨by omega, hq⟩, fun k_z k0_z k1_z => ?_⟩, fun k_z hk => by rw [e9_z]; exact hk⟩, hxx⟩
      have h11 := hI k_z k0_z (by omega)
      have hz := hZ k_z k0_z k1_z
      by_cases e_z : k_z = r
      · rw [if_pos e_z] at h11
        refine Or.inr ⟨h11, by omega, 1, by omega, ?_, ?_, ?_, ?_⟩
        · rw [e9_z, e_z, hr]; rfl
        · rw [he 8 k_z (by omega)]
          rw [e_z, hr8]; omega
        · rw [he 8 k_z (by omega)]
          rcases hz with hz | hz | hz
          · omega
          · rw [e_z] at hz; omega
          · exact hz.2.1
        · rw [e9_z, e_z, hr]; omega
      · rw [if_neg e_z] at h11
        refine Or.inl ⟨h11, ?_⟩
        unfold Zs; rw [e9_z, he 8 k_z (by omega)]; exact hz
    refine wq_ok srt_Mgroup (fr := []) (cuts := [2, 32]) (J := fun pc st_z => (pc = 32 ∧ (6 ≤ i_z) ∧ st_z = ([(2, 0), (0, r), (0, 1), w3_z, w4_z, w5, w6_z, w7_z, w8, w9, w10_z], [], B_z)) ∨ (pc = 2 ∧ (i_z < 6) ∧ (¬ i_z = r) ∧ st_z = ([(2, 0), (0, r), (0, i_z + 1), w3_z, w4_z, w5, w6_z, w7_z, w8, w9, w10_z], [], pm_upd B_z (B_z 0 18) i_z 0)) ∨ (pc = 2 ∧ (i_z < 6) ∧ (i_z = r) ∧ st_z = ([(2, 0), (0, r), (0, i_z + 1), w3_z, w4_z, w5, w6_z, w7_z, w8, w9, w10_z], [], pm_upd B_z (B_z 0 18) i_z 1))) ?_ 19 2 _ ?_
    · rintro pc st_z (⟨rfl, h0, rfl⟩ | ⟨rfl, h0, h1, rfl⟩ | ⟨rfl, h0, h1, rfl⟩)
      · have hG := hend (by omega)
        have hb_z := cn_b (B_z 9)
        exact gq_32 hT p6 _ 1 (-1) _ _ _ _ _ _ _ _ B_z (Nat.lt_succ_self _) hG (by omega) (by omega) (fun _ => by omega) (fun e_z => absurd e_z (by omega))
      · rw [c18_z]
        exact go_z (by omega) _ (by rw [if_neg h1])
      · rw [c18_z]
        exact go_z (by omega) _ (by rw [if_pos h1])
    · refine ⟨fun h0 => ?_, fun h0 => ?_⟩
      · exact Or.inl (⟨rfl, h0, rfl⟩)
      · refine ⟨oM_0 (by omega) km0 18 rfl, ?_⟩
        refine ⟨fun h1 => ?_, fun h1 => ?_⟩
        · refine ⟨tM_11 (r := B_z 0 18) (by rw [c18_z]; omega) (by rw [c18_z]; exact kn11) (by omega) (by omega) rfl, ?_⟩
          refine ⟨⟨by omega, by omega⟩, ?_⟩
          exact Or.inr (Or.inl (⟨rfl, h0, h1, rfl⟩))
        · refine ⟨tM_11 (r := B_z 0 18) (by rw [c18_z]; omega) (by rw [c18_z]; exact kn11) (by omega) (by omega) rfl, ?_⟩
          refine ⟨⟨by omega, by omega⟩, ?_⟩
          exact Or.inr (Or.inr (⟨rfl, h0, h1, rfl⟩))
theorem group_ex2 {A : pm_A} {r : Int} (hA : gH wM A) (hT : tz A) (p6 : A 0 12 ≤ 6) (r0 : 0 ≤ r) (r1 : r < A 0 12) (hZ : ∀ i_z : Int, 0 ≤ i_z → i_z ≤ 5 → Zs (A 0 12) A i_z) (hr : A 9 r = 1) (hr8 : A 8 r = 1) : Cl pmt (an_sh wM) 149 [(2, 0), (0, r)] A (gq_post A r) := by
  refine Cl.of (Nat.le_of_ble_eq_true rfl) ?_
  refine wq_ok (full := o_X10_group) srt_Mgroup (fr := []) (cuts := [2]) (J := fun pc st_z => (pc = 2 ∧ st_z = ([(2, 0), (0, r), (0, 0), (9, 0), (9, 0), (9, 0), (9, 0), (9, 0), (9, 0), (9, 0), (9, 0)], [], A))) ?_ 7 0 _ ?_
  · rintro pc st_z (⟨rfl, rfl⟩)
    exact gq_2 hT p6 r0 r1 hZ hr hr8 _ 0 _ _ _ _ _ _ _ _ A (Nat.lt_succ_self _) (by omega) (by omega) hA (fun _ _ _ => rfl) (fun k_z k0_z k1_z => by omega)
  · exact ⟨rfl, rfl⟩
def kz (A B : pm_A) : Prop := ∀ i_z j_z : Int, 0 ≤ i_z → i_z < A 0 12 → 0 ≤ j_z → j_z < A 0 12 → ¬ B 9 i_z = 0 → ¬ A 7 (6 * i_z + j_z) = 0 → ¬ B 9 j_z = 0 ∧ ∀ d_z, sy (A 0 12) (A 7) d_z → ∃ c_z, d_z i_z = c_z * B 8 i_z ∧ d_z j_z = c_z * B 8 j_z
def dvz (A B : pm_A) : Prop := ∀ d_z, sy (A 0 12) (A 7) d_z → ∀ i_z : Int, 0 ≤ i_z → i_z < A 0 12 → ¬ B 9 i_z = 0 → ∃ c_z, d_z i_z = c_z * B 8 i_z
def KZ (A B : pm_A) : Prop := kz A B ∧ dvz A B
theorem sy_mv {A C : pm_A} {d : Int → Int} (f12 : C 0 12 = A 0 12) (f7 : ∀ x_z, C 7 x_z = A 7 x_z) (h : sy (A 0 12) (A 7) d) : sy (C 0 12) (C 7) d := by
  rw [f12, show C 7 = A 7 from funext f7]; exact h
theorem kz_grp {A B C D : pm_A} {i : Int} (hT : tz A) (f12 : C 0 12 = A 0 12) (f7 : ∀ x_z, C 7 x_z = A 7 x_z) (o9 : ∀ k_z, k_z ≠ i → C 9 k_z = B 9 k_z) (o8 : ∀ k_z, k_z ≠ i → C 8 k_z = B 8 k_z) (hz : B 9 i = 0) (h : KZ A B) (g1 : gy C i D) (g2 : ∀ a_z b_z : Int, 0 ≤ a_z → a_z < C 0 12 → 0 ≤ b_z → b_z < C 0 12 → clz C D a_z b_z) (g3 : ∀ d_z, sy (C 0 12) (C 7) d_z → ∃ c_z, ∀ k_z : Int, 0 ≤ k_z → k_z < C 0 12 → D 11 k_z = 1 → d_z k_z = c_z * D 8 k_z) : KZ A D := by
  have mem_z : ∀ k_z : Int, 0 ≤ k_z → k_z < A 0 12 → (D 11 k_z = 0 ∧ k_z ≠ i ∧ D 9 k_z = B 9 k_z ∧ D 8 k_z = B 8 k_z) ∨ (D 11 k_z = 1 ∧ B 9 k_z = 0) := fun k_z k0_z k1_z => by
    rcases g1.2 k_z k0_z (by rw [f12]; exact k1_z) with ⟨q1_z, q2_z, q3_z⟩ | ⟨q1_z, q2_z⟩
    · have e_z : k_z ≠ i := fun e_z => by rw [e_z, g1.1] at q1_z; omega
      exact Or.inl ⟨q1_z, e_z, by rw [q2_z, o9 k_z e_z], by rw [q3_z, o8 k_z e_z]⟩
    · refine Or.inr ⟨q1_z, ?_⟩
      by_cases e_z : k_z = i
      · rw [e_z]; exact hz
      · rcases q2_z with q2_z | q2_z
        · exact absurd q2_z e_z
        · rw [← o9 k_z e_z]; exact q2_z
  refine ⟨fun a_z b_z a0_z a1_z b0 b1 h9 h7 => ?_, fun d_z sd_z k_z k0_z k1_z h9 => ?_⟩
  · rcases mem_z a_z a0_z a1_z with ⟨m1_z, m2_z, m3_z, m4_z⟩ | ⟨m1_z, m2_z⟩
    · have w_z := h.1 a_z b_z a0_z a1_z b0 b1 (by rw [← m3_z]; exact h9) h7
      rcases mem_z b_z b0 b1 with ⟨n1_z, n2_z, n3_z, n4_z⟩ | ⟨n1_z, n2_z⟩
      · rw [n3_z, n4_z, m4_z]; exact w_z
      · exact absurd n2_z w_z.1
    · have w_z := g2 a_z b_z a0_z (by rw [f12]; exact a1_z) b0 (by rw [f12]; exact b1) m1_z (by rw [f7]; exact h7)
      rcases mem_z b_z b0 b1 with ⟨n1_z, n2_z, n3_z, n4_z⟩ | ⟨n1_z, n2_z⟩
      · have hn : ¬ A 7 (6 * b_z + a_z) = 0 := fun e_z => h7 (hT.2 b_z a_z b0 b1 a0_z a1_z e_z)
        exact absurd m2_z (h.1 b_z a_z b0 b1 a0_z a1_z (by rw [← n3_z]; exact w_z) hn).1
      · refine ⟨w_z, fun d_z sd_z => ?_⟩
        obtain ⟨c_z, hc_z⟩ := g3 d_z (sy_mv f12 f7 sd_z)
        exact ⟨c_z, hc_z a_z a0_z (by rw [f12]; exact a1_z) m1_z, hc_z b_z b0 (by rw [f12]; exact b1) n1_z⟩
  · rcases mem_z k_z k0_z k1_z with ⟨m1_z, m2_z, m3_z, m4_z⟩ | ⟨m1_z, m2_z⟩
    · rw [m4_z]; exact h.2 d_z sd_z k_z k0_z k1_z (by rw [← m3_z]; exact h9)
    · obtain ⟨c_z, hc_z⟩ := g3 d_z (sy_mv f12 f7 sd_z)
      exact ⟨c_z, hc_z k_z k0_z (by rw [f12]; exact k1_z) m1_z⟩
theorem sy_key {p : Int} {T d s : Int → Int} {i j c : Int} (sd : sy p T d) (i0 : 0 ≤ i) (i1 : i < p) (j0 : 0 ≤ j) (j1 : j < p) (h1 : d i = c * s i) (h2 : d j = c * s j) : s i * T (6 * i + j) = -(s j) * T (6 * j + i) := by
  have a_z := sd.1 i i0 i1
  have e_z := sd.2 i j i0 i1 j0 j1
  have c0_z : c ≠ 0 := fun h_z => by rw [h1, h_z, Int.zero_mul] at a_z; omega
  rw [h1, h2, Int.mul_assoc, Int.mul_assoc, ← Int.mul_neg] at e_z
  rw [Int.neg_mul]
  exact Int.eq_of_mul_eq_mul_left c0_z e_z
theorem kz_key {A B : pm_A} {d : Int → Int} {i j : Int} (hT : tz A) (h : kz A B) (sd : sy (A 0 12) (A 7) d) (i0 : 0 ≤ i) (i1 : i < A 0 12) (j0 : 0 ≤ j) (j1 : j < A 0 12) (h9 : ¬ B 9 i = 0) : B 8 i * A 7 (6 * i + j) = -(B 8 j) * A 7 (6 * j + i) := by
  by_cases e_z : A 7 (6 * i + j) = 0
  · rw [e_z, hT.2 i j i0 i1 j0 j1 e_z, Int.mul_zero, Int.mul_zero]
  · obtain ⟨c_z, h1, h2⟩ := (h i j i0 i1 j0 j1 h9 e_z).2 d sd
    exact sy_key (s := B 8) sd i0 i1 j0 j1 h1 h2
def hv_post (A : pm_A) (r : pm_R) : Prop := gpF A r.2 ∧ ∃ x_z, r.1 = some (0, x_z) ∧ ((x_z = 0 ∧ ∀ d_z, ¬ sy (A 0 12) (A 7) d_z) ∨ (¬ x_z = 0 ∧ szd r.2 ∧ ∀ d_z, sy (A 0 12) (A 7) d_z → ∀ i_z : Int, 0 ≤ i_z → i_z < A 0 12 → ∃ c_z, d_z i_z = c_z * r.2 8 i_z))
theorem hw_84 {A B : pm_A} {i : Int} (hT : tz A) (p6 : A 0 12 ≤ 6) (hF : gpF A B) (hz : ∀ k_z : Int, 0 ≤ k_z → k_z < A 0 12 → B 9 k_z = 1 ∧ 1 ≤ B 8 k_z ∧ B 8 k_z ≤ 531441) (hK : kz A B) (i0 : 0 ≤ i) (i1 : i < A 0 12) (H : (∀ j_z : Int, 0 ≤ j_z → j_z < A 0 12 → B 8 i * B 7 (6 * i + j_z) = -(B 8 j_z) * B 7 (6 * j_z + i)) → ∀ w2_z, Tm pmt (an_sh wM) o_X10_hasSizes 74 ([(2, 0), (0, i + 1), w2_z], [], B) (hv_post A)) : ∀ (m_z : Nat) (j_z : Int), (6 - j_z).toNat < m_z → 0 ≤ j_z → j_z ≤ 6 → (∀ k_z : Int, 0 ≤ k_z → k_z < j_z → k_z < A 0 12 → B 8 i * B 7 (6 * i + k_z) = -(B 8 k_z) * B 7 (6 * k_z + i)) → Tm pmt (an_sh wM) o_X10_hasSizes 84 ([(2, 0), (0, i), (0, j_z)], [], B) (hv_post A) := by
  have e12_z : B 0 12 = A 0 12 := hF.2 0 12 (by omega) (by omega) (by omega)
  have c14_z := pM_14 hF.1
  have c15_z := pM_15 hF.1
  have c16 := pM_16 hF.1
  have e7_z : ∀ x_z, B 7 x_z = A 7 x_z := fun x_z => hF.2 7 _ (by omega) (by omega) (by omega)
  intro m_z
  induction m_z with
  | zero => intro j_z h_z; omega
  | succ m_z ih_z =>
    intro j_z hm_z j0 j1 hj
    have hm1 : j_z < A 0 12 → -9223372036854775808 ≤ B 8 i * B 7 (6 * i + j_z) ∧ B 8 i * B 7 (6 * i + j_z) ≤ 9223372036854775807 := fun h_z => by
      have a_z := hz i i0 i1
      have b_z := hT.1 (6 * i + j_z) (by omega) (by omega)
      rw [e7_z]
      exact mulb2 (by omega) (by omega) b_z.1 b_z.2
    have hm2 : j_z < A 0 12 → -9223372036854775808 ≤ -(B 8 j_z) * B 7 (6 * j_z + i) ∧ -(B 8 j_z) * B 7 (6 * j_z + i) ≤ 9223372036854775807 := fun h_z => by
      have a_z := hz j_z j0 h_z
      have b_z := hT.1 (6 * j_z + i) (by omega) (by omega)
      rw [e7_z]
      exact mulb2 (by omega) (by omega) b_z.1 b_z.2
    have hz1 := hz i i0 i1
    by_cases hb_z : j_z < A 0 12
    · have hz2 := hz j_z j0 hb_z
      have g1 := hm1 hb_z
      have g2 := hm2 hb_z
      refine wq_ok srt_hasSizes (fr := []) (cuts := [74, 84]) (J := fun pc st_z => (pc = 74 ∧ ((B 0 12) ≤ j_z) ∧ st_z = ([(2, 0), (0, i + 1), (0, j_z)], [], B)) ∨ (pc = 84 ∧ (j_z < (B 0 12)) ∧ ((((B (B 0 15) i) * (B (B 0 14) ((6 * i) + j_z))) * (B (B 0 16) j_z)) = (((-(B (B 0 15) j_z)) * (B (B 0 14) ((6 * j_z) + i))) * (B (B 0 16) i))) ∧ st_z = ([(2, 0), (0, i), (0, j_z + 1)], [], B))) ?_ 52 84 _ ?_
      · rintro pc st_z (⟨rfl, h0, rfl⟩ | ⟨rfl, h0, h1, rfl⟩)
        · exact absurd h0 (by omega)
        · rw [c15_z, c14_z, c16, hz2.1, hz1.1, Int.mul_one, Int.mul_one] at h1
          refine ih_z (j_z + 1) (by omega) (by omega) (by omega) (fun k_z k0_z k1_z k2_z => ?_)
          by_cases e_z : k_z = j_z
          · subst e_z; exact h1
          · exact hj k_z k0_z (by omega) k2_z
      · refine ⟨oM_0 (by omega) km0 12 rfl, ?_⟩
        refine ⟨fun h0 => ?_, fun h0 => ?_⟩
        · refine ⟨⟨by omega, by omega⟩, ?_⟩
          exact Or.inl (⟨rfl, h0, rfl⟩)
        · refine ⟨oM_0 (by omega) km0 15 rfl, ?_⟩
          refine ⟨aM_8 (r := B 0 15) (by rw [c15_z]; omega) (by rw [c15_z]; exact kn8) (by omega) (by omega), ?_⟩
          have e1 : B (B 0 15) i = B 8 i := by rw [c15_z]
          refine ⟨oM_0 (by omega) km0 14 rfl, ?_⟩
          refine ⟨⟨by omega, by omega⟩, ?_⟩
          refine ⟨⟨by omega, by omega⟩, ?_⟩
          refine ⟨aM_7 (r := B 0 14) (by rw [c14_z]; omega) (by rw [c14_z]; exact kn7) (by omega) (by omega), ?_⟩
          have e2 : B (B 0 14) ((6 * i) + j_z) = B 7 ((6 * i) + j_z) := by rw [c14_z]
          refine ⟨(by rw [c15_z, c14_z]; exact g1), ?_⟩
          refine ⟨oM_0 (by omega) km0 16 rfl, ?_⟩
          refine ⟨aM_9 (r := B 0 16) (by rw [c16]; omega) (by rw [c16]; exact kn9) (by omega) (by omega), ?_⟩
          have e3 : B (B 0 16) j_z = B 9 j_z := by rw [c16]
          refine ⟨(by rw [c15_z, c14_z, c16, hz2.1, Int.mul_one]; exact g1), ?_⟩
          refine ⟨oM_0 (by omega) km0 15 rfl, ?_⟩
          refine ⟨aM_8 (r := B 0 15) (by rw [c15_z]; omega) (by rw [c15_z]; exact kn8) (by omega) (by omega), ?_⟩
          have e4_z : B (B 0 15) j_z = B 8 j_z := by rw [c15_z]
          refine ⟨(by rw [c15_z]; exact ⟨by omega, by omega⟩), ?_⟩
          refine ⟨oM_0 (by omega) km0 14 rfl, ?_⟩
          refine ⟨⟨by omega, by omega⟩, ?_⟩
          refine ⟨⟨by omega, by omega⟩, ?_⟩
          refine ⟨aM_7 (r := B 0 14) (by rw [c14_z]; omega) (by rw [c14_z]; exact kn7) (by omega) (by omega), ?_⟩
          have e5 : B (B 0 14) ((6 * j_z) + i) = B 7 ((6 * j_z) + i) := by rw [c14_z]
          refine ⟨(by rw [c15_z, c14_z]; exact g2), ?_⟩
          refine ⟨oM_0 (by omega) km0 16 rfl, ?_⟩
          refine ⟨aM_9 (r := B 0 16) (by rw [c16]; omega) (by rw [c16]; exact kn9) (by omega) (by omega), ?_⟩
          have e6_z : B (B 0 16) i = B 9 i := by rw [c16]
          refine ⟨(by rw [c15_z, c14_z, c16, hz1.1, Int.mul_one]; exact g2), ?_⟩
          refine ⟨fun h1 => ?_, fun h1 => ?_, fun h1 => ?_⟩
          · refine ⟨fun hh => absurd hh (by decide), fun _ => ?_⟩
            rw [c15_z, c14_z, c16, hz2.1, hz1.1, Int.mul_one, Int.mul_one, e7_z, e7_z] at h1
            exact ⟨rfl, hF, 0, rfl, Or.inl ⟨rfl, fun d_z sd_z => absurd (kz_key hT hK sd_z i0 i1 j0 hb_z (by omega)) (by omega)⟩⟩
          · refine ⟨fun _ => ?_, fun hh => absurd hh (by decide)⟩
            refine ⟨⟨by omega, by omega⟩, ?_⟩
            exact Or.inr (⟨rfl, h0, h1, rfl⟩)
          · refine ⟨fun hh => absurd hh (by decide), fun _ => ?_⟩
            rw [c15_z, c14_z, c16, hz2.1, hz1.1, Int.mul_one, Int.mul_one, e7_z, e7_z] at h1
            exact ⟨rfl, hF, 0, rfl, Or.inl ⟨rfl, fun d_z sd_z => absurd (kz_key hT hK sd_z i0 i1 j0 hb_z (by omega)) (by omega)⟩⟩
    · have hz2 : (1 : Int) = 1 := rfl
      refine wq_ok srt_hasSizes (fr := []) (cuts := [74, 92]) (J := fun pc st_z => (pc = 74 ∧ ((B 0 12) ≤ j_z) ∧ st_z = ([(2, 0), (0, i + 1), (0, j_z)], [], B)) ∨ (pc = 92 ∧ (j_z < (B 0 12)) ∧ st_z = ([(2, 0), (0, i), (0, j_z)], [], B))) ?_ 11 84 _ ?_
      · rintro pc st_z (⟨rfl, h0, rfl⟩ | ⟨rfl, h0, rfl⟩)
        · exact H (fun k_z k0_z k1_z => hj k_z k0_z (by omega) k1_z) _
        · exact absurd (show j_z < A 0 12 by omega) hb_z
      · refine ⟨oM_0 (by omega) km0 12 rfl, ?_⟩
        refine ⟨fun h0 => ?_, fun h0 => ?_⟩
        · refine ⟨⟨by omega, by omega⟩, ?_⟩
          exact Or.inl (⟨rfl, h0, rfl⟩)
        · exact Or.inr (⟨rfl, h0, rfl⟩)
theorem hw_74 {A B : pm_A} (hT : tz A) (p6 : A 0 12 ≤ 6) (hF : gpF A B) (hz : ∀ k_z : Int, 0 ≤ k_z → k_z < A 0 12 → B 9 k_z = 1 ∧ 1 ≤ B 8 k_z ∧ B 8 k_z ≤ 531441) (hK : KZ A B) : ∀ (m_z : Nat) (i_z : Int) (w2_z : pm_V), (6 - i_z).toNat < m_z → 0 ≤ i_z → i_z ≤ 6 → (∀ k_z : Int, 0 ≤ k_z → k_z < i_z → k_z < A 0 12 → ∀ j_z : Int, 0 ≤ j_z → j_z < A 0 12 → B 8 k_z * B 7 (6 * k_z + j_z) = -(B 8 j_z) * B 7 (6 * j_z + k_z)) → Tm pmt (an_sh wM) o_X10_hasSizes 74 ([(2, 0), (0, i_z), w2_z], [], B) (hv_post A) := by
  have e12_z : B 0 12 = A 0 12 := hF.2 0 12 (by omega) (by omega) (by omega)
  intro m_z
  induction m_z with
  | zero => intro i_z w2_z h_z; omega
  | succ m_z ih_z =>
    intro i_z w2_z hm_z i0_z i1_z hi_z
    have hsz : A 0 12 ≤ i_z → szd B := fun h_z k_z k0_z k1_z => by
      rw [e12_z] at k1_z
      rw [e12_z]
      have := hz k_z k0_z k1_z
      exact ⟨this.1, this.2, hi_z k_z k0_z (by omega) k1_z⟩
    have hfin : A 0 12 ≤ i_z → hv_post A (some (0, 1), B) := fun h_z => ⟨hF, 1, rfl, Or.inr ⟨by omega, hsz h_z, fun d_z sd_z k_z k0_z k1_z => hK.2 d_z sd_z k_z k0_z k1_z (by have := hz k_z k0_z k1_z; omega)⟩⟩
    refine wq_ok srt_hasSizes (fr := []) (cuts := [84]) (J := fun pc st_z => (pc = 84 ∧ (i_z < (B 0 12)) ∧ st_z = ([(2, 0), (0, i_z), (0, 0)], [], B))) ?_ 11 74 _ ?_
    · rintro pc st_z (⟨rfl, h0, rfl⟩)
      refine hw_84 hT p6 hF hz hK.1 i0_z (by omega) (fun hj w2_z => ih_z (i_z + 1) w2_z (by omega) (by omega) (by omega) (fun k_z k0_z k1_z k2_z => ?_)) _ 0 (Nat.lt_succ_self _) (by omega) (by omega) (fun k_z k0_z k1_z => by omega)
      by_cases e_z : k_z = i_z
      · subst e_z; exact hj
      · exact hi_z k_z k0_z (by omega) k2_z
    · refine ⟨oM_0 (by omega) km0 12 rfl, ?_⟩
      refine ⟨fun h0 => ?_, fun h0 => ?_⟩
      · exact ⟨rfl, hfin (by omega)⟩
      · exact ⟨rfl, h0, rfl⟩
theorem hw_25 {A : pm_A} (hT : tz A) (p6 : A 0 12 ≤ 6) : ∀ (m_z : Nat) (i_z : Int) (w2_z : pm_V) (B_z : pm_A), (6 - i_z).toNat < m_z → 0 ≤ i_z → i_z ≤ 6 → gpF A B_z → (∀ k_z : Int, 0 ≤ k_z → k_z ≤ 5 → Zs (A 0 12) B_z k_z) → (∀ k_z : Int, 0 ≤ k_z → k_z < i_z → k_z < A 0 12 → B_z 9 k_z ≠ 0) → KZ A B_z → Tm pmt (an_sh wM) o_X10_hasSizes 25 ([(2, 0), (0, i_z), w2_z], [], B_z) (hv_post A) := by
  intro m_z
  induction m_z with
  | zero => intro i_z w2_z B_z h_z; omega
  | succ m_z ih_z =>
    intro i_z w2_z B_z hm_z i0_z i1_z hF hZ hk hK_z
    have e12_z : B_z 0 12 = A 0 12 := hF.2 0 12 (by omega) (by omega) (by omega)
    have c15_z := pM_15 hF.1
    have c16a := pM_16 hF.1
    have hend : A 0 12 ≤ i_z → Tm pmt (an_sh wM) o_X10_hasSizes 74 ([(2, 0), (0, 0), w2_z], [], B_z) (hv_post A) := fun h_z => hw_74 hT p6 hF (fun k_z k0_z k1_z => by
      have a_z := hk k_z k0_z (by omega) k1_z
      rcases hZ k_z k0_z (by omega) with h_z | h_z | h_z
      · omega
      · exact absurd h_z a_z
      · exact h_z) hK_z _ 0 _ (Nat.lt_succ_self _) (by omega) (by omega) (fun k_z k0_z k1_z => by omega)
    have h66 : ∀ C_z w2_z, i_z < A 0 12 → gpF A C_z → (∀ k_z : Int, 0 ≤ k_z → k_z ≤ 5 → Zs (A 0 12) C_z k_z) → (∀ k_z : Int, 0 ≤ k_z → k_z < i_z + 1 → k_z < A 0 12 → C_z 9 k_z ≠ 0) → KZ A C_z → Tm pmt (an_sh wM) o_X10_hasSizes 66 ([(2, 0), (0, i_z), w2_z], [], C_z) (hv_post A) := fun C_z w2_z hi_z hC hC1 hC2 hC3 => by
      refine wq_ok srt_hasSizes (fr := []) (cuts := [25]) (J := fun pc st_z => (pc = 25 ∧ st_z = ([(2, 0), (0, i_z + 1), w2_z], [], C_z))) ?_ 7 66 _ ?_
      · rintro pc st_z (⟨rfl, rfl⟩)
        exact ih_z (i_z + 1) _ C_z (by omega) (by omega) (by omega) hC hC1 hC2 hC3
      · refine ⟨⟨by omega, by omega⟩, ?_⟩
        exact ⟨rfl, rfl⟩
    have h61 : ∀ C_z, B_z 9 i_z = 0 → i_z < A 0 12 → C_z = pm_upd (pm_upd B_z 8 i_z 1) 9 i_z 1 → Tm pmt (an_sh wM) o_X10_hasSizes 61 ([(2, 0), (0, i_z), w2_z], [], C_z) (hv_post A) := fun C_z hb9 hi_z hC => by
      have hFC : gpF A C_z := by rw [hC]; exact gpF.u9 (hF.u8 (by omega) (by omega)) (by omega) (by omega)
      have f12_z : C_z 0 12 = A 0 12 := hFC.2 0 12 (by omega) (by omega) (by omega)
      have f7_z : ∀ x_z, C_z 7 x_z = A 7 x_z := fun x_z => hFC.2 7 _ (by omega) (by omega) (by omega)
      have hTC : tz C_z := ⟨fun j_z j0 j1 => by rw [f7_z]; exact hT.1 j_z j0 j1, fun a_z b_z a0_z a1_z b0 b1 => by rw [f7_z, f7_z]; rw [f12_z] at a1_z b1; exact hT.2 a_z b_z a0_z a1_z b0 b1⟩
      have o9 : ∀ k_z, k_z ≠ i_z → C_z 9 k_z = B_z 9 k_z := fun k_z hk => by rw [hC, upd_o (by omega), upd_o (by omega)]
      have o8_z : ∀ k_z, k_z ≠ i_z → C_z 8 k_z = B_z 8 k_z := fun k_z hk => by rw [hC, upd_o (by omega), upd_o (by omega)]
      have f9_z : C_z 9 i_z = 1 := by rw [hC, upd_at]
      have f8_z : C_z 8 i_z = 1 := by rw [hC, upd_o (by omega), upd_at]
      have hZC : ∀ k_z : Int, 0 ≤ k_z → k_z ≤ 5 → Zs (C_z 0 12) C_z k_z := fun k_z k0_z k1_z => by
        rw [f12_z]
        by_cases e_z : k_z = i_z
        · rw [e_z]; exact Or.inr (Or.inr ⟨f9_z, by omega, by omega⟩)
        · unfold Zs; rw [o9 k_z e_z, o8_z k_z e_z]; exact hZ k_z k0_z k1_z
      refine wq_ok srt_hasSizes (fr := []) (cuts := [66]) (J := fun pc st_z => (pc = 66 ∧ ∃ D_z, gpF C_z D_z ∧ (∀ k_z : Int, 0 ≤ k_z → k_z ≤ 5 → Zs (A 0 12) D_z k_z) ∧ kpz C_z D_z ∧ KZ A D_z ∧ st_z = ([(2, 0), (0, i_z), w2_z], [], D_z))) ?_ 7 61 _ ?_
      · rintro pc st_z (⟨rfl, D_z, q2_z, q3_z, q4_z, q5_z, rfl⟩)
        refine h66 D_z _ hi_z (hFC.tr q2_z) q3_z (fun k_z k0_z k1_z k2_z => q4_z k_z ?_) q5_z
        by_cases e_z : k_z = i_z
        · rw [e_z, f9_z]; omega
        · rw [o9 k_z e_z]; exact hk k_z k0_z (by omega) k2_z
      · refine ⟨rM_0 (by omega) km0, ?_⟩
        refine (group_ex2 hFC.1 hTC (by omega) i0_z (by omega) hZC f9_z f8_z).imp ?_
        rintro ⟨r1_z, D_z⟩ ⟨⟨q1_z, q2_z, q3_z, q4_z⟩, q5_z, q6_z, q7_z⟩
        simp only at q1_z q2_z q3_z q4_z q5_z q6_z q7_z
        subst q1_z
        rw [f12_z] at q3_z
        exact ⟨rfl, D_z, q2_z, q3_z, q4_z, kz_grp hT f12_z f7_z o9 o8_z hb9 hK_z q5_z q6_z q7_z, rfl⟩
    have h47 : B_z 9 i_z = 0 → i_z < A 0 12 → Tm pmt (an_sh wM) o_X10_hasSizes 47 ([(2, 0), (0, i_z), w2_z], [], B_z) (hv_post A) := fun hb9 hi_z => by
      have c16 : pm_upd B_z (B_z 0 15) i_z 1 0 16 = 9 := by rw [c15_z, upd_o (by omega)]; exact c16a
      refine wq_ok srt_hasSizes (fr := []) (cuts := [61]) (J := fun pc st_z => (pc = 61 ∧ st_z = ([(2, 0), (0, i_z), w2_z], [], pm_upd (pm_upd B_z (B_z 0 15) i_z 1) ((pm_upd B_z (B_z 0 15) i_z 1) 0 16) i_z 1))) ?_ 15 47 _ ?_
      · rintro pc st_z (⟨rfl, rfl⟩)
        rw [c16, c15_z]
        exact h61 _ hb9 hi_z rfl
      · refine ⟨oM_0 (by omega) km0 15 rfl, ?_⟩
        refine ⟨tM_8 (r := B_z 0 15) (by rw [c15_z]; omega) (by rw [c15_z]; exact kn8) (by omega) (by omega) rfl, ?_⟩
        refine ⟨oM_0 (by omega) km0 16 rfl, ?_⟩
        refine ⟨tM_9 (r := (pm_upd B_z (B_z 0 15) i_z 1) 0 16) (by rw [c16]; omega) (by rw [c16]; exact kn9) (by omega) (by omega) rfl, ?_⟩
        exact ⟨rfl, rfl⟩
    have c16 := c16a
    refine wq_ok srt_hasSizes (fr := []) (cuts := [47, 66, 74]) (J := fun pc st_z => (pc = 74 ∧ ((B_z 0 12) ≤ i_z) ∧ st_z = ([(2, 0), (0, 0), w2_z], [], B_z)) ∨ (pc = 66 ∧ (i_z < (B_z 0 12)) ∧ (0 < (B_z (B_z 0 16) i_z)) ∧ st_z = ([(2, 0), (0, i_z), w2_z], [], B_z)) ∨ (pc = 47 ∧ (i_z < (B_z 0 12)) ∧ ((B_z (B_z 0 16) i_z) = 0) ∧ st_z = ([(2, 0), (0, i_z), w2_z], [], B_z)) ∨ (pc = 66 ∧ (i_z < (B_z 0 12)) ∧ ((B_z (B_z 0 16) i_z) < 0) ∧ st_z = ([(2, 0), (0, i_z), w2_z], [], B_z))) ?_ 17 25 _ ?_
    · rintro pc st_z (⟨rfl, h0, rfl⟩ | ⟨rfl, h0, h1, rfl⟩ | ⟨rfl, h0, h1, rfl⟩ | ⟨rfl, h0, h1, rfl⟩)
      · exact hend (by omega)
      · rw [c16] at h1
        refine h66 B_z _ (by omega) hF hZ (fun k_z k0_z k1_z k2_z => ?_) hK_z
        by_cases e_z : k_z = i_z
        · subst e_z; omega
        · exact hk k_z k0_z (by omega) k2_z
      · rw [c16] at h1
        exact h47 h1 (by omega)
      · rw [c16] at h1
        refine h66 B_z _ (by omega) hF hZ (fun k_z k0_z k1_z k2_z => ?_) hK_z
        by_cases e_z : k_z = i_z
        · subst e_z; omega
        · exact hk k_z k0_z (by omega) k2_z
    · refine ⟨oM_0 (by omega) km0 12 rfl, ?_⟩
      refine ⟨fun h0 => ?_, fun h0 => ?_⟩
      · exact Or.inl (⟨rfl, h0, rfl⟩)
      · refine ⟨oM_0 (by omega) km0 16 rfl, ?_⟩
        refine ⟨aM_9 (r := B_z 0 16) (by rw [c16]; omega) (by rw [c16]; exact kn9) (by omega) (by omega), ?_⟩
        have e1 : B_z (B_z 0 16) i_z = B_z 9 i_z := by rw [c16]
        refine ⟨fun h1 => ?_, fun h1 => ?_, fun h1 => ?_⟩
        · refine ⟨fun hh => absurd hh (by decide), fun _ => ?_⟩
          exact Or.inr (Or.inl (⟨rfl, h0, h1, rfl⟩))
        · refine ⟨fun _ => ?_, fun hh => absurd hh (by decide)⟩
          exact Or.inr (Or.inr (Or.inl (⟨rfl, h0, h1, rfl⟩)))
        · refine ⟨fun hh => absurd hh (by decide), fun _ => ?_⟩
          exact Or.inr (Or.inr (Or.inr (⟨rfl, h0, h1, rfl⟩)))
theorem hw_2 {A : pm_A} (hT : tz A) (p6 : A 0 12 ≤ 6) : ∀ (m_z : Nat) (i_z : Int) (w2_z : pm_V) (B_z : pm_A), (6 - i_z).toNat < m_z → 0 ≤ i_z → i_z ≤ 6 → gpF A B_z → (∀ k_z : Int, 0 ≤ k_z → k_z < i_z → k_z < A 0 12 → B_z 9 k_z = 0) → Tm pmt (an_sh wM) o_X10_hasSizes 2 ([(2, 0), (0, i_z), w2_z], [], B_z) (hv_post A) := by
  intro m_z
  induction m_z with
  | zero => intro i_z w2_z B_z h_z; omega
  | succ m_z ih_z =>
    intro i_z w2_z B_z hm_z i0_z i1_z hF hk
    have e12_z : B_z 0 12 = A 0 12 := hF.2 0 12 (by omega) (by omega) (by omega)
    have c16 := pM_16 hF.1
    refine wq_ok srt_hasSizes (fr := []) (cuts := [2, 25]) (J := fun pc st_z => (pc = 25 ∧ ((B_z 0 12) ≤ i_z) ∧ st_z = ([(2, 0), (0, 0), w2_z], [], B_z)) ∨ (pc = 2 ∧ (i_z < (B_z 0 12)) ∧ st_z = ([(2, 0), (0, i_z + 1), w2_z], [], pm_upd B_z (B_z 0 16) i_z 0))) ?_ 16 2 _ ?_
    · rintro pc st_z (⟨rfl, h0, rfl⟩ | ⟨rfl, h0, rfl⟩)
      · refine hw_25 hT p6 _ 0 _ B_z (Nat.lt_succ_self _) (by omega) (by omega) hF (fun k_z k0_z k1_z => ?_) (fun k_z k0_z k1_z => by omega) ⟨fun a_z b_z a0_z a1_z b0 b1 h9 => absurd (hk a_z a0_z (by omega) a1_z) h9, fun d_z sd_z a_z a0_z a1_z h9 => absurd (hk a_z a0_z (by omega) a1_z) h9⟩
        by_cases e_z : k_z < A 0 12
        · exact Or.inr (Or.inl (hk k_z k0_z (by omega) e_z))
        · exact Or.inl (by omega)
      · rw [c16]
        refine ih_z (i_z + 1) _ _ (by omega) (by omega) (by omega) (hF.u9 (by omega) (by omega)) (fun k_z k0_z k1_z k2_z => ?_)
        by_cases e_z : k_z = i_z
        · rw [e_z, upd_at]
        · rw [upd_o (by omega)]; exact hk k_z k0_z (by omega) k2_z
    · refine ⟨oM_0 (by omega) km0 12 rfl, ?_⟩
      refine ⟨fun h0 => ?_, fun h0 => ?_⟩
      · exact Or.inl (⟨rfl, h0, rfl⟩)
      · refine ⟨oM_0 (by omega) km0 16 rfl, ?_⟩
        refine ⟨tM_9 (r := B_z 0 16) (by rw [c16]; omega) (by rw [c16]; exact kn9) (by omega) (by omega) rfl, ?_⟩
        refine ⟨⟨by omega, by omega⟩, ?_⟩
        exact Or.inr (⟨rfl, h0, rfl⟩)
theorem hasSizes_ex2 {A : pm_A} (hA : gH wM A) (hT : tz A) (p6 : A 0 12 ≤ 6) : Cl pmt (an_sh wM) 150 [(2, 0)] A (hv_post A) := by
  refine Cl.of (Nat.le_of_ble_eq_true rfl) ?_
  refine wq_ok (full := o_X10_hasSizes) srt_hasSizes (fr := []) (cuts := [2]) (J := fun pc st_z => (pc = 2 ∧ st_z = ([(2, 0), (0, 0), (9, 0)], [], A))) ?_ 7 0 _ ?_
  · rintro pc st_z (⟨rfl, rfl⟩)
    exact hw_2 hT p6 _ 0 _ A (Nat.lt_succ_self _) (by omega) (by omega) ⟨hA, fun _ _ _ _ _ => rfl⟩ (fun k_z k0_z k1_z => by omega)
  · exact ⟨rfl, rfl⟩
def bk_post (A : pm_A) (r : pm_R) : Prop := bg_post A r ∧ ∀ k_z : Int, 0 ≤ k_z → k_z < A 0 12 → r.2 10 k_z = A 8 k_z
theorem bk_48 {A : pm_A} (p6 : A 0 12 ≤ 6) (hz : szd A) : ∀ (m_z : Nat) (i_z : Int) (C_z : pm_A), (6 - i_z).toNat < m_z → 0 ≤ i_z → i_z ≤ 6 → bgJ A C_z → (∀ k_z : Int, 0 ≤ k_z → k_z < i_z → k_z < A 0 12 → C_z 10 k_z = A 8 k_z) → Tm pmt (an_sh wM) o_X10_begins 48 ([(2, 0), (0, i_z)], [], C_z) (bk_post A) := by
  intro m_z
  induction m_z with
  | zero => intro i_z C_z h_z; omega
  | succ m_z ih_z =>
    intro i_z C_z hm_z i0_z i1_z hJ hs
    have hJ2 := hJ
    obtain ⟨hC, e7_z, e8, e5, hl, e10_z, ho⟩ := hJ
    have c17 := pM_17 hC
    have c15_z := pM_15 hC
    have f8_z : C_z 8 i_z = A 8 i_z := ho 8 i_z (by omega) (by omega)
    have hsz : i_z < A 0 12 → 1 ≤ A 8 i_z ∧ A 8 i_z ≤ 531441 := fun h_z => (hz i_z i0_z h_z).2.1
    have go_z : i_z < A 0 12 → ∀ x_z, x_z = A 8 i_z → 1 ≤ x_z → x_z ≤ 531441 → Tm pmt (an_sh wM) o_X10_begins 48 ([(2, 0), (0, i_z + 1)], [], pm_upd C_z 10 i_z x_z) (bk_post A) := fun hi_z x_z hx x0_z x1_z => by
      refine ih_z (i_z + 1) _ (by omega) (by omega) (by omega) ⟨uM_10 hC kn10 (by omega) (by omega), by rw [upd_o (by omega)]; exact e7_z, by rw [upd_o (by omega)]; exact e8, fun j_z j0 j1 => by rw [upd_o (by omega)]; exact e5 j_z j0 j1, fun k_z k0_z k1_z => ?_, by rw [upd_o (by omega)]; exact e10_z, fun r_z j_z h1 h2 => by rw [upd_o (by omega)]; exact ho r_z j_z h1 h2⟩ (fun k_z k0_z k1_z k2_z => by
        by_cases e_z : k_z = i_z
        · rw [e_z, upd_at]; exact hx
        · rw [upd_o (by omega)]; exact hs k_z k0_z (by omega) k2_z)
      rw [LSm_up hC k0_z (by omega) (by unfold inS; omega)]; exact hl k_z k0_z k1_z
    refine wq_ok srt_begins (fr := []) (cuts := [48]) (J := fun pc st_z => (pc = 48 ∧ (i_z < (C_z 0 7)) ∧ st_z = ([(2, 0), (0, i_z + 1)], [], pm_upd C_z (C_z 0 17) i_z (C_z (C_z 0 15) i_z)))) ?_ 20 48 _ ?_
    · rintro pc st_z (⟨rfl, h0, rfl⟩)
      have := hsz (by omega)
      rw [c15_z, c17]
      exact go_z (by omega) _ f8_z (by omega) (by omega)
    · refine ⟨oM_0 (by omega) km0 7 rfl, ?_⟩
      refine ⟨fun h0 => ?_, fun h0 => ?_⟩
      · exact ⟨⟨rfl, hJ2⟩, fun k_z k0_z k1_z => hs k_z k0_z (by omega) k1_z⟩
      · refine ⟨oM_0 (by omega) km0 17 rfl, ?_⟩
        refine ⟨oM_0 (by omega) km0 15 rfl, ?_⟩
        refine ⟨aM_8 (r := C_z 0 15) (by rw [c15_z]; omega) (by rw [c15_z]; exact kn8) (by omega) (by omega), ?_⟩
        have e1 : C_z (C_z 0 15) i_z = C_z 8 i_z := by rw [c15_z]
        refine ⟨(by have := hsz (by omega); exact ⟨by omega, by omega⟩), ?_⟩
        refine ⟨tM_10 (r := C_z 0 17) (by rw [c17]; omega) (by rw [c17]; exact kn10) (by omega) (by omega) rfl, ?_⟩
        refine ⟨⟨by omega, by omega⟩, ?_⟩
        exact ⟨rfl, h0, rfl⟩
theorem bk_42 {A B : pm_A} (p6 : A 0 12 ≤ 6) (hz : szd A) (hB : gH wM B) (e7 : B 0 7 = A 0 12) (e8 : B 0 8 = A 0 13) (e5 : ∀ j_z : Int, 0 ≤ j_z → j_z < 72 → B 5 j_z = A 7 j_z) (ho : ∀ r_z j_z, 6 ≤ r_z → B r_z j_z = A r_z j_z) {w1 : pm_V} : Tm pmt (an_sh wM) o_X10_begins 42 ([(2, 0), w1], [], B) (bk_post A) := by
  refine wq_ok srt_begins (fr := []) (cuts := [46]) (J := fun pc st_z => (pc = 46 ∧ ∃ C_z, gH wM C_z ∧ (∀ k_z : Int, 0 ≤ k_z → k_z < B 0 7 → LSm C_z k_z = [(1, eone k_z)]) ∧ C_z 0 10 = 0 ∧ (∀ q_z j_z, (∀ t_z : Int, 0 ≤ t_z → t_z ≤ 5 → ¬ inS t_z q_z j_z) → ¬ (q_z = 0 ∧ j_z = 10) → q_z ≠ 10 → C_z q_z j_z = B q_z j_z) ∧ st_z = ([(2, 0), w1], [], C_z))) ?_ 6 42 _ ?_
  · rintro pc st_z (⟨rfl, C_z, q2_z, q3_z, q4_z, q5_z, rfl⟩)
    refine wq_ok srt_begins (fr := []) (cuts := [48]) (J := fun pc st_z => (pc = 48 ∧ st_z = ([(2, 0), (0, 0)], [], C_z))) ?_ 7 46 _ ?_
    · rintro pc st_z (⟨rfl, rfl⟩)
      refine bk_48 p6 hz _ 0 C_z (Nat.lt_succ_self _) (by omega) (by omega) ⟨q2_z, ?_, ?_, fun j_z j0 j1 => ?_, fun k_z k0_z k1_z => q3_z k_z k0_z (by omega), q4_z, fun r_z j_z h1 h2 => ?_⟩ ?_
      · rw [q5_z 0 7 (fun t_z t0_z t1_z => by unfold inS; omega) (by omega) (by omega)]; exact e7
      · rw [q5_z 0 8 (fun t_z t0_z t1_z => by unfold inS; omega) (by omega) (by omega)]; exact e8
      · rw [q5_z 5 j_z (fun t_z t0_z t1_z => by unfold inS; omega) (by omega) (by omega)]; exact e5 j_z j0 j1
      · rw [q5_z r_z j_z (fun t_z t0_z t1_z => by unfold inS; omega) (by omega) h2]; exact ho r_z j_z h1
      · intro k_z k0_z k1_z; omega
    · exact ⟨rfl, rfl⟩
  · refine ⟨rM_0 (by omega) km0, ?_⟩
    refine (firsts_ex hB).imp ?_
    rintro ⟨r1_z, C_z⟩ ⟨q1_z, q2_z, q3_z, q4_z, q5_z⟩
    simp only at q1_z q2_z q3_z q4_z q5_z
    subst q1_z
    exact ⟨rfl, C_z, q2_z, q3_z, q4_z, q5_z, rfl⟩
theorem bk_18 {A : pm_A} (p6 : A 0 12 ≤ 6) (hz : szd A) : ∀ (m_z : Nat) (i_z : Int) (B_z : pm_A), (72 - i_z).toNat < m_z → 0 ≤ i_z → i_z ≤ 72 → gH wM B_z → B_z 0 7 = A 0 12 → B_z 0 8 = A 0 13 → (∀ j_z : Int, 0 ≤ j_z → j_z < i_z → B_z 5 j_z = A 7 j_z) → (∀ r_z j_z, 6 ≤ r_z → B_z r_z j_z = A r_z j_z) → Tm pmt (an_sh wM) o_X10_begins 18 ([(2, 0), (0, i_z)], [], B_z) (bk_post A) := by
  intro m_z
  induction m_z with
  | zero => intro i_z B_z h_z; omega
  | succ m_z ih_z =>
    intro i_z B_z hm_z i0_z i1_z hB_z e7_z e8 e5 ho
    have c9_z := pM_9 hB_z
    have c14_z := pM_14 hB_z
    have b7 : i_z < 72 → -2999 ≤ B_z 7 i_z ∧ B_z 7 i_z ≤ 2999 := fun h_z => eM_7 hB_z (r := 7) (by omega) kn7 i0_z h_z
    refine wq_ok srt_begins (fr := []) (cuts := [18, 42]) (J := fun pc st_z => (pc = 42 ∧ (72 ≤ i_z) ∧ st_z = ([(2, 0), (0, i_z)], [], B_z)) ∨ (pc = 18 ∧ (i_z < 72) ∧ st_z = ([(2, 0), (0, i_z + 1)], [], pm_upd B_z (B_z 0 9) i_z (B_z (B_z 0 14) i_z)))) ?_ 18 18 _ ?_
    · rintro pc st_z (⟨rfl, h0, rfl⟩ | ⟨rfl, h0, rfl⟩)
      · exact bk_42 p6 hz hB_z e7_z e8 (fun j_z j0 j1 => e5 j_z j0 (by omega)) ho
      · have b_z := b7 h0
        rw [c9_z, c14_z]
        refine ih_z (i_z + 1) _ (by omega) (by omega) (by omega) (uM_5 hB_z kn5 (by omega) (by omega)) (by rw [upd_o (by omega)]; exact e7_z) (by rw [upd_o (by omega)]; exact e8) (fun j_z j0 j1 => ?_) (fun r_z j_z h1 => by rw [upd_o (by omega)]; exact ho r_z j_z h1)
        by_cases e_z : j_z = i_z
        · rw [e_z, upd_at]; exact ho 7 i_z (by omega)
        · rw [upd_o (by omega)]; exact e5 j_z j0 (by omega)
    · refine ⟨fun h0 => ?_, fun h0 => ?_⟩
      · exact Or.inl (⟨rfl, h0, rfl⟩)
      · refine ⟨oM_0 (by omega) km0 9 rfl, ?_⟩
        refine ⟨oM_0 (by omega) km0 14 rfl, ?_⟩
        refine ⟨aM_7 (r := B_z 0 14) (by rw [c14_z]; omega) (by rw [c14_z]; exact kn7) (by omega) (by omega), ?_⟩
        have e1 : B_z (B_z 0 14) i_z = B_z 7 i_z := by rw [c14_z]
        refine ⟨tM_5 (r := B_z 0 9) (by rw [c9_z]; omega) (by rw [c9_z]; exact kn5) (by omega) (by omega) rfl, ?_⟩
        refine ⟨⟨by omega, by omega⟩, ?_⟩
        exact Or.inr (⟨rfl, h0, rfl⟩)
theorem begins_ex2 {A : pm_A} (hA : gH wM A) (hz : szd A) : Cl pmt (an_sh wM) 130 [(2, 0)] A (bk_post A) := by
  have p12 := fM_0_12 hA (r := 0) (by omega) km0
  have p13_z := fM_0_13 hA (r := 0) (by omega) km0
  have f13 : pm_upd A 0 7 (A 0 12) 0 13 = A 0 13 := upd_o (by omega)
  refine Cl.of (Nat.le_of_ble_eq_true rfl) ?_
  refine wq_ok (full := o_X10_begins) srt_begins (fr := []) (cuts := [18]) (J := fun pc st_z => (pc = 18 ∧ st_z = ([(2, 0), (0, 0)], [], pm_upd (pm_upd A 0 7 (A 0 12)) 0 8 ((pm_upd A 0 7 (A 0 12)) 0 13)))) ?_ 15 0 _ ?_
  · rintro pc st_z (⟨rfl, rfl⟩)
    rw [f13]
    exact bk_18 p12.2 hz _ 0 _ (Nat.lt_succ_self _) (by omega) (by omega) (uM_0_8 (uM_0_7 hA p12.1 p12.2) p13_z.1 p13_z.2) (by rw [upd_o (by omega), upd_at]) (by rw [upd_at]) (fun j_z j0 j1 => by omega) (fun r_z j_z h1 => by rw [upd_o (by omega), upd_o (by omega)])
  · refine ⟨oM_0 (by omega) km0 12 rfl, ?_⟩
    refine ⟨oM_0 (by omega) km0 7 rfl, ?_⟩
    refine ⟨oM_0 (by omega) km0 13 rfl, ?_⟩
    refine ⟨oM_0 (by omega) km0 8 rfl, ?_⟩
    exact ⟨rfl, rfl⟩
def gdz (a b : Int) : Prop := (a = 0 ∧ b = 0) ∨ (0 < a ∧ b < 0) ∨ (a < 0 ∧ 0 < b)
def dgz (p : Int) (T : Int → Int) : Prop := ∀ i_z : Int, 0 ≤ i_z → i_z < p → T (7 * i_z) = 0
def skz (p : Int) (T : Int → Int) : Prop := ∀ i_z j_z : Int, 0 ≤ i_z → i_z < p → 0 ≤ j_z → j_z < p → gdz (T (6 * i_z + j_z)) (T (6 * j_z + i_z))
def bgA (p : Int) (T : Int → Int) (x : Int) : Prop := (x = -1 ∧ p = 0) ∨ (1 ≤ p ∧ ((x = 1 ∧ ¬ dgz p T) ∨ (x = 2 ∧ dgz p T ∧ ¬ skz p T) ∨ (x = 3 ∧ dgz p T ∧ skz p T ∧ ∀ d_z, ¬ sy p T d_z) ∨ (x = 0 ∧ dgz p T ∧ skz p T ∧ ∃ d_z, sy p T d_z)))
theorem bgA_one {p x y : Int} {T : Int → Int} (h : bgA p T x) (g : bgA p T y) : x = y := by
  rcases h with ⟨h1, h2⟩ | ⟨h1, h⟩
  · rcases g with ⟨g1, g2⟩ | ⟨g1, g⟩
    · rw [h1, g1]
    · omega
  · rcases g with ⟨g1, g2⟩ | ⟨g1, g⟩
    · omega
    · rcases h with ⟨a_z, b_z⟩ | ⟨a_z, b_z, c_z⟩ | ⟨a_z, b_z, c_z, d_z⟩ | ⟨a_z, b_z, c_z, d_z⟩ <;> rcases g with ⟨a', b'⟩ | ⟨a', b', c'⟩ | ⟨a', b', c', d'⟩ | ⟨a', b', c', d'⟩
      · rw [a_z, a']
      · exact absurd b' b_z
      · exact absurd b' b_z
      · exact absurd b' b_z
      · exact absurd b_z b'
      · rw [a_z, a']
      · exact absurd c' c_z
      · exact absurd c' c_z
      · exact absurd b_z b'
      · exact absurd c_z c'
      · rw [a_z, a']
      · obtain ⟨e_z, he⟩ := d'; exact absurd he (d_z e_z)
      · exact absurd b_z b'
      · exact absurd c_z c'
      · obtain ⟨e_z, he⟩ := d_z; exact absurd he (d' e_z)
      · rw [a_z, a']
def lsz (p : Int) (T s : Int → Int) : Prop := (∀ i_z : Int, 0 ≤ i_z → i_z < p → 1 ≤ s i_z ∧ s i_z ≤ 531441) ∧ sy p T s ∧ ∀ d_z, sy p T d_z → ∀ i_z : Int, 0 ≤ i_z → i_z < p → ∃ c_z, d_z i_z = c_z * s i_z
theorem lsz_one {p : Int} {T s t : Int → Int} (h : lsz p T s) (g : lsz p T t) {i : Int} (i0 : 0 ≤ i) (i1 : i < p) : s i = t i := by
  obtain ⟨a_z, ha_z⟩ := h.2.2 t g.2.1 i i0 i1
  obtain ⟨b_z, hb_z⟩ := g.2.2 s h.2.1 i i0 i1
  have h1 := h.1 i i0 i1
  have g1 := g.1 i i0 i1
  have d1_z : s i ∣ t i := ⟨a_z, by rw [ha_z, Int.mul_comm]⟩
  have d2_z : t i ∣ s i := ⟨b_z, by rw [hb_z, Int.mul_comm]⟩
  have := Int.le_of_dvd (by omega) d1_z
  have := Int.le_of_dvd (by omega) d2_z
  omega
def bz_post (A : pm_A) (r : pm_R) : Prop := ri_post r ∧ ∃ x_z, r.1 = some (0, x_z) ∧ bgA (A 0 12) (A 7) x_z ∧ ((x_z = 0 ∧ r.2 0 7 = A 0 12 ∧ lsz (A 0 12) (A 7) (r.2 10)) ∨ (¬ x_z = 0 ∧ r.2 0 7 = A 0 7 ∧ ∀ j_z, r.2 10 j_z = A 10 j_z))
theorem lsz_of {A B : pm_A} {s : Int → Int} (f12 : B 0 12 = A 0 12) (f7 : ∀ x_z, B 7 x_z = A 7 x_z) (hz : szd B) (hd : ∀ d_z, sy (A 0 12) (A 7) d_z → ∀ i_z : Int, 0 ≤ i_z → i_z < A 0 12 → ∃ c_z, d_z i_z = c_z * B 8 i_z) (hs : ∀ k_z : Int, 0 ≤ k_z → k_z < B 0 12 → s k_z = B 8 k_z) : lsz (A 0 12) (A 7) s := by
  rw [f12] at hs
  refine ⟨fun i_z i0_z i1_z => ?_, ⟨fun i_z i0_z i1_z => ?_, fun i_z j_z i0_z i1_z j0 j1 => ?_⟩, fun d_z sd_z i_z i0_z i1_z => ?_⟩
  · rw [hs i_z i0_z i1_z]; exact (hz i_z i0_z (by rw [f12]; exact i1_z)).2.1
  · rw [hs i_z i0_z i1_z]; exact (hz i_z i0_z (by rw [f12]; exact i1_z)).2.1.1
  · rw [hs i_z i0_z i1_z, hs j_z j0 j1]
    have := (hz i_z i0_z (by rw [f12]; exact i1_z)).2.2 j_z j0 (by rw [f12]; exact j1)
    rw [f7, f7, Int.neg_mul] at this
    exact this
  · rw [hs i_z i0_z i1_z]; exact hd d_z sd_z i_z i0_z i1_z
theorem mqb_125 {A : pm_A} (h : RI A) (hT : tz A) (p1 : 1 ≤ A 0 12) (hdg : dgz (A 0 12) (A 7)) (hsk : skz (A 0 12) (A 7)) {w1 w2 w3 w4 : pm_V} : Tm pmt (an_sh wM) o_X10_begin 125 ([(2, 0), w1, w2, w3, w4], [], A) (bz_post A) := by
  have p12 := fM_0_12 h.g (r := 0) (by omega) km0
  refine wq_ok srt_Mbegin (fr := []) (cuts := [129]) (J := fun pc st_z => (pc = 129 ∧ ∃ B_z x_z, gpF A B_z ∧ ((x_z = 0 ∧ ∀ d_z, ¬ sy (A 0 12) (A 7) d_z) ∨ (¬ x_z = 0 ∧ szd B_z ∧ ∀ d_z, sy (A 0 12) (A 7) d_z → ∀ i_z : Int, 0 ≤ i_z → i_z < A 0 12 → ∃ c_z, d_z i_z = c_z * B_z 8 i_z)) ∧ st_z = ([(2, 0), w1, w2, w3, w4], [(0, x_z)], B_z))) ?_ 6 125 _ ?_
  · rintro pc st_z (⟨rfl, B_z, x_z, q1_z, q3_z, rfl⟩)
    have hB_z : RI B_z := h.typed q1_z.1 q1_z.fr rfl
    have f12_z : B_z 0 12 = A 0 12 := q1_z.2 0 12 (by omega) (by omega) (by omega)
    refine wq_ok srt_Mbegin (fr := []) (cuts := [138]) (J := fun pc st_z => (pc = 138 ∧ szd B_z ∧ ∃ C_z, bgJ B_z C_z ∧ lsz (A 0 12) (A 7) (C_z 10) ∧ st_z = ([(2, 0), w1, w2, w3, w4], [], C_z))) ?_ 7 129 _ ?_
    · rintro pc st_z (⟨rfl, q3_z, C_z, y2, y3, rfl⟩)
      refine wq_ok srt_Mbegin (fr := []) (cuts := []) (J := fun _ _ => False) ?_ 6 138 _ ?_
      · intro pc st_z h; exact h.elim
      · exact ⟨rfl, ⟨⟨_, rfl⟩, bg_ri hB_z q3_z (by omega) y2⟩, 0, rfl, Or.inr ⟨p1, Or.inr (Or.inr (Or.inr ⟨rfl, hdg, hsk, _, y3.2.1⟩))⟩, Or.inl ⟨rfl, by show C_z 0 7 = A 0 12; rw [y2.2.1, f12_z], y3⟩⟩
    · refine ⟨fun h0 => ?_, fun h0 => ?_⟩
      · refine ⟨rM_0 (by omega) km0, ?_⟩
        rcases q3_z with q3_z | ⟨q3_z, q4_z, q5_z⟩
        · exact absurd q3_z.1 h0
        refine (begins_ex2 hB_z.g q4_z).imp ?_
        rintro ⟨r1_z, C_z⟩ ⟨⟨y1, y2⟩, y3⟩
        simp only at y1 y2 y3
        subst y1
        exact ⟨rfl, q4_z, C_z, y2, lsz_of f12_z (fun x_z => q1_z.2 7 x_z (by omega) (by omega) (by omega)) q4_z q5_z y3, rfl⟩
      · rcases q3_z with q3_z | ⟨q3_z, q4_z, q5_z⟩
        · exact ⟨rfl, ⟨⟨_, rfl⟩, hB_z⟩, 3, rfl, Or.inr ⟨p1, Or.inr (Or.inr (Or.inl ⟨rfl, hdg, hsk, q3_z.2⟩))⟩, Or.inr ⟨by omega, q1_z.2 0 7 (by omega) (by omega) (by omega), fun j_z => q1_z.2 10 j_z (by omega) (by omega) (by omega)⟩⟩
        · exact absurd h0 q3_z
  · refine ⟨rM_0 (by omega) km0, ?_⟩
    refine (hasSizes_ex2 h.g hT p12.2).imp ?_
    rintro ⟨r1_z, B_z⟩ ⟨q1_z, x_z, q2_z, q3_z⟩
    simp only at q1_z q2_z q3_z
    subst q2_z
    exact ⟨rfl, B_z, x_z, q1_z, q3_z, rfl⟩
theorem mqb_51 {A : pm_A} (h : RI A) {i : Int} (i0 : 0 ≤ i) (i1 : i < A 0 12) (p6 : A 0 12 ≤ 6) (hdg : dgz (A 0 12) (A 7)) (H : (∀ j_z : Int, 0 ≤ j_z → j_z < A 0 12 → gdz (A 7 (6 * i + j_z)) (A 7 (6 * j_z + i))) → ∀ w2_z w3_z w4_z, Tm pmt (an_sh wM) o_X10_begin 41 ([(2, 0), (0, i + 1), w2_z, w3_z, w4_z], [], A) (bz_post A)) : ∀ (m_z : Nat) (j_z : Int) (w3_z w4_z : pm_V), (6 - j_z).toNat < m_z → 0 ≤ j_z → j_z ≤ 6 → (∀ k_z : Int, 0 ≤ k_z → k_z < j_z → k_z < A 0 12 → gdz (A 7 (6 * i + k_z)) (A 7 (6 * k_z + i))) → Tm pmt (an_sh wM) o_X10_begin 51 ([(2, 0), (0, i), (0, j_z), w3_z, w4_z], [], A) (bz_post A) := by
  have c14_z := pM_14 h.g
  intro m_z
  induction m_z with
  | zero => intro j_z w3_z w4_z h; omega
  | succ m_z ih_z =>
    intro j_z w3_z w4_z hm_z j0 j1 hj
    have go_z : j_z < A 0 12 → gdz (A 7 (6 * i + j_z)) (A 7 (6 * j_z + i)) → ∀ w3_z w4_z, Tm pmt (an_sh wM) o_X10_begin 51 ([(2, 0), (0, i), (0, j_z + 1), w3_z, w4_z], [], A) (bz_post A) := fun hlt hs w3_z w4_z => by
      refine ih_z (j_z + 1) _ _ (by omega) (by omega) (by omega) (fun k_z k0_z k1_z k2_z => ?_)
      by_cases e_z : k_z = j_z
      · rw [e_z]; exact hs
      · exact hj k_z k0_z (by omega) k2_z
    have hend : A 0 12 ≤ j_z → ∀ k_z : Int, 0 ≤ k_z → k_z < A 0 12 → gdz (A 7 (6 * i + k_z)) (A 7 (6 * k_z + i)) := fun hlt k_z k0_z k1_z => hj k_z k0_z (by omega) k1_z
    have h2b : j_z < A 0 12 → ¬ gdz (A 7 (6 * i + j_z)) (A 7 (6 * j_z + i)) → bz_post A (some (0, 2), A) := fun hlt hn => ⟨⟨⟨_, rfl⟩, h⟩, 2, rfl, Or.inr ⟨by omega, Or.inr (Or.inl ⟨rfl, hdg, fun hs => hn (hs i j_z i0 i1 j0 hlt)⟩)⟩, Or.inr ⟨by omega, rfl, fun _ => rfl⟩⟩
    refine wq_ok srt_Mbegin (fr := []) (cuts := [41, 51]) (J := fun pc st_z => (pc = 41 ∧ ((A 0 12) ≤ j_z) ∧ st_z = ([(2, 0), (0, i + 1), (0, j_z), w3_z, w4_z], [], A)) ∨ (pc = 51 ∧ (j_z < (A 0 12)) ∧ (¬ (A (A 0 14) ((6 * i) + j_z)) = 0) ∧ ((A (A 0 14) ((6 * i) + j_z)) ≤ 0) ∧ ((A (A 0 14) ((6 * i) + j_z)) < 0) ∧ (0 < (A (A 0 14) ((6 * j_z) + i))) ∧ st_z = ([(2, 0), (0, i), (0, j_z + 1), (0, A (A 0 14) ((6 * i) + j_z)), (0, A (A 0 14) ((6 * j_z) + i))], [], A)) ∨ (pc = 51 ∧ (j_z < (A 0 12)) ∧ (¬ (A (A 0 14) ((6 * i) + j_z)) = 0) ∧ (0 < (A (A 0 14) ((6 * i) + j_z))) ∧ ((A (A 0 14) ((6 * j_z) + i)) < 0) ∧ st_z = ([(2, 0), (0, i), (0, j_z + 1), (0, A (A 0 14) ((6 * i) + j_z)), (0, A (A 0 14) ((6 * j_z) + i))], [], A)) ∨ (pc = 51 ∧ (j_z < (A 0 12)) ∧ (¬ (A (A 0 14) ((6 * i) + j_z)) = 0) ∧ (0 < (A (A 0 14) ((6 * i) + j_z))) ∧ (0 ≤ (A (A 0 14) ((6 * j_z) + i))) ∧ ((A (A 0 14) ((6 * i) + j_z)) < 0) ∧ (0 < (A (A 0 14) ((6 * j_z) + i))) ∧ st_z = ([(2, 0), (0, i), (0, j_z + 1), (0, A (A 0 14) ((6 * i) + j_z)), (0, A (A 0 14) ((6 * j_z) + i))], [], A)) ∨ (pc = 51 ∧ (j_z < (A 0 12)) ∧ ((A (A 0 14) ((6 * i) + j_z)) = 0) ∧ ((A (A 0 14) ((6 * j_z) + i)) = 0) ∧ st_z = ([(2, 0), (0, i), (0, j_z + 1), (0, A (A 0 14) ((6 * i) + j_z)), (0, A (A 0 14) ((6 * j_z) + i))], [], A)) ∨ (pc = 51 ∧ (j_z < (A 0 12)) ∧ ((A (A 0 14) ((6 * i) + j_z)) = 0) ∧ (¬ (A (A 0 14) ((6 * j_z) + i)) = 0) ∧ ((A (A 0 14) ((6 * i) + j_z)) ≤ 0) ∧ ((A (A 0 14) ((6 * i) + j_z)) < 0) ∧ (0 < (A (A 0 14) ((6 * j_z) + i))) ∧ st_z = ([(2, 0), (0, i), (0, j_z + 1), (0, A (A 0 14) ((6 * i) + j_z)), (0, A (A 0 14) ((6 * j_z) + i))], [], A)) ∨ (pc = 51 ∧ (j_z < (A 0 12)) ∧ ((A (A 0 14) ((6 * i) + j_z)) = 0) ∧ (¬ (A (A 0 14) ((6 * j_z) + i)) = 0) ∧ (0 < (A (A 0 14) ((6 * i) + j_z))) ∧ ((A (A 0 14) ((6 * j_z) + i)) < 0) ∧ st_z = ([(2, 0), (0, i), (0, j_z + 1), (0, A (A 0 14) ((6 * i) + j_z)), (0, A (A 0 14) ((6 * j_z) + i))], [], A)) ∨ (pc = 51 ∧ (j_z < (A 0 12)) ∧ ((A (A 0 14) ((6 * i) + j_z)) = 0) ∧ (¬ (A (A 0 14) ((6 * j_z) + i)) = 0) ∧ (0 < (A (A 0 14) ((6 * i) + j_z))) ∧ (0 ≤ (A (A 0 14) ((6 * j_z) + i))) ∧ ((A (A 0 14) ((6 * i) + j_z)) < 0) ∧ (0 < (A (A 0 14) ((6 * j_z) + i))) ∧ st_z = ([(2, 0), (0, i), (0, j_z + 1), (0, A (A 0 14) ((6 * i) + j_z)), (0, A (A 0 14) ((6 * j_z) + i))], [], A))) ?_ 41 51 _ ?_
    · rintro pc st_z (⟨rfl, h0, rfl⟩ | ⟨rfl, h0, h1, h2, h3, h4, rfl⟩ | ⟨rfl, h0, h1, h2, h3, rfl⟩ | ⟨rfl, h0, h1, h2, h3, h4, h5, rfl⟩ | ⟨rfl, h0, h1, h2, rfl⟩ | ⟨rfl, h0, h1, h2, h3, h4, h5, rfl⟩ | ⟨rfl, h0, h1, h2, h3, h4, rfl⟩ | ⟨rfl, h0, h1, h2, h3, h4, h5, h6, rfl⟩)
      · exact H (hend (by omega)) _ _ _
      · rw [c14_z] at h1 h2 h3 h4
        exact go_z (by omega) (by unfold gdz; omega) _ _
      · rw [c14_z] at h1 h2 h3
        exact go_z (by omega) (by unfold gdz; omega) _ _
      · rw [c14_z] at h1 h2 h3 h4 h5
        exact go_z (by omega) (by unfold gdz; omega) _ _
      · rw [c14_z] at h1 h2
        exact go_z (by omega) (by unfold gdz; omega) _ _
      · rw [c14_z] at h1 h2 h3 h4 h5
        exact go_z (by omega) (by unfold gdz; omega) _ _
      · rw [c14_z] at h1 h2 h3 h4
        exact go_z (by omega) (by unfold gdz; omega) _ _
      · rw [c14_z] at h1 h2 h3 h4 h5 h6
        exact go_z (by omega) (by unfold gdz; omega) _ _
    · refine ⟨oM_0 (by omega) km0 12 rfl, ?_⟩
      refine ⟨fun h0 => ?_, fun h0 => ?_⟩
      · refine ⟨⟨by omega, by omega⟩, ?_⟩
        exact Or.inl (⟨rfl, h0, rfl⟩)
      · refine ⟨oM_0 (by omega) km0 14 rfl, ?_⟩
        refine ⟨⟨by omega, by omega⟩, ?_⟩
        refine ⟨⟨by omega, by omega⟩, ?_⟩
        refine ⟨aM_7 (r := A 0 14) (by rw [c14_z]; omega) (by rw [c14_z]; exact kn7) (by omega) (by omega), ?_⟩
        have e1 : A (A 0 14) ((6 * i) + j_z) = A 7 ((6 * i) + j_z) := by rw [c14_z]
        refine ⟨oM_0 (by omega) km0 14 rfl, ?_⟩
        refine ⟨⟨by omega, by omega⟩, ?_⟩
        refine ⟨⟨by omega, by omega⟩, ?_⟩
        refine ⟨aM_7 (r := A 0 14) (by rw [c14_z]; omega) (by rw [c14_z]; exact kn7) (by omega) (by omega), ?_⟩
        have e2 : A (A 0 14) ((6 * j_z) + i) = A 7 ((6 * j_z) + i) := by rw [c14_z]
        refine ⟨fun h1 => ?_, fun h1 => ?_⟩
        · refine ⟨fun h2 => ?_, fun h2 => ?_⟩
          · refine ⟨fun h3 => ?_, fun h3 => ?_⟩
            · exact ⟨rfl, h2b (by omega) (by rw [← e1, ← e2]; unfold gdz; omega)⟩
            · refine ⟨fun h4 => ?_, fun h4 => ?_⟩
              · refine ⟨⟨by omega, by omega⟩, ?_⟩
                exact Or.inr (Or.inl (⟨rfl, h0, h1, h2, h3, h4, rfl⟩))
              · exact ⟨rfl, h2b (by omega) (by rw [← e1, ← e2]; unfold gdz; omega)⟩
          · refine ⟨fun h3 => ?_, fun h3 => ?_⟩
            · refine ⟨⟨by omega, by omega⟩, ?_⟩
              exact Or.inr (Or.inr (Or.inl (⟨rfl, h0, h1, h2, h3, rfl⟩)))
            · refine ⟨fun h4 => ?_, fun h4 => ?_⟩
              · exact ⟨rfl, h2b (by omega) (by rw [← e1, ← e2]; unfold gdz; omega)⟩
              · refine ⟨fun h5 => ?_, fun h5 => ?_⟩
                · refine ⟨⟨by omega, by omega⟩, ?_⟩
                  exact Or.inr (Or.inr (Or.inr (Or.inl (⟨rfl, h0, h1, h2, h3, h4, h5, rfl⟩))))
                · exact ⟨rfl, h2b (by omega) (by rw [← e1, ← e2]; unfold gdz; omega)⟩
        · refine ⟨fun h2 => ?_, fun h2 => ?_⟩
          · refine ⟨⟨by omega, by omega⟩, ?_⟩
            exact Or.inr (Or.inr (Or.inr (Or.inr (Or.inl (⟨rfl, h0, h1, h2, rfl⟩)))))
          · refine ⟨fun h3 => ?_, fun h3 => ?_⟩
            · refine ⟨fun h4 => ?_, fun h4 => ?_⟩
              · exact ⟨rfl, h2b (by omega) (by rw [← e1, ← e2]; unfold gdz; omega)⟩
              · refine ⟨fun h5 => ?_, fun h5 => ?_⟩
                · refine ⟨⟨by omega, by omega⟩, ?_⟩
                  exact Or.inr (Or.inr (Or.inr (Or.inr (Or.inr (Or.inl (⟨rfl, h0, h1, h2, h3, h4, h5, rfl⟩))))))
                · exact ⟨rfl, h2b (by omega) (by rw [← e1, ← e2]; unfold gdz; omega)⟩
            · refine ⟨fun h4 => ?_, fun h4 => ?_⟩
              · refine ⟨⟨by omega, by omega⟩, ?_⟩
                exact Or.inr (Or.inr (Or.inr (Or.inr (Or.inr (Or.inr (Or.inl (⟨rfl, h0, h1, h2, h3, h4, rfl⟩)))))))
              · refine ⟨fun h5 => ?_, fun h5 => ?_⟩
                · exact ⟨rfl, h2b (by omega) (by rw [← e1, ← e2]; unfold gdz; omega)⟩
                · refine ⟨fun h6 => ?_, fun h6 => ?_⟩
                  · refine ⟨⟨by omega, by omega⟩, ?_⟩
                    exact Or.inr (Or.inr (Or.inr (Or.inr (Or.inr (Or.inr (Or.inr (⟨rfl, h0, h1, h2, h3, h4, h5, h6, rfl⟩)))))))
                  · exact ⟨rfl, h2b (by omega) (by rw [← e1, ← e2]; unfold gdz; omega)⟩
theorem mqb_41 {A : pm_A} (h : RI A) (p1 : 1 ≤ A 0 12) (hdg : dgz (A 0 12) (A 7)) : ∀ (m_z : Nat) (i_z : Int) (w2_z w3_z w4_z : pm_V), (6 - i_z).toNat < m_z → 0 ≤ i_z → i_z ≤ 6 → (∀ k_z : Int, 0 ≤ k_z → k_z < i_z → k_z < A 0 12 → ∀ j_z : Int, 0 ≤ j_z → j_z < A 0 12 → gdz (A 7 (6 * k_z + j_z)) (A 7 (6 * j_z + k_z))) → Tm pmt (an_sh wM) o_X10_begin 41 ([(2, 0), (0, i_z), w2_z, w3_z, w4_z], [], A) (bz_post A) := by
  have p12 := fM_0_12 h.g (r := 0) (by omega) km0
  intro m_z
  induction m_z with
  | zero => intro i_z w2_z w3_z w4_z h; omega
  | succ m_z ih_z =>
    intro i_z w2_z w3_z w4_z hm_z i0_z i1_z hi_z
    refine wq_ok srt_Mbegin (fr := []) (cuts := [51, 125]) (J := fun pc st_z => (pc = 125 ∧ ((A 0 12) ≤ i_z) ∧ st_z = ([(2, 0), (0, i_z), w2_z, w3_z, w4_z], [], A)) ∨ (pc = 51 ∧ (i_z < (A 0 12)) ∧ st_z = ([(2, 0), (0, i_z), (0, 0), w3_z, w4_z], [], A))) ?_ 11 41 _ ?_
    · rintro pc st_z (⟨rfl, h0, rfl⟩ | ⟨rfl, h0, rfl⟩)
      · exact mqb_125 h ⟨h.2.1.1, fun a_z b_z a0_z a1_z b0 b1 e_z => by have := hi_z a_z a0_z (by omega) a1_z b_z b0 b1; unfold gdz at this; omega⟩ p1 hdg (fun a_z b_z a0_z a1_z b0 b1 => hi_z a_z a0_z (by omega) a1_z b_z b0 b1)
      · refine mqb_51 h i0_z (by omega) p12.2 hdg (fun hj w2_z w3_z w4_z => ih_z (i_z + 1) _ _ _ (by omega) (by omega) (by omega) (fun k_z k0_z k1_z k2_z => ?_)) _ 0 _ _ (Nat.lt_succ_self _) (by omega) (by omega) (fun k_z k0_z k1_z => by omega)
        by_cases e_z : k_z = i_z
        · rw [e_z]; exact hj
        · exact hi_z k_z k0_z (by omega) k2_z
    · refine ⟨oM_0 (by omega) km0 12 rfl, ?_⟩
      refine ⟨fun h0 => ?_, fun h0 => ?_⟩
      · exact Or.inl (⟨rfl, h0, rfl⟩)
      · exact Or.inr (⟨rfl, h0, rfl⟩)
theorem mqb_11 {A : pm_A} (h : RI A) (p1 : 1 ≤ A 0 12) : ∀ (m_z : Nat) (i_z : Int) (w2_z w3_z w4_z : pm_V), (6 - i_z).toNat < m_z → 0 ≤ i_z → i_z ≤ 6 → (∀ k_z : Int, 0 ≤ k_z → k_z < i_z → k_z < A 0 12 → A 7 (7 * k_z) = 0) → Tm pmt (an_sh wM) o_X10_begin 11 ([(2, 0), (0, i_z), w2_z, w3_z, w4_z], [], A) (bz_post A) := by
  have p12 := fM_0_12 h.g (r := 0) (by omega) km0
  have c14_z := pM_14 h.g
  intro m_z
  induction m_z with
  | zero => intro i_z w2_z w3_z w4_z h; omega
  | succ m_z ih_z =>
    intro i_z w2_z w3_z w4_z hm_z i0_z i1_z hi_z
    refine wq_ok srt_Mbegin (fr := []) (cuts := [11, 41]) (J := fun pc st_z => (pc = 41 ∧ ((A 0 12) ≤ i_z) ∧ st_z = ([(2, 0), (0, 0), w2_z, w3_z, w4_z], [], A)) ∨ (pc = 11 ∧ (i_z < (A 0 12)) ∧ ((A (A 0 14) (7 * i_z)) = 0) ∧ st_z = ([(2, 0), (0, i_z + 1), w2_z, w3_z, w4_z], [], A))) ?_ 18 11 _ ?_
    · rintro pc st_z (⟨rfl, h0, rfl⟩ | ⟨rfl, h0, h1, rfl⟩)
      · exact mqb_41 h p1 (fun k_z k0_z k1_z => hi_z k_z k0_z (by omega) k1_z) _ 0 _ _ _ (Nat.lt_succ_self _) (by omega) (by omega) (fun k_z k0_z k1_z => by omega)
      · rw [c14_z] at h1
        refine ih_z (i_z + 1) _ _ _ (by omega) (by omega) (by omega) (fun k_z k0_z k1_z k2_z => ?_)
        by_cases e_z : k_z = i_z
        · rw [e_z]; exact h1
        · exact hi_z k_z k0_z (by omega) k2_z
    · refine ⟨oM_0 (by omega) km0 12 rfl, ?_⟩
      refine ⟨fun h0 => ?_, fun h0 => ?_⟩
      · exact Or.inl (⟨rfl, h0, rfl⟩)
      · refine ⟨oM_0 (by omega) km0 14 rfl, ?_⟩
        refine ⟨⟨by omega, by omega⟩, ?_⟩
        refine ⟨aM_7 (r := A 0 14) (by rw [c14_z]; omega) (by rw [c14_z]; exact kn7) (by omega) (by omega), ?_⟩
        have e1 : A (A 0 14) (7 * i_z) = A 7 (7 * i_z) := by rw [c14_z]
        refine ⟨fun h1 => ?_, fun h1 => ?_⟩
        · refine ⟨⟨by omega, by omega⟩, ?_⟩
          exact Or.inr (⟨rfl, h0, h1, rfl⟩)
        · rw [c14_z] at h1
          exact ⟨rfl, ⟨⟨_, rfl⟩, h⟩, 1, rfl, Or.inr ⟨p1, Or.inl ⟨rfl, fun hs => h1 (hs i_z i0_z (by omega))⟩⟩, Or.inr ⟨by omega, rfl, fun _ => rfl⟩⟩
theorem mbegin_ex {A : pm_A} (h : RI A) : Cl pmt (an_sh wM) 129 [(2, 0)] A (bz_post A) := by
  have p12 := fM_0_12 h.g (r := 0) (by omega) km0
  refine Cl.of (Nat.le_of_ble_eq_true rfl) ?_
  refine wq_ok (full := o_X10_begin) srt_Mbegin (fr := []) (cuts := [11]) (J := fun pc st_z => (pc = 11 ∧ (¬ (A 0 12) = 0) ∧ st_z = ([(2, 0), (0, 0), (9, 0), (9, 0), (9, 0)], [], A))) ?_ 10 0 _ ?_
  · rintro pc st_z (⟨rfl, h0, rfl⟩)
    exact mqb_11 h (by omega) _ 0 _ _ _ (Nat.lt_succ_self _) (by omega) (by omega) (fun k_z k0_z k1_z => by omega)
  · refine ⟨oM_0 (by omega) km0 12 rfl, ?_⟩
    refine ⟨fun h0 => ?_, fun h0 => ?_⟩
    · exact ⟨rfl, h0, rfl⟩
    · exact ⟨rfl, ⟨⟨_, rfl⟩, h⟩, -1, rfl, Or.inl ⟨rfl, h0⟩, Or.inr ⟨by omega, rfl, fun _ => rfl⟩⟩
