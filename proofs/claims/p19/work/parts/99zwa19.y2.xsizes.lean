/-! sizes, exactly: the class -/
def al_q (A : pm_A) (d m P u v : Int) (r : pm_R) : Prop := ∃ x_z f_z, r.1 = some (1, x_z) ∧ 1 ≤ x_z ∧ x_z ≤ P * 2999 ∧ 1 ≤ f_z ∧ f_z ≤ 2999 ∧ scaled A r.2 d m f_z m ∧ x_z = u.tdiv (Int.gcd u v : Int) ∧ f_z = v.tdiv (Int.gcd u v : Int)
theorem am_63 {A : pm_A} {d i j m P u v : Int} (hh : al_H A d i j m P) (hu : 1 ≤ u) (hu1 : u ≤ P * 2999) (hv : 1 ≤ v) (hv1 : v ≤ 2999) : ∀ (n_z : Nat) (a_z : Int) (B_z : pm_A), (m - a_z).toNat < n_z → 0 ≤ a_z → a_z ≤ m → scaled A B_z d m (v.tdiv (Int.gcd u v : Int)) a_z → Tm pmt (an_sh wX) o_X2_sizeAlong 63 ([(2, d), (0, i), (0, j), (0, m), (1, u), (9, 0), (1, v), (9, 0), (1, (Int.gcd u v : Int)), (9, 0), (0, a_z)], [], B_z) (al_q A d m P u v) := by
  obtain ⟨hA, ⟨hd0, hdk⟩, hi_z, hj, hm_z, hg, hP, hmem, ht1, ht2⟩ := hh
  obtain ⟨q0, q1_z, q2_z, q3_z, q4_z⟩ := gcd_quo hu hv
  have qle : (Int.gcd u v : Int) ≤ v := Int.le_of_dvd (by omega) (Int.gcd_dvd_right u v)
  have s0_z := fX_3_3 hA hd0 hdk
  have g0 := fX_3_4 hA hd0 hdk
  have es := shX_11 s0_z.2
  have eg := shX_17 g0.2
  have ed := shX_3 hdk
  have nd_z : ¬ d = A d 3 := fun q_z => by rw [← q_z, ed] at es; cases es
  have ng : ¬ A d 4 = A d 3 := fun q_z => by rw [q_z, es] at eg; cases eg
  intro n_z
  induction n_z with
  | zero => intro a_z B_z h_z; omega
  | succ n_z ih_z =>
    intro a_z B_z hn ha0 ha1 hB_z
    have hB0 := hB_z
    obtain ⟨hB1, hB2, hB3, hB4⟩ := hB_z
    have d3_z : B_z d 3 = A d 3 := hB2 d 3 nd_z
    have d4_z : B_z d 4 = A d 4 := hB2 d 4 nd_z
    refine wq_ok srt_along (fr := []) (cuts := [63]) (J := fun pc st_z => pc = 63 ∧ a_z < m ∧ st_z = ([(2, d), (0, i), (0, j), (0, m), (1, u), (9, 0), (1, v), (9, 0), (1, (Int.gcd u v : Int)), (9, 0), (0, a_z + 1)], [], pm_upd B_z (B_z d 3) (B_z (B_z d 4) a_z) (B_z (B_z d 3) (B_z (B_z d 4) a_z) * v.tdiv (Int.gcd u v : Int)))) ?_ 40 63 _ ?_
    · rintro pc st_z ⟨rfl, ha_z, rfl⟩
      rw [d3_z, d4_z, hB2 (A d 4) a_z ng]
      have gp := eX_17 hA g0.1 g0.2 ha0 (show a_z < 6 by omega)
      have hv2 := hB3 a_z ha0 ha_z
      rw [if_neg (show ¬ a_z < a_z by omega), Int.mul_one] at hv2
      have hv3 := hg.1 a_z ha0 ha_z
      have m1_z : 0 ≤ A (A d 3) (A (A d 4) a_z) * v.tdiv (Int.gcd u v : Int) := Int.mul_nonneg (by omega) (by omega)
      have m2_z : A (A d 3) (A (A d 4) a_z) * v.tdiv (Int.gcd u v : Int) ≤ P * 2999 := Int.mul_le_mul hv3.2 (by omega) (by omega) (by omega)
      refine ih_z (a_z + 1) _ (by omega) (by omega) (by omega) ⟨uX_11 hB1 s0_z.2 (by rw [hv2]; omega) (by rw [hv2]; omega), fun r_z k_z hr => by rw [upd_ne hr]; exact hB2 r_z k_z hr, fun p_z p0_z p1_z => ?_, fun k_z hk => ?_⟩
      · by_cases e_z : p_z = a_z
        · rw [e_z, upd_at, hv2, if_pos (by omega)]
        · have hne : ¬ A (A d 4) p_z = A (A d 4) a_z := by
            by_cases hlt : p_z < a_z
            · exact hg.2 p_z a_z p0_z hlt ha_z
            · exact fun q_z => hg.2 a_z p_z ha0 (by omega) p1_z q_z.symm
          rw [upd_n2 hne, hB3 p_z p0_z p1_z]
          by_cases hlt : p_z < a_z
          · rw [if_pos hlt, if_pos (by omega)]
          · rw [if_neg hlt, if_neg (by omega)]
      · rw [upd_n2 (fun q_z => hk a_z ha0 ha_z q_z.symm)]; exact hB4 k_z hk
    · refine ⟨fun h_z => ?_, fun h_z => ?_⟩
      · refine ⟨⟨by omega, ⟨by omega, by omega⟩, ⟨by omega, by omega⟩, fun q_z => by omega⟩, ?_⟩
        refine ⟨rfl, _, v.tdiv (Int.gcd u v : Int), rfl, q1_z, by show u.tdiv (Int.gcd u v : Int) ≤ P * 2999; omega, q3_z, by omega, ?_, rfl, rfl⟩
        have : a_z = m := by omega
        rw [this] at hB0
        exact hB0
      · have gp := eX_17 hA g0.1 g0.2 ha0 (show a_z < 6 by omega)
        have e4_z : B_z (B_z d 4) a_z = A (A d 4) a_z := by rw [d4_z]; exact hB2 _ _ ng
        have hv2 := hB3 a_z ha0 h_z
        rw [if_neg (show ¬ a_z < a_z by omega), Int.mul_one] at hv2
        have hv3 := hg.1 a_z ha0 h_z
        have m1_z : 0 ≤ A (A d 3) (A (A d 4) a_z) * v.tdiv (Int.gcd u v : Int) := Int.mul_nonneg (by omega) (by omega)
        have m2_z : A (A d 3) (A (A d 4) a_z) * v.tdiv (Int.gcd u v : Int) ≤ P * 2999 := Int.mul_le_mul hv3.2 (by omega) (by omega) (by omega)
        refine ⟨oX_3 hd0 hdk 3 rfl, ?_⟩
        refine ⟨oX_3 hd0 hdk 4 rfl, ?_⟩
        refine ⟨aX_17 (by rw [d4_z]; exact g0.1) (by rw [d4_z]; exact g0.2) ha0 (by omega), ?_⟩
        refine ⟨aX_11 (by rw [d3_z]; exact s0_z.1) (by rw [d3_z]; exact s0_z.2) (by rw [e4_z]; omega) (by rw [e4_z]; omega), ?_⟩
        refine ⟨⟨by omega, ⟨by omega, by omega⟩, ⟨by omega, by omega⟩, fun q_z => by omega⟩, ?_⟩
        refine ⟨?_, ?_⟩
        · show r64 (B_z (B_z d 3) (B_z (B_z d 4) a_z) * v.tdiv (Int.gcd u v : Int))
          rw [e4_z, d3_z, hv2]
          exact ⟨by omega, by omega⟩
        · refine ⟨tX_11 (by rw [d3_z]; exact s0_z.1) (by rw [d3_z]; exact s0_z.2) (by rw [e4_z]; omega) (by rw [e4_z]; omega) rfl, ?_⟩
          refine ⟨⟨by omega, by omega⟩, ?_⟩
          exact ⟨rfl, h_z, rfl⟩
theorem am_50 {A : pm_A} {d i j m P u v : Int} (hh : al_H A d i j m P) (hu : 1 ≤ u) (hu1 : u ≤ P * 2999) (hv : 1 ≤ v) (hv1 : v ≤ 2999) (w : pm_V) : Tm pmt (an_sh wX) o_X2_sizeAlong 50 ([(2, d), (0, i), (0, j), (0, m), (1, u), (9, 0), (1, v), (9, 0), (1, (Int.gcd u v : Int)), (9, 0), w], [], A) (al_q A d m P u v) := by
  have gq := (gcd_quo hu hv).1
  have hm_z := hh.2.2.2.2.1
  refine wq_ok srt_along (fr := []) (cuts := [63]) (J := fun pc st_z => pc = 63 ∧ st_z = ([(2, d), (0, i), (0, j), (0, m), (1, u), (9, 0), (1, v), (9, 0), (1, (Int.gcd u v : Int)), (9, 0), (0, 0)], [], A)) ?_ 40 50 _ ?_
  · rintro pc st_z ⟨rfl, rfl⟩
    exact am_63 hh hu hu1 hv hv1 _ 0 A (Nat.lt_succ_self _) (by omega) (by omega) ⟨hh.1, fun _ _ _ => rfl, fun p_z p0_z p1_z => by rw [if_neg (by omega), Int.mul_one], fun _ _ => rfl⟩
  · refine ⟨fun h_z => ?_, fun h_z => ?_, fun h_z => ?_⟩
    · refine ⟨fun _ => ?_, fun h0 => ?_⟩
      · exact ⟨rfl, rfl⟩
      · exact absurd h0 (by decide)
    · exact absurd h_z (by omega)
    · exact absurd h_z (by omega)
theorem along_ex {A : pm_A} {d i j m P : Int} (hh : al_H A d i j m P) : Cl pmt (an_sh wX) 26 [(2, d), (0, i), (0, j), (0, m)] A (al_q A d m P (A (A d 3) i * ((A (A d 2) (i * 6 + j)).natAbs : Int)) ((A (A d 2) (j * 6 + i)).natAbs : Int)) := by
  have hh0 := hh
  obtain ⟨hA, ⟨hd0, hdk⟩, hi_z, hj, hm_z, hg, hP, ⟨p_z, p0_z, p1_z, hp⟩, ht1, ht2⟩ := hh
  have s0_z := fX_3_3 hA hd0 hdk
  have g0 := fX_3_4 hA hd0 hdk
  have t0_z := fX_3_2 hA hd0 hdk
  have hsi := hg.1 p_z p0_z p1_z
  rw [hp] at hsi
  have b1 := eX_16 hA t0_z.1 t0_z.2 (j := i * 6 + j) (by omega) (by omega)
  have b2 := eX_16 hA t0_z.1 t0_z.2 (j := j * 6 + i) (by omega) (by omega)
  have m1_z : 1 * 1 ≤ A (A d 3) i * ((A (A d 2) (i * 6 + j)).natAbs : Int) := Int.mul_le_mul hsi.1 (by omega) (by omega) (by omega)
  have m2_z : A (A d 3) i * ((A (A d 2) (i * 6 + j)).natAbs : Int) ≤ P * 2999 := Int.mul_le_mul hsi.2 (by omega) (by omega) (by omega)
  have hv0 : 1 ≤ ((A (A d 2) (j * 6 + i)).natAbs : Int) ∧ ((A (A d 2) (j * 6 + i)).natAbs : Int) ≤ 2999 := by omega
  refine Cl.of (Nat.le_of_ble_eq_true rfl) ?_
  show Tm pmt (an_sh wX) o_X2_sizeAlong 0 ([(2, d), (0, i), (0, j), (0, m), (9, 0), (9, 0), (9, 0), (9, 0), (9, 0), (9, 0), (9, 0)], [], A) _
  refine wq_ok (full := o_X2_sizeAlong) srt_along (fr := []) (cuts := [50]) (J := fun pc st_z => pc = 50 ∧ ∃ w_z, st_z = ([(2, d), (0, i), (0, j), (0, m), (1, A (A d 3) i * ((A (A d 2) (i * 6 + j)).natAbs : Int)), (9, 0), (1, ((A (A d 2) (j * 6 + i)).natAbs : Int)), (9, 0), (1, (Int.gcd (A (A d 3) i * ((A (A d 2) (i * 6 + j)).natAbs : Int)) ((A (A d 2) (j * 6 + i)).natAbs : Int) : Int)), (9, 0), w_z], [], A)) ?_ 60 0 _ ?_
  · rintro pc st_z ⟨rfl, w_z, rfl⟩
    exact am_50 hh0 (by omega) m2_z hv0.1 hv0.2 w_z
  · refine ⟨oX_3 hd0 hdk 3 rfl, ?_⟩
    refine ⟨aX_11 s0_z.1 s0_z.2 (by omega) (by omega), ?_⟩
    refine ⟨oX_3 hd0 hdk 2 rfl, ?_⟩
    refine ⟨⟨by omega, by omega⟩, ?_⟩
    refine ⟨⟨by omega, by omega⟩, ?_⟩
    refine ⟨aX_16 t0_z.1 t0_z.2 (by omega) (by omega), ?_⟩
    refine ⟨⟨by omega, by omega⟩, ?_⟩
    refine ⟨⟨by omega, by omega⟩, ?_⟩
    refine ⟨oX_3 hd0 hdk 2 rfl, ?_⟩
    refine ⟨⟨by omega, by omega⟩, ?_⟩
    refine ⟨⟨by omega, by omega⟩, ?_⟩
    refine ⟨aX_16 t0_z.1 t0_z.2 (by omega) (by omega), ?_⟩
    refine ⟨⟨by omega, by omega⟩, ?_⟩
    refine ⟨rfl, ?_⟩
    refine (gd_ct (an_sh wX) (a := A (A d 3) i * ((A (A d 2) (i * 6 + j)).natAbs : Int)) (b := ((A (A d 2) (j * 6 + i)).natAbs : Int)) (by omega) (by omega) (by omega) (by omega)).imp ?_
    rintro r_z rfl
    exact ⟨rfl, _, rfl⟩
def sx (A B : pm_A) (d m fi : Int) : Prop := B (A d 4) 0 = fi ∧ (∀ k_z : Int, 0 ≤ k_z → k_z < m → A (A d 3) (B (A d 4) k_z) = 0) ∧ (∀ y_z : Int, (∀ k_z : Int, 0 ≤ k_z → k_z < m → ¬ B (A d 4) k_z = y_z) → B (A d 3) y_z = A (A d 3) y_z) ∧ ∀ w_z, sy (A d 0) (A (A d 2)) w_z → ∃ q_z, ∀ k_z : Int, 0 ≤ k_z → k_z < m → w_z (B (A d 4) k_z) = q_z * B (A d 3) (B (A d 4) k_z)
def cq (A B : pm_A) (d a : Int) : Prop := ∀ k_z b_z : Int, 0 ≤ k_z → k_z < a → 0 ≤ b_z → b_z < A d 0 → ¬ A (A d 2) (6 * B (A d 4) k_z + b_z) = 0 → ¬ B (A d 3) b_z = 0
def cjq (A B : pm_A) (d i j : Int) : Prop := ∀ b_z : Int, 0 ≤ b_z → b_z < j → b_z < A d 0 → ¬ A (A d 2) (6 * i + b_z) = 0 → ¬ B (A d 3) b_z = 0
theorem sx_next {A B C : pm_A} {d m j x f i a fi g : Int} (hh : sg_H A d) (hB : sg A B d m) (hX : sx A B d m fi) (hj0 : 0 ≤ j) (hj : j < A d 0) (hz : B (A d 3) j = 0) (a0 : 0 ≤ a) (a1 : a < m) (hi : B (A d 4) a = i) (i0 : 0 ≤ i) (i1 : i < A d 0) (g1 : 1 ≤ g) (hU : B (A d 3) i * ((A (A d 2) (6 * i + j)).natAbs : Int) = g * x) (hV : ((A (A d 2) (6 * j + i)).natAbs : Int) = g * f) (hgc : ∀ z_z k_z : Int, z_z ∣ k_z * (g * x) → z_z ∣ k_z * (g * f) → z_z ∣ k_z * g) (x1 : 1 ≤ x) (f1 : 1 ≤ f) (hC : scaled B C d m f m) : sx A (pm_upd (pm_upd C (A d 3) j x) (A d 4) m j) d (m + 1) fi ∧ (∀ b_z, ¬ B (A d 3) b_z = 0 → ¬ (pm_upd (pm_upd C (A d 3) j x) (A d 4) m j) (A d 3) b_z = 0) ∧ ¬ (pm_upd (pm_upd C (A d 3) j x) (A d 4) m j) (A d 3) j = 0 := by
  obtain ⟨hA, ⟨hd0, hdk⟩, _⟩ := hh
  obtain ⟨b1, b2, b3, b4, b5⟩ := hB
  obtain ⟨⟨n1_z, n2_z⟩, ⟨n3_z, n3'⟩, n4_z, n5_z⟩ := sg_ne hA hd0 hdk
  have d3_z : B d 3 = A d 3 := b2 d 3 n1_z n2_z
  have d4_z : B d 4 = A d 4 := b2 d 4 n1_z n2_z
  unfold grp at b4
  unfold scaled at hC
  rw [d3_z, d4_z] at b4 hC
  obtain ⟨c1_z, c2_z, c3_z, c4_z⟩ := hC
  have gr : ∀ p_z, 0 ≤ p_z → p_z < m → (pm_upd (pm_upd C (A d 3) j x) (A d 4) m j) (A d 4) p_z = B (A d 4) p_z := fun p_z p0_z p1_z => by
    rw [upd_n2 (show ¬ p_z = m by omega), upd_ne n3_z, c2_z _ _ n3_z]
  have gm_z : (pm_upd (pm_upd C (A d 3) j x) (A d 4) m j) (A d 4) m = j := upd_at
  have nj : ∀ p_z, 0 ≤ p_z → p_z < m → ¬ B (A d 4) p_z = j := fun p_z p0_z p1_z q_z => by
    have h2 := b4.1 p_z p0_z p1_z
    rw [q_z, hz] at h2
    omega
  have sz_z : ∀ p_z, 0 ≤ p_z → p_z < m → (pm_upd (pm_upd C (A d 3) j x) (A d 4) m j) (A d 3) (B (A d 4) p_z) = B (A d 3) (B (A d 4) p_z) * f := fun p_z p0_z p1_z => by
    rw [upd_ne n3', upd_n2 (nj p_z p0_z p1_z), c3_z p_z p0_z p1_z, if_pos p1_z]
  have sj : (pm_upd (pm_upd C (A d 3) j x) (A d 4) m j) (A d 3) j = x := by rw [upd_ne n3', upd_at]
  refine ⟨⟨?_, fun k_z k0_z k1_z => ?_, fun y_z hy => ?_, fun w_z se => ?_⟩, fun b_z hb_z => ?_, by rw [sj]; omega⟩
  · rw [gr 0 (by omega) (by omega)]; exact hX.1
  · by_cases e_z : k_z = m
    · rw [e_z, gm_z, ← hX.2.2.1 j (fun p_z p0_z p1_z => nj p_z p0_z p1_z)]; exact hz
    · rw [gr k_z k0_z (by omega)]; exact hX.2.1 k_z k0_z (by omega)
  · have hy1 : ¬ y_z = j := fun q_z => hy m (by omega) (by omega) (by rw [gm_z, q_z])
    have hy2 : ∀ p_z, 0 ≤ p_z → p_z < m → ¬ B (A d 4) p_z = y_z := fun p_z p0_z p1_z q_z => hy p_z p0_z (by omega) (by rw [gr p_z p0_z p1_z]; exact q_z)
    rw [upd_ne n3', upd_n2 hy1, c4_z y_z hy2]; exact hX.2.2.1 y_z hy2
  · obtain ⟨q_z, hq⟩ := hX.2.2.2 w_z se
    have q1_z := hq a a0 a1
    rw [hi] at q1_z
    have av := sy_av se i0 i1 hj0 hj
    rw [avx_n, avx_n] at av
    have k1_z : q_z * (g * x) = w_z j * (g * f) := by rw [← hU, ← hV, ← Int.mul_assoc, ← q1_z]; exact av
    obtain ⟨c_z, hc_z⟩ := hgc (g * f) q_z (by rw [k1_z]; exact ⟨w_z j, Int.mul_comm _ _⟩) ⟨q_z, Int.mul_comm _ _⟩
    have hq2 : q_z = f * c_z := Int.eq_of_mul_eq_mul_left (show g ≠ 0 by omega) (by rw [Int.mul_comm g q_z, hc_z, Int.mul_assoc])
    have gf : g * f ≠ 0 := fun e_z => by
      have := Int.mul_le_mul g1 f1 (by omega) (by omega)
      omega
    have k2_z : (g * f) * w_z j = (g * f) * (c_z * x) := by
      rw [Int.mul_comm (g * f) (w_z j), ← k1_z, hq2]; ac_rfl
    have k3_z := Int.eq_of_mul_eq_mul_left gf k2_z
    refine ⟨c_z, fun k_z k0_z kl => ?_⟩
    by_cases ek : k_z = m
    · rw [ek, gm_z, sj]; exact k3_z
    · rw [gr k_z k0_z (by omega), sz_z k_z k0_z (by omega), hq k_z k0_z (by omega), hq2]; ac_rfl
  · by_cases e_z : b_z = j
    · rw [e_z, sj]; omega
    · by_cases hm_z : ∃ p_z, 0 ≤ p_z ∧ p_z < m ∧ B (A d 4) p_z = b_z
      · obtain ⟨p_z, p0_z, p1_z, hp⟩ := hm_z
        rw [← hp, sz_z p_z p0_z p1_z]
        have h2 := b4.1 p_z p0_z p1_z
        have := Int.mul_le_mul h2.1 f1 (by omega) (by omega)
        omega
      · rw [upd_ne n3', upd_n2 e_z, c4_z b_z (fun p_z p0_z p1_z q_z => hm_z ⟨p_z, p0_z, p1_z, q_z⟩)]; exact hb_z
def sgq_post (A : pm_A) (d fi : Int) (r : pm_R) : Prop := sg_post A d r ∧ ∃ m_z, sg A r.2 d m_z ∧ sx A r.2 d m_z fi ∧ cq A r.2 d m_z
theorem sh_92 {A B C : pm_A} {d m j x f i a fi g : Int} (hh : sg_H A d) (hB : sg A B d m) (hX : sx A B d m fi) (a0 : 0 ≤ a) (a1 : a < m) (hi : B (A d 4) a = i) (i0 : 0 ≤ i) (i1 : i < A d 0) (g1 : 1 ≤ g) (hU : B (A d 3) i * ((A (A d 2) (6 * i + j)).natAbs : Int) = g * x) (hV : ((A (A d 2) (6 * j + i)).natAbs : Int) = g * f) (hgc : ∀ z_z k_z : Int, z_z ∣ k_z * (g * x) → z_z ∣ k_z * (g * f) → z_z ∣ k_z * g) (hm : m ≤ 5) (hj0 : 0 ≤ j) (hj : j < A d 0) (hz : B (A d 3) j = 0) (hx : 1 ≤ x) (hx1 : x ≤ pq m * 2999) (hf : 1 ≤ f) (hf1 : f ≤ 2999) (hC : scaled B C d m f m)
    (H : ∀ D_z, sg A D_z d (m + 1) → (∀ p_z, 0 ≤ p_z → p_z < m → D_z (A d 4) p_z = B (A d 4) p_z) → sx A D_z d (m + 1) fi → (∀ b_z, ¬ B (A d 3) b_z = 0 → ¬ D_z (A d 3) b_z = 0) → ¬ D_z (A d 3) j = 0 → Tm pmt (an_sh wX) o_X2_sizeGroup 40 ([(2, d), (0, fi), (0, m + 1), (0, a), (0, i), (0, j + 1)], [], D_z) (sgq_post A d fi)) :
    Tm pmt (an_sh wX) o_X2_sizeGroup 92 ([(2, d), (0, fi), (0, m), (0, a), (0, i), (0, j)], [(1, x), (0, j), (2, A d 3)], C) (sgq_post A d fi) := by
  have hsx := sx_next hh hB hX hj0 hj hz a0 a1 hi i0 i1 g1 hU hV hgc hx hf hC
  have hn := sg_next hh hB hm hj0 hj hz hx hx1 hf hf1 hC
  obtain ⟨hA, ⟨hd0, hdk⟩, _⟩ := hh
  obtain ⟨b1, b2, b3, b4, b5⟩ := hB
  obtain ⟨⟨n1_z, n2_z⟩, ⟨n3_z, n3'⟩, n4_z, n5_z⟩ := sg_ne hA hd0 hdk
  have s0_z := fX_3_3 hA hd0 hdk
  have g0 := fX_3_4 hA hd0 hdk
  have p6_z := fX_3_0 hA hd0 hdk
  have d3_z : B d 3 = A d 3 := b2 d 3 n1_z n2_z
  have hC2 := hC.2.1
  rw [d3_z] at hC2
  have e4_z : pm_upd C (A d 3) j x d 4 = A d 4 := by rw [upd_ne n1_z, hC2 d 4 n1_z, b2 d 4 n1_z n2_z]
  refine wq_ok srt_group (fr := []) (cuts := [40]) (J := fun pc st_z => pc = 40 ∧ st_z = ([(2, d), (0, fi), (0, m + 1), (0, a), (0, i), (0, j + 1)], [], pm_upd (pm_upd C (A d 3) j x) (pm_upd C (A d 3) j x d 4) m j)) ?_ 40 92 _ ?_
  · rintro pc st_z ⟨rfl, rfl⟩
    rw [e4_z]
    refine H _ hn (fun p_z p0_z p1_z => ?_) hsx.1 hsx.2.1 hsx.2.2
    rw [upd_n2 (show ¬ p_z = m by omega), upd_ne n3_z, hC2 _ _ n3_z]
  · refine ⟨tX_11 s0_z.1 s0_z.2 hj0 (by omega) rfl, ?_⟩
    refine ⟨oX_3 hd0 hdk 4 rfl, ?_⟩
    refine ⟨tX_17 (by rw [e4_z]; exact g0.1) (by rw [e4_z]; exact g0.2) (by omega) (by omega) rfl, ?_⟩
    refine ⟨⟨by omega, by omega⟩, ?_⟩
    refine ⟨⟨by omega, by omega⟩, ?_⟩
    exact ⟨rfl, rfl⟩
theorem sh_40 {A : pm_A} {d i a fi : Int} (hh : sg_H A d) (ha0 : 0 ≤ a) (H : ∀ B_z m_z w4_z w5, sg A B_z d m_z → a < m_z → sx A B_z d m_z fi → cq A B_z d (a + 1) → Tm pmt (an_sh wX) o_X2_sizeGroup 110 ([(2, d), (0, fi), (0, m_z), (0, a), w4_z, w5], [], B_z) (sgq_post A d fi)) : ∀ (n_z : Nat) (j_z : Int) (B_z : pm_A) (m_z : Int), (A d 0 - j_z).toNat < n_z → 0 ≤ j_z → j_z ≤ A d 0 → a < m_z → sg A B_z d m_z → B_z (A d 4) a = i → sx A B_z d m_z fi → cq A B_z d a → cjq A B_z d i j_z → Tm pmt (an_sh wX) o_X2_sizeGroup 40 ([(2, d), (0, fi), (0, m_z), (0, a), (0, i), (0, j_z)], [], B_z) (sgq_post A d fi) := by
  intro n_z
  induction n_z with
  | zero => intro j_z B_z m_z h_z; omega
  | succ n_z ih_z =>
    intro j_z B_z m_z hn hj0 hj1 ham hB_z hmem hX hcq hcj
    have hh0 := hh
    have hB0 := hB_z
    obtain ⟨hA, ⟨hd0, hdk⟩, hsy⟩ := hh
    obtain ⟨b1, b2, b3, b4, b5⟩ := hB_z
    obtain ⟨⟨n1_z, n2_z⟩, ⟨n3_z, n3'⟩, n4_z, n5_z⟩ := sg_ne hA hd0 hdk
    have s0_z := fX_3_3 hA hd0 hdk
    have g0 := fX_3_4 hA hd0 hdk
    have t0_z := fX_3_2 hA hd0 hdk
    have p6_z := fX_3_0 hA hd0 hdk
    have d3_z : B_z d 3 = A d 3 := b2 d 3 n1_z n2_z
    have d4_z : B_z d 4 = A d 4 := b2 d 4 n1_z n2_z
    have d0_z : B_z d 0 = A d 0 := b2 d 0 n1_z n2_z
    have d2_z : B_z d 2 = A d 2 := b2 d 2 n1_z n2_z
    obtain ⟨p_z, p0_z, p1_z, hp⟩ : ∃ p_z, 0 ≤ p_z ∧ p_z < m_z ∧ B_z (A d 4) p_z = i := ⟨a, ha0, ham, hmem⟩
    have hi5 := eX_17 b1 g0.1 g0.2 p0_z (show p_z < 6 by omega)
    have hil := b5 p_z p0_z p1_z
    rw [hp] at hi5 hil
    refine wq_ok srt_group (fr := []) (cuts := [40, 92, 110]) (J := fun pc st_z => (pc = 40 ∧ j_z < A d 0 ∧ (¬ A (A d 2) (6 * i + j_z) = 0 → ¬ B_z (A d 3) j_z = 0) ∧ st_z = ([(2, d), (0, fi), (0, m_z), (0, a), (0, i), (0, j_z + 1)], [], B_z)) ∨ (pc = 110 ∧ A d 0 ≤ j_z ∧ st_z = ([(2, d), (0, fi), (0, m_z), (0, a), (0, i), (0, j_z)], [], B_z)) ∨ (pc = 92 ∧ j_z < A d 0 ∧ B_z (A d 3) j_z = 0 ∧ ∃ x_z f_z C_z, 1 ≤ x_z ∧ x_z ≤ pq m_z * 2999 ∧ 1 ≤ f_z ∧ f_z ≤ 2999 ∧ scaled B_z C_z d m_z f_z m_z ∧ (x_z = (B_z (B_z d 3) i * ((B_z (B_z d 2) (i * 6 + j_z)).natAbs : Int)).tdiv (Int.gcd (B_z (B_z d 3) i * ((B_z (B_z d 2) (i * 6 + j_z)).natAbs : Int)) ((B_z (B_z d 2) (j_z * 6 + i)).natAbs : Int) : Int) ∧ f_z = (((B_z (B_z d 2) (j_z * 6 + i)).natAbs : Int)).tdiv (Int.gcd (B_z (B_z d 3) i * ((B_z (B_z d 2) (i * 6 + j_z)).natAbs : Int)) ((B_z (B_z d 2) (j_z * 6 + i)).natAbs : Int) : Int) ∧ ¬ B_z (B_z d 2) (i * 6 + j_z) = 0 ∧ ¬ B_z (B_z d 2) (j_z * 6 + i) = 0) ∧ st_z = ([(2, d), (0, fi), (0, m_z), (0, a), (0, i), (0, j_z)], [(1, x_z), (0, j_z), (2, B_z d 3)], C_z))) ?_ 80 40 _ ?_
    · rintro pc st_z (⟨rfl, hj, hnz, rfl⟩ | ⟨rfl, hj, rfl⟩ | ⟨rfl, hj, hz, x_z, f_z, C_z, h1, h2, h3, h4, h5, ⟨hxe, hfe, t1_z, t2_z⟩, rfl⟩)
      · exact ih_z (j_z + 1) B_z m_z (by omega) (by omega) (by omega) ham hB0 hmem hX hcq (fun b_z c0_z c1_z c2_z => by
          by_cases e_z : b_z = j_z
          · rw [e_z]; exact hnz
          · exact hcj b_z c0_z (by omega) c2_z)
      · refine H B_z m_z _ _ hB0 ham hX (fun k_z b_z k0_z k1_z c0_z c1_z => ?_)
        by_cases e_z : k_z = a
        · rw [e_z, hmem]; exact hcj b_z c0_z (by omega) c1_z
        · exact hcq k_z b_z k0_z (by omega) c0_z c1_z
      · rw [d3_z]
        have tq_z : ∀ k_z, B_z (B_z d 2) k_z = A (A d 2) k_z := fun k_z => by rw [d2_z]; exact b2 _ _ n4_z n5_z
        rw [tq_z, tq_z, d3_z] at hxe
        rw [tq_z, tq_z, d3_z] at hfe
        rw [tq_z] at t1_z t2_z
        have hsi := b4.1 p_z p0_z p1_z
        rw [d3_z, d4_z, hp] at hsi
        have e61 : i * 6 + j_z = 6 * i + j_z := by omega
        have e62 : j_z * 6 + i = 6 * j_z + i := by omega
        rw [e61, e62] at hxe hfe
        rw [e61] at t1_z
        rw [e62] at t2_z
        have hU1 : 1 * 1 ≤ B_z (A d 3) i * ((A (A d 2) (6 * i + j_z)).natAbs : Int) := Int.mul_le_mul hsi.1 (by omega) (by omega) (by omega)
        obtain ⟨u_z, v_z, eu, ev_z, e1, e2, u1_z, v1_z, _, _⟩ := red1 (a := B_z (A d 3) i * ((A (A d 2) (6 * i + j_z)).natAbs : Int)) (b := ((A (A d 2) (6 * j_z + i)).natAbs : Int)) (by omega) (by omega)
        have gg := gcd_pos1 (a := B_z (A d 3) i * ((A (A d 2) (6 * i + j_z)).natAbs : Int)) (b := ((A (A d 2) (6 * j_z + i)).natAbs : Int)) (by omega)
        have hgc : ∀ z_z k_z : Int, z_z ∣ k_z * (B_z (A d 3) i * ((A (A d 2) (6 * i + j_z)).natAbs : Int)) → z_z ∣ k_z * ((A (A d 2) (6 * j_z + i)).natAbs : Int) → z_z ∣ k_z * (Int.gcd (B_z (A d 3) i * ((A (A d 2) (6 * i + j_z)).natAbs : Int)) ((A (A d 2) (6 * j_z + i)).natAbs : Int) : Int) := fun z_z k_z => dvd_kg
        rw [eu] at hxe
        rw [ev_z] at hfe
        rw [← hxe] at e1
        rw [← hfe] at e2
        refine sh_92 (g := (Int.gcd (B_z (A d 3) i * ((A (A d 2) (6 * i + j_z)).natAbs : Int)) ((A (A d 2) (6 * j_z + i)).natAbs : Int) : Int)) hh0 hB0 hX ha0 ham hmem (by omega) hil gg e1 e2 (fun z_z k_z z1 z2 => hgc z_z k_z (by rw [e1]; exact z1) (by rw [e2]; exact z2)) (sg_few hh0 hB0 hj0 hj hz) hj0 hj hz h1 h2 h3 h4 h5 (fun D_z hD hDg hDx hDz hDj => ?_)
        refine ih_z (j_z + 1) D_z (m_z + 1) (by omega) (by omega) (by omega) (by omega) hD (by rw [hDg a ha0 ham]; exact hmem) hDx (fun k_z b_z k0_z k1_z c0_z c1_z => ?_) (fun b_z c0_z c1_z c2_z hb_z => ?_)
        · rw [hDg k_z k0_z (by omega)]; exact fun q_z => hDz b_z (hcq k_z b_z k0_z k1_z c0_z c1_z q_z)
        · by_cases e_z : b_z = j_z
          · rw [e_z]; exact hDj
          · exact hDz b_z (hcj b_z c0_z (by omega) c2_z hb_z)
    · refine ⟨oX_3 hd0 hdk 0 rfl, ?_⟩
      refine ⟨fun h_z => ?_, fun h_z => ?_⟩
      · exact Or.inr (Or.inl ⟨rfl, by rw [← d0_z]; exact h_z, rfl⟩)
      · have hj : j_z < A d 0 := by rw [← d0_z]; exact h_z
        refine ⟨oX_3 hd0 hdk 3 rfl, ?_⟩
        refine ⟨aX_11 (by rw [d3_z]; exact s0_z.1) (by rw [d3_z]; exact s0_z.2) hj0 (by omega), ?_⟩
        refine ⟨fun q_z => ?_, fun q_z => ?_, fun q_z => ?_⟩
        · refine ⟨fun _ => ?_, fun q2_z => absurd q2_z (by decide)⟩
          refine ⟨⟨by omega, by omega⟩, ?_⟩
          rw [d3_z] at q_z
          exact Or.inl ⟨rfl, hj, fun _ => by omega, rfl⟩
        · have hz : B_z (A d 3) j_z = 0 := by rw [← d3_z]; exact q_z
          refine ⟨fun q2_z => absurd rfl q2_z, fun _ => ?_⟩
          refine ⟨oX_3 hd0 hdk 2 rfl, ?_⟩
          refine ⟨⟨by omega, by omega⟩, ?_⟩
          refine ⟨⟨by omega, by omega⟩, ?_⟩
          refine ⟨aX_16 (by rw [d2_z]; exact t0_z.1) (by rw [d2_z]; exact t0_z.2) (by omega) (by omega), ?_⟩
          refine ⟨fun q2_z => ?_, fun q2_z => ?_⟩
          · refine ⟨⟨by omega, by omega⟩, ?_⟩
            have q9_z : B_z (B_z d 2) (i * 6 + j_z) = 0 := q2_z
            rw [d2_z, b2 _ _ n4_z n5_z, show i * 6 + j_z = 6 * i + j_z by omega] at q9_z
            exact Or.inl ⟨rfl, hj, fun h9 => absurd q9_z h9, rfl⟩
          · refine ⟨oX_3 hd0 hdk 3 rfl, ?_⟩
            refine ⟨rX_3 hd0 hdk, ?_⟩
            have hm5 := sg_few hh0 hB0 hj0 hj hz
            obtain ⟨w1_z, w2_z, w3_z⟩ := pq_le b3.1 hm5
            have tq_z : ∀ k_z, B_z (B_z d 2) k_z = A (A d 2) k_z := fun k_z => by rw [d2_z]; exact b2 _ _ n4_z n5_z
            have q3_z : ¬ B_z (B_z d 2) (i * 6 + j_z) = 0 := q2_z
            have q4_z : ¬ B_z (B_z d 2) (j_z * 6 + i) = 0 := by
              rw [tq_z] at q3_z ⊢
              exact hsy i j_z (by omega) hil hj0 hj q3_z
            refine (along_ex (A := B_z) (d := d) (i := i) (j := j_z) (m := m_z) (P := pq m_z) ⟨b1, ⟨hd0, hdk⟩, ⟨by omega, by omega⟩, ⟨hj0, by omega⟩, ⟨b3.1, hm5⟩, b4, ⟨w1_z, w2_z⟩, ⟨p_z, p0_z, p1_z, by rw [d4_z]; exact hp⟩, q3_z, q4_z⟩).imp ?_
            rintro ⟨r1_z, C_z⟩ ⟨x_z, f_z, e_z, k1_z, k2_z, k3_z, k4_z, k5_z, k6_z, k7_z⟩
            simp only at e_z k5_z k6_z k7_z
            subst e_z
            exact Or.inr (Or.inr ⟨rfl, hj, hz, x_z, f_z, C_z, k1_z, k2_z, k3_z, k4_z, k5_z, ⟨k6_z, k7_z, q3_z, q4_z⟩, rfl⟩)
        · refine ⟨fun _ => ?_, fun q2_z => absurd q2_z (by decide)⟩
          refine ⟨⟨by omega, by omega⟩, ?_⟩
          rw [d3_z] at q_z
          exact Or.inl ⟨rfl, hj, fun _ => by omega, rfl⟩
theorem sh_18 {A : pm_A} {d fi : Int} (hh : sg_H A d) : ∀ (n_z : Nat) (a_z : Int) (B_z : pm_A) (m_z : Int) (w4_z w5 : pm_V), (6 - a_z).toNat < n_z → 0 ≤ a_z → a_z ≤ 6 → sg A B_z d m_z → sx A B_z d m_z fi → cq A B_z d a_z → Tm pmt (an_sh wX) o_X2_sizeGroup 18 ([(2, d), (0, fi), (0, m_z), (0, a_z), w4_z, w5], [], B_z) (sgq_post A d fi) := by
  intro n_z
  induction n_z with
  | zero => intro a_z B_z m_z w4_z w5 h_z; omega
  | succ n_z ih_z =>
    intro a_z B_z m_z w4_z w5 hn ha0 ha1 hB_z hX hcq
    have hh0 := hh
    have hB0 := hB_z
    obtain ⟨hA, ⟨hd0, hdk⟩, hsy⟩ := hh
    obtain ⟨b1, b2, b3, b4, b5⟩ := hB_z
    obtain ⟨⟨n1_z, n2_z⟩, ⟨n3_z, n3'⟩, n4_z, n5_z⟩ := sg_ne hA hd0 hdk
    have g0 := fX_3_4 hA hd0 hdk
    have p6_z := fX_3_0 hA hd0 hdk
    have d4_z : B_z d 4 = A d 4 := b2 d 4 n1_z n2_z
    refine wq_ok srt_group (fr := []) (cuts := [40]) (J := fun pc st_z => pc = 40 ∧ a_z < m_z ∧ a_z < 6 ∧ st_z = ([(2, d), (0, fi), (0, m_z), (0, a_z), (0, B_z (B_z d 4) a_z), (0, 0)], [], B_z)) ?_ 40 18 _ ?_
    · rintro pc st_z ⟨rfl, ham, ha6, rfl⟩
      refine sh_40 hh0 ha0 (fun C_z k_z w4_z w5 hC hk hCx hCq => ?_) _ 0 B_z m_z (Nat.lt_succ_self _) (by omega) p6_z.1 ham hB0 (by rw [d4_z]) hX hcq (fun b_z c0_z c1_z => by omega)
      refine wq_ok srt_group (fr := []) (cuts := [18]) (J := fun pc st_z => pc = 18 ∧ st_z = ([(2, d), (0, fi), (0, k_z), (0, a_z + 1), w4_z, w5], [], C_z)) ?_ 40 110 _ ?_
      · rintro pc st_z ⟨rfl, rfl⟩
        exact ih_z (a_z + 1) C_z k_z w4_z w5 (by omega) (by omega) (by omega) hC hCx hCq
      · refine ⟨⟨by omega, by omega⟩, ?_⟩
        exact ⟨rfl, rfl⟩
    · refine ⟨fun h_z => ?_, fun h_z => ?_⟩
      · exact ⟨⟨rfl, b1, b2⟩, m_z, hB0, hX, fun k_z b_z k0_z k1_z => hcq k_z b_z k0_z (by omega)⟩
      · refine ⟨fun h2 => ?_, fun h2 => ?_⟩
        · exact ⟨⟨rfl, b1, b2⟩, m_z, hB0, hX, fun k_z b_z k0_z k1_z => hcq k_z b_z k0_z (by omega)⟩
        · refine ⟨oX_3 hd0 hdk 4 rfl, ?_⟩
          refine ⟨aX_17 (by rw [d4_z]; exact g0.1) (by rw [d4_z]; exact g0.2) ha0 (by omega), ?_⟩
          exact ⟨rfl, h_z, h2, rfl⟩
theorem xgroup_ex {A : pm_A} {d fi : Int} (hh : sg_H A d) (h0 : 0 ≤ fi) (h1 : fi < A d 0) (hz : A (A d 3) fi = 0) : Cl pmt (an_sh wX) 27 [(2, d), (0, fi)] A (sgq_post A d fi) := by
  have hs := sg_start hh h0 h1
  have hh0 := hh
  obtain ⟨hA, ⟨hd0, hdk⟩, hsy⟩ := hh
  obtain ⟨⟨n1_z, n2_z⟩, ⟨n3_z, n3'⟩, n4_z, n5_z⟩ := sg_ne hA hd0 hdk
  have s0_z := fX_3_3 hA hd0 hdk
  have g0 := fX_3_4 hA hd0 hdk
  have p6_z := fX_3_0 hA hd0 hdk
  have e3 : pm_upd A (A d 4) 0 fi d 3 = A d 3 := by rw [upd_ne n2_z]
  have hxs : sx A (pm_upd (pm_upd A (A d 4) 0 fi) (A d 3) fi 1) d 1 fi := by
    have gz : (pm_upd (pm_upd A (A d 4) 0 fi) (A d 3) fi 1) (A d 4) 0 = fi := by rw [upd_ne n3_z, upd_at]
    have sj : (pm_upd (pm_upd A (A d 4) 0 fi) (A d 3) fi 1) (A d 3) fi = 1 := upd_at
    refine ⟨gz, fun k_z k0_z k1_z => ?_, fun y_z hy => ?_, fun w_z se => ⟨w_z fi, fun k_z k0_z k1_z => ?_⟩⟩
    · rw [show k_z = 0 by omega, gz]; exact hz
    · rw [upd_n2 (fun q_z => hy 0 (by omega) (by omega) (by rw [gz, q_z])), upd_ne n3']
    · rw [show k_z = 0 by omega, gz, sj, Int.mul_one]
  refine Cl.of (Nat.le_of_ble_eq_true rfl) ?_
  show Tm pmt (an_sh wX) o_X2_sizeGroup 0 ([(2, d), (0, fi), (9, 0), (9, 0), (9, 0), (9, 0)], [], A) _
  refine wq_ok (full := o_X2_sizeGroup) srt_group (fr := []) (cuts := [18]) (J := fun pc st_z => pc = 18 ∧ ∃ w4_z w5, st_z = ([(2, d), (0, fi), (0, 1), (0, 0), w4_z, w5], [], pm_upd (pm_upd A (A d 4) 0 fi) (pm_upd A (A d 4) 0 fi d 3) fi 1)) ?_ 40 0 _ ?_
  · rintro pc st_z ⟨rfl, w4_z, w5, rfl⟩
    rw [e3]
    exact sh_18 hh0 _ 0 _ 1 w4_z w5 (Nat.lt_succ_self _) (by omega) (by omega) hs hxs (fun k_z b_z k0_z k1_z => by omega)
  · refine ⟨oX_3 hd0 hdk 4 rfl, ?_⟩
    refine ⟨tX_17 g0.1 g0.2 (by omega) (by omega) rfl, ?_⟩
    refine ⟨oX_3 hd0 hdk 3 rfl, ?_⟩
    refine ⟨tX_11 (by rw [e3]; exact s0_z.1) (by rw [e3]; exact s0_z.2) h0 (by omega) rfl, ?_⟩
    exact ⟨rfl, _, _, rfl⟩
theorem srt_fillL : pm_srt o_J7_fill_d0a16 = true := by decide +kernel
def flL_post (A : pm_A) (r : Int) (q : pm_R) : Prop := q.1 = none ∧ gH wX q.2 ∧ (∀ k_z j_z : Int, ¬ k_z = r → q.2 k_z j_z = A k_z j_z) ∧ ∀ j_z : Int, 0 ≤ j_z → j_z < 6 → q.2 r j_z = 0
theorem fl_6 {A : pm_A} {r : Int} (hr0 : 0 ≤ r) (hrk : wX.2 r = 11) : ∀ (m_z : Nat) (i_z : Int) (B_z : pm_A), (6 - i_z).toNat < m_z → 0 ≤ i_z → i_z ≤ 6 → gH wX B_z → (∀ k_z j_z : Int, ¬ k_z = r → B_z k_z j_z = A k_z j_z) → (∀ j_z : Int, 0 ≤ j_z → j_z < i_z → B_z r j_z = 0) → Tm pmt (an_sh wX) o_J7_fill_d0a16 6 ([(2, r), (1, 0), (9, 0), (0, i_z), (0, 6)], [], B_z) (flL_post A r) := by
  intro m_z
  induction m_z with
  | zero => intro i_z B_z h_z; omega
  | succ m_z ih_z =>
    intro i_z B_z hm_z hi0_z hi1 hB_z hF hz
    refine wq_ok srt_fillL (fr := []) (cuts := [6]) (J := fun pc st_z => pc = 6 ∧ i_z < 6 ∧ st_z = ([(2, r), (1, 0), (9, 0), (0, i_z + 1), (0, 6)], [], pm_upd B_z r i_z 0)) ?_ 20 6 _ ?_
    · rintro pc st_z ⟨rfl, hi_z, rfl⟩
      refine ih_z (i_z + 1) _ (by omega) (by omega) (by omega) (uX_11 hB_z hrk (by omega) (by omega)) (fun k_z j_z hk => by rw [upd_ne hk]; exact hF k_z j_z hk) (fun j_z j0 j1 => ?_)
      by_cases e_z : j_z = i_z
      · rw [e_z, upd_at]
      · rw [upd_n2 e_z]; exact hz j_z j0 (by omega)
    · refine ⟨fun h_z => ⟨rfl, hB_z, hF, fun j_z j0 j1 => hz j_z j0 (by omega)⟩, fun h_z => ?_⟩
      refine ⟨tX_11 hr0 hrk hi0_z (by omega) rfl, ?_⟩
      refine ⟨⟨by omega, by omega⟩, ?_⟩
      exact ⟨rfl, h_z, rfl⟩
theorem fillL_ex {A : pm_A} {r : Int} (hA : gH wX A) (hr0 : 0 ≤ r) (hrk : wX.2 r = 11) : Cl pmt (an_sh wX) 2 [(2, r), (1, 0)] A (flL_post A r) := by
  refine Cl.of (Nat.le_of_ble_eq_true rfl) ?_
  have e_z := shX_11 hrk
  have st0 : pm_step (an_sh wX) (pm_call pmt (an_sh wX) 0) (4, 22, 1, 0, 0, 0, []) ([(2, r), (1, 0), (9, 0), (0, 0), (9, 0)], [(2, r)], A) = some (.inl (4, ([(2, r), (1, 0), (9, 0), (0, 0), (9, 0)], [(0, 6)], A))) := by
    simp only [pm_step, k_r]
    rw [k_if_t ⟨hr0, by rw [e_z], by rw [e_z], by rw [e_z]; simp only; omega⟩, e_z]
  refine wq_ok (full := o_J7_fill_d0a16) srt_fillL (fr := []) (cuts := [3]) (J := fun pc st_z => pc = 3 ∧ st_z = ([(2, r), (1, 0), (9, 0), (0, 0), (9, 0)], [(2, r)], A)) ?_ 10 0 _ ?_
  · rintro pc st_z ⟨rfl, rfl⟩
    refine Tm.step srt_fillL (q := (3, 4, 22, 1, 0, 0, 0, [])) rfl st0 ?_
    refine wq_ok srt_fillL (fr := []) (cuts := [6]) (J := fun pc st_z => pc = 6 ∧ st_z = ([(2, r), (1, 0), (9, 0), (0, 0), (0, 6)], [], A)) ?_ 10 4 _ ?_
    · rintro pc st_z ⟨rfl, rfl⟩
      exact fl_6 hr0 hrk _ 0 A (Nat.lt_succ_self _) (by omega) (by omega) hA (fun _ _ _ => rfl) (fun j_z j0 j1 => by omega)
    · exact ⟨rfl, rfl⟩
  · exact ⟨rfl, rfl⟩
def kzx (A B : pm_A) (d : Int) : Prop := (∀ i_z j_z : Int, 0 ≤ i_z → i_z < A d 0 → 0 ≤ j_z → j_z < A d 0 → ¬ B (A d 3) i_z = 0 → ¬ A (A d 2) (6 * i_z + j_z) = 0 → ¬ B (A d 3) j_z = 0 ∧ ∀ w_z, sy (A d 0) (A (A d 2)) w_z → ∃ c_z, w_z i_z = c_z * B (A d 3) i_z ∧ w_z j_z = c_z * B (A d 3) j_z) ∧ (∀ w_z, sy (A d 0) (A (A d 2)) w_z → ∀ i_z : Int, 0 ≤ i_z → i_z < A d 0 → ¬ B (A d 3) i_z = 0 → ∃ c_z, w_z i_z = c_z * B (A d 3) i_z) ∧ ∀ i_z : Int, 0 ≤ i_z → i_z < A d 0 → 0 ≤ B (A d 3) i_z ∧ B (A d 3) i_z ≤ 242595269910014999
theorem pq_mx {m : Int} (h1 : 1 ≤ m) (h2 : m ≤ 6) : pq m ≤ 242595269910014999 := by
  have : m = 1 ∨ m = 2 ∨ m = 3 ∨ m = 4 ∨ m = 5 ∨ m = 6 := by omega
  rcases this with rfl | rfl | rfl | rfl | rfl | rfl <;> decide
theorem kzx_grp {A B C : pm_A} {d fi m : Int} (hA : gH wX A) (hd0 : 0 ≤ d) (hdk : wX.2 d = 3) (hT : ∀ i_z j_z, 0 ≤ i_z → i_z < A d 0 → 0 ≤ j_z → j_z < A d 0 → ¬ A (A d 2) (i_z * 6 + j_z) = 0 → ¬ A (A d 2) (j_z * 6 + i_z) = 0) (e0 : B d 0 = A d 0) (e3 : B d 3 = A d 3) (e4 : B d 4 = A d 4) (et : ∀ k_z, 0 ≤ k_z → B (B d 2) k_z = A (A d 2) k_z) (h : kzx A B d) (g1 : sg B C d m) (g2 : sx B C d m fi) (g3 : cq B C d m) : kzx A C d ∧ (∀ b_z : Int, ¬ B (A d 3) b_z = 0 → ¬ C (A d 3) b_z = 0) ∧ ¬ C (A d 3) fi = 0 := by
  obtain ⟨b1, b2, b3, b4, b5⟩ := g1
  have fd_z : C d 3 = A d 3 ∧ C d 4 = A d 4 := by
    have hB_z := sg_ne (A := B) (d := d)
    have s0_z := fX_3_3 hA hd0 hdk
    have g0 := fX_3_4 hA hd0 hdk
    have n1_z : ¬ d = A d 3 := fun q_z => by rw [← q_z, hdk] at s0_z; exact absurd s0_z.2 (by decide)
    have n2_z : ¬ d = A d 4 := fun q_z => by rw [← q_z, hdk] at g0; exact absurd g0.2 (by decide)
    exact ⟨by rw [b2 d 3 (by rw [e3]; exact n1_z) (by rw [e4]; exact n2_z), e3], by rw [b2 d 4 (by rw [e3]; exact n1_z) (by rw [e4]; exact n2_z), e4]⟩
  unfold grp at b4
  unfold sx at g2
  unfold cq at g3
  rw [fd_z.1, fd_z.2] at b4
  rw [e3, e4, e0] at g2
  rw [e3, e4, e0] at g3
  rw [e4, e0] at b5
  obtain ⟨q1_z, q2_z, q3_z, q4_z⟩ := g2
  have syB : ∀ w_z, sy (A d 0) (A (A d 2)) w_z → sy (A d 0) (B (B d 2)) w_z := fun w_z hw => ⟨hw.1, fun i_z j_z i0_z i1_z j0 j1 => by rw [et _ (by omega), et _ (by omega)]; exact hw.2 i_z j_z i0_z i1_z j0 j1⟩
  have mem_z : ∀ k_z : Int, (∃ p_z, 0 ≤ p_z ∧ p_z < m ∧ C (A d 4) p_z = k_z ∧ B (A d 3) k_z = 0 ∧ 1 ≤ C (A d 3) k_z ∧ C (A d 3) k_z ≤ 242595269910014999) ∨ ((∀ p_z, 0 ≤ p_z → p_z < m → ¬ C (A d 4) p_z = k_z) ∧ C (A d 3) k_z = B (A d 3) k_z) := fun k_z => by
    by_cases hm_z : ∃ p_z, 0 ≤ p_z ∧ p_z < m ∧ C (A d 4) p_z = k_z
    · obtain ⟨p_z, p0_z, p1_z, hp⟩ := hm_z
      have a_z := b4.1 p_z p0_z p1_z
      have b_z := q2_z p_z p0_z p1_z
      have c_z := pq_mx b3.1 b3.2
      rw [hp] at a_z b_z
      exact Or.inl ⟨p_z, p0_z, p1_z, hp, b_z, a_z.1, by omega⟩
    · exact Or.inr ⟨fun p_z p0_z p1_z q_z => hm_z ⟨p_z, p0_z, p1_z, q_z⟩, q3_z k_z (fun p_z p0_z p1_z q_z => hm_z ⟨p_z, p0_z, p1_z, q_z⟩)⟩
  refine ⟨⟨fun i_z j_z i0_z i1_z j0 j1 h3 h7 => ?_, fun w_z sw i_z i0_z i1_z h3 => ?_, fun i_z i0_z i1_z => ?_⟩, fun b_z hb_z => ?_, ?_⟩
  · rcases mem_z i_z with ⟨p_z, p0_z, p1_z, hp, m1_z, m2_z, m3_z⟩ | ⟨m1_z, m2_z⟩
    · have w_z := g3 p_z j_z p0_z p1_z j0 j1 (by rw [hp, et _ (by omega)]; exact h7)
      rcases mem_z j_z with ⟨p', p0', p1', hp', n1_z, n2_z, n3_z⟩ | ⟨n1_z, n2_z⟩
      · refine ⟨w_z, fun y_z sw => ?_⟩
        obtain ⟨c_z, hc_z⟩ := q4_z y_z (syB y_z sw)
        have c1_z := hc_z p_z p0_z p1_z
        have c2_z := hc_z p' p0' p1'
        rw [hp] at c1_z
        rw [hp'] at c2_z
        exact ⟨c_z, c1_z, c2_z⟩
      · have hn : ¬ A (A d 2) (6 * j_z + i_z) = 0 := by
          have := hT i_z j_z i0_z i1_z j0 j1 (by rw [show i_z * 6 + j_z = 6 * i_z + j_z by omega]; exact h7)
          rw [show j_z * 6 + i_z = 6 * j_z + i_z by omega] at this
          exact this
        exact absurd m1_z (h.1 j_z i_z j0 j1 i0_z i1_z (by rw [← n2_z]; exact w_z) hn).1
    · have w_z := h.1 i_z j_z i0_z i1_z j0 j1 (by rw [← m2_z]; exact h3) h7
      rcases mem_z j_z with ⟨p', p0', p1', hp', n1_z, n2_z, n3_z⟩ | ⟨n1_z, n2_z⟩
      · exact absurd n1_z w_z.1
      · rw [n2_z, m2_z]; exact w_z
  · rcases mem_z i_z with ⟨p_z, p0_z, p1_z, hp, m1_z, m2_z, m3_z⟩ | ⟨m1_z, m2_z⟩
    · obtain ⟨c_z, hc_z⟩ := q4_z w_z (syB w_z sw)
      have c1_z := hc_z p_z p0_z p1_z
      rw [hp] at c1_z
      exact ⟨c_z, c1_z⟩
    · rw [m2_z]; exact h.2.1 w_z sw i_z i0_z i1_z (by rw [← m2_z]; exact h3)
  · rcases mem_z i_z with ⟨p_z, p0_z, p1_z, hp, m1_z, m2_z, m3_z⟩ | ⟨m1_z, m2_z⟩
    · exact ⟨by omega, m3_z⟩
    · rw [m2_z]; exact h.2.2 i_z i0_z i1_z
  · rcases mem_z b_z with ⟨p_z, p0_z, p1_z, hp, m1_z, m2_z, m3_z⟩ | ⟨m1_z, m2_z⟩
    · omega
    · rw [m2_z]; exact hb_z
  · rcases mem_z fi with ⟨p_z, p0_z, p1_z, hp, m1_z, m2_z, m3_z⟩ | ⟨m1_z, m2_z⟩
    · omega
    · exact absurd q1_z (m1_z 0 (by omega) (by omega))
def fsq_post (A : pm_A) (d : Int) (r : pm_R) : Prop := (gH wX r.2 ∧ gFr wX [10011, 10017] A r.2) ∧ ∃ x_z, r.1 = some (0, x_z) ∧ ((x_z = 0 ∧ ∀ w_z, ¬ sy (A d 0) (A (A d 2)) w_z) ∨ (x_z = 1 ∧ sy (A d 0) (A (A d 2)) (r.2 (A d 3)) ∧ ∀ w_z, sy (A d 0) (A (A d 2)) w_z → ∀ i_z : Int, 0 ≤ i_z → i_z < A d 0 → ∃ c_z, w_z i_z = c_z * r.2 (A d 3) i_z))
def b9t (A : pm_A) (d : Int) : Prop := ∀ j_z : Int, 0 ≤ j_z → j_z < 72 → -9 ≤ A (A d 2) j_z ∧ A (A d 2) j_z ≤ 9
theorem mulb3 {x t : Int} (h1 : 0 ≤ x) (h2 : x ≤ 242595269910014999) (h3 : -9 ≤ t) (h4 : t ≤ 9) : -2183357429190134991 ≤ x * t ∧ x * t ≤ 2183357429190134991 := by
  have a_z : (x * t).natAbs ≤ 242595269910014999 * 9 := by
    rw [Int.natAbs_mul]
    exact Nat.mul_le_mul (by omega) (by omega)
  omega
theorem ft_52 {A B : pm_A} {d i : Int} (hB : gH wX B) (hF : gFr wX [10011, 10017] A B) (hd0 : 0 ≤ d) (hdk : wX.2 d = 3) (hi0 : 0 ≤ i) (hi1 : i < A d 0) (p6 : A d 0 ≤ 6) (e0 : B d 0 = A d 0) (e3 : B d 3 = A d 3) (et : ∀ k_z, 0 ≤ k_z → B (B d 2) k_z = A (A d 2) k_z) (hT9 : b9t A d) (hz : ∀ k_z : Int, 0 ≤ k_z → k_z < A d 0 → ¬ B (A d 3) k_z = 0) (hK : kzx A B d) (hs0 : ∀ i j_z, 0 ≤ i → i < A d 0 → 0 ≤ j_z → j_z < A d 0 → A (A d 2) (6 * i + j_z) = 0 → A (A d 2) (6 * j_z + i) = 0) (H : (∀ j_z : Int, 0 ≤ j_z → j_z < i → B (A d 3) i * A (A d 2) (6 * i + j_z) = -(B (A d 3) j_z * A (A d 2) (6 * j_z + i))) → ∀ j_z v3 v4_z v5 v6, Tm pmt (an_sh wX) o_X2_findSizes 114 ([(2, d), (0, i), (0, j_z), v3, v4_z, v5, v6], [], B) (fsq_post A d)) : ∀ (n_z : Nat) (j_z : Int) (v3 v4_z v5 v6 : pm_V), (i - j_z).toNat < n_z → 0 ≤ j_z → j_z ≤ i → (∀ k_z : Int, 0 ≤ k_z → k_z < j_z → B (A d 3) i * A (A d 2) (6 * i + k_z) = -(B (A d 3) k_z * A (A d 2) (6 * k_z + i))) → Tm pmt (an_sh wX) o_X2_findSizes 52 ([(2, d), (0, i), (0, j_z), v3, v4_z, v5, v6], [], B) (fsq_post A d) := by
  have s0_z := fX_3_3 hB hd0 hdk
  have t0_z := fX_3_2 hB hd0 hdk
  intro n_z
  induction n_z with
  | zero => intro j_z v3 v4_z v5 v6 h_z; omega
  | succ n_z ih_z =>
    intro j_z v3 v4_z v5 v6 hn hj0 hj1 hjs
    have tq1 : B (B d 2) (i * 6 + j_z) = A (A d 2) (6 * i + j_z) := by rw [et _ (by omega), show i * 6 + j_z = 6 * i + j_z by omega]
    have tq2 : B (B d 2) (j_z * 6 + i) = A (A d 2) (6 * j_z + i) := by rw [et _ (by omega), show j_z * 6 + i = 6 * j_z + i by omega]
    have m1_z : j_z < i → -2183357429190134991 ≤ B (B d 3) i * B (B d 2) (i * 6 + j_z) ∧ B (B d 3) i * B (B d 2) (i * 6 + j_z) ≤ 2183357429190134991 := fun h_z => by
      have a_z := hK.2.2 i hi0 hi1
      have b_z := hT9 (6 * i + j_z) (by omega) (by omega)
      rw [e3, tq1]; exact mulb3 a_z.1 a_z.2 b_z.1 b_z.2
    have m2_z : j_z < i → -2183357429190134991 ≤ B (B d 3) j_z * B (B d 2) (j_z * 6 + i) ∧ B (B d 3) j_z * B (B d 2) (j_z * 6 + i) ≤ 2183357429190134991 := fun h_z => by
      have a_z := hK.2.2 j_z hj0 (by omega)
      have b_z := hT9 (6 * j_z + i) (by omega) (by omega)
      rw [e3, tq2]; exact mulb3 a_z.1 a_z.2 b_z.1 b_z.2
    have hkey : j_z < i → ∀ w_z, sy (A d 0) (A (A d 2)) w_z → B (B d 3) i * B (B d 2) (i * 6 + j_z) = -(B (B d 3) j_z * B (B d 2) (j_z * 6 + i)) := fun h_z w_z sw => by
      rw [e3, tq1, tq2]
      by_cases e_z : A (A d 2) (6 * i + j_z) = 0
      · rw [e_z, hs0 i j_z hi0 hi1 hj0 (by omega) e_z, Int.mul_zero, Int.mul_zero]; rfl
      · obtain ⟨c_z, h1, h2⟩ := (hK.1 i j_z hi0 hi1 hj0 (by omega) (hz i hi0 hi1) e_z).2 w_z sw
        rw [← Int.neg_mul]
        exact sy_key (s := B (A d 3)) sw hi0 hi1 hj0 (by omega) h1 h2
    refine wq_ok srt_findSizes (fr := []) (cuts := [52, 114]) (J := fun pc st_z => (pc = 52 ∧ j_z < i ∧ B (B d 3) i * B (B d 2) (i * 6 + j_z) = -(B (B d 3) j_z * B (B d 2) (j_z * 6 + i)) ∧ ∃ v3 v4_z v5 v6, st_z = ([(2, d), (0, i), (0, j_z + 1), v3, v4_z, v5, v6], [], B)) ∨ (pc = 114 ∧ i ≤ j_z ∧ st_z = ([(2, d), (0, i), (0, j_z), v3, v4_z, v5, v6], [], B))) ?_ 60 52 _ ?_
    · rintro pc st_z (⟨rfl, hj, heq, w3_z, w4_z, w5, w6_z, rfl⟩ | ⟨rfl, hj, rfl⟩)
      · refine ih_z (j_z + 1) w3_z w4_z w5 w6_z (by omega) (by omega) (by omega) (fun k_z k0_z k1_z => ?_)
        by_cases e_z : k_z = j_z
        · rw [e_z]; rw [e3, tq1, tq2] at heq; exact heq
        · exact hjs k_z k0_z (by omega)
      · exact H (fun k_z k0_z k1_z => hjs k_z k0_z (by omega)) j_z v3 v4_z v5 v6
    · refine ⟨fun h_z => Or.inr ⟨rfl, h_z, rfl⟩, fun h_z => ?_⟩
      have w1_z := m1_z h_z
      have w2_z := m2_z h_z
      refine ⟨oX_3 hd0 hdk 3 rfl, ?_⟩
      refine ⟨aX_11 s0_z.1 s0_z.2 (by omega) (by omega), ?_⟩
      refine ⟨oX_3 hd0 hdk 2 rfl, ?_⟩
      refine ⟨⟨by omega, by omega⟩, ?_⟩
      refine ⟨⟨by omega, by omega⟩, ?_⟩
      refine ⟨aX_16 t0_z.1 t0_z.2 (by omega) (by omega), ?_⟩
      refine ⟨⟨by omega, by omega⟩, ?_⟩
      refine ⟨oX_3 hd0 hdk 3 rfl, ?_⟩
      refine ⟨aX_11 s0_z.1 s0_z.2 (by omega) (by omega), ?_⟩
      refine ⟨oX_3 hd0 hdk 2 rfl, ?_⟩
      refine ⟨⟨by omega, by omega⟩, ?_⟩
      refine ⟨⟨by omega, by omega⟩, ?_⟩
      refine ⟨aX_16 t0_z.1 t0_z.2 (by omega) (by omega), ?_⟩
      refine ⟨⟨by omega, by omega⟩, ?_⟩
      refine ⟨⟨by omega, by omega⟩, ?_⟩
      refine ⟨fun hc_z => ?_, fun hc_z => ?_, fun hc_z => ?_⟩
      · refine ⟨fun q_z => absurd q_z (by decide), fun _ => ?_⟩
        exact ⟨rfl, ⟨hB, hF⟩, 0, rfl, Or.inl ⟨rfl, fun w_z sw => absurd (hkey h_z w_z sw) (by omega)⟩⟩
      · refine ⟨fun _ => ?_, fun q_z => absurd rfl q_z⟩
        refine ⟨⟨by omega, by omega⟩, ?_⟩
        exact Or.inl ⟨rfl, h_z, hc_z, _, _, _, _, rfl⟩
      · refine ⟨fun q_z => absurd q_z (by decide), fun _ => ?_⟩
        exact ⟨rfl, ⟨hB, hF⟩, 0, rfl, Or.inl ⟨rfl, fun w_z sw => absurd (hkey h_z w_z sw) (by omega)⟩⟩
theorem ft_42 {A B : pm_A} {d : Int} (hB : gH wX B) (hF : gFr wX [10011, 10017] A B) (hd0 : 0 ≤ d) (hdk : wX.2 d = 3) (e0 : B d 0 = A d 0) (e3 : B d 3 = A d 3) (et : ∀ k_z, 0 ≤ k_z → B (B d 2) k_z = A (A d 2) k_z) (hT9 : b9t A d) (hz : ∀ k_z : Int, 0 ≤ k_z → k_z < A d 0 → ¬ B (A d 3) k_z = 0) (hK : kzx A B d) (hs0 : ∀ i_z j_z, 0 ≤ i_z → i_z < A d 0 → 0 ≤ j_z → j_z < A d 0 → A (A d 2) (6 * i_z + j_z) = 0 → A (A d 2) (6 * j_z + i_z) = 0) (hdg : ∀ i_z, 0 ≤ i_z → i_z < A d 0 → A (A d 2) (6 * i_z + i_z) = 0) : ∀ (n_z : Nat) (i_z : Int) (v2 v3 v4_z v5 v6 : pm_V), (B d 0 - i_z).toNat < n_z → 0 ≤ i_z → i_z ≤ B d 0 → (∀ a_z b_z : Int, 0 ≤ a_z → a_z < i_z → 0 ≤ b_z → b_z < a_z → B (A d 3) a_z * A (A d 2) (6 * a_z + b_z) = -(B (A d 3) b_z * A (A d 2) (6 * b_z + a_z))) → Tm pmt (an_sh wX) o_X2_findSizes 42 ([(2, d), (0, i_z), v2, v3, v4_z, v5, v6], [], B) (fsq_post A d) := by
  have p6_z := fX_3_0 hB hd0 hdk
  intro n_z
  induction n_z with
  | zero => intro i_z v2 v3 v4_z v5 v6 h_z; omega
  | succ n_z ih_z =>
    intro i_z v2 v3 v4_z v5 v6 hn hi0_z hi1 his_z
    refine wq_ok srt_findSizes (fr := []) (cuts := [52]) (J := fun pc st_z => pc = 52 ∧ i_z < B d 0 ∧ st_z = ([(2, d), (0, i_z), (0, 0), v3, v4_z, v5, v6], [], B)) ?_ 60 42 _ ?_
    · rintro pc st_z ⟨rfl, hi_z, rfl⟩
      refine ft_52 hB hF hd0 hdk hi0_z (by omega) (by omega) e0 e3 et hT9 hz hK hs0 (fun hjs j_z w3_z w4_z w5 w6_z => ?_) _ 0 v3 v4_z v5 v6 (Nat.lt_succ_self _) (by omega) hi0_z (fun k_z k0_z k1_z => by omega)
      refine wq_ok srt_findSizes (fr := []) (cuts := [42]) (J := fun pc st_z => pc = 42 ∧ st_z = ([(2, d), (0, i_z + 1), (0, j_z), w3_z, w4_z, w5, w6_z], [], B)) ?_ 60 114 _ ?_
      · rintro pc st_z ⟨rfl, rfl⟩
        refine ih_z (i_z + 1) _ w3_z w4_z w5 w6_z (by omega) (by omega) (by omega) (fun a_z b_z a0_z a1_z c0_z c1_z => ?_)
        by_cases e_z : a_z = i_z
        · rw [e_z] at c1_z ⊢; exact hjs b_z c0_z c1_z
        · exact his_z a_z b_z a0_z (by omega) c0_z c1_z
      · refine ⟨⟨by omega, by omega⟩, ?_⟩
        exact ⟨rfl, rfl⟩
    · refine ⟨oX_3 hd0 hdk 0 rfl, ?_⟩
      refine ⟨fun h_z => ?_, fun h_z => ?_⟩
      · refine ⟨rfl, ⟨hB, hF⟩, 1, rfl, Or.inr ⟨rfl, ⟨fun k_z k0_z k1_z => ?_, fun a_z b_z a0_z a1_z c0_z c1_z => ?_⟩, fun w_z sw k_z k0_z k1_z => hK.2.1 w_z sw k_z k0_z k1_z (hz k_z k0_z k1_z)⟩⟩
        · have x1_z := hz k_z k0_z k1_z
          have x2_z := hK.2.2 k_z k0_z k1_z
          show 0 < B (A d 3) k_z
          omega
        · show B (A d 3) a_z * A (A d 2) (6 * a_z + b_z) = -(B (A d 3) b_z * A (A d 2) (6 * b_z + a_z))
          rcases Int.lt_trichotomy a_z b_z with c_z | c_z | c_z
          · have := his_z b_z a_z c0_z (by omega) a0_z c_z
            omega
          · rw [c_z, hdg b_z c0_z c1_z, Int.mul_zero]; rfl
          · exact his_z a_z b_z a0_z (by omega) c0_z c_z
      · exact ⟨rfl, h_z, rfl⟩
theorem ft_10 {A : pm_A} {d : Int} (hh : sg_H A d) (hT9 : b9t A d) (hdg : ∀ i_z, 0 ≤ i_z → i_z < A d 0 → A (A d 2) (6 * i_z + i_z) = 0) : ∀ (n_z : Nat) (i_z : Int) (B_z : pm_A) (v2 v3 v4_z v5 v6 : pm_V), (A d 0 - i_z).toNat < n_z → 0 ≤ i_z → i_z ≤ A d 0 → gH wX B_z → gFr wX [10011, 10017] A B_z → kzx A B_z d → (∀ k_z : Int, 0 ≤ k_z → k_z < i_z → ¬ B_z (A d 3) k_z = 0) → Tm pmt (an_sh wX) o_X2_findSizes 10 ([(2, d), (0, i_z), v2, v3, v4_z, v5, v6], [], B_z) (fsq_post A d) := by
  intro n_z
  induction n_z with
  | zero => intro i_z B_z v2 v3 v4_z v5 v6 h_z; omega
  | succ n_z ih_z =>
    intro i_z B_z v2 v3 v4_z v5 v6 hn hi0_z hi1 hB_z hF hK_z hz
    have hh0 := hh
    obtain ⟨hA, ⟨hd0, hdk⟩, hsy⟩ := hh
    have hHB := fs_H hh0 hB_z hF
    obtain ⟨e0_z, e2, e3, e4_z, et⟩ := fs_same hA hd0 hdk hF
    have p6_z := fX_3_0 hA hd0 hdk
    have s0_z := fX_3_3 hB_z hd0 hdk
    refine wq_ok srt_findSizes (fr := []) (cuts := [10, 42]) (J := fun pc st_z => (pc = 10 ∧ i_z < A d 0 ∧ ∃ C_z, gH wX C_z ∧ gFr wX [10011, 10017] A C_z ∧ kzx A C_z d ∧ (∀ k_z : Int, 0 ≤ k_z → k_z < i_z + 1 → ¬ C_z (A d 3) k_z = 0) ∧ st_z = ([(2, d), (0, i_z + 1), v2, v3, v4_z, v5, v6], [], C_z)) ∨ (pc = 42 ∧ A d 0 ≤ i_z ∧ st_z = ([(2, d), (0, 0), v2, v3, v4_z, v5, v6], [], B_z))) ?_ 60 10 _ ?_
    · rintro pc st_z (⟨rfl, hi_z, C_z, hC, hC2, hC3, hC4, rfl⟩ | ⟨rfl, hi_z, rfl⟩)
      · exact ih_z (i_z + 1) C_z v2 v3 v4_z v5 v6 (by omega) (by omega) (by omega) hC hC2 hC3 hC4
      · exact ft_42 hB_z hF hd0 hdk e0_z e3 (fun k_z k0_z => by rw [e2]; exact et k_z k0_z) hT9 (fun k_z k0_z k1_z => hz k_z k0_z (by omega)) hK_z (fun a_z b_z a0_z a1_z c0_z c1_z e_z => by
          by_cases q_z : A (A d 2) (6 * b_z + a_z) = 0
          · exact q_z
          · have := hsy b_z a_z c0_z c1_z a0_z a1_z (by rw [show b_z * 6 + a_z = 6 * b_z + a_z by omega]; exact q_z)
            rw [show a_z * 6 + b_z = 6 * a_z + b_z by omega] at this
            exact absurd e_z this) hdg _ 0 v2 v3 v4_z v5 v6 (Nat.lt_succ_self _) (by omega) (by rw [e0_z]; omega) (fun a_z b_z a0_z a1_z => by omega)
    · refine ⟨oX_3 hd0 hdk 0 rfl, ?_⟩
      refine ⟨fun h_z => Or.inr ⟨rfl, by rw [← e0_z]; exact h_z, rfl⟩, fun h_z => ?_⟩
      have hi_z : i_z < A d 0 := by rw [← e0_z]; exact h_z
      refine ⟨oX_3 hd0 hdk 3 rfl, ?_⟩
      refine ⟨aX_11 s0_z.1 s0_z.2 (by omega) (by omega), ?_⟩
      refine ⟨fun hv => ?_, fun hv => ?_, fun hv => ?_⟩
      · refine ⟨fun _ => ?_, fun q_z => absurd q_z (by decide)⟩
        refine ⟨⟨by omega, by omega⟩, ?_⟩
        refine Or.inl ⟨rfl, hi_z, B_z, hB_z, hF, hK_z, fun k_z k0_z k1_z => ?_, rfl⟩
        by_cases e_z : k_z = i_z
        · rw [e_z]; rw [e3] at hv; omega
        · exact hz k_z k0_z (by omega)
      · refine ⟨fun q_z => absurd rfl q_z, fun _ => ?_⟩
        refine ⟨rX_3 hd0 hdk, ?_⟩
        rw [e3] at hv
        refine (xgroup_ex hHB hi0_z h_z (by rw [e3]; exact hv)).imp ?_
        rintro ⟨r1_z, C_z⟩ ⟨⟨q1_z, q2_z, q3_z⟩, m_z, q4_z, q5_z, q6_z⟩
        simp only at q1_z q2_z q3_z q4_z q5_z q6_z
        subst q1_z
        refine ⟨⟨by omega, by omega⟩, ?_⟩
        have kg := kzx_grp hA hd0 hdk hsy e0_z e3 e4_z (fun k_z k0_z => by rw [e2]; exact et k_z k0_z) hK_z q4_z q5_z q6_z
        refine Or.inl ⟨rfl, hi_z, C_z, q2_z, gFr_tr hF (fs_fr hB_z hd0 hdk q3_z) (fun _ hx => hx), kg.1, fun k_z k0_z k1_z => ?_, rfl⟩
        by_cases e_z : k_z = i_z
        · rw [e_z]; exact kg.2.2
        · exact kg.2.1 k_z (hz k_z k0_z (by omega))
      · refine ⟨fun _ => ?_, fun q_z => absurd q_z (by decide)⟩
        refine ⟨⟨by omega, by omega⟩, ?_⟩
        refine Or.inl ⟨rfl, hi_z, B_z, hB_z, hF, hK_z, fun k_z k0_z k1_z => ?_, rfl⟩
        by_cases e_z : k_z = i_z
        · rw [e_z]; rw [e3] at hv; omega
        · exact hz k_z k0_z (by omega)
theorem findSizes_exx {A : pm_A} {d : Int} (hh : sg_H A d) (hT9 : b9t A d) (hdg : ∀ i_z, 0 ≤ i_z → i_z < A d 0 → A (A d 2) (6 * i_z + i_z) = 0) : Cl pmt (an_sh wX) 22 [(2, d)] A (fsq_post A d) := by
  have hh0 := hh
  obtain ⟨hA, ⟨hd0, hdk⟩, hsy⟩ := hh
  have p6_z := fX_3_0 hA hd0 hdk
  have s0_z := fX_3_3 hA hd0 hdk
  refine Cl.of (Nat.le_of_ble_eq_true rfl) ?_
  show Tm pmt (an_sh wX) o_X2_findSizes 0 ([(2, d), (9, 0), (9, 0), (9, 0), (9, 0), (9, 0), (9, 0)], [], A) _
  refine wq_ok (full := o_X2_findSizes) srt_findSizes (fr := []) (cuts := [10]) (J := fun pc st_z => pc = 10 ∧ ∃ B_z v2 v3 v4_z v5 v6, gH wX B_z ∧ gFr wX [10011, 10017] A B_z ∧ (∀ j_z : Int, 0 ≤ j_z → j_z < 6 → B_z (A d 3) j_z = 0) ∧ st_z = ([(2, d), (0, 0), v2, v3, v4_z, v5, v6], [], B_z)) ?_ 30 0 _ ?_
  · rintro pc st_z ⟨rfl, B_z, v2, v3, v4_z, v5, v6, hB_z, hF, hZ, rfl⟩
    exact ft_10 hh0 hT9 hdg _ 0 B_z v2 v3 v4_z v5 v6 (Nat.lt_succ_self _) (by omega) p6_z.1 hB_z hF ⟨fun a_z b_z a0_z a1_z c0_z c1_z h_z => absurd (hZ a_z a0_z (by omega)) h_z, fun w_z sw a_z a0_z a1_z h_z => absurd (hZ a_z a0_z (by omega)) h_z, fun a_z a0_z a1_z => by rw [hZ a_z a0_z (by omega)]; omega⟩ (fun k_z k0_z k1_z => by omega)
  · refine ⟨oX_3 hd0 hdk 3 rfl, ?_⟩
    refine ⟨rfl, ?_⟩
    refine (fillL_ex hA s0_z.1 s0_z.2).imp ?_
    rintro ⟨r1_z, C_z⟩ ⟨g1, g2, g3_z, g4⟩
    simp only at g1 g2 g3_z g4
    subst g1
    exact ⟨rfl, C_z, _, _, _, _, _, g2, fun k_z j_z k0_z j0 hm_z => g3_z k_z j_z (fun q_z => hm_z (by rw [q_z]; exact mX_11 s0_z.2 rfl)), g4, rfl⟩
def faA (p : Int) (T : Int → Int) (x : Int) : Prop := (x = 1 ∧ ¬ dgz p T) ∨ (x = 2 ∧ dgz p T ∧ ¬ skz p T) ∨ (x = 3 ∧ dgz p T ∧ skz p T ∧ ∀ d_z, ¬ sy p T d_z) ∨ (x = 0 ∧ dgz p T ∧ skz p T ∧ ∃ d_z, sy p T d_z)
def faq_post (A : pm_A) (d : Int) (r : pm_R) : Prop := (gH wX r.2 ∧ gFr wX [10011, 10017] A r.2) ∧ ∃ x_z, r.1 = some (0, x_z) ∧ faA (A d 0) (A (A d 2)) x_z ∧ (x_z = 0 → sy (A d 0) (A (A d 2)) (r.2 (A d 3)) ∧ ∀ w_z, sy (A d 0) (A (A d 2)) w_z → ∀ i_z : Int, 0 ≤ i_z → i_z < A d 0 → ∃ c_z, w_z i_z = c_z * r.2 (A d 3) i_z)
def zq (A : pm_A) (d i j : Int) : Prop := gdz (A (A d 2) (6 * i + j)) (A (A d 2) (6 * j + i))
theorem zq_of {x y : Int} : Int.sign x = -Int.sign y ↔ gdz x y := by
  unfold gdz
  rcases Int.lt_trichotomy x 0 with q_z | q_z | q_z <;> rcases Int.lt_trichotomy y 0 with p_z | p_z | p_z
  · rw [Int.sign_eq_neg_one_of_neg q_z, Int.sign_eq_neg_one_of_neg p_z]; omega
  · rw [Int.sign_eq_neg_one_of_neg q_z, p_z, show Int.sign 0 = 0 from rfl]; omega
  · rw [Int.sign_eq_neg_one_of_neg q_z, Int.sign_eq_one_of_pos p_z]; omega
  · rw [q_z, show Int.sign 0 = 0 from rfl, Int.sign_eq_neg_one_of_neg p_z]; omega
  · rw [q_z, p_z, show Int.sign 0 = 0 from rfl]; omega
  · rw [q_z, show Int.sign 0 = 0 from rfl, Int.sign_eq_one_of_pos p_z]; omega
  · rw [Int.sign_eq_one_of_pos q_z, Int.sign_eq_neg_one_of_neg p_z]; omega
  · rw [Int.sign_eq_one_of_pos q_z, p_z, show Int.sign 0 = 0 from rfl]; omega
  · rw [Int.sign_eq_one_of_pos q_z, Int.sign_eq_one_of_pos p_z]; omega
theorem gdz_sym {x y : Int} (h : gdz x y) : gdz y x := by unfold gdz at *; omega
theorem fb_44 {A : pm_A} {d i : Int} (hA : gH wX A) (hd0 : 0 ≤ d) (hdk : wX.2 d = 3) (hi0 : 0 ≤ i) (hi1 : i < A d 0) (p6 : A d 0 ≤ 6) (hdg : dgz (A d 0) (A (A d 2))) (H : (∀ j_z, 0 ≤ j_z → j_z < i → zq A d i j_z) → ∀ j_z v3 v4_z, Tm pmt (an_sh wX) o_X2_fault 95 ([(2, d), (0, i), (0, j_z), v3, v4_z], [], A) (faq_post A d)) : ∀ (n_z : Nat) (j_z : Int) (v3 v4_z : pm_V), (i - j_z).toNat < n_z → 0 ≤ j_z → j_z ≤ i → (∀ k_z, 0 ≤ k_z → k_z < j_z → zq A d i k_z) → Tm pmt (an_sh wX) o_X2_fault 44 ([(2, d), (0, i), (0, j_z), v3, v4_z], [], A) (faq_post A d) := by
  have t0_z := fX_3_2 hA hd0 hdk
  intro n_z
  induction n_z with
  | zero => intro j_z v3 v4_z h_z; omega
  | succ n_z ih_z =>
    intro j_z v3 v4_z hn hj0 hj1 hz
    have b1 : j_z < i → _ := fun h_z => eX_16 hA t0_z.1 t0_z.2 (j := i * 6 + j_z) (by omega) (by omega)
    have b2 : j_z < i → _ := fun h_z => eX_16 hA t0_z.1 t0_z.2 (j := j_z * 6 + i) (by omega) (by omega)
    refine wq_ok srt_fault (fr := []) (cuts := [44, 95]) (J := fun pc st_z => (pc = 44 ∧ j_z < i ∧ zq A d i j_z ∧ ∃ v3 v4_z, st_z = ([(2, d), (0, i), (0, j_z + 1), v3, v4_z], [], A)) ∨ (pc = 95 ∧ i ≤ j_z ∧ st_z = ([(2, d), (0, i), (0, j_z), v3, v4_z], [], A))) ?_ 60 44 _ ?_
    · rintro pc st_z (⟨rfl, hj, hq, w3_z, w4_z, rfl⟩ | ⟨rfl, hj, rfl⟩)
      · refine ih_z (j_z + 1) w3_z w4_z (by omega) (by omega) (by omega) (fun k_z k0_z k1_z => ?_)
        by_cases e_z : k_z = j_z
        · rw [e_z]; exact hq
        · exact hz k_z k0_z (by omega)
      · exact H (fun k_z k0_z k1_z => hz k_z k0_z (by omega)) j_z v3 v4_z
    · refine ⟨fun h_z => Or.inr ⟨rfl, h_z, rfl⟩, fun h_z => ?_⟩
      have c1_z := b1 h_z
      have c2_z := b2 h_z
      refine ⟨oX_3 hd0 hdk 2 rfl, ?_⟩
      refine ⟨⟨by omega, by omega⟩, ?_⟩
      refine ⟨⟨by omega, by omega⟩, ?_⟩
      refine ⟨aX_16 t0_z.1 t0_z.2 (by omega) (by omega), ?_⟩
      refine ⟨oX_3 hd0 hdk 2 rfl, ?_⟩
      refine ⟨⟨by omega, by omega⟩, ?_⟩
      refine ⟨⟨by omega, by omega⟩, ?_⟩
      refine ⟨aX_16 t0_z.1 t0_z.2 (by omega) (by omega), ?_⟩
      refine ⟨rfl, ?_⟩
      refine (signum_ct (an_sh wX) c1_z.1 c1_z.2).imp ?_
      rintro r_z rfl
      refine ⟨rfl, ?_⟩
      refine (signum_ct (an_sh wX) c2_z.1 c2_z.2).imp ?_
      rintro r_z rfl
      have s2_z : -1 ≤ Int.sign (A (A d 2) (j_z * 6 + i)) ∧ Int.sign (A (A d 2) (j_z * 6 + i)) ≤ 1 := by
        rcases Int.lt_trichotomy (A (A d 2) (j_z * 6 + i)) 0 with q_z | q_z | q_z
        · rw [Int.sign_eq_neg_one_of_neg q_z]; decide
        · rw [q_z]; decide
        · rw [Int.sign_eq_one_of_pos q_z]; decide
      refine ⟨⟨by omega, by omega⟩, ?_⟩
      refine ⟨fun q_z => ?_, fun q_z => ?_⟩
      · refine ⟨⟨by omega, by omega⟩, ?_⟩
        refine Or.inl ⟨rfl, h_z, ?_, _, _, rfl⟩
        have q2_z : Int.sign (A (A d 2) (i * 6 + j_z)) = - Int.sign (A (A d 2) (j_z * 6 + i)) := q_z
        have q3_z := zq_of.mp q2_z
        rw [show i * 6 + j_z = 6 * i + j_z by omega, show j_z * 6 + i = 6 * j_z + i by omega] at q3_z
        exact q3_z
      · refine ⟨rfl, ⟨hA, fun _ _ _ _ _ => rfl⟩, 2, rfl, Or.inr (Or.inl ⟨rfl, hdg, fun hs => q_z ?_⟩), fun e_z => absurd e_z (by omega)⟩
        have q3_z := hs i j_z hi0 hi1 hj0 (by omega)
        rw [show 6 * i + j_z = i * 6 + j_z by omega, show 6 * j_z + i = j_z * 6 + i by omega] at q3_z
        exact zq_of.mpr q3_z
theorem fb_34 {A : pm_A} {d : Int} (hA : gH wX A) (hd0 : 0 ≤ d) (hdk : wX.2 d = 3) (hT9 : b9t A d) (hdg : dgz (A d 0) (A (A d 2))) : ∀ (n_z : Nat) (i_z : Int) (v2 v3 v4_z : pm_V), (A d 0 - i_z).toNat < n_z → 0 ≤ i_z → i_z ≤ A d 0 → (∀ k_z j_z, k_z < i_z → 0 ≤ j_z → j_z < k_z → zq A d k_z j_z) → Tm pmt (an_sh wX) o_X2_fault 34 ([(2, d), (0, i_z), v2, v3, v4_z], [], A) (faq_post A d) := by
  have p6_z := fX_3_0 hA hd0 hdk
  intro n_z
  induction n_z with
  | zero => intro i_z v2 v3 v4_z h_z; omega
  | succ n_z ih_z =>
    intro i_z v2 v3 v4_z hn hi0_z hi1 hz
    refine wq_ok srt_fault (fr := []) (cuts := [44, 102]) (J := fun pc st_z => (pc = 44 ∧ i_z < A d 0 ∧ st_z = ([(2, d), (0, i_z), (0, 0), v3, v4_z], [], A)) ∨ (pc = 102 ∧ A d 0 ≤ i_z ∧ st_z = ([(2, d), (0, i_z), v2, v3, v4_z], [(2, d)], A))) ?_ 60 34 _ ?_
    · rintro pc st_z (⟨rfl, hi_z, rfl⟩ | ⟨rfl, hi_z, rfl⟩)
      · refine fb_44 hA hd0 hdk hi0_z (by omega) p6_z.2 hdg (fun hr j_z w3_z w4_z => ?_) _ 0 v3 v4_z (Nat.lt_succ_self _) (by omega) hi0_z (fun k_z k0_z k1_z => by omega)
        refine wq_ok srt_fault (fr := []) (cuts := [34]) (J := fun pc st_z => pc = 34 ∧ st_z = ([(2, d), (0, i_z + 1), (0, j_z), w3_z, w4_z], [], A)) ?_ 60 95 _ ?_
        · rintro pc st_z ⟨rfl, rfl⟩
          refine ih_z (i_z + 1) _ w3_z w4_z (by omega) (by omega) (by omega) (fun k_z j_z k1_z j0 j1 => ?_)
          by_cases e_z : k_z = i_z
          · rw [e_z]; exact hr j_z j0 (by omega)
          · exact hz k_z j_z (by omega) j0 j1
        · refine ⟨⟨by omega, by omega⟩, ?_⟩
          exact ⟨rfl, rfl⟩
      · have hsk : skz (A d 0) (A (A d 2)) := fun a_z b_z a0_z a1_z c0_z c1_z => by
          rcases Int.lt_trichotomy a_z b_z with c_z | c_z | c_z
          · exact gdz_sym (hz b_z a_z (by omega) a0_z c_z)
          · have := hdg b_z c0_z c1_z
            rw [c_z]
            unfold gdz
            rw [show 6 * b_z + b_z = 7 * b_z by omega]
            omega
          · exact hz a_z b_z (by omega) c0_z c_z
        have hh : sg_H A d := ⟨hA, ⟨hd0, hdk⟩, fun a_z b_z a0_z a1_z c0_z c1_z q_z => by
          have := hsk a_z b_z a0_z a1_z c0_z c1_z
          rw [show 6 * a_z + b_z = a_z * 6 + b_z by omega, show 6 * b_z + a_z = b_z * 6 + a_z by omega] at this
          unfold gdz at this
          omega⟩
        refine wq_ok srt_fault (fr := []) (cuts := []) (J := fun pc st_z => False) (fun _ _ h_z => h_z.elim) 60 102 _ ?_
        refine ⟨rX_3 hd0 hdk, ?_⟩
        refine (findSizes_exx hh hT9 (fun a_z a0_z a1_z => by rw [show 6 * a_z + a_z = 7 * a_z by omega]; exact hdg a_z a0_z a1_z)).imp ?_
        rintro ⟨r1_z, C_z⟩ ⟨g1, x_z, e_z, g2⟩
        simp only at e_z g1 g2
        subst e_z
        refine ⟨fun q_z => ?_, fun q_z => ?_⟩
        · rcases g2 with g2 | g2
          · exact ⟨rfl, g1, 3, rfl, Or.inr (Or.inr (Or.inl ⟨rfl, hdg, hsk, g2.2⟩)), fun e_z => absurd e_z (by omega)⟩
          · exact absurd g2.1 (by omega)
        · rcases g2 with g2 | g2
          · exact absurd g2.1 q_z
          · exact ⟨rfl, g1, 0, rfl, Or.inr (Or.inr (Or.inr ⟨rfl, hdg, hsk, _, g2.2.1⟩)), fun _ => g2.2⟩
    · refine ⟨oX_3 hd0 hdk 0 rfl, ?_⟩
      refine ⟨fun h_z => Or.inr ⟨rfl, h_z, rfl⟩, fun h_z => Or.inl ⟨rfl, h_z, rfl⟩⟩
theorem fb_2 {A : pm_A} {d : Int} (hA : gH wX A) (hd0 : 0 ≤ d) (hdk : wX.2 d = 3) (hT9 : b9t A d) : ∀ (n_z : Nat) (i_z : Int) (v2 v3 v4_z : pm_V), (A d 0 - i_z).toNat < n_z → 0 ≤ i_z → i_z ≤ A d 0 → (∀ k_z : Int, 0 ≤ k_z → k_z < i_z → A (A d 2) (7 * k_z) = 0) → Tm pmt (an_sh wX) o_X2_fault 2 ([(2, d), (0, i_z), v2, v3, v4_z], [], A) (faq_post A d) := by
  have p6_z := fX_3_0 hA hd0 hdk
  have t0_z := fX_3_2 hA hd0 hdk
  intro n_z
  induction n_z with
  | zero => intro i_z v2 v3 v4_z h_z; omega
  | succ n_z ih_z =>
    intro i_z v2 v3 v4_z hn hi0_z hi1 hdz
    refine wq_ok srt_fault (fr := []) (cuts := [2, 34]) (J := fun pc st_z => (pc = 2 ∧ i_z < A d 0 ∧ A (A d 2) (i_z * 6 + i_z) = 0 ∧ st_z = ([(2, d), (0, i_z + 1), v2, v3, v4_z], [], A)) ∨ (pc = 34 ∧ A d 0 ≤ i_z ∧ st_z = ([(2, d), (0, 0), v2, v3, v4_z], [], A))) ?_ 60 2 _ ?_
    · rintro pc st_z (⟨rfl, hi_z, hz, rfl⟩ | ⟨rfl, hi_z, rfl⟩)
      · refine ih_z (i_z + 1) v2 v3 v4_z (by omega) (by omega) (by omega) (fun k_z k0_z k1_z => ?_)
        by_cases e_z : k_z = i_z
        · rw [e_z, show 7 * i_z = i_z * 6 + i_z by omega]; exact hz
        · exact hdz k_z k0_z (by omega)
      · exact fb_34 hA hd0 hdk hT9 (fun k_z k0_z k1_z => hdz k_z k0_z (by omega)) _ 0 v2 v3 v4_z (Nat.lt_succ_self _) (by omega) p6_z.1 (fun k_z j_z k1_z j0 j1 => by omega)
    · refine ⟨oX_3 hd0 hdk 0 rfl, ?_⟩
      refine ⟨fun h_z => Or.inr ⟨rfl, h_z, rfl⟩, fun h_z => ?_⟩
      refine ⟨oX_3 hd0 hdk 2 rfl, ?_⟩
      refine ⟨⟨by omega, by omega⟩, ?_⟩
      refine ⟨⟨by omega, by omega⟩, ?_⟩
      refine ⟨aX_16 t0_z.1 t0_z.2 (by omega) (by omega), ?_⟩
      refine ⟨fun q_z => ?_, fun q_z => ?_⟩
      · refine ⟨⟨by omega, by omega⟩, ?_⟩
        exact Or.inl ⟨rfl, h_z, q_z, rfl⟩
      · refine ⟨rfl, ⟨hA, fun _ _ _ _ _ => rfl⟩, 1, rfl, Or.inl ⟨rfl, fun hs => q_z ?_⟩, fun e_z => absurd e_z (by omega)⟩
        have := hs i_z hi0_z h_z
        rw [show 7 * i_z = i_z * 6 + i_z by omega] at this
        exact this
theorem fault_ex {A : pm_A} {d : Int} (hA : gH wX A) (hd0 : 0 ≤ d) (hdk : wX.2 d = 3) (hT9 : b9t A d) : Cl pmt (an_sh wX) 21 [(2, d)] A (faq_post A d) := by
  have p6_z := fX_3_0 hA hd0 hdk
  refine Cl.of (Nat.le_of_ble_eq_true rfl) ?_
  show Tm pmt (an_sh wX) o_X2_fault 0 ([(2, d), (9, 0), (9, 0), (9, 0), (9, 0)], [], A) _
  refine wq_ok (full := o_X2_fault) srt_fault (fr := []) (cuts := [2]) (J := fun pc st_z => pc = 2 ∧ ∃ v2 v3 v4_z, st_z = ([(2, d), (0, 0), v2, v3, v4_z], [], A)) ?_ 10 0 _ ?_
  · rintro pc st_z ⟨rfl, v2, v3, v4_z, rfl⟩
    exact fb_2 hA hd0 hdk hT9 _ 0 v2 v3 v4_z (Nat.lt_succ_self _) (by omega) p6_z.1 (fun k_z k0_z k1_z => by omega)
  · exact ⟨rfl, _, _, _, rfl⟩
