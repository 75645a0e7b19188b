/-! the class's addAll, takeAway, divide, exactly -/
theorem co_sncX (f : Nat → Int × cr_Xp 12) (m : Nat) (a : cr_Xp 12) : cr_co (lsf (m + 1) f) a = cr_co (lsf m f) a + si (f m) a := by
  rw [lsf_succ, cr_co_app]
  have h_z : cr_co [f m] a = si (f m) a := by
    rw [cr_co_cons, cr_co_nil, Int.add_zero]
    rfl
  rw [h_z]
theorem fX_pos {A : pm_A} {s : Int} (h : cfX A s) {q : Nat} (hq : (q : Int) < A s 1) : 0 < (fX A s q).1 := by
  have := (h q (by omega) hq).1
  show 0 < A (A s 2) (q : Int)
  omega
def aaP (A : pm_A) (q s d : Int) (r : pm_R) : Prop := mxF A r.2 q s ∧ ((r.1 = some (0, 0) ∧ BigC (fun c_z => cr_co (LSx A s) c_z + cr_co (LSx A d) c_z)) ∨ (r.1 = some (0, 1) ∧ r.2 s 0 = A s 0 ∧ srX r.2 s ∧ cfX r.2 s ∧ ∀ c_z, cr_co (LSx r.2 s) c_z = cr_co (LSx A s) c_z + cr_co (LSx A d) c_z))
def aaH (A : pm_A) (q s d : Int) : Prop := gH wX A ∧ ((0 ≤ q ∧ wX.2 q = 4) ∧ (0 ≤ s ∧ wX.2 s = 2) ∧ (0 ≤ d ∧ wX.2 d = 2)) ∧ A s 0 = A d 0 ∧ dsX A s d ∧ (srX A s ∧ cfX A s) ∧ (srX A d ∧ cfX A d)
def aaI (A B : pm_A) (q s d t : Int) : Prop := mxF A B q s ∧ B s 0 = A s 0 ∧ srX B s ∧ cfX B s ∧ ∀ c_z, cr_co (LSx B s) c_z = cr_co (LSx A s) c_z + cr_co (lsf t.toNat (fX A d)) c_z
theorem srt_addAll : pm_srt o_X5_addAll = true := by decide +kernel
theorem aa_8 {A : pm_A} {q s d : Int} (hH : aaH A q s d) : ∀ (m_z : Nat) (t_z : Int) (B_z : pm_A), (A d 1 - t_z).toNat < m_z → 0 ≤ t_z → t_z ≤ A d 1 → aaI A B_z q s d t_z → Tm pmt (an_sh wX) o_X5_addAll 8 ([(2, q), (2, s), (2, d), (0, A s 0), (0, t_z)], [], B_z) (aaP A q s d) := by
  obtain ⟨hA, ⟨hq, hs, hd_z⟩, hw, hsd, ⟨ss, cs⟩, ⟨sd_z, cd⟩⟩ := hH
  have w0_z := fX_2_0 hA hs.1 hs.2
  have ld := fX_2_1 hA hd_z.1 hd_z.2
  have kA_z := fX_4_5 hA hq.1 hq.2
  have nd_z := fX_2_2 hA hd_z.1 hd_z.2
  have pd := fX_2_3 hA hd_z.1 hd_z.2
  have ns := fX_2_2 hA hs.1 hs.2
  have ps_z := fX_2_3 hA hs.1 hs.2
  have ek := shX_18 kA_z.2
  have ep := shX_15 pd.2
  intro m_z
  induction m_z with
  | zero => intro t_z B_z h_z; omega
  | succ m_z ih_z =>
    intro t_z B_z hm_z t0_z t1_z hI
    obtain ⟨hF, i0_z, is_z, ic, ico⟩ := hI
    have sm_z := hF.sm hA hq hs hd_z hsd
    have eq5 : B_z q 5 = A q 5 := hF.2.1 q 5 (knd hq.2 hs.2 (by decide)) (knd hq.2 ns.2 (by decide)) (knd hq.2 ps_z.2 (by decide)) (knd hq.2 kA_z.2 (by decide))
    have ls := fX_2_1 hF.1 hs.1 hs.2
    refine wq_ok srt_addAll (fr := []) (cuts := [34]) (J := fun pc st_z => pc = 34 ∧ t_z < A d 1 ∧ st_z = ([(2, q), (2, s), (2, d), (0, A s 0), (0, t_z)], [], pm_cpy B_z (B_z d 3) (t_z * A s 0) (B_z q 5) 0 (A s 0))) ?_ 30 8 _ ?_
    · rintro pc st_z ⟨rfl, ht, rfl⟩
      obtain ⟨m1_z, m2_z⟩ : 0 ≤ t_z * A s 0 ∧ t_z * A s 0 + A s 0 ≤ 2400 := by
        have h1 := Int.mul_nonneg t0_z w0_z.1
        have h2 := Int.mul_le_mul (show t_z + 1 ≤ 200 by omega) w0_z.2 w0_z.1 (by omega)
        rw [Int.add_mul, Int.one_mul] at h2
        exact ⟨h1, by omega⟩
      have hg : gH wX (pm_cpy B_z (B_z d 3) (t_z * A s 0) (B_z q 5) 0 (A s 0)) := by
        rw [sm_z.1 3, eq5]
        exact gH_cpy hF.1 (ka := (1, 0, 2400, [(0, -2147483648, 2147483647)])) (kb := (1, 0, 12, [(0, -2147483648, 2147483647)])) pd.1 (by rw [pd.2]; rfl) (by rw [kA_z.2]; rfl) rfl rfl rfl rfl rfl rfl m1_z (by omega) (by simp only; omega)
      have hout : ∀ r_z j_z : Int, ¬ r_z = A q 5 → pm_cpy B_z (B_z d 3) (t_z * A s 0) (B_z q 5) 0 (A s 0) r_z j_z = B_z r_z j_z := fun r_z j_z hr => by
        rw [eq5]
        exact cpy_out (fun e_z => hr e_z.1)
      have hin : ∀ v_z : Int, 0 ≤ v_z → v_z < A s 0 → pm_cpy B_z (B_z d 3) (t_z * A s 0) (B_z q 5) 0 (A s 0) (A q 5) v_z = A (A d 3) (t_z * A s 0 + v_z) := fun v_z v0_z v1_z => by
        rw [eq5, cpy_in ⟨by omega, by omega⟩, sm_z.1 3, sm_z.2.2, show t_z * A s 0 + (v_z - 0) = t_z * A s 0 + v_z by omega]
      generalize pm_cpy B_z (B_z d 3) (t_z * A s 0) (B_z q 5) 0 (A s 0) = C_z at hg hout hin ⊢
      have cs2 : sme B_z C_z s := ⟨fun j_z => hout s j_z (knd hs.2 kA_z.2 (by decide)), fun j_z => hout _ j_z (by rw [hF.2.2.1]; exact knd ns.2 kA_z.2 (by decide)), fun j_z => hout _ j_z (by rw [hF.2.2.2]; exact knd ps_z.2 kA_z.2 (by decide))⟩
      have cd2 : sme A C_z d := sm_z.tr ⟨fun j_z => hout d j_z (knd hd_z.2 kA_z.2 (by decide)), fun j_z => hout _ j_z (by rw [sm_z.1 2]; exact knd nd_z.2 kA_z.2 (by decide)), fun j_z => hout _ j_z (by rw [sm_z.1 3]; exact knd pd.2 kA_z.2 (by decide))⟩
      have cq5 : C_z q 5 = A q 5 := by rw [hout q 5 (knd hq.2 kA_z.2 (by decide))]; exact eq5
      have en : C_z (C_z d 2) t_z = A (A d 2) t_z := by rw [cd2.1 2, cd2.2.1]
      have hK_z : xkX C_z (C_z s 0) (A q 5) = xeX A d t_z := funext fun j_z => by
        show (if (j_z.1 : Int) < C_z s 0 then C_z (A q 5) (j_z.1 : Int) else 0) = if (j_z.1 : Int) < A d 0 then A (A d 3) (t_z * A d 0 + (j_z.1 : Int)) else 0
        rw [cs2.1 0, i0_z, hw.symm]
        by_cases e_z : (j_z.1 : Int) < A s 0
        · rw [if_pos e_z, if_pos e_z]; exact hin j_z.1 (by omega) e_z
        · rw [if_neg e_z, if_neg e_z]
      have lC : C_z s 1 = B_z s 1 := cs2.1 1
      refine wq_ok srt_addAll (fr := []) (cuts := [8]) (J := fun pc st_z => pc = 8 ∧ ∃ D_z, aaI A D_z q s d (t_z + 1) ∧ st_z = ([(2, q), (2, s), (2, d), (0, A s 0), (0, t_z + 1)], [], D_z)) ?_ 30 34 _ ?_
      · rintro pc st_z ⟨rfl, D_z, hD, rfl⟩
        exact ih_z (t_z + 1) D_z (by omega) (by omega) (by omega) hD
      · refine ⟨oX_4 hq.1 hq.2 5 rfl, ?_⟩
        refine ⟨oX_2 hd_z.1 hd_z.2 2 rfl, ?_⟩
        refine ⟨aX_14 (by rw [cd2.1 2]; exact nd_z.1) (by rw [cd2.1 2]; exact nd_z.2) t0_z (by omega), ?_⟩
        refine ⟨rX_2 hs.1 hs.2, ?_⟩
        refine (add_exX (A := C_z) (s := s) (k := C_z q 5) (n := C_z (C_z d 2) t_z) (f := 0) hg ⟨hs, by rw [cq5]; exact kA_z⟩ (cs2.sr is_z) (cs2.cf ic) (by rw [en]; exact cd t_z t0_z ht) (by omega) (by omega) (fun a_z a0_z a1_z => by omega)).imp ?_
        rintro ⟨r1_z, D_z⟩ ⟨⟨f1_z, ⟨f2_z, f3_z, f4_z⟩, f5_z⟩, f6_z⟩
        simp only at f1_z f2_z f3_z f4_z f5_z f6_z
        rw [cq5, hK_z, en] at f6_z
        have hFD : mxF A D_z q s := by
          refine ⟨f1_z, fun r_z j_z a1_z a2 a3 a4 => ?_, by rw [f3_z, cs2.1 2]; exact hF.2.2.1, by rw [f4_z, cs2.1 3]; exact hF.2.2.2⟩
          rw [f5_z r_z j_z a1_z (by rw [cs2.1 2, hF.2.2.1]; exact a2) (by rw [cs2.1 3, hF.2.2.2]; exact a3), hout r_z j_z a4]
          exact hF.2.1 r_z j_z a1_z a2 a3 a4
        have hsn : ∀ c_z, cr_co (LSx C_z s) c_z + si (A (A d 2) t_z, xeX A d t_z) c_z = cr_co (LSx A s) c_z + cr_co (lsf (t_z + 1).toNat (fX A d)) c_z := fun c_z => by
          rw [cs2.ls, ico c_z, show (t_z + 1).toNat = t_z.toNat + 1 by omega, co_sncX]
          have e_z : fX A d t_z.toNat = (A (A d 2) t_z, xeX A d t_z) := by
            unfold fX
            rw [Int.toNat_of_nonneg t0_z]
          rw [e_z]
          omega
        rcases f6_z with ⟨rfl, f7_z⟩ | ⟨z_z, rfl, ⟨z0, z1, z2⟩, z3, z4, z5⟩
        · have hbig : BigC (fun c_z => cr_co (LSx A s) c_z + cr_co (LSx A d) c_z) := f7_z.mono (fun c_z => by
            show cr_co (LSx C_z s) c_z + si (A (A d 2) t_z, xeX A d t_z) c_z ≤ cr_co (LSx A s) c_z + cr_co (LSx A d) c_z
            rw [hsn c_z]
            have h1 := lsf_le (f := fX A d) c_z (t_z + 1).toNat ((A d 1).toNat - (t_z + 1).toNat) (fun i_z hi_z => fX_pos cd (by omega))
            rw [show (t_z + 1).toNat + ((A d 1).toNat - (t_z + 1).toNat) = (A d 1).toNat by omega] at h1
            have h2 : cr_co (lsf (A d 1).toNat (fX A d)) c_z = cr_co (LSx A d) c_z := rfl
            omega)
          refine ⟨fun hh => absurd rfl hh, fun _ => ?_⟩
          exact ⟨rfl, hFD, Or.inl ⟨rfl, hbig⟩⟩
        · refine ⟨fun _ => ?_, fun hh => absurd hh (by omega)⟩
          refine ⟨⟨by omega, by omega⟩, ?_⟩
          refine ⟨rfl, D_z, ⟨hFD, by rw [f2_z, cs2.1 0]; exact i0_z, z3, z4, fun c_z => ?_⟩, rfl⟩
          rw [z5 c_z]
          exact hsn c_z
    · refine ⟨oX_2 hd_z.1 hd_z.2 1 rfl, ?_⟩
      refine ⟨fun h_z => ?_, fun h_z => ?_⟩
      · rw [sm_z.1 1] at h_z
        refine ⟨rfl, hF, Or.inr ⟨rfl, i0_z, is_z, ic, fun c_z => ?_⟩⟩
        show cr_co (LSx B_z s) c_z = _
        rw [ico c_z, show t_z = A d 1 by omega]
        rfl
      · rw [sm_z.1 1] at h_z
        obtain ⟨m1_z, m2_z⟩ : 0 ≤ t_z * A s 0 ∧ t_z * A s 0 + A s 0 ≤ 2400 := by
          have h1 := Int.mul_nonneg t0_z w0_z.1
          have h2 := Int.mul_le_mul (show t_z + 1 ≤ 200 by omega) w0_z.2 w0_z.1 (by omega)
          rw [Int.add_mul, Int.one_mul] at h2
          exact ⟨h1, by omega⟩
        refine ⟨oX_2 hd_z.1 hd_z.2 3 rfl, ?_⟩
        refine ⟨⟨by omega, by omega⟩, ?_⟩
        refine ⟨oX_4 hq.1 hq.2 5 rfl, ?_⟩
        refine ⟨⟨by rw [sm_z.1 3]; exact pd.1, by rw [eq5]; exact kA_z.1, by rw [sm_z.1 3, ep], by rw [sm_z.1 3, ep], by rw [eq5, ek], by rw [eq5, ek], w0_z.1, by omega, m1_z, by rw [sm_z.1 3, ep]; simp only; omega, by rw [eq5, ek]; simp only; omega⟩, ?_⟩
        exact ⟨rfl, h_z, rfl⟩
theorem addAll_exX {A : pm_A} {q s d : Int} (hH : aaH A q s d) : Cl pmt (an_sh wX) 39 [(2, q), (2, s), (2, d)] A (aaP A q s d) := by
  have hH0 := hH
  obtain ⟨hA, ⟨hq, hs, hd_z⟩, hw, hsd, ⟨ss, cs⟩, ⟨sd_z, cd⟩⟩ := hH
  have ld := fX_2_1 hA hd_z.1 hd_z.2
  refine Cl.of (Nat.le_of_ble_eq_true rfl) ?_
  refine wq_ok (full := o_X5_addAll) srt_addAll (fr := []) (cuts := [8]) (J := fun pc st_z => pc = 8 ∧ st_z = ([(2, q), (2, s), (2, d), (0, A s 0), (0, 0)], [], A)) ?_ 20 0 _ ?_
  · rintro pc st_z ⟨rfl, rfl⟩
    refine aa_8 hH0 _ 0 A (Nat.lt_succ_self _) (by omega) (by omega) ⟨⟨hA, fun _ _ _ _ _ _ => rfl, rfl, rfl⟩, rfl, ss, cs, fun c_z => ?_⟩
    show _ = _ + (0 : Int)
    omega
  · refine ⟨oX_2 hs.1 hs.2 0 rfl, ?_⟩
    exact ⟨rfl, rfl⟩
