section
/-! the class's addAll, takeAway, divide, exactly -/
theorem co_sncX (f : Nat → Int × cr_Xp 12) (m : Nat) (a : cr_Xp 12) : cr_co (lsf (m + 1) f) a = cr_co (lsf m f) a + si (f m) a := by
  rw [lsf_succ, cr_co_app]
  have h_z : cr_co [f m] a = si (f m) a := by
    rw [cr_co_cons, cr_co_nil, Int.add_zero]
    rfl
  rw [h_z]
theorem fX_pos {A : pm_A} {s : Int} (h : cfX A s) {q : Nat} (hq : (q : Int) < A s 1) : 0 < (fX A s q).1 := by
  have := (h q (by omega) hq).1
  show 0 < A (A s 2) (q : Int)
  omega
def aaP (A : pm_A) (q s d : Int) (r : pm_R) : Prop := mxF A r.2 q s ∧ ((r.1 = some (0, 0) ∧ BigC (fun c_z => cr_co (LSx A s) c_z + cr_co (LSx A d) c_z)) ∨ (r.1 = some (0, 1) ∧ r.2 s 0 = A s 0 ∧ srX r.2 s ∧ cfX r.2 s ∧ ∀ c_z, cr_co (LSx r.2 s) c_z = cr_co (LSx A s) c_z + cr_co (LSx A d) c_z))
def aaH (A : pm_A) (q s d : Int) : Prop := gH wX A ∧ ((0 ≤ q ∧ wX.2 q = 4) ∧ (0 ≤ s ∧ wX.2 s = 2) ∧ (0 ≤ d ∧ wX.2 d = 2)) ∧ A s 0 = A d 0 ∧ dsX A s d ∧ (srX A s ∧ cfX A s) ∧ (srX A d ∧ cfX A d)
def aaI (A B : pm_A) (q s d t : Int) : Prop := mxF A B q s ∧ B s 0 = A s 0 ∧ srX B s ∧ cfX B s ∧ ∀ c_z, cr_co (LSx B s) c_z = cr_co (LSx A s) c_z + cr_co (lsf t.toNat (fX A d)) c_z
theorem srt_addAll : pm_srt o_X5_addAll = true := by decide +kernel
theorem aa_8 {A : pm_A} {q s d : Int} (hH : aaH A q s d) : ∀ (m_z : Nat) (t_z : Int) (B_z : pm_A), (A d 1 - t_z).toNat < m_z → 0 ≤ t_z → t_z ≤ A d 1 → aaI A B_z q s d t_z → Tm pmt (an_sh wX) o_X5_addAll 8 ([(2, q), (2, s), (2, d), (0, A s 0), (0, t_z)], [], B_z) (aaP A q s d) := by
  obtain ⟨hA, ⟨hq, hs, hd_z⟩, hw, hsd, ⟨ss, cs⟩, ⟨sd_z, cd⟩⟩ := hH
  have w0_z := fX_2_0 hA hs.1 hs.2
  have ld := fX_2_1 hA hd_z.1 hd_z.2
  have kA_z := fX_4_5 hA hq.1 hq.2
  have nd_z := fX_2_2 hA hd_z.1 hd_z.2
  have pd := fX_2_3 hA hd_z.1 hd_z.2
  have ns := fX_2_2 hA hs.1 hs.2
  have ps_z := fX_2_3 hA hs.1 hs.2
  have ek := shX_18 kA_z.2
  have ep := shX_15 pd.2
  intro m_z
  induction m_z with
  | zero => intro t_z B_z h_z; omega
  | succ m_z ih_z =>
    intro t_z B_z hm_z t0_z t1_z hI
    obtain ⟨hF, i0_z, is_z, ic, ico⟩ := hI
    have sm_z := hF.sm hA hq hs hd_z hsd
    have eq5 : B_z q 5 = A q 5 := hF.2.1 q 5 (knd hq.2 hs.2 (by decide)) (knd hq.2 ns.2 (by decide)) (knd hq.2 ps_z.2 (by decide)) (knd hq.2 kA_z.2 (by decide))
    have ls := fX_2_1 hF.1 hs.1 hs.2
    refine wq_ok srt_addAll (fr := []) (cuts := [34]) (J := fun pc st_z => pc = 34 ∧ t_z < A d 1 ∧ st_z = ([(2, q), (2, s), (2, d), (0, A s 0), (0, t_z)], [], pm_cpy B_z (B_z d 3) (t_z * A s 0) (B_z q 5) 0 (A s 0))) ?_ 30 8 _ ?_
    · rintro pc st_z ⟨rfl, ht, rfl⟩
      obtain ⟨m1_z, m2_z⟩ : 0 ≤ t_z * A s 0 ∧ t_z * A s 0 + A s 0 ≤ 2400 := by
        have h1 := Int.mul_nonneg t0_z w0_z.1
        have h2 := Int.mul_le_mul (show t_z + 1 ≤ 200 by omega) w0_z.2 w0_z.1 (by omega)
        rw [Int.add_mul, Int.one_mul] at h2
        exact ⟨h1, by omega⟩
      have hg : gH wX (pm_cpy B_z (B_z d 3) (t_z * A s 0) (B_z q 5) 0 (A s 0)) := by
        rw [sm_z.1 3, eq5]
        exact gH_cpy hF.1 (ka := (1, 0, 2400, [(0, -2147483648, 2147483647)])) (kb := (1, 0, 12, [(0, -2147483648, 2147483647)])) pd.1 (by rw [pd.2]; rfl) (by rw [kA_z.2]; rfl) rfl rfl rfl rfl rfl rfl m1_z (by omega) (by simp only; omega)
      have hout : ∀ r_z j_z : Int, ¬ r_z = A q 5 → pm_cpy B_z (B_z d 3) (t_z * A s 0) (B_z q 5) 0 (A s 0) r_z j_z = B_z r_z j_z := fun r_z j_z hr => by
        rw [eq5]
        exact cpy_out (fun e_z => hr e_z.1)
      have hin : ∀ v_z : Int, 0 ≤ v_z → v_z < A s 0 → pm_cpy B_z (B_z d 3) (t_z * A s 0) (B_z q 5) 0 (A s 0) (A q 5) v_z = A (A d 3) (t_z * A s 0 + v_z) := fun v_z v0_z v1_z => by
        rw [eq5, cpy_in ⟨by omega, by omega⟩, sm_z.1 3, sm_z.2.2, show t_z * A s 0 + (v_z - 0) = t_z * A s 0 + v_z by omega]
      generalize pm_cpy B_z (B_z d 3) (t_z * A s 0) (B_z q 5) 0 (A s 0) = C_z at hg hout hin ⊢
      have cs2 : sme B_z C_z s := ⟨fun j_z => hout s j_z (knd hs.2 kA_z.2 (by decide)), fun j_z => hout _ j_z (by rw [hF.2.2.1]; exact knd ns.2 kA_z.2 (by decide)), fun j_z => hout _ j_z (by rw [hF.2.2.2]; exact knd ps_z.2 kA_z.2 (by decide))⟩
      have cd2 : sme A C_z d := sm_z.tr ⟨fun j_z => hout d j_z (knd hd_z.2 kA_z.2 (by decide)), fun j_z => hout _ j_z (by rw [sm_z.1 2]; exact knd nd_z.2 kA_z.2 (by decide)), fun j_z => hout _ j_z (by rw [sm_z.1 3]; exact knd pd.2 kA_z.2 (by decide))⟩
      have cq5 : C_z q 5 = A q 5 := by rw [hout q 5 (knd hq.2 kA_z.2 (by decide))]; exact eq5
      have en : C_z (C_z d 2) t_z = A (A d 2) t_z := by rw [cd2.1 2, cd2.2.1]
      have hK_z : xkX C_z (C_z s 0) (A q 5) = xeX A d t_z := funext fun j_z => by
        show (if (j_z.1 : Int) < C_z s 0 then C_z (A q 5) (j_z.1 : Int) else 0) = if (j_z.1 : Int) < A d 0 then A (A d 3) (t_z * A d 0 + (j_z.1 : Int)) else 0
        rw [cs2.1 0, i0_z, hw.symm]
        by_cases e_z : (j_z.1 : Int) < A s 0
        · rw [if_pos e_z, if_pos e_z]; exact hin j_z.1 (by omega) e_z
        · rw [if_neg e_z, if_neg e_z]
      have lC : C_z s 1 = B_z s 1 := cs2.1 1
      refine wq_ok srt_addAll (fr := []) (cuts := [8]) (J := fun pc st_z => pc = 8 ∧ ∃ D_z, aaI A D_z q s d (t_z + 1) ∧ st_z = ([(2, q), (2, s), (2, d), (0, A s 0), (0, t_z + 1)], [], D_z)) ?_ 30 34 _ ?_
      · rintro pc st_z ⟨rfl, D_z, hD, rfl⟩
        exact ih_z (t_z + 1) D_z (by omega) (by omega) (by omega) hD
      · refine ⟨oX_4 hq.1 hq.2 5 rfl, ?_⟩
        refine ⟨oX_2 hd_z.1 hd_z.2 2 rfl, ?_⟩
        refine ⟨aX_14 (by rw [cd2.1 2]; exact nd_z.1) (by rw [cd2.1 2]; exact nd_z.2) t0_z (by omega), ?_⟩
        refine ⟨rX_2 hs.1 hs.2, ?_⟩
        refine (add_exX (A := C_z) (s := s) (k := C_z q 5) (n := C_z (C_z d 2) t_z) (f := 0) hg ⟨hs, by rw [cq5]; exact kA_z⟩ (cs2.sr is_z) (cs2.cf ic) (by rw [en]; exact cd t_z t0_z ht) (by omega) (by omega) (fun a_z a0_z a1_z => by omega)).imp ?_
        rintro ⟨r1_z, D_z⟩ ⟨⟨f1_z, ⟨f2_z, f3_z, f4_z⟩, f5_z⟩, f6_z⟩
        simp only at f1_z f2_z f3_z f4_z f5_z f6_z
        rw [cq5, hK_z, en] at f6_z
        have hFD : mxF A D_z q s := by
          refine ⟨f1_z, fun r_z j_z a1_z a2 a3 a4 => ?_, by rw [f3_z, cs2.1 2]; exact hF.2.2.1, by rw [f4_z, cs2.1 3]; exact hF.2.2.2⟩
          rw [f5_z r_z j_z a1_z (by rw [cs2.1 2, hF.2.2.1]; exact a2) (by rw [cs2.1 3, hF.2.2.2]; exact a3), hout r_z j_z a4]
          exact hF.2.1 r_z j_z a1_z a2 a3 a4
        have hsn : ∀ c_z, cr_co (LSx C_z s) c_z + si (A (A d 2) t_z, xeX A d t_z) c_z = cr_co (LSx A s) c_z + cr_co (lsf (t_z + 1).toNat (fX A d)) c_z := fun c_z => by
          rw [cs2.ls, ico c_z, show (t_z + 1).toNat = t_z.toNat + 1 by omega, co_sncX]
          have e_z : fX A d t_z.toNat = (A (A d 2) t_z, xeX A d t_z) := by
            unfold fX
            rw [Int.toNat_of_nonneg t0_z]
          rw [e_z]
          omega
        rcases f6_z with ⟨rfl, f7_z⟩ | ⟨z_z, rfl, ⟨z0, z1, z2⟩, z3, z4, z5⟩
        · have hbig : BigC (fun c_z => cr_co (LSx A s) c_z + cr_co (LSx A d) c_z) := f7_z.mono (fun c_z => by
            show cr_co (LSx C_z s) c_z + si (A (A d 2) t_z, xeX A d t_z) c_z ≤ cr_co (LSx A s) c_z + cr_co (LSx A d) c_z
            rw [hsn c_z]
            have h1 := lsf_le (f := fX A d) c_z (t_z + 1).toNat ((A d 1).toNat - (t_z + 1).toNat) (fun i_z hi_z => fX_pos cd (by omega))
            rw [show (t_z + 1).toNat + ((A d 1).toNat - (t_z + 1).toNat) = (A d 1).toNat by omega] at h1
            have h2 : cr_co (lsf (A d 1).toNat (fX A d)) c_z = cr_co (LSx A d) c_z := rfl
            omega)
          refine ⟨fun hh => absurd rfl hh, fun _ => ?_⟩
          exact ⟨rfl, hFD, Or.inl ⟨rfl, hbig⟩⟩
        · refine ⟨fun _ => ?_, fun hh => absurd hh (by omega)⟩
          refine ⟨⟨by omega, by omega⟩, ?_⟩
          refine ⟨rfl, D_z, ⟨hFD, by rw [f2_z, cs2.1 0]; exact i0_z, z3, z4, fun c_z => ?_⟩, rfl⟩
          rw [z5 c_z]
          exact hsn c_z
    · refine ⟨oX_2 hd_z.1 hd_z.2 1 rfl, ?_⟩
      refine ⟨fun h_z => ?_, fun h_z => ?_⟩
      · rw [sm_z.1 1] at h_z
        refine ⟨rfl, hF, Or.inr ⟨rfl, i0_z, is_z, ic, fun c_z => ?_⟩⟩
        show cr_co (LSx B_z s) c_z = _
        rw [ico c_z, show t_z = A d 1 by omega]
        rfl
      · rw [sm_z.1 1] at h_z
        obtain ⟨m1_z, m2_z⟩ : 0 ≤ t_z * A s 0 ∧ t_z * A s 0 + A s 0 ≤ 2400 := by
          have h1 := Int.mul_nonneg t0_z w0_z.1
          have h2 := Int.mul_le_mul (show t_z + 1 ≤ 200 by omega) w0_z.2 w0_z.1 (by omega)
          rw [Int.add_mul, Int.one_mul] at h2
          exact ⟨h1, by omega⟩
        refine ⟨oX_2 hd_z.1 hd_z.2 3 rfl, ?_⟩
        refine ⟨⟨by omega, by omega⟩, ?_⟩
        refine ⟨oX_4 hq.1 hq.2 5 rfl, ?_⟩
        refine ⟨⟨by rw [sm_z.1 3]; exact pd.1, by rw [eq5]; exact kA_z.1, by rw [sm_z.1 3, ep], by rw [sm_z.1 3, ep], by rw [eq5, ek], by rw [eq5, ek], w0_z.1, by omega, m1_z, by rw [sm_z.1 3, ep]; simp only; omega, by rw [eq5, ek]; simp only; omega⟩, ?_⟩
        exact ⟨rfl, h_z, rfl⟩
theorem addAll_exX {A : pm_A} {q s d : Int} (hH : aaH A q s d) : Cl pmt (an_sh wX) 39 [(2, q), (2, s), (2, d)] A (aaP A q s d) := by
  have hH0 := hH
  obtain ⟨hA, ⟨hq, hs, hd_z⟩, hw, hsd, ⟨ss, cs⟩, ⟨sd_z, cd⟩⟩ := hH
  have ld := fX_2_1 hA hd_z.1 hd_z.2
  refine Cl.of (Nat.le_of_ble_eq_true rfl) ?_
  refine wq_ok (full := o_X5_addAll) srt_addAll (fr := []) (cuts := [8]) (J := fun pc st_z => pc = 8 ∧ st_z = ([(2, q), (2, s), (2, d), (0, A s 0), (0, 0)], [], A)) ?_ 20 0 _ ?_
  · rintro pc st_z ⟨rfl, rfl⟩
    refine aa_8 hH0 _ 0 A (Nat.lt_succ_self _) (by omega) (by omega) ⟨⟨hA, fun _ _ _ _ _ _ => rfl, rfl, rfl⟩, rfl, ss, cs, fun c_z => ?_⟩
    show _ = _ + (0 : Int)
    omega
  · refine ⟨oX_2 hs.1 hs.2 0 rfl, ?_⟩
    exact ⟨rfl, rfl⟩
end

section
/-! the class's takeAway and divide, exactly -/
theorem co_pmz_cons (y : Int × cr_Xp 12) (R L : cr_Pl_ 12) (a : cr_Xp 12) : cr_co (cr_pmz (y :: R) L) a = cr_co (cr_shz y L) a + cr_co (cr_pmz R L) a := by
  unfold cr_pmz
  rw [List.flatMap_cons, cr_co_app]
theorem co_shz_snoc (y : Int × cr_Xp 12) (f : Nat → Int × cr_Xp 12) (m : Nat) (a : cr_Xp 12) : cr_co (cr_shz y (lsf (m + 1) f)) a = cr_co (cr_shz y (lsf m f)) a + si (y.1 * (f m).1, fun i_z => y.2 i_z + (f m).2 i_z) a := by
  unfold cr_shz
  rw [lsf_succ, List.map_append]
  exact co_snoc _ _ a
def hdL (L : cr_Pl_ 12) (l0 : Int × cr_Xp 12) : Prop := l0 ∈ L ∧ ∀ b_z ∈ L, b_z = l0 ∨ cr_Gt l0.2 b_z.2
theorem hdX {A : pm_A} {s : Int} (h : srX A s) (h1 : 1 ≤ A s 1) : hdL (LSx A s) (A (A s 2) 0, xeX A s 0) := by
  refine ⟨inX (by omega) (by omega), fun b_z hb_z => ?_⟩
  obtain ⟨q_z, q0, q1_z, rfl⟩ := memX hb_z
  by_cases e_z : q_z = 0
  · rw [e_z]; exact Or.inl rfl
  · exact Or.inr (h 0 q_z (by omega) (by omega) q1_z)
theorem gt_two {a b c d : cr_Xp 12} (h1 : a = c ∨ cr_Gt a c) (h2 : cr_Gt b d) : cr_Gt (fun i_z => a i_z + b i_z) (fun i_z => c i_z + d i_z) := by
  have g_z := gt_addl h2 a
  rcases h1 with rfl | h_z
  · exact g_z
  · exact g_z.trans (cr_Gt.add h_z d)
theorem gt_two' {a b c d : cr_Xp 12} (h1 : cr_Gt a c) (h2 : b = d ∨ cr_Gt b d) : cr_Gt (fun i_z => a i_z + b i_z) (fun i_z => c i_z + d i_z) := by
  have g_z := cr_Gt.add h1 b
  rcases h2 with rfl | h_z
  · exact g_z
  · exact g_z.trans (gt_addl h_z c)
theorem lead_lt {y l0 : Int × cr_Xp 12} {R L : cr_Pl_ 12} (hR : cr_Shr (y :: R)) (hL : hdL L l0) : ∀ z_z ∈ cr_pmz R L, cr_Gt (fun i_z => y.2 i_z + l0.2 i_z) z_z.2 := fun z_z hz => by
  obtain ⟨a_z, ha_z, b_z, hb_z, rfl⟩ := cr_mem_pmz hz
  have h1 := (List.pairwise_cons.1 hR.1).1 a_z ha_z
  refine gt_two' h1 ?_
  rcases hL.2 b_z hb_z with h_z | h_z
  · rw [h_z]; exact Or.inl rfl
  · exact Or.inr h_z
theorem lead_le {y l0 : Int × cr_Xp 12} {R L : cr_Pl_ 12} (hR : cr_Shr (y :: R)) (hL : hdL L l0) : ∀ z_z ∈ cr_pmz (y :: R) L, z_z.2 = (fun i_z => y.2 i_z + l0.2 i_z) ∨ cr_Gt (fun i_z => y.2 i_z + l0.2 i_z) z_z.2 := fun z_z hz => by
  obtain ⟨a_z, ha_z, b_z, hb_z, rfl⟩ := cr_mem_pmz hz
  rcases List.mem_cons.1 ha_z with e_z | e_z
  · rcases hL.2 b_z hb_z with h_z | h_z
    · rw [e_z, h_z]; exact Or.inl rfl
    · rw [e_z]; exact Or.inr (gt_two (Or.inl rfl) h_z)
  · exact Or.inr (lead_lt hR hL _ (pmz_in e_z hb_z))
theorem lead_zero {y l0 : Int × cr_Xp 12} {R L : cr_Pl_ 12} (hR : cr_Shr (y :: R)) (hL : hdL L l0) : cr_co (cr_pmz R L) (fun i_z => y.2 i_z + l0.2 i_z) = 0 :=
  cr_co_none (fun z_z hz e_z => by
    have h_z := lead_lt hR hL z_z hz
    rw [e_z] at h_z
    exact cr_Gt.irrefl _ h_z)
theorem lead_co {y l0 : Int × cr_Xp 12} {R L : cr_Pl_ 12} (hR : cr_Shr (y :: R)) (HL : cr_Shr L) (hL : hdL L l0) : cr_co (cr_pmz (y :: R) L) (fun i_z => y.2 i_z + l0.2 i_z) = y.1 * l0.1 := by
  rw [co_pmz_cons, lead_zero hR hL, cr_co_shz, Int.add_zero]
  have e_z : (fun i_z => y.2 i_z + l0.2 i_z - y.2 i_z) = l0.2 := funext fun i_z => by omega
  rw [e_z, HL.at hL.1]
def tkF (A B : pm_A) (q s : Int) : Prop := gH wX B ∧ ∀ r_z j_z : Int, ¬ r_z = A s 2 → ¬ r_z = A q 5 → B r_z j_z = A r_z j_z
abbrev smT (A : pm_A) (d : Int) (y : Int × cr_Xp 12) (t : Int) : cr_Xp 12 := fun i_z => y.2 i_z + xeX A d t i_z
def tkH2 (A : pm_A) (q s l d n : Int) (y : Int × cr_Xp 12) (R : cr_Pl_ 12) : Prop := gH wX A ∧ ((0 ≤ q ∧ wX.2 q = 4) ∧ (0 ≤ s ∧ wX.2 s = 2) ∧ (0 ≤ d ∧ wX.2 d = 2)) ∧ (A s 0 = A d 0 ∧ dsX A s d ∧ ¬ A q 5 = A q 6) ∧ srX A s ∧ (srX A d ∧ cfX A d) ∧ (0 ≤ l ∧ l < A s 1) ∧ (1 ≤ n ∧ y = (n, xkX A (A s 0) (A q 6))) ∧ (∀ w_z ∈ R, 0 < w_z.1) ∧ (∀ t_z : Int, 0 ≤ t_z → t_z < A s 1 → A (A s 2) t_z = cr_co (cr_pmz (y :: R) (LSx A d)) (xeX A s t_z) ∧ A (A s 2) t_z ≤ 1000000000000) ∧ (∀ a_z, ¬ cr_co (cr_pmz (y :: R) (LSx A d)) a_z = 0 → ∃ t_z : Int, 0 ≤ t_z ∧ t_z < A s 1 ∧ xeX A s t_z = a_z) ∧ xeX A s l = smT A d y 0 ∧ cr_co (cr_pmz R (LSx A d)) (xeX A s l) = 0
def tkP2 (A : pm_A) (q s d : Int) (R : cr_Pl_ 12) (r : pm_R) : Prop := tkF A r.2 q s ∧ r.1 = some (0, 1) ∧ ∀ t_z : Int, 0 ≤ t_z → t_z < A s 1 → r.2 (A s 2) t_z = cr_co (cr_pmz R (LSx A d)) (xeX A s t_z)
theorem tk_in {A : pm_A} {q s l d n : Int} {y : Int × cr_Xp 12} {R : cr_Pl_ 12} (h : tkH2 A q s l d n y R) {t : Int} (t0 : 0 ≤ t) (t1 : t < A d 1) : ∃ i_z : Int, 0 ≤ i_z ∧ i_z < A s 1 ∧ xeX A s i_z = smT A d y t ∧ (1 ≤ n * A (A d 2) t ∧ n * A (A d 2) t ≤ 1000000000000) := by
  obtain ⟨hA, hk, hw, ss, ⟨sd_z, cd⟩, hl, ⟨hn, hy⟩, hR, hN_z, hsup, hlead, hz⟩ := h
  have hp : ∀ w_z ∈ cr_pmz (y :: R) (LSx A d), 0 < w_z.1 := pmz_pos (fun w_z hw => by
    rcases List.mem_cons.1 hw with e_z | e_z
    · rw [e_z, hy]; show 0 < n; omega
    · exact hR w_z e_z) (posX cd)
  have hm_z := pmz_in (List.Mem.head R : y ∈ y :: R) (inX (A := A) (s := d) t0 t1)
  have h1 := co_in hm_z hp
  have h2 := hp _ hm_z
  have e1 : y.1 = n := by rw [hy]
  have h1 : y.1 * A (A d 2) t ≤ cr_co (cr_pmz (y :: R) (LSx A d)) (smT A d y t) := h1
  have h2 : 0 < y.1 * A (A d 2) t := h2
  rw [e1] at h1 h2
  obtain ⟨i_z, i0_z, i1_z, ei⟩ := hsup (smT A d y t) (by omega)
  refine ⟨i_z, i0_z, i1_z, ei, by omega, ?_⟩
  have h3 := hN_z i_z i0_z i1_z
  rw [ei] at h3
  omega
def tkI2 (A B : pm_A) (q s d : Int) (y : Int × cr_Xp 12) (R : cr_Pl_ 12) (t f : Int) : Prop := tkF A B q s ∧ (∀ i_z : Int, 0 ≤ i_z → i_z < A s 1 → B (A s 2) i_z = cr_co (cr_pmz (y :: R) (LSx A d)) (xeX A s i_z) - cr_co (cr_shz y (lsf t.toNat (fX A d))) (xeX A s i_z)) ∧ (0 ≤ f ∧ f ≤ A s 1) ∧ ∀ i_z u_z : Int, 0 ≤ i_z → i_z < f → t ≤ u_z → u_z < A d 1 → cr_Gt (xeX A s i_z) (smT A d y u_z)
theorem shz_le {y : Int × cr_Xp 12} {A : pm_A} {d : Int} {R : cr_Pl_ 12} (hy : 0 < y.1) (cd : cfX A d) (hR : ∀ w_z ∈ R, 0 < w_z.1) {t : Int} (t0 : 0 ≤ t) (t1 : t ≤ A d 1) (a : cr_Xp 12) : 0 ≤ cr_co (cr_shz y (lsf t.toNat (fX A d))) a ∧ cr_co (cr_shz y (lsf t.toNat (fX A d))) a ≤ cr_co (cr_pmz (y :: R) (LSx A d)) a := by
  have h1 := lsf_le (f := fX A d) (fun i_z => a i_z - y.2 i_z) t.toNat ((A d 1).toNat - t.toNat) (fun i_z hi_z => fX_pos cd (by omega))
  rw [show t.toNat + ((A d 1).toNat - t.toNat) = (A d 1).toNat by omega] at h1
  have h2 : cr_co (lsf (A d 1).toNat (fX A d)) (fun i_z => a i_z - y.2 i_z) = cr_co (LSx A d) (fun i_z => a i_z - y.2 i_z) := rfl
  rw [h2] at h1
  have h3 := cr_Shr.nonneg (l := cr_pmz R (LSx A d)) (pmz_pos hR (posX cd)) a
  have h0 := lsf_le (f := fX A d) (fun i_z => a i_z - y.2 i_z) 0 t.toNat (fun i_z hi_z => fX_pos cd (by omega))
  rw [Nat.zero_add] at h0
  have h00 : cr_co (lsf 0 (fX A d)) (fun i_z => a i_z - y.2 i_z) = 0 := rfl
  rw [h00] at h0
  have h4 := Int.mul_le_mul_of_nonneg_left h1 (show 0 ≤ y.1 by omega)
  have h5 := Int.mul_nonneg (show 0 ≤ y.1 by omega) h0
  rw [co_pmz_cons, cr_co_shz, cr_co_shz]
  omega
theorem tkx_24 {A B0 : pm_A} {q s l d n f t : Int} {y : Int × cr_Xp 12} {R : cr_Pl_ 12} (hH : tkH2 A q s l d n y R) (t0 : 0 ≤ t) (t1 : t < A d 1) (hB0 : tkF A B0 q s) {z : pm_R → Prop} (H : ∀ (C_z : pm_A) (v_z : pm_V), tkF A C_z q s → (∀ r_z j_z : Int, ¬ r_z = A q 5 → C_z r_z j_z = B0 r_z j_z) → xkX C_z (A s 0) (A q 5) = smT A d y t → Tm pmt (an_sh wX) o_X5_takeAway 65 ([(2, q), (2, s), (0, l), (2, d), (1, n), (9, 0), (0, A s 0), (0, f), (0, t), v_z], [], C_z) z) : ∀ (m_z : Nat) (v_z : Int) (B_z : pm_A), (12 - v_z).toNat < m_z → 0 ≤ v_z → v_z ≤ A s 0 → tkF A B_z q s → (∀ r_z j_z : Int, ¬ r_z = A q 5 → B_z r_z j_z = B0 r_z j_z) → (∀ u_z : Int, 0 ≤ u_z → u_z < v_z → B_z (A q 5) u_z = A (A q 6) u_z + A (A d 3) (t * A s 0 + u_z)) → Tm pmt (an_sh wX) o_X5_takeAway 24 ([(2, q), (2, s), (0, l), (2, d), (1, n), (9, 0), (0, A s 0), (0, f), (0, t), (0, v_z)], [], B_z) z := by
  obtain ⟨i2_z, i20, i21, i22, _⟩ := tk_in hH t0 t1
  obtain ⟨hA, ⟨hq, hs, hd_z⟩, ⟨hw, hsd, hkg⟩, ss, ⟨sd_z, cd⟩, hl, ⟨hn, hy⟩, hR, hN_z, hsup, hlead, hz⟩ := hH
  have w0_z := fX_2_0 hA hs.1 hs.2
  have ls := fX_2_1 hA hs.1 hs.2
  have ld := fX_2_1 hA hd_z.1 hd_z.2
  have kA_z := fX_4_5 hA hq.1 hq.2
  have gA := fX_4_6 hA hq.1 hq.2
  have ns := fX_2_2 hA hs.1 hs.2
  have ps_z := fX_2_3 hA hs.1 hs.2
  have pd := fX_2_3 hA hd_z.1 hd_z.2
  have hsum : ∀ u_z : Int, 0 ≤ u_z → u_z < A s 0 → A (A q 6) u_z + A (A d 3) (t * A s 0 + u_z) = A (A s 3) (i2_z * A s 0 + u_z) := fun u_z u0 u1_z => by
    have e_z := congrFun i22 ⟨u_z.toNat, by omega⟩
    have e2 : (if ((u_z.toNat : Nat) : Int) < A s 0 then A (A s 3) (i2_z * A s 0 + ((u_z.toNat : Nat) : Int)) else 0) = y.2 ⟨u_z.toNat, by omega⟩ + (if ((u_z.toNat : Nat) : Int) < A d 0 then A (A d 3) (t * A d 0 + ((u_z.toNat : Nat) : Int)) else 0) := e_z
    have e3 : y.2 ⟨u_z.toNat, by omega⟩ = if ((u_z.toNat : Nat) : Int) < A s 0 then A (A q 6) ((u_z.toNat : Nat) : Int) else 0 := by rw [hy]; rfl
    rw [e3, ← hw, Int.toNat_of_nonneg u0, if_pos u1_z, if_pos u1_z, if_pos u1_z] at e2
    exact e2.symm
  have hr : ∀ u_z : Int, 0 ≤ u_z → u_z < A s 0 → -2147483648 ≤ A (A q 6) u_z + A (A d 3) (t * A s 0 + u_z) ∧ A (A q 6) u_z + A (A d 3) (t * A s 0 + u_z) ≤ 2147483647 := fun u_z u0 u1_z => by
    rw [hsum u_z u0 u1_z]
    obtain ⟨q0, q1_z, q2_z⟩ := mul_lt i20 (show i2_z ≤ 199 by omega) w0_z.1 w0_z.2 u0 u1_z
    exact eX_15 hA ps_z.1 ps_z.2 (by omega) (by omega)
  intro m_z
  induction m_z with
  | zero => intro v_z B_z h_z; omega
  | succ m_z ih_z =>
    intro v_z B_z hm_z v0_z v1_z hB_z hBB hkey
    have eq5 : B_z q 5 = A q 5 := hB_z.2 q 5 (knd hq.2 ns.2 (by decide)) (knd hq.2 kA_z.2 (by decide))
    have eq6 : B_z q 6 = A q 6 := hB_z.2 q 6 (knd hq.2 ns.2 (by decide)) (knd hq.2 kA_z.2 (by decide))
    have eg6 : B_z (A q 6) v_z = A (A q 6) v_z := hB_z.2 _ v_z (knd gA.2 ns.2 (by decide)) (fun e_z => hkg e_z.symm)
    have ed3 : B_z d 3 = A d 3 := hB_z.2 d 3 (knd hd_z.2 ns.2 (by decide)) (knd hd_z.2 kA_z.2 (by decide))
    have ep3 : B_z (A d 3) (t * A s 0 + v_z) = A (A d 3) (t * A s 0 + v_z) := hB_z.2 _ _ (knd pd.2 ns.2 (by decide)) (knd pd.2 kA_z.2 (by decide))
    have e1 : B_z (B_z q 6) v_z + B_z (B_z d 3) (t * A s 0 + v_z) = A (A q 6) v_z + A (A d 3) (t * A s 0 + v_z) := by rw [eq6, eg6, ed3, ep3]
    refine wq_ok srt_takeAway (fr := []) (cuts := [24, 65]) (J := fun pc st_z => (pc = 65 ∧ v_z = A s 0 ∧ st_z = ([(2, q), (2, s), (0, l), (2, d), (1, n), (9, 0), (0, A s 0), (0, f), (0, t), (0, v_z)], [], B_z)) ∨ (pc = 24 ∧ v_z < A s 0 ∧ st_z = ([(2, q), (2, s), (0, l), (2, d), (1, n), (9, 0), (0, A s 0), (0, f), (0, t), (0, v_z + 1)], [], pm_upd B_z (B_z q 5) v_z (B_z (B_z q 6) v_z + B_z (B_z d 3) (t * A s 0 + v_z))))) ?_ 30 24 _ ?_
    · rintro pc st_z (⟨rfl, hv, rfl⟩ | ⟨rfl, hv, rfl⟩)
      · refine H B_z _ hB_z hBB (funext fun j_z => ?_)
        show (if (j_z.1 : Int) < A s 0 then B_z (A q 5) (j_z.1 : Int) else 0) = y.2 j_z + (if (j_z.1 : Int) < A d 0 then A (A d 3) (t * A d 0 + (j_z.1 : Int)) else 0)
        have e3 : y.2 j_z = if (j_z.1 : Int) < A s 0 then A (A q 6) (j_z.1 : Int) else 0 := by rw [hy]; rfl
        rw [e3, ← hw]
        by_cases e_z : (j_z.1 : Int) < A s 0
        · rw [if_pos e_z, if_pos e_z, if_pos e_z]; exact hkey j_z.1 (by omega) (by omega)
        · rw [if_neg e_z, if_neg e_z, if_neg e_z]; rfl
      · rw [e1, eq5]
        have hr1 := hr v_z v0_z hv
        refine ih_z (v_z + 1) _ (by omega) (by omega) (by omega) ⟨uX_18 hB_z.1 kA_z.2 hr1.1 hr1.2, fun r_z j_z a1_z a2 => by rw [upd_ne a2]; exact hB_z.2 r_z j_z a1_z a2⟩ (fun r_z j_z a_z => by rw [upd_ne a_z]; exact hBB r_z j_z a_z) (fun u_z u0 u1_z => ?_)
        by_cases e_z : u_z = v_z
        · rw [e_z, upd_at]
        · rw [upd_n2 e_z]; exact hkey u_z u0 (by omega)
    · refine ⟨fun h_z => Or.inl ⟨rfl, by omega, rfl⟩, fun h_z => ?_⟩
      obtain ⟨q0, q1_z, q2_z⟩ := mul_lt t0 (show t ≤ 199 by omega) w0_z.1 w0_z.2 v0_z h_z
      have hr1 := hr v_z v0_z h_z
      refine ⟨oX_4 hq.1 hq.2 5 rfl, ?_⟩
      refine ⟨oX_4 hq.1 hq.2 6 rfl, ?_⟩
      refine ⟨aX_18 (by rw [eq6]; exact gA.1) (by rw [eq6]; exact gA.2) v0_z (by omega), ?_⟩
      refine ⟨oX_2 hd_z.1 hd_z.2 3 rfl, ?_⟩
      refine ⟨⟨by omega, by omega⟩, ?_⟩
      refine ⟨⟨by omega, by omega⟩, ?_⟩
      refine ⟨aX_15 (by rw [ed3]; exact pd.1) (by rw [ed3]; exact pd.2) (by omega) (by omega), ?_⟩
      refine ⟨(show r32 (B_z (B_z q 6) v_z + B_z (B_z d 3) (t * A s 0 + v_z)) by rw [e1]; exact hr1), ?_⟩
      refine ⟨tX_18 (by rw [eq5]; exact kA_z.1) (by rw [eq5]; exact kA_z.2) v0_z (by omega) rfl, ?_⟩
      refine ⟨⟨by omega, by omega⟩, ?_⟩
      exact Or.inr ⟨rfl, h_z, rfl⟩
theorem tkx_84 {A B : pm_A} {q s l d n f t x : Int} {y : Int × cr_Xp 12} {R : cr_Pl_ 12} (hH : tkH2 A q s l d n y R) (t0 : 0 ≤ t) (t1 : t < A d 1) (x0 : 0 ≤ x) (x1 : x < A s 1) (hx : xeX A s x = smT A d y t) (hB : tkF A B q s) (hnum : ∀ i_z : Int, 0 ≤ i_z → i_z < A s 1 → B (A s 2) i_z = cr_co (cr_pmz (y :: R) (LSx A d)) (xeX A s i_z) - cr_co (cr_shz y (lsf t.toNat (fX A d))) (xeX A s i_z)) {z : pm_R → Prop} (H : ∀ (C_z : pm_A) (v_z : pm_V), tkI2 A C_z q s d y R (t + 1) (x + 1) → Tm pmt (an_sh wX) o_X5_takeAway 12 ([(2, q), (2, s), (0, l), (2, d), (1, n), (9, 0), (0, A s 0), (0, x + 1), (0, t + 1), v_z], [], C_z) z) : Tm pmt (an_sh wX) o_X5_takeAway 84 ([(2, q), (2, s), (0, l), (2, d), (1, n), (9, 0), (0, A s 0), (0, f), (0, t), (0, x)], [], B) z := by
  obtain ⟨i2_z, i20, i21, i22, i23⟩ := tk_in hH t0 t1
  obtain ⟨hA, ⟨hq, hs, hd_z⟩, ⟨hw, hsd, hkg⟩, ss, ⟨sd_z, cd⟩, hl, ⟨hn, hy⟩, hR, hN_z, hsup, hlead, hz⟩ := hH
  have ls := fX_2_1 hA hs.1 hs.2
  have ld := fX_2_1 hA hd_z.1 hd_z.2
  have kA_z := fX_4_5 hA hq.1 hq.2
  have ns := fX_2_2 hA hs.1 hs.2
  have nd_z := fX_2_2 hA hd_z.1 hd_z.2
  have y1 : y.1 = n := by rw [hy]
  have es2 : B s 2 = A s 2 := hB.2 s 2 (knd hs.2 ns.2 (by decide)) (knd hs.2 kA_z.2 (by decide))
  have ed2 : B d 2 = A d 2 := hB.2 d 2 (knd hd_z.2 ns.2 (by decide)) (knd hd_z.2 kA_z.2 (by decide))
  have edn : B (A d 2) t = A (A d 2) t := hB.2 _ t (fun e_z => hsd.2.1 e_z.symm) (knd nd_z.2 kA_z.2 (by decide))
  have e1 : B (B d 2) t = A (A d 2) t := by rw [ed2, edn]
  have e2 : B (B s 2) x = B (A s 2) x := by rw [es2]
  have hle := shz_le (y := y) (A := A) (d := d) (R := R) (by omega) cd hR t0 (by omega) (xeX A s x)
  have hNx := hN_z x x0 x1
  have hnx := hnum x x0 x1
  have hb_z : 0 ≤ B (A s 2) x ∧ B (A s 2) x ≤ 1000000000000 := by omega
  refine wq_ok srt_takeAway (fr := []) (cuts := [12]) (J := fun pc st_z => pc = 12 ∧ st_z = ([(2, q), (2, s), (0, l), (2, d), (1, n), (9, 0), (0, A s 0), (0, x + 1), (0, t + 1), (0, x)], [], pm_upd B (B s 2) x (B (B s 2) x - n * B (B d 2) t))) ?_ 30 84 _ ?_
  · rintro pc st_z ⟨rfl, rfl⟩
    rw [e1, e2, es2]
    refine H _ _ ⟨⟨uX_14 hB.1 ns.2 (by omega) (by omega), fun r_z j_z a1_z a2 => by rw [upd_ne a1_z]; exact hB.2 r_z j_z a1_z a2⟩, fun i_z i0_z i1_z => ?_, ⟨by omega, by omega⟩, fun i_z u_z i0_z i1_z u0 u1_z => ?_⟩
    · rw [show (t + 1).toNat = t.toNat + 1 by omega, co_shz_snoc]
      have ef : fX A d t.toNat = (A (A d 2) t, xeX A d t) := by
        unfold fX
        rw [Int.toNat_of_nonneg t0]
      rw [ef]
      show _ = _ - (_ + si (y.1 * A (A d 2) t, smT A d y t) (xeX A s i_z))
      by_cases e_z : i_z = x
      · rw [e_z, upd_at, hx, si_at, hnum x x0 x1, hx, y1]
        omega
      · rw [upd_n2 e_z, hnum i_z i0_z i1_z]
        have hz2 : si (y.1 * A (A d 2) t, smT A d y t) (xeX A s i_z) = 0 := by
          refine Classical.byContradiction (fun hne => ?_)
          have h5 := si_ne hne
          rw [← hx] at h5
          by_cases h6 : i_z < x
          · have h7 := ss i_z x i0_z h6 x1
            rw [h5] at h7
            exact cr_Gt.irrefl _ h7
          · have h7 := ss x i_z x0 (by omega) i1_z
            rw [h5] at h7
            exact cr_Gt.irrefl _ h7
        rw [hz2]
        omega
    · have h7 : cr_Gt (smT A d y t) (smT A d y u_z) := gt_addl (sd_z t u_z t0 (by omega) u1_z) y.2
      by_cases e_z : i_z = x
      · rw [e_z, hx]; exact h7
      · have h8 := ss i_z x i0_z (by omega) x1
        rw [hx] at h8
        exact h8.trans h7
  · refine ⟨oX_2 hs.1 hs.2 2 rfl, ?_⟩
    refine ⟨aX_14 (by rw [es2]; exact ns.1) (by rw [es2]; exact ns.2) x0 (by omega), ?_⟩
    refine ⟨oX_2 hd_z.1 hd_z.2 2 rfl, ?_⟩
    refine ⟨aX_14 (by rw [ed2]; exact nd_z.1) (by rw [ed2]; exact nd_z.2) t0 (by omega), ?_⟩
    refine ⟨(show r64 (n * B (B d 2) t) by rw [e1]; exact ⟨by omega, by omega⟩), ?_⟩
    refine ⟨(show r64 (B (B s 2) x - n * B (B d 2) t) by rw [e1, e2]; exact ⟨by omega, by omega⟩), ?_⟩
    refine ⟨tX_14 (by rw [es2]; exact ns.1) (by rw [es2]; exact ns.2) x0 (by omega) rfl, ?_⟩
    refine ⟨⟨by omega, by omega⟩, ?_⟩
    refine ⟨⟨by omega, by omega⟩, ?_⟩
    exact ⟨rfl, rfl⟩
theorem tkx_12 {A : pm_A} {q s l d n : Int} {y : Int × cr_Xp 12} {R : cr_Pl_ 12} (hH : tkH2 A q s l d n y R) : ∀ (m_z : Nat) (t_z f_z : Int) (v_z : pm_V) (B_z : pm_A), (200 - t_z).toNat < m_z → 0 ≤ t_z → t_z ≤ A d 1 → tkI2 A B_z q s d y R t_z f_z → Tm pmt (an_sh wX) o_X5_takeAway 12 ([(2, q), (2, s), (0, l), (2, d), (1, n), (9, 0), (0, A s 0), (0, f_z), (0, t_z), v_z], [], B_z) (tkP2 A q s d R) := by
  have hH0 := hH
  obtain ⟨hA, ⟨hq, hs, hd_z⟩, ⟨hw, hsd, hkg⟩, ss, ⟨sd_z, cd⟩, hl, ⟨hn, hy⟩, hR, hN_z, hsup, hlead, hz⟩ := hH
  have w0_z := fX_2_0 hA hs.1 hs.2
  have ls := fX_2_1 hA hs.1 hs.2
  have ld := fX_2_1 hA hd_z.1 hd_z.2
  have kA_z := fX_4_5 hA hq.1 hq.2
  have ns := fX_2_2 hA hs.1 hs.2
  have ps_z := fX_2_3 hA hs.1 hs.2
  intro m_z
  induction m_z with
  | zero => intro t_z f_z v_z B_z h_z; omega
  | succ m_z ih_z =>
    intro t_z f_z v_z B_z hm_z t0_z t1_z hI
    obtain ⟨hB_z, hnum, hf, hgt⟩ := hI
    have ed1 : B_z d 1 = A d 1 := hB_z.2 d 1 (knd hd_z.2 ns.2 (by decide)) (knd hd_z.2 kA_z.2 (by decide))
    have es2 : B_z s 2 = A s 2 := hB_z.2 s 2 (knd hs.2 ns.2 (by decide)) (knd hs.2 kA_z.2 (by decide))
    refine wq_ok srt_takeAway (fr := []) (cuts := [24]) (J := fun pc st_z => pc = 24 ∧ t_z < A d 1 ∧ st_z = ([(2, q), (2, s), (0, l), (2, d), (1, n), (9, 0), (0, A s 0), (0, f_z), (0, t_z), (0, 0)], [], B_z)) ?_ 30 12 _ ?_
    · rintro pc st_z ⟨rfl, ht, rfl⟩
      refine tkx_24 hH0 t0_z ht hB_z (fun C_z v_z hC hCB hK_z => ?_) _ 0 B_z (Nat.lt_succ_self _) (by omega) w0_z.1 hB_z (fun _ _ _ => rfl) (fun u_z u0 u1_z => by omega)
      have cq5 : C_z q 5 = A q 5 := hC.2 q 5 (knd hq.2 ns.2 (by decide)) (knd hq.2 kA_z.2 (by decide))
      have cs : ∀ j_z : Int, C_z s j_z = A s j_z := fun j_z => hC.2 s j_z (knd hs.2 ns.2 (by decide)) (knd hs.2 kA_z.2 (by decide))
      have cp_z : ∀ j_z : Int, C_z (A s 3) j_z = A (A s 3) j_z := fun j_z => hC.2 _ j_z (knd ps_z.2 ns.2 (by decide)) (knd ps_z.2 kA_z.2 (by decide))
      have cx : ∀ i_z : Int, xeX C_z s i_z = xeX A s i_z := fun i_z => funext fun j_z => by
        show (if (j_z.1 : Int) < C_z s 0 then C_z (C_z s 3) (i_z * C_z s 0 + (j_z.1 : Int)) else 0) = if (j_z.1 : Int) < A s 0 then A (A s 3) (i_z * A s 0 + (j_z.1 : Int)) else 0
        rw [cs 0, cs 3, cp_z]
      have csr : srX C_z s := fun a_z b_z a0_z ab b1 => by
        rw [cs 1] at b1
        rw [cx a_z, cx b_z]
        exact ss a_z b_z a0_z ab b1
      refine wq_ok srt_takeAway (fr := []) (cuts := [84]) (J := fun pc st_z => pc = 84 ∧ ∃ x_z : Int, (0 ≤ x_z ∧ x_z < A s 1 ∧ xeX A s x_z = smT A d y t_z) ∧ st_z = ([(2, q), (2, s), (0, l), (2, d), (1, n), (9, 0), (0, A s 0), (0, f_z), (0, t_z), (0, x_z)], [], C_z)) ?_ 30 65 _ ?_
      · rintro pc st_z ⟨rfl, x_z, ⟨x0_z, x1_z, hx⟩, rfl⟩
        refine tkx_84 hH0 t0_z ht x0_z x1_z hx hC (fun i_z i0_z i1_z => ?_) (fun D_z v_z hD => ih_z (t_z + 1) (x_z + 1) v_z D_z (by omega) (by omega) (by omega) hD)
        rw [hCB _ i_z (knd ns.2 kA_z.2 (by decide))]
        exact hnum i_z i0_z i1_z
      · refine ⟨oX_4 hq.1 hq.2 5 rfl, ?_⟩
        refine ⟨rX_2 hs.1 hs.2, ?_⟩
        refine (find_ex (A := C_z) (s := s) (k := C_z q 5) (f := f_z) hC.1 ⟨hs, by rw [cq5]; exact kA_z⟩ csr hf.1 (by rw [cs 1]; exact hf.2) (fun a_z a0_z a1_z => ?_)).imp ?_
        · rw [cs 0, cq5, hK_z, cx a_z]
          exact hgt a_z t_z a0_z a1_z (by omega) ht
        · rintro ⟨r1_z, D_z⟩ ⟨g1, x_z, g2, g3_z⟩
          simp only at g1 g2 g3_z
          subst g1
          subst g2
          rw [cs 0, cs 1, cq5, hK_z, cx x_z] at g3_z
          have hx : 0 ≤ x_z ∧ x_z < A s 1 ∧ xeX A s x_z = smT A d y t_z := by
            rcases g3_z with h_z | ⟨lo_z, h_z, hp⟩
            · exact h_z
            · exfalso
              obtain ⟨i2_z, i20, i21, i22, _⟩ := tk_in hH0 t0_z ht
              obtain ⟨⟨p1_z, p2_z⟩, p3_z, p4_z⟩ := hp
              rw [cs 1] at p2_z p4_z
              by_cases e_z : i2_z < lo_z
              · have h8 := p3_z i2_z i20 e_z
                rw [cx i2_z, i22] at h8
                exact cr_Gt.irrefl _ h8
              · have h8 := p4_z i2_z (by omega) i21
                rw [cx i2_z, i22] at h8
                exact cr_Gt.irrefl _ h8
          refine ⟨fun _ => ?_, fun hh => absurd hx.1 (by omega)⟩
          exact ⟨rfl, x_z, hx, rfl⟩
    · refine ⟨oX_2 hd_z.1 hd_z.2 1 rfl, ?_⟩
      refine ⟨fun h_z => ?_, fun h_z => ?_⟩
      · rw [ed1] at h_z
        have et : t_z = A d 1 := by omega
        have hfin : ∀ i_z : Int, 0 ≤ i_z → i_z < A s 1 → B_z (A s 2) i_z = cr_co (cr_pmz R (LSx A d)) (xeX A s i_z) := fun i_z i0_z i1_z => by
          rw [hnum i_z i0_z i1_z, co_pmz_cons, et]
          show cr_co (cr_shz y (LSx A d)) (xeX A s i_z) + _ - cr_co (cr_shz y (LSx A d)) (xeX A s i_z) = _
          omega
        have hl0 : B_z (B_z s 2) l = 0 := by rw [es2, hfin l hl.1 hl.2]; exact hz
        refine ⟨oX_2 hs.1 hs.2 2 rfl, ?_⟩
        refine ⟨aX_14 (by rw [es2]; exact ns.1) (by rw [es2]; exact ns.2) hl.1 (by omega), ?_⟩
        refine ⟨fun h9 => absurd h9 (by omega), fun _ => ?_, fun h9 => absurd h9 (by omega)⟩
        refine ⟨fun hh => absurd rfl hh, fun _ => ?_⟩
        exact ⟨rfl, hB_z, rfl, hfin⟩
      · rw [ed1] at h_z
        exact ⟨rfl, h_z, rfl⟩
theorem takeAway_exX {A : pm_A} {q s l d n : Int} {y : Int × cr_Xp 12} {R : cr_Pl_ 12} (hH : tkH2 A q s l d n y R) : Cl pmt (an_sh wX) 48 [(2, q), (2, s), (0, l), (2, d), (1, n)] A (tkP2 A q s d R) := by
  have hH0 := hH
  obtain ⟨hA, ⟨hq, hs, hd_z⟩, ⟨hw, hsd, hkg⟩, ss, ⟨sd_z, cd⟩, hl, ⟨hn, hy⟩, hR, hN_z, hsup, hlead, hz⟩ := hH
  have ld := fX_2_1 hA hd_z.1 hd_z.2
  refine Cl.of (Nat.le_of_ble_eq_true rfl) ?_
  refine wq_ok (full := o_X5_takeAway) srt_takeAway (fr := []) (cuts := [12]) (J := fun pc st_z => pc = 12 ∧ ∃ v_z, st_z = ([(2, q), (2, s), (0, l), (2, d), (1, n), (9, 0), (0, A s 0), (0, l), (0, 0), v_z], [], A)) ?_ 20 0 _ ?_
  · rintro pc st_z ⟨rfl, v_z, rfl⟩
    refine tkx_12 hH0 _ 0 l v_z A (Nat.lt_succ_self _) (by omega) (by omega) ⟨⟨hA, fun _ _ _ _ => rfl⟩, fun i_z i0_z i1_z => ?_, ⟨hl.1, by omega⟩, fun i_z u_z i0_z i1_z u0 u1_z => ?_⟩
    · rw [(hN_z i_z i0_z i1_z).1]
      show _ = _ - (0 : Int)
      omega
    · have h8 := ss i_z l i0_z i1_z hl.2
      rw [hlead] at h8
      by_cases e_z : u_z = 0
      · rw [e_z]; exact h8
      · exact h8.trans (gt_addl (sd_z 0 u_z (by omega) (by omega) u1_z) y.2)
  · refine ⟨oX_2 hs.1 hs.2 0 rfl, ?_⟩
    exact ⟨rfl, _, rfl⟩
end

section
/-! the class's divide, exactly -/
def dvF2 (A B : pm_A) (q s : Int) : Prop := gH wX B ∧ (∀ r_z j_z : Int, ¬ r_z = A s 2 → ¬ r_z = A q 5 → ¬ r_z = A q 6 → ¬ r_z = A q 0 → ¬ r_z = A (A q 0) 2 → ¬ r_z = A (A q 0) 3 → B r_z j_z = A r_z j_z) ∧ B (A q 0) 2 = A (A q 0) 2 ∧ B (A q 0) 3 = A (A q 0) 3
def dvH2 (A : pm_A) (q s d : Int) (Q : cr_Pl_ 12) : Prop := gH wX A ∧ ((0 ≤ q ∧ wX.2 q = 4) ∧ (0 ≤ s ∧ wX.2 s = 2) ∧ (0 ≤ d ∧ wX.2 d = 2)) ∧ (A s 0 = A d 0 ∧ ¬ A q 5 = A q 6) ∧ (dsX A s d ∧ dsX A (A q 0) s ∧ dsX A (A q 0) d) ∧ (srX A s ∧ cfX A s ∧ xbX A s 325767420) ∧ (srX A d ∧ cfX A d ∧ 1 ≤ A d 1 ∧ xbX A d 1810) ∧ cr_Shr Q ∧ (∀ y_z ∈ Q, y_z.1 ≤ 1000000000000) ∧ Q.length ≤ 200 ∧ ∀ c_z, cr_co (LSx A s) c_z = cr_co (cr_pmz Q (LSx A d)) c_z
def dvP2 (A : pm_A) (q s : Int) (Q : cr_Pl_ 12) (r : pm_R) : Prop := dvF2 A r.2 q s ∧ r.1 = some (0, 1) ∧ r.2 (A q 0) 0 = A s 0 ∧ srX r.2 (A q 0) ∧ cfX r.2 (A q 0) ∧ ∀ c_z, cr_co (LSx r.2 (A q 0)) c_z = cr_co Q c_z
def dvI2 (A B : pm_A) (q s d : Int) (Q : cr_Pl_ 12) (l : Int) (n : Nat) : Prop := dvF2 A B q s ∧ (∀ t_z : Int, 0 ≤ t_z → t_z < A s 1 → B (A s 2) t_z = cr_co (cr_pmz (Q.drop n) (LSx A d)) (xeX A s t_z)) ∧ (∀ t_z : Int, 0 ≤ t_z → t_z < l → B (A s 2) t_z = 0) ∧ B (A q 0) 0 = A s 0 ∧ srX B (A q 0) ∧ cfX B (A q 0) ∧ ∀ c_z, cr_co (LSx B (A q 0)) c_z = cr_co (Q.take n) c_z
theorem dvF2.ob {A B : pm_A} {q s r : Int} {l : Nat} (h : dvF2 A B q s) (hA : gH wX A) (hq : 0 ≤ q ∧ wX.2 q = 4) (hs : 0 ≤ s ∧ wX.2 s = 2) (rk : wX.2 r = l) (n1 : ¬ l = 2) (n2 : ¬ l = 14) (n3 : ¬ l = 15) (n4 : ¬ l = 18) (j : Int) : B r j = A r j := by
  have F_z := fX_4_0 hA hq.1 hq.2
  exact h.2.1 r j (knd rk (fX_2_2 hA hs.1 hs.2).2 n2) (knd rk (fX_4_5 hA hq.1 hq.2).2 n4) (knd rk (fX_4_6 hA hq.1 hq.2).2 n4) (knd rk F_z.2 n1) (knd rk (fX_2_2 hA F_z.1 F_z.2).2 n2) (knd rk (fX_2_3 hA F_z.1 F_z.2).2 n3)
theorem dvF2.sh {A B : pm_A} {q s a : Int} (h : dvF2 A B q s) (hA : gH wX A) (hq : 0 ≤ q ∧ wX.2 q = 4) (hs : 0 ≤ s ∧ wX.2 s = 2) (ha : 0 ≤ a ∧ wX.2 a = 2) (hF : dsX A (A q 0) a) : (∀ j_z, B a j_z = A a j_z) ∧ ∀ j_z, B (A a 3) j_z = A (A a 3) j_z := by
  have F_z := fX_4_0 hA hq.1 hq.2
  have a3 := fX_2_3 hA ha.1 ha.2
  refine ⟨fun j_z => ?_, fun j_z => ?_⟩
  · exact h.2.1 a j_z (knd ha.2 (fX_2_2 hA hs.1 hs.2).2 (by decide)) (knd ha.2 (fX_4_5 hA hq.1 hq.2).2 (by decide)) (knd ha.2 (fX_4_6 hA hq.1 hq.2).2 (by decide)) (fun e_z => hF.1 e_z.symm) (knd ha.2 (fX_2_2 hA F_z.1 F_z.2).2 (by decide)) (knd ha.2 (fX_2_3 hA F_z.1 F_z.2).2 (by decide))
  · exact h.2.1 _ j_z (knd a3.2 (fX_2_2 hA hs.1 hs.2).2 (by decide)) (knd a3.2 (fX_4_5 hA hq.1 hq.2).2 (by decide)) (knd a3.2 (fX_4_6 hA hq.1 hq.2).2 (by decide)) (knd a3.2 F_z.2 (by decide)) (knd a3.2 (fX_2_2 hA F_z.1 F_z.2).2 (by decide)) (fun e_z => hF.2.2 e_z.symm)
theorem dvF2.dd {A B : pm_A} {q s d : Int} (h : dvF2 A B q s) (hA : gH wX A) (hq : 0 ≤ q ∧ wX.2 q = 4) (hs : 0 ≤ s ∧ wX.2 s = 2) (hd : 0 ≤ d ∧ wX.2 d = 2) (hsd : dsX A s d) (hF : dsX A (A q 0) d) : sme A B d := by
  have F_z := fX_4_0 hA hq.1 hq.2
  have d2_z := fX_2_2 hA hd.1 hd.2
  obtain ⟨h1, h2⟩ := h.sh hA hq hs hd hF
  refine ⟨h1, fun j_z => ?_, h2⟩
  exact h.2.1 _ j_z (fun e_z => hsd.2.1 e_z.symm) (knd d2_z.2 (fX_4_5 hA hq.1 hq.2).2 (by decide)) (knd d2_z.2 (fX_4_6 hA hq.1 hq.2).2 (by decide)) (knd d2_z.2 F_z.2 (by decide)) (fun e_z => hF.2.1 e_z.symm) (knd d2_z.2 (fX_2_3 hA F_z.1 F_z.2).2 (by decide))
theorem xe_of {A B : pm_A} {s : Int} (h1 : ∀ j_z, B s j_z = A s j_z) (h2 : ∀ j_z, B (A s 3) j_z = A (A s 3) j_z) (i : Int) : xeX B s i = xeX A s i := funext fun j_z => by
  show (if (j_z.1 : Int) < B s 0 then B (B s 3) (i * B s 0 + (j_z.1 : Int)) else 0) = if (j_z.1 : Int) < A s 0 then A (A s 3) (i * A s 0 + (j_z.1 : Int)) else 0
  rw [h1 0, h1 3, h2]
theorem dv_sup {A : pm_A} {q s d : Int} {Q : cr_Pl_ 12} (h : dvH2 A q s d Q) (n : Nat) : (∀ w_z ∈ Q.drop n, 0 < w_z.1) ∧ (∀ a_z, 0 ≤ cr_co (cr_pmz (Q.drop n) (LSx A d)) a_z ∧ cr_co (cr_pmz (Q.drop n) (LSx A d)) a_z ≤ cr_co (LSx A s) a_z) ∧ ∀ a_z, ¬ cr_co (cr_pmz (Q.drop n) (LSx A d)) a_z = 0 → ∃ t_z : Int, 0 ≤ t_z ∧ t_z < A s 1 ∧ xeX A s t_z = a_z := by
  obtain ⟨hA, hk, hw, hds, ⟨ss, cs, xs⟩, ⟨sd_z, cd, ld1, xd⟩, hQ, hQ1, hQ2, hQL⟩ := h
  have hp : ∀ w_z ∈ Q.drop n, 0 < w_z.1 := fun w_z hw => hQ.2 w_z (List.mem_of_mem_drop hw)
  have hpt : ∀ w_z ∈ Q.take n, 0 < w_z.1 := fun w_z hw => hQ.2 w_z (List.mem_of_mem_take hw)
  have hb_z : ∀ a_z, 0 ≤ cr_co (cr_pmz (Q.drop n) (LSx A d)) a_z ∧ cr_co (cr_pmz (Q.drop n) (LSx A d)) a_z ≤ cr_co (LSx A s) a_z := fun a_z => by
    have h1 := cr_Shr.nonneg (pmz_pos hp (posX cd)) a_z
    have h2 := cr_Shr.nonneg (pmz_pos hpt (posX cd)) a_z
    have h3 : cr_pmz Q (LSx A d) = cr_pmz (Q.take n) (LSx A d) ++ cr_pmz (Q.drop n) (LSx A d) := by
      unfold cr_pmz
      rw [← List.flatMap_append, List.take_append_drop]
    rw [hQL a_z, h3, cr_co_app]
    omega
  refine ⟨hp, hb_z, fun a_z ha_z => ?_⟩
  have h4 := hb_z a_z
  obtain ⟨y_z, hy, ey⟩ := cr_co_mem (l := LSx A s) (a := a_z) (by omega)
  obtain ⟨t_z, t0_z, t1_z, rfl⟩ := memX hy
  exact ⟨t_z, t0_z, t1_z, ey⟩
theorem co_at {A : pm_A} {s t : Int} (hs : srX A s) (hc : cfX A s) (t0 : 0 ≤ t) (t1 : t < A s 1) : cr_co (LSx A s) (xeX A s t) = A (A s 2) t :=
  (shrX hs (fun i_z i0_z i1_z => (hc i_z i0_z i1_z).1)).at (inX t0 t1)
theorem dv_lead {A : pm_A} {q s d l : Int} {Q R : cr_Pl_ 12} {y : Int × cr_Xp 12} {n : Nat} (h : dvH2 A q s d Q) (hn : Q.drop n = y :: R) (l0 : 0 ≤ l) (l1 : l < A s 1) (hl : ¬ cr_co (cr_pmz (Q.drop n) (LSx A d)) (xeX A s l) = 0) (hz : ∀ t_z : Int, 0 ≤ t_z → t_z < l → cr_co (cr_pmz (Q.drop n) (LSx A d)) (xeX A s t_z) = 0) : xeX A s l = smT A d y 0 ∧ cr_co (cr_pmz (y :: R) (LSx A d)) (xeX A s l) = y.1 * A (A d 2) 0 ∧ cr_co (cr_pmz R (LSx A d)) (xeX A s l) = 0 := by
  obtain ⟨hp, hb_z, hsup⟩ := dv_sup h n
  obtain ⟨hA, hk, hw, hds, ⟨ss, cs, xs⟩, ⟨sd_z, cd, ld1, xd⟩, hQ, hQ1, hQ2, hQL⟩ := h
  have hyR : cr_Shr (y :: R) := by
    rw [← hn]
    exact ⟨hQ.1.sublist (List.drop_sublist n Q), hp⟩
  have hd0 := hdX sd_z ld1
  have hLs := shrX sd_z (fun i_z i0_z i1_z => (cd i_z i0_z i1_z).1)
  have htop := lead_co hyR hLs hd0
  rw [hn] at hl hz hb_z hsup
  have hy1 := hyR.2 y (List.Mem.head _)
  have hc0 := (cd 0 (by omega) (by omega)).1
  have htp : 0 < y.1 * A (A d 2) 0 := Int.mul_pos hy1 (by omega)
  have e0_z : xeX A s l = smT A d y 0 := by
    obtain ⟨t_z, t0_z, t1_z, et⟩ := hsup (fun i_z => y.2 i_z + (xeX A d 0) i_z) (by
      intro e_z
      have h9 : cr_co (cr_pmz (y :: R) (LSx A d)) (fun i_z => y.2 i_z + (xeX A d 0) i_z) = y.1 * A (A d 2) 0 := htop
      omega)
    by_cases e1 : t_z < l
    · have h9 := hz t_z t0_z e1
      rw [et] at h9
      have h8 : cr_co (cr_pmz (y :: R) (LSx A d)) (fun i_z => y.2 i_z + (xeX A d 0) i_z) = y.1 * A (A d 2) 0 := htop
      omega
    · by_cases e2 : t_z = l
      · rw [← e2]; exact et
      · exfalso
        have h9 := ss l t_z l0 (by omega) t1_z
        rw [et] at h9
        obtain ⟨w_z, hw, ew⟩ := cr_co_mem hl
        have h10 := lead_le hyR hd0 w_z hw
        rw [ew] at h10
        rcases h10 with h11 | h11
        · rw [h11] at h9
          exact cr_Gt.irrefl _ h9
        · exact h9.asymm h11
  have h12 : xeX A s l = fun i_z => y.2 i_z + (xeX A d 0) i_z := e0_z
  refine ⟨e0_z, ?_, ?_⟩
  · rw [h12]; exact htop
  · rw [h12]; exact lead_zero hyR hd0
theorem take_snoc {α : Type} {Q R : List α} {y : α} {n : Nat} (h : Q.drop n = y :: R) : Q.take (n + 1) = Q.take n ++ [y] ∧ Q.drop (n + 1) = R := by
  have hl : n < Q.length := by
    have := congrArg List.length h
    rw [List.length_drop, List.length_cons] at this
    omega
  have h1 := List.drop_eq_getElem_cons hl
  rw [h] at h1
  have h2 := List.cons.inj h1
  refine ⟨?_, h2.2.symm⟩
  rw [List.take_succ_eq_append_getElem hl, h2.1]
theorem dvx_102 {A B : pm_A} {q s d l : Int} {Q R : cr_Pl_ 12} {y : Int × cr_Xp 12} {n : Nat} {v5 v6 : pm_V} (hH : dvH2 A q s d Q) (l0 : 0 ≤ l) (l1 : l < A s 1) (hn : Q.drop n = y :: R) (hI : dvI2 A B q s d Q l n) (hl : ¬ B (A s 2) l = 0) (hgap : xkX B (A s 0) (A q 6) = y.2) (H : ∀ (C_z : pm_A) (v5 v6 : pm_V), dvI2 A C_z q s d Q (l + 1) (n + 1) → Tm pmt (an_sh wX) o_X5_divide 36 ([(2, q), (2, s), (2, d), (0, A s 0), (0, l + 1), v5, v6], [], C_z) (dvP2 A q s Q)) : Tm pmt (an_sh wX) o_X5_divide 102 ([(2, q), (2, s), (2, d), (0, A s 0), (0, l), v5, v6], [], B) (dvP2 A q s Q) := by
  have hH0 := hH
  obtain ⟨hp, hbd, hsup⟩ := dv_sup hH0 n
  obtain ⟨hA, ⟨hq, hs, hd_z⟩, ⟨hw, hkg⟩, ⟨hsd, hFs, hFd⟩, ⟨ss, cs, xs⟩, ⟨sd_z, cd, ld1, xd⟩, hQ, hQ1, hQ2, hQL⟩ := hH
  obtain ⟨hF, hnum, hz0, f0_z, fs, fc_z, fco⟩ := hI
  have hld := dv_lead hH0 hn l0 l1 (by rw [← hnum l l0 l1]; exact hl) (fun t_z t0_z t1_z => by rw [← hnum t_z t0_z (by omega)]; exact hz0 t_z t0_z t1_z)
  obtain ⟨hl1, hl2, hl3⟩ := hld
  have FA := fX_4_0 hA hq.1 hq.2
  have kA_z := fX_4_5 hA hq.1 hq.2
  have gA := fX_4_6 hA hq.1 hq.2
  have ns := fX_2_2 hA hs.1 hs.2
  have nd_z := fX_2_2 hA hd_z.1 hd_z.2
  have nF := fX_2_2 hA FA.1 FA.2
  have pF := fX_2_3 hA FA.1 FA.2
  have ls := fX_2_1 hA hs.1 hs.2
  have lF := fX_2_1 hF.1 FA.1 FA.2
  have sme_d := hF.dd hA hq hs hd_z hsd hFd
  obtain ⟨es, eps⟩ := hF.sh hA hq hs hs hFs
  have eq : ∀ j_z : Int, B q j_z = A q j_z := fun j_z => hF.ob hA hq hs hq.2 (by decide) (by decide) (by decide) (by decide) j_z
  have hyR : cr_Shr (y :: R) := by
    rw [← hn]
    exact ⟨hQ.1.sublist (List.drop_sublist n Q), hp⟩
  have hy1 := hyR.2 y (List.Mem.head _)
  have hyQ : y ∈ Q := List.mem_of_mem_drop (i := n) (by rw [hn]; exact List.Mem.head _)
  have hy2 := hQ1 y hyQ
  have hc0 := cd 0 (by omega) (by omega)
  have enl : B (B s 2) l = y.1 * A (A d 2) 0 := by rw [es 2, hnum l l0 l1, hn]; exact hl2
  have ed0 : B (B d 2) 0 = A (A d 2) 0 := by rw [sme_d.1 2, sme_d.2.1]
  have hle : y.1 * A (A d 2) 0 ≤ 1000000000000 := by
    have h5 := hbd (xeX A s l)
    rw [co_at ss cs l0 l1, hn, hl2] at h5
    have := (cs l l0 l1).2
    omega
  have hge : 0 < y.1 * A (A d 2) 0 := Int.mul_pos hy1 (by omega)
  have ediv : Int.tdiv (B (B s 2) l) (B (B d 2) 0) = y.1 := by rw [enl, ed0]; exact Int.mul_tdiv_cancel _ (by omega)
  obtain ⟨tk1, tk2⟩ := take_snoc hn
  have hfr : cr_Shr (Q.take n) := ⟨hQ.1.sublist (List.take_sublist n Q), fun w_z hw => hQ.2 w_z (List.mem_of_mem_take hw)⟩
  have hfl : LSx B (A q 0) = Q.take n := cr_Shr.eq (shrX fs (fun i_z i0_z i1_z => (fc_z i_z i0_z i1_z).1)) hfr fco
  have hgt : ∀ i_z : Int, 0 ≤ i_z → i_z < B (A q 0) 1 → cr_Gt (xeX B (A q 0) i_z) y.2 := fun i_z i0_z i1_z => by
    have hm_z := inX (A := B) (s := A q 0) i0_z i1_z
    rw [hfl] at hm_z
    have h7 := hQ.1
    rw [← List.take_append_drop n Q, hn] at h7
    exact (List.pairwise_append.1 h7).2.2 _ hm_z y (List.Mem.head _)
  refine wq_ok srt_divide (fr := []) (cuts := [142]) (J := fun pc st_z => pc = 142 ∧ ∃ C_z, axF B C_z (A q 0) ∧ srX C_z (A q 0) ∧ cfX C_z (A q 0) ∧ (∀ a_z, cr_co (LSx C_z (A q 0)) a_z = cr_co (Q.take (n + 1)) a_z) ∧ st_z = ([(2, q), (2, s), (2, d), (0, A s 0), (0, l), (1, y.1), (9, 0)], [], C_z)) ?_ 40 102 _ ?_
  · rintro pc st_z ⟨rfl, C_z, ⟨c1_z, ⟨c2_z, c3_z, c4_z⟩, c5_z⟩, c6_z, c7_z, c8_z, rfl⟩
    have cF : dvF2 A C_z q s := by
      refine ⟨c1_z, fun r_z j_z a1_z a2 a3 a4 a5 a6 => ?_, by rw [c3_z]; exact hF.2.2.1, by rw [c4_z]; exact hF.2.2.2⟩
      rw [c5_z r_z j_z a4 (by rw [hF.2.2.1]; exact a5) (by rw [hF.2.2.2]; exact a6)]
      exact hF.2.1 r_z j_z a1_z a2 a3 a4 a5 a6
    have cout : ∀ r_z j_z : Int, ¬ r_z = A q 0 → ¬ r_z = A (A q 0) 2 → ¬ r_z = A (A q 0) 3 → C_z r_z j_z = B r_z j_z := fun r_z j_z a1_z a2 a3 => c5_z r_z j_z a1_z (by rw [hF.2.2.1]; exact a2) (by rw [hF.2.2.2]; exact a3)
    have smd : sme A C_z d := cF.dd hA hq hs hd_z hsd hFd
    obtain ⟨cs1, cs3⟩ := cF.sh hA hq hs hs hFs
    have cxe : ∀ i_z : Int, xeX C_z s i_z = xeX A s i_z := xe_of cs1 cs3
    have cq : ∀ j_z : Int, C_z q j_z = A q j_z := fun j_z => cF.ob hA hq hs hq.2 (by decide) (by decide) (by decide) (by decide) j_z
    have cgap : ∀ j_z : Int, C_z (A q 6) j_z = B (A q 6) j_z := fun j_z => cout _ j_z (knd gA.2 FA.2 (by decide)) (knd gA.2 nF.2 (by decide)) (knd gA.2 pF.2 (by decide))
    have cnum : ∀ t_z : Int, C_z (A s 2) t_z = B (A s 2) t_z := fun t_z => cout _ t_z (knd ns.2 FA.2 (by decide)) (fun e_z => hFs.2.1 e_z.symm) (knd ns.2 pF.2 (by decide))
    have hT_z : tkH2 C_z q s l d y.1 y R := by
      refine ⟨c1_z, ⟨hq, hs, hd_z⟩, ⟨by rw [cs1 0, smd.1 0]; exact hw, ⟨hsd.1, by rw [cs1 2, smd.1 2]; exact hsd.2.1, by rw [cs1 3, smd.1 3]; exact hsd.2.2⟩, by rw [cq 5, cq 6]; exact hkg⟩, fun a_z b_z a0_z ab b1 => ?_, ⟨smd.sr sd_z, smd.cf cd⟩, ⟨l0, by rw [cs1 1]; exact l1⟩, ⟨by omega, ?_⟩, fun w_z hw => hyR.2 w_z (List.Mem.tail _ hw), fun t_z t0_z t1_z => ?_, fun a_z ha_z => ?_, ?_, ?_⟩
      · rw [cs1 1] at b1
        rw [cxe a_z, cxe b_z]
        exact ss a_z b_z a0_z ab b1
      · have h8 : xkX C_z (C_z s 0) (C_z q 6) = y.2 := by
          rw [← hgap, cs1 0, cq 6]
          exact funext fun j_z => by
            show (if (j_z.1 : Int) < A s 0 then C_z (A q 6) (j_z.1 : Int) else 0) = if (j_z.1 : Int) < A s 0 then B (A q 6) (j_z.1 : Int) else 0
            rw [cgap]
        rw [h8]
      · rw [cs1 1] at t1_z
        rw [smd.ls, cxe t_z, cs1 2, cnum t_z, hnum t_z t0_z t1_z, hn]
        have h9 := hbd (xeX A s t_z)
        rw [co_at ss cs t0_z t1_z, hn] at h9
        have := (cs t_z t0_z t1_z).2
        exact ⟨rfl, by omega⟩
      · rw [smd.ls, ← hn] at ha_z
        obtain ⟨t_z, t0_z, t1_z, et⟩ := hsup a_z ha_z
        exact ⟨t_z, t0_z, by rw [cs1 1]; exact t1_z, by rw [cxe t_z]; exact et⟩
      · rw [cxe l, hl1]
        exact funext fun j_z => by
          show y.2 j_z + xeX A d 0 j_z = y.2 j_z + xeX C_z d 0 j_z
          rw [smd.xe 0]
      · rw [smd.ls, cxe l]; exact hl3
    refine wq_ok srt_divide (fr := []) (cuts := [36]) (J := fun pc st_z => pc = 36 ∧ ∃ D_z, tkP2 C_z q s d R (some (0, 1), D_z) ∧ st_z = ([(2, q), (2, s), (2, d), (0, A s 0), (0, l + 1), (1, y.1), (9, 0)], [], D_z)) ?_ 40 142 _ ?_
    · rintro pc st_z ⟨rfl, D_z, ⟨⟨d1_z, d2_z⟩, _, d3_z⟩, rfl⟩
      simp only at d1_z d2_z d3_z
      rw [cs1 2, cq 5] at d2_z
      have dFe : ∀ j_z : Int, D_z (A q 0) j_z = C_z (A q 0) j_z := fun j_z => d2_z _ j_z (knd FA.2 ns.2 (by decide)) (knd FA.2 kA_z.2 (by decide))
      have dF_z : dvF2 A D_z q s := by
        refine ⟨d1_z, fun r_z j_z a1_z a2 a3 a4 a5 a6 => ?_, ?_, ?_⟩
        · rw [d2_z r_z j_z a1_z a2]; exact cF.2.1 r_z j_z a1_z a2 a3 a4 a5 a6
        · rw [dFe 2]; exact cF.2.2.1
        · rw [dFe 3]; exact cF.2.2.2
      have dsm : sme C_z D_z (A q 0) := ⟨dFe, fun j_z => d2_z _ j_z (by rw [cF.2.2.1]; exact hFs.2.1) (by rw [cF.2.2.1]; exact knd nF.2 kA_z.2 (by decide)), fun j_z => d2_z _ j_z (by rw [cF.2.2.2]; exact knd pF.2 ns.2 (by decide)) (by rw [cF.2.2.2]; exact knd pF.2 kA_z.2 (by decide))⟩
      have dnum : ∀ t_z : Int, 0 ≤ t_z → t_z < A s 1 → D_z (A s 2) t_z = cr_co (cr_pmz R (LSx A d)) (xeX A s t_z) := fun t_z t0_z t1_z => by
        have h9 := d3_z t_z t0_z (by rw [cs1 1]; exact t1_z)
        rw [cs1 2, smd.ls, cxe t_z] at h9
        exact h9
      refine H D_z _ _ ⟨dF_z, fun t_z t0_z t1_z => by rw [tk2]; exact dnum t_z t0_z t1_z, fun t_z t0_z t1_z => ?_, by rw [dFe 0, c2_z]; exact f0_z, dsm.sr c6_z, dsm.cf c7_z, fun c_z => by rw [dsm.ls]; exact c8_z c_z⟩
      rw [dnum t_z t0_z (by omega)]
      by_cases e_z : t_z = l
      · rw [e_z]; exact hl3
      · have h9 := hz0 t_z t0_z (by omega)
        rw [hnum t_z t0_z (by omega), hn, co_pmz_cons] at h9
        have h10 := shz_le (y := y) (A := A) (d := d) (R := R) hy1 cd (fun w_z hw => hyR.2 w_z (List.Mem.tail _ hw)) (t := A d 1) (by omega) (by omega) (xeX A s t_z)
        have h11 := cr_Shr.nonneg (l := cr_pmz R (LSx A d)) (pmz_pos (fun w_z hw => hyR.2 w_z (List.Mem.tail _ hw)) (posX cd)) (xeX A s t_z)
        have h12 : cr_co (cr_shz y (lsf (A d 1).toNat (fX A d))) (xeX A s t_z) = cr_co (cr_shz y (LSx A d)) (xeX A s t_z) := rfl
        rw [h12] at h10
        omega
    · refine ⟨rX_4 hq.1 hq.2, ?_⟩
      refine (takeAway_exX hT_z).imp ?_
      rintro ⟨r1_z, D_z⟩ hD
      have hr1 : r1_z = some (0, 1) := hD.2.1
      subst hr1
      refine ⟨fun _ => ?_, fun hh => absurd hh (by decide)⟩
      refine ⟨⟨by omega, by omega⟩, ?_⟩
      exact ⟨rfl, D_z, hD, rfl⟩
  · refine ⟨oX_2 hs.1 hs.2 2 rfl, ?_⟩
    refine ⟨aX_14 (by rw [es 2]; exact ns.1) (by rw [es 2]; exact ns.2) l0 (by omega), ?_⟩
    refine ⟨oX_2 hd_z.1 hd_z.2 2 rfl, ?_⟩
    refine ⟨aX_14 (by rw [sme_d.1 2]; exact nd_z.1) (by rw [sme_d.1 2]; exact nd_z.2) (by omega) (by omega), ?_⟩
    refine ⟨⟨by omega, ⟨by omega, by omega⟩, ⟨by omega, by omega⟩, fun _ => by omega⟩, ?_⟩
    refine ⟨oX_4 hq.1 hq.2 0 rfl, ?_⟩
    refine ⟨oX_4 hq.1 hq.2 6 rfl, ?_⟩
    refine ⟨oX_4 hq.1 hq.2 0 rfl, ?_⟩
    refine ⟨oX_2 (by rw [eq 0]; exact FA.1) (by rw [eq 0]; exact FA.2) 1 rfl, ?_⟩
    refine ⟨rX_2 (by rw [eq 0]; exact FA.1) (by rw [eq 0]; exact FA.2), ?_⟩
    have hadd : Cl pmt (an_sh wX) 73 [(2, B q 0), (2, B q 6), (1, Int.tdiv (B (B s 2) l) (B (B d 2) 0)), (0, B (B q 0) 1)] B (ax_post B (A q 0) y.1 y.2) := by
      rw [eq 0, eq 6, ediv]
      have h9 := add_exX (A := B) (s := A q 0) (k := A q 6) (n := y.1) (f := B (A q 0) 1) hF.1 ⟨FA, gA⟩ fs fc_z ⟨by omega, hy2⟩ lF.1 (by omega) (fun i_z i0_z i1_z => by rw [f0_z, hgap]; exact hgt i_z i0_z i1_z)
      rw [f0_z, hgap] at h9
      exact h9
    refine hadd.imp ?_
    rintro ⟨r1_z, C_z⟩ ⟨f1_z, f6_z⟩
    simp only at f1_z f6_z
    have htk : ∀ a_z, cr_co (LSx B (A q 0)) a_z + si (y.1, y.2) a_z = cr_co (Q.take (n + 1)) a_z := fun a_z => by
      rw [tk1, co_snoc, fco a_z]
    rcases f6_z with ⟨rfl, f7_z⟩ | ⟨z_z, rfl, ⟨z0, z1, z2⟩, z3, z4, z5⟩
    · exfalso
      have h9 : cr_Shr (Q.take (n + 1)) := ⟨hQ.1.sublist (List.take_sublist _ Q), fun w_z hw => hQ.2 w_z (List.mem_of_mem_take hw)⟩
      refine not_big h9 (fun w_z hw => hQ1 w_z (List.mem_of_mem_take hw)) (by rw [List.length_take]; omega) (f7_z.mono (fun a_z => ?_))
      rw [htk a_z]
      exact Int.le_refl _
    · refine ⟨fun hh => absurd hh (by omega), fun _ => ?_⟩
      rw [ediv]
      exact ⟨rfl, C_z, f1_z, z3, z4, fun a_z => by rw [z5 a_z]; exact htk a_z, rfl⟩
theorem dvx_63 {A : pm_A} {q s d l : Int} {Q R : cr_Pl_ 12} {y : Int × cr_Xp 12} {n : Nat} (hH : dvH2 A q s d Q) (l0 : 0 ≤ l) (l1 : l < A s 1) (hn : Q.drop n = y :: R) (hlead : xeX A s l = smT A d y 0) (H : ∀ (C_z : pm_A) (v5 v6 : pm_V), dvI2 A C_z q s d Q (l + 1) (n + 1) → Tm pmt (an_sh wX) o_X5_divide 36 ([(2, q), (2, s), (2, d), (0, A s 0), (0, l + 1), v5, v6], [], C_z) (dvP2 A q s Q)) : ∀ (m_z : Nat) (v_z : Int) (v6 : pm_V) (B_z : pm_A), (12 - v_z).toNat < m_z → 0 ≤ v_z → v_z ≤ A s 0 → dvI2 A B_z q s d Q l n → (¬ B_z (A s 2) l = 0) → (∀ u_z : Int, 0 ≤ u_z → u_z < v_z → B_z (A q 6) u_z = A (A s 3) (l * A s 0 + u_z) - A (A d 3) u_z) → Tm pmt (an_sh wX) o_X5_divide 63 ([(2, q), (2, s), (2, d), (0, A s 0), (0, l), (0, v_z), v6], [], B_z) (dvP2 A q s Q) := by
  have hH0 := hH
  obtain ⟨hA, ⟨hq, hs, hd_z⟩, ⟨hw, hkg⟩, ⟨hsd, hFs, hFd⟩, ⟨ss, cs, xs⟩, ⟨sd_z, cd, ld1, xd⟩, hQ, hQ1, hQ2, hQL⟩ := hH
  have FA := fX_4_0 hA hq.1 hq.2
  have kA_z := fX_4_5 hA hq.1 hq.2
  have gA := fX_4_6 hA hq.1 hq.2
  have ns := fX_2_2 hA hs.1 hs.2
  have ps_z := fX_2_3 hA hs.1 hs.2
  have pd := fX_2_3 hA hd_z.1 hd_z.2
  have nF := fX_2_2 hA FA.1 FA.2
  have pF := fX_2_3 hA FA.1 FA.2
  have ls := fX_2_1 hA hs.1 hs.2
  have w0_z := fX_2_0 hA hs.1 hs.2
  intro m_z
  induction m_z with
  | zero => intro v_z v6 B_z h_z; omega
  | succ m_z ih_z =>
    intro v_z v6 B_z hm_z v0_z v1_z hI hnz hgap
    have hI0 := hI
    obtain ⟨hF, hnum, hz0, f0_z, fs, fc_z, fco⟩ := hI
    have sd' := hF.dd hA hq hs hd_z hsd hFd
    obtain ⟨es, eps⟩ := hF.sh hA hq hs hs hFs
    have eq : ∀ j_z : Int, B_z q j_z = A q j_z := fun j_z => hF.ob hA hq hs hq.2 (by decide) (by decide) (by decide) (by decide) j_z
    have e1 : B_z (B_z s 3) (l * A s 0 + v_z) = A (A s 3) (l * A s 0 + v_z) := by rw [es 3]; exact eps _
    have e2 : B_z (B_z d 3) v_z = A (A d 3) v_z := by rw [sd'.1 3]; exact sd'.2.2 v_z
    have hb_z : v_z < A s 0 → (-325767420 ≤ A (A s 3) (l * A s 0 + v_z) ∧ A (A s 3) (l * A s 0 + v_z) ≤ 325767420) ∧ (-1810 ≤ A (A d 3) v_z ∧ A (A d 3) v_z ≤ 1810) := fun h_z => by
      have h1 := xs l v_z l0 l1 v0_z h_z
      have h2 := xd 0 v_z (by omega) (by omega) v0_z (by omega)
      rw [Int.zero_mul, Int.zero_add] at h2
      exact ⟨h1, h2⟩
    refine wq_ok srt_divide (fr := []) (cuts := [63, 102]) (J := fun pc st_z => (pc = 102 ∧ v_z = A s 0 ∧ st_z = ([(2, q), (2, s), (2, d), (0, A s 0), (0, l), (0, v_z), v6], [], B_z)) ∨ (pc = 63 ∧ v_z < A s 0 ∧ st_z = ([(2, q), (2, s), (2, d), (0, A s 0), (0, l), (0, v_z + 1), v6], [], pm_upd B_z (B_z q 6) v_z (B_z (B_z s 3) (l * A s 0 + v_z) - B_z (B_z d 3) v_z)))) ?_ 30 63 _ ?_
    · rintro pc st_z (⟨rfl, hv, rfl⟩ | ⟨rfl, hv, rfl⟩)
      · refine dvx_102 hH0 l0 l1 hn hI0 hnz (funext fun j_z => ?_) H
        show (if (j_z.1 : Int) < A s 0 then B_z (A q 6) (j_z.1 : Int) else 0) = y.2 j_z
        have e_z := congrFun hlead j_z
        have e3 : (if (j_z.1 : Int) < A s 0 then A (A s 3) (l * A s 0 + (j_z.1 : Int)) else 0) = y.2 j_z + (if (j_z.1 : Int) < A d 0 then A (A d 3) (0 * A d 0 + (j_z.1 : Int)) else 0) := e_z
        rw [← hw, Int.zero_mul, Int.zero_add] at e3
        by_cases h5 : (j_z.1 : Int) < A s 0
        · rw [if_pos h5, if_pos h5] at e3
          rw [if_pos h5, hgap j_z.1 (by omega) (by omega), e3]
          omega
        · rw [if_neg h5, if_neg h5] at e3
          rw [if_neg h5]
          omega
      · rw [e1, e2, eq 6]
        obtain ⟨b1, b2⟩ := hb_z hv
        have hup : ∀ r_z j_z : Int, ¬ r_z = A q 6 → pm_upd B_z (A q 6) v_z (A (A s 3) (l * A s 0 + v_z) - A (A d 3) v_z) r_z j_z = B_z r_z j_z := fun r_z j_z h_z => upd_ne h_z
        have hsm : sme B_z (pm_upd B_z (A q 6) v_z (A (A s 3) (l * A s 0 + v_z) - A (A d 3) v_z)) (A q 0) := ⟨fun j_z => hup _ j_z (knd FA.2 gA.2 (by decide)), fun j_z => hup _ j_z (by rw [hF.2.2.1]; exact knd nF.2 gA.2 (by decide)), fun j_z => hup _ j_z (by rw [hF.2.2.2]; exact knd pF.2 gA.2 (by decide))⟩
        have hnn_z : ∀ t_z : Int, pm_upd B_z (A q 6) v_z (A (A s 3) (l * A s 0 + v_z) - A (A d 3) v_z) (A s 2) t_z = B_z (A s 2) t_z := fun t_z => hup _ t_z (knd ns.2 gA.2 (by decide))
        refine ih_z (v_z + 1) _ _ (by omega) (by omega) (by omega) ⟨⟨uX_18 hF.1 gA.2 (by omega) (by omega), fun r_z j_z a1_z a2 a3 a4 a5 a6 => by rw [hup r_z j_z a3]; exact hF.2.1 r_z j_z a1_z a2 a3 a4 a5 a6, by rw [hsm.1 2]; exact hF.2.2.1, by rw [hsm.1 3]; exact hF.2.2.2⟩, fun t_z t0_z t1_z => by rw [hnn_z t_z]; exact hnum t_z t0_z t1_z, fun t_z t0_z t1_z => by rw [hnn_z t_z]; exact hz0 t_z t0_z t1_z, by rw [hsm.1 0]; exact f0_z, hsm.sr fs, hsm.cf fc_z, fun c_z => by rw [hsm.ls]; exact fco c_z⟩ (by rw [hnn_z l]; exact hnz) (fun u_z u0 u1_z => ?_)
        by_cases e_z : u_z = v_z
        · rw [e_z, upd_at]
        · rw [upd_n2 e_z]; exact hgap u_z u0 (by omega)
    · refine ⟨fun h_z => Or.inl ⟨rfl, by omega, rfl⟩, fun h_z => ?_⟩
      obtain ⟨q0, q1_z, q2_z⟩ := mul_lt l0 (show l ≤ 199 by omega) w0_z.1 w0_z.2 v0_z h_z
      obtain ⟨b1, b2⟩ := hb_z h_z
      refine ⟨oX_4 hq.1 hq.2 6 rfl, ?_⟩
      refine ⟨oX_2 hs.1 hs.2 3 rfl, ?_⟩
      refine ⟨⟨by omega, by omega⟩, ?_⟩
      refine ⟨⟨by omega, by omega⟩, ?_⟩
      refine ⟨aX_15 (by rw [es 3]; exact ps_z.1) (by rw [es 3]; exact ps_z.2) (by omega) (by omega), ?_⟩
      refine ⟨oX_2 hd_z.1 hd_z.2 3 rfl, ?_⟩
      refine ⟨aX_15 (by rw [sd'.1 3]; exact pd.1) (by rw [sd'.1 3]; exact pd.2) v0_z (by omega), ?_⟩
      refine ⟨(show r32 (B_z (B_z s 3) (l * A s 0 + v_z) - B_z (B_z d 3) v_z) by rw [e1, e2]; exact ⟨by omega, by omega⟩), ?_⟩
      refine ⟨tX_18 (by rw [eq 6]; exact gA.1) (by rw [eq 6]; exact gA.2) v0_z (by omega) rfl, ?_⟩
      refine ⟨⟨by omega, by omega⟩, ?_⟩
      exact Or.inr ⟨rfl, h_z, rfl⟩
theorem drop_cons {α : Type} {Q : List α} {n : Nat} (h : Q.drop n ≠ []) : ∃ y_z R_z, Q.drop n = y_z :: R_z := by
  match hq : Q.drop n, h with
  | y_z :: R_z, _ => exact ⟨y_z, R_z, rfl⟩
theorem dvx_36 {A : pm_A} {q s d : Int} {Q : cr_Pl_ 12} (hH : dvH2 A q s d Q) : ∀ (m_z : Nat) (l : Int) (n_z : Nat) (v5 v6 : pm_V) (B_z : pm_A), (A s 1 - l).toNat < m_z → 0 ≤ l → l ≤ A s 1 → dvI2 A B_z q s d Q l n_z → Tm pmt (an_sh wX) o_X5_divide 36 ([(2, q), (2, s), (2, d), (0, A s 0), (0, l), v5, v6], [], B_z) (dvP2 A q s Q) := by
  have hH0 := hH
  obtain ⟨hA, ⟨hq, hs, hd_z⟩, ⟨hw, hkg⟩, ⟨hsd, hFs, hFd⟩, ⟨ss, cs, xs⟩, ⟨sd_z, cd, ld1, xd⟩, hQ, hQ1, hQ2, hQL⟩ := hH
  have ns := fX_2_2 hA hs.1 hs.2
  have ls := fX_2_1 hA hs.1 hs.2
  have w0_z := fX_2_0 hA hs.1 hs.2
  intro m_z
  induction m_z with
  | zero => intro l n_z v5 v6 B_z h_z; omega
  | succ m_z ih_z =>
    intro l n_z v5 v6 B_z hm_z l0 l1 hI
    have hI0 := hI
    obtain ⟨hF, hnum, hz0, f0_z, fs, fc_z, fco⟩ := hI
    obtain ⟨es, eps⟩ := hF.sh hA hq hs hs hFs
    have e2 : B_z (B_z s 2) l = B_z (A s 2) l := by rw [es 2]
    refine wq_ok srt_divide (fr := []) (cuts := [36, 63]) (J := fun pc st_z => l < A s 1 ∧ ((pc = 36 ∧ B_z (A s 2) l = 0 ∧ st_z = ([(2, q), (2, s), (2, d), (0, A s 0), (0, l + 1), v5, v6], [], B_z)) ∨ (pc = 63 ∧ (¬ B_z (A s 2) l = 0) ∧ st_z = ([(2, q), (2, s), (2, d), (0, A s 0), (0, l), (0, 0), v6], [], B_z)))) ?_ 30 36 _ ?_
    · rintro pc st_z ⟨hl, ⟨rfl, hz, rfl⟩ | ⟨rfl, hz, rfl⟩⟩
      · refine ih_z (l + 1) n_z v5 v6 B_z (by omega) (by omega) (by omega) ⟨hF, hnum, fun t_z t0_z t1_z => ?_, f0_z, fs, fc_z, fco⟩
        by_cases e_z : t_z = l
        · rw [e_z]; exact hz
        · exact hz0 t_z t0_z (by omega)
      · have hne : Q.drop n_z ≠ [] := fun e_z => hz (by
          rw [hnum l l0 hl, e_z]
          rfl)
        obtain ⟨y_z, R_z, hn⟩ := drop_cons hne
        have hld := dv_lead hH0 hn l0 hl (by rw [← hnum l l0 hl]; exact hz) (fun t_z t0_z t1_z => by rw [← hnum t_z t0_z (by omega)]; exact hz0 t_z t0_z t1_z)
        exact dvx_63 hH0 l0 hl hn hld.1 (fun C_z v5 v6 hC => ih_z (l + 1) (n_z + 1) v5 v6 C_z (by omega) (by omega) (by omega) hC) _ 0 v6 B_z (Nat.lt_succ_self _) (by omega) w0_z.1 hI0 hz (fun u_z u0 u1_z => by omega)
    · refine ⟨oX_2 hs.1 hs.2 1 rfl, ?_⟩
      refine ⟨fun h_z => ?_, fun h_z => ?_⟩
      · rw [es 1] at h_z
        obtain ⟨hp, hbd, hsup⟩ := dv_sup hH0 n_z
        have hnil : Q.drop n_z = [] := by
          refine Classical.byContradiction (fun hne => ?_)
          obtain ⟨y_z, R_z, hn⟩ := drop_cons hne
          have hm2 := pmz_in (List.Mem.head R_z : y_z ∈ y_z :: R_z) (inX (A := A) (s := d) (q := 0) (by omega) (by omega))
          rw [← hn] at hm2
          have h9 := cr_co_pos (pmz_pos hp (posX cd)) hm2
          obtain ⟨t_z, t0_z, t1_z, et⟩ := hsup _ (fun e_z => by rw [e_z] at h9; omega)
          have h10 := hz0 t_z t0_z (by omega)
          rw [hnum t_z t0_z t1_z, et] at h10
          rw [h10] at h9
          omega
        have htk : Q.take n_z = Q := by
          have h9 := List.take_append_drop n_z Q
          rw [hnil, List.append_nil] at h9
          exact h9
        refine ⟨rfl, hF, rfl, f0_z, fs, fc_z, fun c_z => ?_⟩
        show cr_co (LSx B_z (A q 0)) c_z = _
        rw [fco c_z, htk]
      · rw [es 1] at h_z
        refine ⟨oX_2 hs.1 hs.2 2 rfl, ?_⟩
        refine ⟨aX_14 (by rw [es 2]; exact ns.1) (by rw [es 2]; exact ns.2) l0 (by omega), ?_⟩
        refine ⟨fun h2 => ?_, fun h2 => ?_, fun h2 => ?_⟩
        · refine ⟨fun _ => ?_, fun hh => absurd hh (by decide)⟩
          exact ⟨h_z, Or.inr ⟨rfl, by rw [e2] at h2; omega, rfl⟩⟩
        · refine ⟨fun hh => absurd rfl hh, fun _ => ?_⟩
          refine ⟨⟨by omega, by omega⟩, ?_⟩
          exact ⟨h_z, Or.inl ⟨rfl, by rw [e2] at h2; exact h2, rfl⟩⟩
        · refine ⟨fun _ => ?_, fun hh => absurd hh (by decide)⟩
          exact ⟨h_z, Or.inr ⟨rfl, by rw [e2] at h2; omega, rfl⟩⟩
theorem divide_exX {A : pm_A} {q s d : Int} {Q : cr_Pl_ 12} (hH : dvH2 A q s d Q) : Cl pmt (an_sh wX) 41 [(2, q), (2, s), (2, d)] A (dvP2 A q s Q) := by
  have hH0 := hH
  obtain ⟨hA, ⟨hq, hs, hd_z⟩, ⟨hw, hkg⟩, ⟨hsd, hFs, hFd⟩, ⟨ss, cs, xs⟩, ⟨sd_z, cd, ld1, xd⟩, hQ, hQ1, hQ2, hQL⟩ := hH
  have FA := fX_4_0 hA hq.1 hq.2
  have ns := fX_2_2 hA hs.1 hs.2
  have nd_z := fX_2_2 hA hd_z.1 hd_z.2
  have nF := fX_2_2 hA FA.1 FA.2
  have pF := fX_2_3 hA FA.1 FA.2
  have ls := fX_2_1 hA hs.1 hs.2
  have w0_z := fX_2_0 hA hs.1 hs.2
  have hc0 := cd 0 (by omega) (by omega)
  have c0_z : pm_upd (pm_upd A (A q 0) 0 (A s 0)) (A q 0) 1 0 (A q 0) 0 = A s 0 := by rw [upd_n2 (by omega), upd_at]
  have c1_z : pm_upd (pm_upd A (A q 0) 0 (A s 0)) (A q 0) 1 0 (A q 0) 1 = 0 := upd_at
  have c2_z : pm_upd (pm_upd A (A q 0) 0 (A s 0)) (A q 0) 1 0 (A q 0) 2 = A (A q 0) 2 := by rw [upd_n2 (by omega), upd_n2 (by omega)]
  have c3_z : pm_upd (pm_upd A (A q 0) 0 (A s 0)) (A q 0) 1 0 (A q 0) 3 = A (A q 0) 3 := by rw [upd_n2 (by omega), upd_n2 (by omega)]
  have co : ∀ r_z j_z : Int, ¬ r_z = A q 0 → pm_upd (pm_upd A (A q 0) 0 (A s 0)) (A q 0) 1 0 r_z j_z = A r_z j_z := fun r_z j_z hr => by rw [upd_ne hr, upd_ne hr]
  have cg : gH wX (pm_upd (pm_upd A (A q 0) 0 (A s 0)) (A q 0) 1 0) := clr_gH hA FA.2 w0_z.1 w0_z.2
  refine Cl.of (Nat.le_of_ble_eq_true rfl) ?_
  refine wq_ok (full := o_X5_divide) srt_divide (fr := []) (cuts := [13]) (J := fun pc st_z => pc = 13 ∧ ∃ v4_z v5 v6, st_z = ([(2, q), (2, s), (2, d), (0, A s 0), v4_z, v5, v6], [], pm_upd (pm_upd A (A q 0) 0 (A s 0)) (A q 0) 1 0)) ?_ 20 0 _ ?_
  · rintro pc st_z ⟨rfl, v4_z, v5, v6, rfl⟩
    generalize pm_upd (pm_upd A (A q 0) 0 (A s 0)) (A q 0) 1 0 = B_z at c0_z c1_z c2_z c3_z co cg ⊢
    have ed : ∀ j_z : Int, B_z d j_z = A d j_z := fun j_z => co d j_z (fun e_z => hFd.1 e_z.symm)
    have en : B_z (A d 2) 0 = A (A d 2) 0 := co _ 0 (knd nd_z.2 FA.2 (by decide))
    have e4_z : B_z (B_z d 2) 0 = A (A d 2) 0 := by rw [ed 2, en]
    refine wq_ok srt_divide (fr := []) (cuts := [36]) (J := fun pc st_z => pc = 36 ∧ st_z = ([(2, q), (2, s), (2, d), (0, A s 0), (0, 0), v5, v6], [], B_z)) ?_ 30 13 _ ?_
    · rintro pc st_z ⟨rfl, rfl⟩
      refine dvx_36 hH0 _ 0 0 v5 v6 B_z (Nat.lt_succ_self _) (by omega) ls.1 ⟨⟨cg, fun r_z j_z a1_z a2 a3 a4 a5 a6 => co r_z j_z a4, c2_z, c3_z⟩, fun t_z t0_z t1_z => ?_, fun t_z t0_z t1_z => by omega, c0_z, fun a_z b_z a0_z ab b1 => by rw [c1_z] at b1; omega, fun a_z a0_z a1_z => by rw [c1_z] at a1_z; omega, fun c_z => ?_⟩
      · rw [co _ t_z (knd ns.2 FA.2 (by decide)), List.drop_zero, ← hQL, co_at ss cs t0_z t1_z]
      · show cr_co (lsf (B_z (A q 0) 1).toNat (fX B_z (A q 0))) c_z = cr_co (Q.take 0) c_z
        rw [c1_z, List.take_zero]
        rfl
    · refine ⟨oX_2 hd_z.1 hd_z.2 1 rfl, ?_⟩
      refine ⟨fun h_z => absurd h_z (by rw [ed 1]; omega), fun h_z => ?_⟩
      refine ⟨oX_2 hd_z.1 hd_z.2 2 rfl, ?_⟩
      refine ⟨aX_14 (by rw [ed 2]; exact nd_z.1) (by rw [ed 2]; exact nd_z.2) (by omega) (by omega), ?_⟩
      refine ⟨fun _ => ?_, fun h2 => absurd h2 (by omega), fun h2 => absurd h2 (by omega)⟩
      refine ⟨fun _ => ?_, fun hh => absurd hh (by decide)⟩
      exact ⟨rfl, rfl⟩
  · refine ⟨oX_2 hs.1 hs.2 0 rfl, ?_⟩
    refine ⟨oX_4 hq.1 hq.2 0 rfl, ?_⟩
    refine ⟨rX_2 FA.1 FA.2, ?_⟩
    refine (clear_exX hA FA.1 FA.2 w0_z.1 w0_z.2).imp ?_
    rintro r_z rfl
    exact ⟨rfl, _, _, _, rfl⟩
end
