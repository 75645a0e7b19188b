/-! the class's takeAway and divide, exactly -/
theorem co_pmz_cons (y : Int × cr_Xp 12) (R L : cr_Pl_ 12) (a : cr_Xp 12) : cr_co (cr_pmz (y :: R) L) a = cr_co (cr_shz y L) a + cr_co (cr_pmz R L) a := by
  unfold cr_pmz
  rw [List.flatMap_cons, cr_co_app]
theorem co_shz_snoc (y : Int × cr_Xp 12) (f : Nat → Int × cr_Xp 12) (m : Nat) (a : cr_Xp 12) : cr_co (cr_shz y (lsf (m + 1) f)) a = cr_co (cr_shz y (lsf m f)) a + si (y.1 * (f m).1, fun i_z => y.2 i_z + (f m).2 i_z) a := by
  unfold cr_shz
  rw [lsf_succ, List.map_append]
  exact co_snoc _ _ a
def hdL (L : cr_Pl_ 12) (l0 : Int × cr_Xp 12) : Prop := l0 ∈ L ∧ ∀ b_z ∈ L, b_z = l0 ∨ cr_Gt l0.2 b_z.2
theorem hdX {A : pm_A} {s : Int} (h : srX A s) (h1 : 1 ≤ A s 1) : hdL (LSx A s) (A (A s 2) 0, xeX A s 0) := by
  refine ⟨inX (by omega) (by omega), fun b_z hb_z => ?_⟩
  obtain ⟨q_z, q0, q1_z, rfl⟩ := memX hb_z
  by_cases e_z : q_z = 0
  · rw [e_z]; exact Or.inl rfl
  · exact Or.inr (h 0 q_z (by omega) (by omega) q1_z)
theorem gt_two {a b c d : cr_Xp 12} (h1 : a = c ∨ cr_Gt a c) (h2 : cr_Gt b d) : cr_Gt (fun i_z => a i_z + b i_z) (fun i_z => c i_z + d i_z) := by
  have g_z := gt_addl h2 a
  rcases h1 with rfl | h_z
  · exact g_z
  · exact g_z.trans (cr_Gt.add h_z d)
theorem gt_two' {a b c d : cr_Xp 12} (h1 : cr_Gt a c) (h2 : b = d ∨ cr_Gt b d) : cr_Gt (fun i_z => a i_z + b i_z) (fun i_z => c i_z + d i_z) := by
  have g_z := cr_Gt.add h1 b
  rcases h2 with rfl | h_z
  · exact g_z
  · exact g_z.trans (gt_addl h_z c)
theorem lead_lt {y l0 : Int × cr_Xp 12} {R L : cr_Pl_ 12} (hR : cr_Shr (y :: R)) (hL : hdL L l0) : ∀ z_z ∈ cr_pmz R L, cr_Gt (fun i_z => y.2 i_z + l0.2 i_z) z_z.2 := fun z_z hz => by
  obtain ⟨a_z, ha_z, b_z, hb_z, rfl⟩ := cr_mem_pmz hz
  have h1 := (List.pairwise_cons.1 hR.1).1 a_z ha_z
  refine gt_two' h1 ?_
  rcases hL.2 b_z hb_z with h_z | h_z
  · rw [h_z]; exact Or.inl rfl
  · exact Or.inr h_z
theorem lead_le {y l0 : Int × cr_Xp 12} {R L : cr_Pl_ 12} (hR : cr_Shr (y :: R)) (hL : hdL L l0) : ∀ z_z ∈ cr_pmz (y :: R) L, z_z.2 = (fun i_z => y.2 i_z + l0.2 i_z) ∨ cr_Gt (fun i_z => y.2 i_z + l0.2 i_z) z_z.2 := fun z_z hz => by
  obtain ⟨a_z, ha_z, b_z, hb_z, rfl⟩ := cr_mem_pmz hz
  rcases List.mem_cons.1 ha_z with e_z | e_z
  · rcases hL.2 b_z hb_z with h_z | h_z
    · rw [e_z, h_z]; exact Or.inl rfl
    · rw [e_z]; exact Or.inr (gt_two (Or.inl rfl) h_z)
  · exact Or.inr (lead_lt hR hL _ (pmz_in e_z hb_z))
theorem lead_zero {y l0 : Int × cr_Xp 12} {R L : cr_Pl_ 12} (hR : cr_Shr (y :: R)) (hL : hdL L l0) : cr_co (cr_pmz R L) (fun i_z => y.2 i_z + l0.2 i_z) = 0 :=
  cr_co_none (fun z_z hz e_z => by
    have h_z := lead_lt hR hL z_z hz
    rw [e_z] at h_z
    exact cr_Gt.irrefl _ h_z)
theorem lead_co {y l0 : Int × cr_Xp 12} {R L : cr_Pl_ 12} (hR : cr_Shr (y :: R)) (HL : cr_Shr L) (hL : hdL L l0) : cr_co (cr_pmz (y :: R) L) (fun i_z => y.2 i_z + l0.2 i_z) = y.1 * l0.1 := by
  rw [co_pmz_cons, lead_zero hR hL, cr_co_shz, Int.add_zero]
  have e_z : (fun i_z => y.2 i_z + l0.2 i_z - y.2 i_z) = l0.2 := funext fun i_z => by omega
  rw [e_z, HL.at hL.1]
def tkF (A B : pm_A) (q s : Int) : Prop := gH wX B ∧ ∀ r_z j_z : Int, ¬ r_z = A s 2 → ¬ r_z = A q 5 → B r_z j_z = A r_z j_z
abbrev smT (A : pm_A) (d : Int) (y : Int × cr_Xp 12) (t : Int) : cr_Xp 12 := fun i_z => y.2 i_z + xeX A d t i_z
def tkH2 (A : pm_A) (q s l d n : Int) (y : Int × cr_Xp 12) (R : cr_Pl_ 12) : Prop := gH wX A ∧ ((0 ≤ q ∧ wX.2 q = 4) ∧ (0 ≤ s ∧ wX.2 s = 2) ∧ (0 ≤ d ∧ wX.2 d = 2)) ∧ (A s 0 = A d 0 ∧ dsX A s d ∧ ¬ A q 5 = A q 6) ∧ srX A s ∧ (srX A d ∧ cfX A d) ∧ (0 ≤ l ∧ l < A s 1) ∧ (1 ≤ n ∧ y = (n, xkX A (A s 0) (A q 6))) ∧ (∀ w_z ∈ R, 0 < w_z.1) ∧ (∀ t_z : Int, 0 ≤ t_z → t_z < A s 1 → A (A s 2) t_z = cr_co (cr_pmz (y :: R) (LSx A d)) (xeX A s t_z) ∧ A (A s 2) t_z ≤ 1000000000000) ∧ (∀ a_z, ¬ cr_co (cr_pmz (y :: R) (LSx A d)) a_z = 0 → ∃ t_z : Int, 0 ≤ t_z ∧ t_z < A s 1 ∧ xeX A s t_z = a_z) ∧ xeX A s l = smT A d y 0 ∧ cr_co (cr_pmz R (LSx A d)) (xeX A s l) = 0
def tkP2 (A : pm_A) (q s d : Int) (R : cr_Pl_ 12) (r : pm_R) : Prop := tkF A r.2 q s ∧ r.1 = some (0, 1) ∧ ∀ t_z : Int, 0 ≤ t_z → t_z < A s 1 → r.2 (A s 2) t_z = cr_co (cr_pmz R (LSx A d)) (xeX A s t_z)
theorem tk_in {A : pm_A} {q s l d n : Int} {y : Int × cr_Xp 12} {R : cr_Pl_ 12} (h : tkH2 A q s l d n y R) {t : Int} (t0 : 0 ≤ t) (t1 : t < A d 1) : ∃ i_z : Int, 0 ≤ i_z ∧ i_z < A s 1 ∧ xeX A s i_z = smT A d y t ∧ (1 ≤ n * A (A d 2) t ∧ n * A (A d 2) t ≤ 1000000000000) := by
  obtain ⟨hA, hk, hw, ss, ⟨sd_z, cd⟩, hl, ⟨hn, hy⟩, hR, hN_z, hsup, hlead, hz⟩ := h
  have hp : ∀ w_z ∈ cr_pmz (y :: R) (LSx A d), 0 < w_z.1 := pmz_pos (fun w_z hw => by
    rcases List.mem_cons.1 hw with e_z | e_z
    · rw [e_z, hy]; show 0 < n; omega
    · exact hR w_z e_z) (posX cd)
  have hm_z := pmz_in (List.Mem.head R : y ∈ y :: R) (inX (A := A) (s := d) t0 t1)
  have h1 := co_in hm_z hp
  have h2 := hp _ hm_z
  have e1 : y.1 = n := by rw [hy]
  have h1 : y.1 * A (A d 2) t ≤ cr_co (cr_pmz (y :: R) (LSx A d)) (smT A d y t) := h1
  have h2 : 0 < y.1 * A (A d 2) t := h2
  rw [e1] at h1 h2
  obtain ⟨i_z, i0_z, i1_z, ei⟩ := hsup (smT A d y t) (by omega)
  refine ⟨i_z, i0_z, i1_z, ei, by omega, ?_⟩
  have h3 := hN_z i_z i0_z i1_z
  rw [ei] at h3
  omega
def tkI2 (A B : pm_A) (q s d : Int) (y : Int × cr_Xp 12) (R : cr_Pl_ 12) (t f : Int) : Prop := tkF A B q s ∧ (∀ i_z : Int, 0 ≤ i_z → i_z < A s 1 → B (A s 2) i_z = cr_co (cr_pmz (y :: R) (LSx A d)) (xeX A s i_z) - cr_co (cr_shz y (lsf t.toNat (fX A d))) (xeX A s i_z)) ∧ (0 ≤ f ∧ f ≤ A s 1) ∧ ∀ i_z u_z : Int, 0 ≤ i_z → i_z < f → t ≤ u_z → u_z < A d 1 → cr_Gt (xeX A s i_z) (smT A d y u_z)
theorem shz_le {y : Int × cr_Xp 12} {A : pm_A} {d : Int} {R : cr_Pl_ 12} (hy : 0 < y.1) (cd : cfX A d) (hR : ∀ w_z ∈ R, 0 < w_z.1) {t : Int} (t0 : 0 ≤ t) (t1 : t ≤ A d 1) (a : cr_Xp 12) : 0 ≤ cr_co (cr_shz y (lsf t.toNat (fX A d))) a ∧ cr_co (cr_shz y (lsf t.toNat (fX A d))) a ≤ cr_co (cr_pmz (y :: R) (LSx A d)) a := by
  have h1 := lsf_le (f := fX A d) (fun i_z => a i_z - y.2 i_z) t.toNat ((A d 1).toNat - t.toNat) (fun i_z hi_z => fX_pos cd (by omega))
  rw [show t.toNat + ((A d 1).toNat - t.toNat) = (A d 1).toNat by omega] at h1
  have h2 : cr_co (lsf (A d 1).toNat (fX A d)) (fun i_z => a i_z - y.2 i_z) = cr_co (LSx A d) (fun i_z => a i_z - y.2 i_z) := rfl
  rw [h2] at h1
  have h3 := cr_Shr.nonneg (l := cr_pmz R (LSx A d)) (pmz_pos hR (posX cd)) a
  have h0 := lsf_le (f := fX A d) (fun i_z => a i_z - y.2 i_z) 0 t.toNat (fun i_z hi_z => fX_pos cd (by omega))
  rw [Nat.zero_add] at h0
  have h00 : cr_co (lsf 0 (fX A d)) (fun i_z => a i_z - y.2 i_z) = 0 := rfl
  rw [h00] at h0
  have h4 := Int.mul_le_mul_of_nonneg_left h1 (show 0 ≤ y.1 by omega)
  have h5 := Int.mul_nonneg (show 0 ≤ y.1 by omega) h0
  rw [co_pmz_cons, cr_co_shz, cr_co_shz]
  omega
theorem tkx_24 {A B0 : pm_A} {q s l d n f t : Int} {y : Int × cr_Xp 12} {R : cr_Pl_ 12} (hH : tkH2 A q s l d n y R) (t0 : 0 ≤ t) (t1 : t < A d 1) (hB0 : tkF A B0 q s) {z : pm_R → Prop} (H : ∀ (C_z : pm_A) (v_z : pm_V), tkF A C_z q s → (∀ r_z j_z : Int, ¬ r_z = A q 5 → C_z r_z j_z = B0 r_z j_z) → xkX C_z (A s 0) (A q 5) = smT A d y t → Tm pmt (an_sh wX) o_X5_takeAway 65 ([(2, q), (2, s), (0, l), (2, d), (1, n), (9, 0), (0, A s 0), (0, f), (0, t), v_z], [], C_z) z) : ∀ (m_z : Nat) (v_z : Int) (B_z : pm_A), (12 - v_z).toNat < m_z → 0 ≤ v_z → v_z ≤ A s 0 → tkF A B_z q s → (∀ r_z j_z : Int, ¬ r_z = A q 5 → B_z r_z j_z = B0 r_z j_z) → (∀ u_z : Int, 0 ≤ u_z → u_z < v_z → B_z (A q 5) u_z = A (A q 6) u_z + A (A d 3) (t * A s 0 + u_z)) → Tm pmt (an_sh wX) o_X5_takeAway 24 ([(2, q), (2, s), (0, l), (2, d), (1, n), (9, 0), (0, A s 0), (0, f), (0, t), (0, v_z)], [], B_z) z := by
  obtain ⟨i2_z, i20, i21, i22, _⟩ := tk_in hH t0 t1
  obtain ⟨hA, ⟨hq, hs, hd_z⟩, ⟨hw, hsd, hkg⟩, ss, ⟨sd_z, cd⟩, hl, ⟨hn, hy⟩, hR, hN_z, hsup, hlead, hz⟩ := hH
  have w0_z := fX_2_0 hA hs.1 hs.2
  have ls := fX_2_1 hA hs.1 hs.2
  have ld := fX_2_1 hA hd_z.1 hd_z.2
  have kA_z := fX_4_5 hA hq.1 hq.2
  have gA := fX_4_6 hA hq.1 hq.2
  have ns := fX_2_2 hA hs.1 hs.2
  have ps_z := fX_2_3 hA hs.1 hs.2
  have pd := fX_2_3 hA hd_z.1 hd_z.2
  have hsum : ∀ u_z : Int, 0 ≤ u_z → u_z < A s 0 → A (A q 6) u_z + A (A d 3) (t * A s 0 + u_z) = A (A s 3) (i2_z * A s 0 + u_z) := fun u_z u0 u1_z => by
    have e_z := congrFun i22 ⟨u_z.toNat, by omega⟩
    have e2 : (if ((u_z.toNat : Nat) : Int) < A s 0 then A (A s 3) (i2_z * A s 0 + ((u_z.toNat : Nat) : Int)) else 0) = y.2 ⟨u_z.toNat, by omega⟩ + (if ((u_z.toNat : Nat) : Int) < A d 0 then A (A d 3) (t * A d 0 + ((u_z.toNat : Nat) : Int)) else 0) := e_z
    have e3 : y.2 ⟨u_z.toNat, by omega⟩ = if ((u_z.toNat : Nat) : Int) < A s 0 then A (A q 6) ((u_z.toNat : Nat) : Int) else 0 := by rw [hy]; rfl
    rw [e3, ← hw, Int.toNat_of_nonneg u0, if_pos u1_z, if_pos u1_z, if_pos u1_z] at e2
    exact e2.symm
  have hr : ∀ u_z : Int, 0 ≤ u_z → u_z < A s 0 → -2147483648 ≤ A (A q 6) u_z + A (A d 3) (t * A s 0 + u_z) ∧ A (A q 6) u_z + A (A d 3) (t * A s 0 + u_z) ≤ 2147483647 := fun u_z u0 u1_z => by
    rw [hsum u_z u0 u1_z]
    obtain ⟨q0, q1_z, q2_z⟩ := mul_lt i20 (show i2_z ≤ 199 by omega) w0_z.1 w0_z.2 u0 u1_z
    exact eX_15 hA ps_z.1 ps_z.2 (by omega) (by omega)
  intro m_z
  induction m_z with
  | zero => intro v_z B_z h_z; omega
  | succ m_z ih_z =>
    intro v_z B_z hm_z v0_z v1_z hB_z hBB hkey
    have eq5 : B_z q 5 = A q 5 := hB_z.2 q 5 (knd hq.2 ns.2 (by decide)) (knd hq.2 kA_z.2 (by decide))
    have eq6 : B_z q 6 = A q 6 := hB_z.2 q 6 (knd hq.2 ns.2 (by decide)) (knd hq.2 kA_z.2 (by decide))
    have eg6 : B_z (A q 6) v_z = A (A q 6) v_z := hB_z.2 _ v_z (knd gA.2 ns.2 (by decide)) (fun e_z => hkg e_z.symm)
    have ed3 : B_z d 3 = A d 3 := hB_z.2 d 3 (knd hd_z.2 ns.2 (by decide)) (knd hd_z.2 kA_z.2 (by decide))
    have ep3 : B_z (A d 3) (t * A s 0 + v_z) = A (A d 3) (t * A s 0 + v_z) := hB_z.2 _ _ (knd pd.2 ns.2 (by decide)) (knd pd.2 kA_z.2 (by decide))
    have e1 : B_z (B_z q 6) v_z + B_z (B_z d 3) (t * A s 0 + v_z) = A (A q 6) v_z + A (A d 3) (t * A s 0 + v_z) := by rw [eq6, eg6, ed3, ep3]
    refine wq_ok srt_takeAway (fr := []) (cuts := [24, 65]) (J := fun pc st_z => (pc = 65 ∧ v_z = A s 0 ∧ st_z = ([(2, q), (2, s), (0, l), (2, d), (1, n), (9, 0), (0, A s 0), (0, f), (0, t), (0, v_z)], [], B_z)) ∨ (pc = 24 ∧ v_z < A s 0 ∧ st_z = ([(2, q), (2, s), (0, l), (2, d), (1, n), (9, 0), (0, A s 0), (0, f), (0, t), (0, v_z + 1)], [], pm_upd B_z (B_z q 5) v_z (B_z (B_z q 6) v_z + B_z (B_z d 3) (t * A s 0 + v_z))))) ?_ 30 24 _ ?_
    · rintro pc st_z (⟨rfl, hv, rfl⟩ | ⟨rfl, hv, rfl⟩)
      · refine H B_z _ hB_z hBB (funext fun j_z => ?_)
        show (if (j_z.1 : Int) < A s 0 then B_z (A q 5) (j_z.1 : Int) else 0) = y.2 j_z + (if (j_z.1 : Int) < A d 0 then A (A d 3) (t * A d 0 + (j_z.1 : Int)) else 0)
        have e3 : y.2 j_z = if (j_z.1 : Int) < A s 0 then A (A q 6) (j_z.1 : Int) else 0 := by rw [hy]; rfl
        rw [e3, ← hw]
        by_cases e_z : (j_z.1 : Int) < A s 0
        · rw [if_pos e_z, if_pos e_z, if_pos e_z]; exact hkey j_z.1 (by omega) (by omega)
        · rw [if_neg e_z, if_neg e_z, if_neg e_z]; rfl
      · rw [e1, eq5]
        have hr1 := hr v_z v0_z hv
        refine ih_z (v_z + 1) _ (by omega) (by omega) (by omega) ⟨uX_18 hB_z.1 kA_z.2 hr1.1 hr1.2, fun r_z j_z a1_z a2 => by rw [upd_ne a2]; exact hB_z.2 r_z j_z a1_z a2⟩ (fun r_z j_z a_z => by rw [upd_ne a_z]; exact hBB r_z j_z a_z) (fun u_z u0 u1_z => ?_)
        by_cases e_z : u_z = v_z
        · rw [e_z, upd_at]
        · rw [upd_n2 e_z]; exact hkey u_z u0 (by omega)
    · refine ⟨fun h_z => Or.inl ⟨rfl, by omega, rfl⟩, fun h_z => ?_⟩
      obtain ⟨q0, q1_z, q2_z⟩ := mul_lt t0 (show t ≤ 199 by omega) w0_z.1 w0_z.2 v0_z h_z
      have hr1 := hr v_z v0_z h_z
      refine ⟨oX_4 hq.1 hq.2 5 rfl, ?_⟩
      refine ⟨oX_4 hq.1 hq.2 6 rfl, ?_⟩
      refine ⟨aX_18 (by rw [eq6]; exact gA.1) (by rw [eq6]; exact gA.2) v0_z (by omega), ?_⟩
      refine ⟨oX_2 hd_z.1 hd_z.2 3 rfl, ?_⟩
      refine ⟨⟨by omega, by omega⟩, ?_⟩
      refine ⟨⟨by omega, by omega⟩, ?_⟩
      refine ⟨aX_15 (by rw [ed3]; exact pd.1) (by rw [ed3]; exact pd.2) (by omega) (by omega), ?_⟩
      refine ⟨(show r32 (B_z (B_z q 6) v_z + B_z (B_z d 3) (t * A s 0 + v_z)) by rw [e1]; exact hr1), ?_⟩
      refine ⟨tX_18 (by rw [eq5]; exact kA_z.1) (by rw [eq5]; exact kA_z.2) v0_z (by omega) rfl, ?_⟩
      refine ⟨⟨by omega, by omega⟩, ?_⟩
      exact Or.inr ⟨rfl, h_z, rfl⟩
theorem tkx_84 {A B : pm_A} {q s l d n f t x : Int} {y : Int × cr_Xp 12} {R : cr_Pl_ 12} (hH : tkH2 A q s l d n y R) (t0 : 0 ≤ t) (t1 : t < A d 1) (x0 : 0 ≤ x) (x1 : x < A s 1) (hx : xeX A s x = smT A d y t) (hB : tkF A B q s) (hnum : ∀ i_z : Int, 0 ≤ i_z → i_z < A s 1 → B (A s 2) i_z = cr_co (cr_pmz (y :: R) (LSx A d)) (xeX A s i_z) - cr_co (cr_shz y (lsf t.toNat (fX A d))) (xeX A s i_z)) {z : pm_R → Prop} (H : ∀ (C_z : pm_A) (v_z : pm_V), tkI2 A C_z q s d y R (t + 1) (x + 1) → Tm pmt (an_sh wX) o_X5_takeAway 12 ([(2, q), (2, s), (0, l), (2, d), (1, n), (9, 0), (0, A s 0), (0, x + 1), (0, t + 1), v_z], [], C_z) z) : Tm pmt (an_sh wX) o_X5_takeAway 84 ([(2, q), (2, s), (0, l), (2, d), (1, n), (9, 0), (0, A s 0), (0, f), (0, t), (0, x)], [], B) z := by
  obtain ⟨i2_z, i20, i21, i22, i23⟩ := tk_in hH t0 t1
  obtain ⟨hA, ⟨hq, hs, hd_z⟩, ⟨hw, hsd, hkg⟩, ss, ⟨sd_z, cd⟩, hl, ⟨hn, hy⟩, hR, hN_z, hsup, hlead, hz⟩ := hH
  have ls := fX_2_1 hA hs.1 hs.2
  have ld := fX_2_1 hA hd_z.1 hd_z.2
  have kA_z := fX_4_5 hA hq.1 hq.2
  have ns := fX_2_2 hA hs.1 hs.2
  have nd_z := fX_2_2 hA hd_z.1 hd_z.2
  have y1 : y.1 = n := by rw [hy]
  have es2 : B s 2 = A s 2 := hB.2 s 2 (knd hs.2 ns.2 (by decide)) (knd hs.2 kA_z.2 (by decide))
  have ed2 : B d 2 = A d 2 := hB.2 d 2 (knd hd_z.2 ns.2 (by decide)) (knd hd_z.2 kA_z.2 (by decide))
  have edn : B (A d 2) t = A (A d 2) t := hB.2 _ t (fun e_z => hsd.2.1 e_z.symm) (knd nd_z.2 kA_z.2 (by decide))
  have e1 : B (B d 2) t = A (A d 2) t := by rw [ed2, edn]
  have e2 : B (B s 2) x = B (A s 2) x := by rw [es2]
  have hle := shz_le (y := y) (A := A) (d := d) (R := R) (by omega) cd hR t0 (by omega) (xeX A s x)
  have hNx := hN_z x x0 x1
  have hnx := hnum x x0 x1
  have hb_z : 0 ≤ B (A s 2) x ∧ B (A s 2) x ≤ 1000000000000 := by omega
  refine wq_ok srt_takeAway (fr := []) (cuts := [12]) (J := fun pc st_z => pc = 12 ∧ st_z = ([(2, q), (2, s), (0, l), (2, d), (1, n), (9, 0), (0, A s 0), (0, x + 1), (0, t + 1), (0, x)], [], pm_upd B (B s 2) x (B (B s 2) x - n * B (B d 2) t))) ?_ 30 84 _ ?_
  · rintro pc st_z ⟨rfl, rfl⟩
    rw [e1, e2, es2]
    refine H _ _ ⟨⟨uX_14 hB.1 ns.2 (by omega) (by omega), fun r_z j_z a1_z a2 => by rw [upd_ne a1_z]; exact hB.2 r_z j_z a1_z a2⟩, fun i_z i0_z i1_z => ?_, ⟨by omega, by omega⟩, fun i_z u_z i0_z i1_z u0 u1_z => ?_⟩
    · rw [show (t + 1).toNat = t.toNat + 1 by omega, co_shz_snoc]
      have ef : fX A d t.toNat = (A (A d 2) t, xeX A d t) := by
        unfold fX
        rw [Int.toNat_of_nonneg t0]
      rw [ef]
      show _ = _ - (_ + si (y.1 * A (A d 2) t, smT A d y t) (xeX A s i_z))
      by_cases e_z : i_z = x
      · rw [e_z, upd_at, hx, si_at, hnum x x0 x1, hx, y1]
        omega
      · rw [upd_n2 e_z, hnum i_z i0_z i1_z]
        have hz2 : si (y.1 * A (A d 2) t, smT A d y t) (xeX A s i_z) = 0 := by
          refine Classical.byContradiction (fun hne => ?_)
          have h5 := si_ne hne
          rw [← hx] at h5
          by_cases h6 : i_z < x
          · have h7 := ss i_z x i0_z h6 x1
            rw [h5] at h7
            exact cr_Gt.irrefl _ h7
          · have h7 := ss x i_z x0 (by omega) i1_z
            rw [h5] at h7
            exact cr_Gt.irrefl _ h7
        rw [hz2]
        omega
    · have h7 : cr_Gt (smT A d y t) (smT A d y u_z) := gt_addl (sd_z t u_z t0 (by omega) u1_z) y.2
      by_cases e_z : i_z = x
      · rw [e_z, hx]; exact h7
      · have h8 := ss i_z x i0_z (by omega) x1
        rw [hx] at h8
        exact h8.trans h7
  · refine ⟨oX_2 hs.1 hs.2 2 rfl, ?_⟩
    refine ⟨aX_14 (by rw [es2]; exact ns.1) (by rw [es2]; exact ns.2) x0 (by omega), ?_⟩
    refine ⟨oX_2 hd_z.1 hd_z.2 2 rfl, ?_⟩
    refine ⟨aX_14 (by rw [ed2]; exact nd_z.1) (by rw [ed2]; exact nd_z.2) t0 (by omega), ?_⟩
    refine ⟨(show r64 (n * B (B d 2) t) by rw [e1]; exact ⟨by omega, by omega⟩), ?_⟩
    refine ⟨(show r64 (B (B s 2) x - n * B (B d 2) t) by rw [e1, e2]; exact ⟨by omega, by omega⟩), ?_⟩
    refine ⟨tX_14 (by rw [es2]; exact ns.1) (by rw [es2]; exact ns.2) x0 (by omega) rfl, ?_⟩
    refine ⟨⟨by omega, by omega⟩, ?_⟩
    refine ⟨⟨by omega, by omega⟩, ?_⟩
    exact ⟨rfl, rfl⟩
theorem tkx_12 {A : pm_A} {q s l d n : Int} {y : Int × cr_Xp 12} {R : cr_Pl_ 12} (hH : tkH2 A q s l d n y R) : ∀ (m_z : Nat) (t_z f_z : Int) (v_z : pm_V) (B_z : pm_A), (200 - t_z).toNat < m_z → 0 ≤ t_z → t_z ≤ A d 1 → tkI2 A B_z q s d y R t_z f_z → Tm pmt (an_sh wX) o_X5_takeAway 12 ([(2, q), (2, s), (0, l), (2, d), (1, n), (9, 0), (0, A s 0), (0, f_z), (0, t_z), v_z], [], B_z) (tkP2 A q s d R) := by
  have hH0 := hH
  obtain ⟨hA, ⟨hq, hs, hd_z⟩, ⟨hw, hsd, hkg⟩, ss, ⟨sd_z, cd⟩, hl, ⟨hn, hy⟩, hR, hN_z, hsup, hlead, hz⟩ := hH
  have w0_z := fX_2_0 hA hs.1 hs.2
  have ls := fX_2_1 hA hs.1 hs.2
  have ld := fX_2_1 hA hd_z.1 hd_z.2
  have kA_z := fX_4_5 hA hq.1 hq.2
  have ns := fX_2_2 hA hs.1 hs.2
  have ps_z := fX_2_3 hA hs.1 hs.2
  intro m_z
  induction m_z with
  | zero => intro t_z f_z v_z B_z h_z; omega
  | succ m_z ih_z =>
    intro t_z f_z v_z B_z hm_z t0_z t1_z hI
    obtain ⟨hB_z, hnum, hf, hgt⟩ := hI
    have ed1 : B_z d 1 = A d 1 := hB_z.2 d 1 (knd hd_z.2 ns.2 (by decide)) (knd hd_z.2 kA_z.2 (by decide))
    have es2 : B_z s 2 = A s 2 := hB_z.2 s 2 (knd hs.2 ns.2 (by decide)) (knd hs.2 kA_z.2 (by decide))
    refine wq_ok srt_takeAway (fr := []) (cuts := [24]) (J := fun pc st_z => pc = 24 ∧ t_z < A d 1 ∧ st_z = ([(2, q), (2, s), (0, l), (2, d), (1, n), (9, 0), (0, A s 0), (0, f_z), (0, t_z), (0, 0)], [], B_z)) ?_ 30 12 _ ?_
    · rintro pc st_z ⟨rfl, ht, rfl⟩
      refine tkx_24 hH0 t0_z ht hB_z (fun C_z v_z hC hCB hK_z => ?_) _ 0 B_z (Nat.lt_succ_self _) (by omega) w0_z.1 hB_z (fun _ _ _ => rfl) (fun u_z u0 u1_z => by omega)
      have cq5 : C_z q 5 = A q 5 := hC.2 q 5 (knd hq.2 ns.2 (by decide)) (knd hq.2 kA_z.2 (by decide))
      have cs : ∀ j_z : Int, C_z s j_z = A s j_z := fun j_z => hC.2 s j_z (knd hs.2 ns.2 (by decide)) (knd hs.2 kA_z.2 (by decide))
      have cp_z : ∀ j_z : Int, C_z (A s 3) j_z = A (A s 3) j_z := fun j_z => hC.2 _ j_z (knd ps_z.2 ns.2 (by decide)) (knd ps_z.2 kA_z.2 (by decide))
      have cx : ∀ i_z : Int, xeX C_z s i_z = xeX A s i_z := fun i_z => funext fun j_z => by
        show (if (j_z.1 : Int) < C_z s 0 then C_z (C_z s 3) (i_z * C_z s 0 + (j_z.1 : Int)) else 0) = if (j_z.1 : Int) < A s 0 then A (A s 3) (i_z * A s 0 + (j_z.1 : Int)) else 0
        rw [cs 0, cs 3, cp_z]
      have csr : srX C_z s := fun a_z b_z a0_z ab b1 => by
        rw [cs 1] at b1
        rw [cx a_z, cx b_z]
        exact ss a_z b_z a0_z ab b1
      refine wq_ok srt_takeAway (fr := []) (cuts := [84]) (J := fun pc st_z => pc = 84 ∧ ∃ x_z : Int, (0 ≤ x_z ∧ x_z < A s 1 ∧ xeX A s x_z = smT A d y t_z) ∧ st_z = ([(2, q), (2, s), (0, l), (2, d), (1, n), (9, 0), (0, A s 0), (0, f_z), (0, t_z), (0, x_z)], [], C_z)) ?_ 30 65 _ ?_
      · rintro pc st_z ⟨rfl, x_z, ⟨x0_z, x1_z, hx⟩, rfl⟩
        refine tkx_84 hH0 t0_z ht x0_z x1_z hx hC (fun i_z i0_z i1_z => ?_) (fun D_z v_z hD => ih_z (t_z + 1) (x_z + 1) v_z D_z (by omega) (by omega) (by omega) hD)
        rw [hCB _ i_z (knd ns.2 kA_z.2 (by decide))]
        exact hnum i_z i0_z i1_z
      · refine ⟨oX_4 hq.1 hq.2 5 rfl, ?_⟩
        refine ⟨rX_2 hs.1 hs.2, ?_⟩
        refine (find_ex (A := C_z) (s := s) (k := C_z q 5) (f := f_z) hC.1 ⟨hs, by rw [cq5]; exact kA_z⟩ csr hf.1 (by rw [cs 1]; exact hf.2) (fun a_z a0_z a1_z => ?_)).imp ?_
        · rw [cs 0, cq5, hK_z, cx a_z]
          exact hgt a_z t_z a0_z a1_z (by omega) ht
        · rintro ⟨r1_z, D_z⟩ ⟨g1, x_z, g2, g3_z⟩
          simp only at g1 g2 g3_z
          subst g1
          subst g2
          rw [cs 0, cs 1, cq5, hK_z, cx x_z] at g3_z
          have hx : 0 ≤ x_z ∧ x_z < A s 1 ∧ xeX A s x_z = smT A d y t_z := by
            rcases g3_z with h_z | ⟨lo_z, h_z, hp⟩
            · exact h_z
            · exfalso
              obtain ⟨i2_z, i20, i21, i22, _⟩ := tk_in hH0 t0_z ht
              obtain ⟨⟨p1_z, p2_z⟩, p3_z, p4_z⟩ := hp
              rw [cs 1] at p2_z p4_z
              by_cases e_z : i2_z < lo_z
              · have h8 := p3_z i2_z i20 e_z
                rw [cx i2_z, i22] at h8
                exact cr_Gt.irrefl _ h8
              · have h8 := p4_z i2_z (by omega) i21
                rw [cx i2_z, i22] at h8
                exact cr_Gt.irrefl _ h8
          refine ⟨fun _ => ?_, fun hh => absurd hx.1 (by omega)⟩
          exact ⟨rfl, x_z, hx, rfl⟩
    · refine ⟨oX_2 hd_z.1 hd_z.2 1 rfl, ?_⟩
      refine ⟨fun h_z => ?_, fun h_z => ?_⟩
      · rw [ed1] at h_z
        have et : t_z = A d 1 := by omega
        have hfin : ∀ i_z : Int, 0 ≤ i_z → i_z < A s 1 → B_z (A s 2) i_z = cr_co (cr_pmz R (LSx A d)) (xeX A s i_z) := fun i_z i0_z i1_z => by
          rw [hnum i_z i0_z i1_z, co_pmz_cons, et]
          show cr_co (cr_shz y (LSx A d)) (xeX A s i_z) + _ - cr_co (cr_shz y (LSx A d)) (xeX A s i_z) = _
          omega
        have hl0 : B_z (B_z s 2) l = 0 := by rw [es2, hfin l hl.1 hl.2]; exact hz
        refine ⟨oX_2 hs.1 hs.2 2 rfl, ?_⟩
        refine ⟨aX_14 (by rw [es2]; exact ns.1) (by rw [es2]; exact ns.2) hl.1 (by omega), ?_⟩
        refine ⟨fun h9 => absurd h9 (by omega), fun _ => ?_, fun h9 => absurd h9 (by omega)⟩
        refine ⟨fun hh => absurd rfl hh, fun _ => ?_⟩
        exact ⟨rfl, hB_z, rfl, hfin⟩
      · rw [ed1] at h_z
        exact ⟨rfl, h_z, rfl⟩
theorem takeAway_exX {A : pm_A} {q s l d n : Int} {y : Int × cr_Xp 12} {R : cr_Pl_ 12} (hH : tkH2 A q s l d n y R) : Cl pmt (an_sh wX) 48 [(2, q), (2, s), (0, l), (2, d), (1, n)] A (tkP2 A q s d R) := by
  have hH0 := hH
  obtain ⟨hA, ⟨hq, hs, hd_z⟩, ⟨hw, hsd, hkg⟩, ss, ⟨sd_z, cd⟩, hl, ⟨hn, hy⟩, hR, hN_z, hsup, hlead, hz⟩ := hH
  have ld := fX_2_1 hA hd_z.1 hd_z.2
  refine Cl.of (Nat.le_of_ble_eq_true rfl) ?_
  refine wq_ok (full := o_X5_takeAway) srt_takeAway (fr := []) (cuts := [12]) (J := fun pc st_z => pc = 12 ∧ ∃ v_z, st_z = ([(2, q), (2, s), (0, l), (2, d), (1, n), (9, 0), (0, A s 0), (0, l), (0, 0), v_z], [], A)) ?_ 20 0 _ ?_
  · rintro pc st_z ⟨rfl, v_z, rfl⟩
    refine tkx_12 hH0 _ 0 l v_z A (Nat.lt_succ_self _) (by omega) (by omega) ⟨⟨hA, fun _ _ _ _ => rfl⟩, fun i_z i0_z i1_z => ?_, ⟨hl.1, by omega⟩, fun i_z u_z i0_z i1_z u0 u1_z => ?_⟩
    · rw [(hN_z i_z i0_z i1_z).1]
      show _ = _ - (0 : Int)
      omega
    · have h8 := ss i_z l i0_z i1_z hl.2
      rw [hlead] at h8
      by_cases e_z : u_z = 0
      · rw [e_z]; exact h8
      · exact h8.trans (gt_addl (sd_z 0 u_z (by omega) (by omega) u1_z) y.2)
  · refine ⟨oX_2 hs.1 hs.2 0 rfl, ?_⟩
    exact ⟨rfl, _, rfl⟩
