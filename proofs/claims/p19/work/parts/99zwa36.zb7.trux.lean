section
/-! the class's seeds hold the true letters -/
def TrX (s : cx_Sd 12) (ks : List (Fin 12)) (A : pm_A) (g : Int) : Prop := gH wX A ∧ (0 ≤ g ∧ wX.2 g = 1) ∧ (1 ≤ A g 0) ∧ (∀ i_z j_z : Fin 12, (j_z.1 : Int) < A g 0 → ((i_z.1 : Int) < bgW A g → cr_bs s.b ks i_z j_z = A (A g 2) ((i_z.1 : Int) * 6 + (j_z.1 : Int))) ∧ (bgW A g ≤ (i_z.1 : Int) → cr_bs s.b ks i_z j_z = 0)) ∧ (∀ k_z ∈ ks, (k_z.1 : Int) < A g 0) ∧ (∀ v_z k_z : Fin 12, (k_z.1 : Int) < A g 0 → s.b v_z k_z ≤ 9 ∧ -9 ≤ s.b v_z k_z) ∧ tbB (A (A g 2)) (bgW A g) (A g 0) ∧ ∀ i_z : Fin 12, (i_z.1 : Int) < A g 0 → srX A (A (A g 4) (i_z.1 : Int)) ∧ cfX A (A (A g 4) (i_z.1 : Int)) ∧ A (A (A g 4) (i_z.1 : Int)) 0 = bgW A g ∧ ∀ x_z, (cr_gp s.b ks x_z).1 i_z = VX A (A (A g 4) (i_z.1 : Int)) x_z
theorem TrX.one {s : cx_Sd 12} {ks : List (Fin 12)} {A : pm_A} {g : Int} (h : TrX s ks A g) {i : Fin 12} (hi : (i.1 : Int) < A g 0) : 1 ≤ A (A (A g 4) (i.1 : Int)) 1 := by
  refine Classical.byContradiction (fun hneg => ?_)
  let o : cr_Pv 12 := ⟨fun _ => 1, fun _ => by grind⟩
  have h1 := (h.2.2.2.2.2.2.2 i hi).2.2.2 o
  have p6_z := fX_1_0 h.1 h.2.1.1 h.2.1.2
  have l4 := fX_1_4 h.1 h.2.1.1 h.2.1.2
  have e0_z := eX_12 h.1 l4.1 l4.2 (j := (i.1 : Int)) (by omega) (by omega)
  have m_z := fX_2_1 h.1 e0_z.1 e0_z.2
  have h0 : VX A (A (A g 4) (i.1 : Int)) o = 0 := by
    unfold VX LSx
    rw [show A (A (A g 4) (i.1 : Int)) 1 = 0 by omega]; rfl
  rw [h0] at h1
  have := (cr_gp s.b ks o).2 i
  grind
theorem TrX.lt {s : cx_Sd 12} {ks : List (Fin 12)} {A : pm_A} {g : Int} (h : TrX s ks A g) : ltX A g := by
  have h0 := h
  obtain ⟨hg, hk, h1, hb_z, hks, h9, ha_z, hl⟩ := h
  refine ⟨hg, hk, fun i_z i0_z i1_z => ?_, fun i_z j_z i0_z i1_z j0 j1 => ha_z i_z j_z i0_z i1_z j0 j1⟩
  have p6_z := fX_1_0 hg hk.1 hk.2
  have h6 := fX_1_1 hg hk.1 hk.2
  have l4 := fX_1_4 hg hk.1 hk.2
  have e0_z := eX_12 hg l4.1 l4.2 i0_z (show i_z < 6 by omega)
  have hi_z : i_z = ((⟨i_z.toNat, by omega⟩ : Fin 12).1 : Int) := by show i_z = ((i_z.toNat : Nat) : Int); omega
  obtain ⟨l1, l2, l5, l3⟩ := hl ⟨i_z.toNat, by omega⟩ (by rw [← hi_z]; exact i1_z)
  rw [← hi_z] at l1 l2 l5
  have l3 : ∀ x_z, (cr_gp s.b ks x_z).1 ⟨i_z.toNat, by omega⟩ = cr_vl x_z.1 (LSx A (A (A g 4) i_z)) := fun x_z => by rw [l3 x_z, ← hi_z]; rfl
  have m_z := fX_2_1 hg e0_z.1 e0_z.2
  have hone : 1 ≤ A (A (A g 4) i_z) 1 := by
    have := h0.one (i := ⟨i_z.toNat, by omega⟩) (by rw [← hi_z]; exact i1_z)
    rw [← hi_z] at this
    exact this
  refine ⟨l1, l2, hone, l5, ?_⟩
  have hlen : (LSx A (A (A g 4) i_z)).length ≤ 200 := by rw [LSx_len]; omega
  have hx := cr_exp s (Q := fun k_z => (k_z.1 : Int) < A g 0) ks hks ⟨i_z.toNat, by omega⟩ (fun v_z k_z hk => h9 v_z k_z hk) (posX l2) l3 hlen (by
    have h3 := vl_ones_le (l := LSx A (A (A g 4) i_z)) (fun y_z hy => by
      obtain ⟨q_z, q0, q1_z, rfl⟩ := memX hy
      exact (l2 q_z q0 q1_z).2)
    have h4 : ((LSx A (A (A g 4) i_z)).length : Rat) ≤ ((200 : Nat) : Rat) := by exact_mod_cast hlen
    rw [show ((200 : Nat) : Rat) = 200 from rfl] at h4
    have h5 := two48
    have h6 := Rat.mul_nonneg (by grind : 0 ≤ (200 : Rat) - ((LSx A (A (A g 4) i_z)).length : Rat)) (by grind : (0 : Rat) ≤ 1000000000000)
    grind)
  intro q_z v_z q0 q1_z v0_z v1_z
  have hw12 : bgW A g ≤ 12 := by unfold bgW; omega
  have h7 := hx _ (inX q0 q1_z) ⟨v_z.toNat, by omega⟩
  have e_z : -47 ≤ (if ((v_z.toNat : Nat) : Int) < A (A (A g 4) i_z) 0 then A (A (A (A g 4) i_z) 3) (q_z * A (A (A g 4) i_z) 0 + ((v_z.toNat : Nat) : Int)) else 0) ∧ (if ((v_z.toNat : Nat) : Int) < A (A (A g 4) i_z) 0 then A (A (A (A g 4) i_z) 3) (q_z * A (A (A g 4) i_z) 0 + ((v_z.toNat : Nat) : Int)) else 0) ≤ 1810 := h7
  rw [Int.toNat_of_nonneg v0_z, if_pos v1_z] at e_z
  omega
def fvX (A : pm_A) (g k sg : Int) (x : cr_Pv 12) : Nat → Rat
  | 0 => 1
  | m_z + 1 => fvX A g k sg x m_z * yX A g x m_z ^ tyX A g k sg m_z
theorem bm_fv (A : pm_A) (g k sg : Int) (x : cr_Pv 12) : ∀ m_z : Nat, bpX A g k sg x m_z * mpX A g k sg x m_z = fvX A g k sg x m_z
  | 0 => by show (1 : Rat) * 1 = 1; rw [Rat.mul_one]
  | m_z + 1 => by
    show bpX A g k sg x m_z * bfX A g k sg x m_z * (mpX A g k sg x m_z * mfX A g k sg x m_z) = fvX A g k sg x m_z * yX A g x m_z ^ tyX A g k sg m_z
    rw [← bm_fv A g k sg x m_z]
    have e_z : bfX A g k sg x m_z * mfX A g k sg x m_z = yX A g x m_z ^ tyX A g k sg m_z := by
      unfold bfX mfX
      by_cases e_z : sglX A g (m_z : Int)
      · rw [if_pos e_z, if_pos e_z, Rat.mul_one]
      · rw [if_neg e_z, if_neg e_z, Rat.one_mul]
    rw [← e_z]
    grind
theorem mp_W (A : pm_A) (g k sg : Int) (x : cr_Pv 12) (p : Nat) (hp : A g 0 ≤ (p : Int)) : ∀ m_z : Nat, mpX A g k sg x (p + m_z) = mpX A g k sg x p
  | 0 => rfl
  | m_z + 1 => by
    show mpX A g k sg x (p + m_z) * mfX A g k sg x (p + m_z) = _
    have e_z : mfX A g k sg x (p + m_z) = 1 := by
      unfold mfX
      rw [if_pos (Or.inl (by omega))]
    rw [e_z, Rat.mul_one]
    exact mp_W A g k sg x p hp m_z
theorem fp_fv {A : pm_A} {g : Int} (h : ltX A g) (k sg : Int) (x : cr_Pv 12) : fpX A g k sg x = fvX A g k sg x (bgW A g).toNat := by
  have p6_z := fX_1_0 h.1 h.2.1.1 h.2.1.2
  have h6 := fX_1_1 h.1 h.2.1.1 h.2.1.2
  have e_z := mp_W A g k sg x (A g 0).toNat (by omega) ((bgW A g).toNat - (A g 0).toNat)
  rw [show (A g 0).toNat + ((bgW A g).toNat - (A g 0).toNat) = (bgW A g).toNat by unfold bgW; omega] at e_z
  rw [← bm_fv, e_z]
theorem fv_mo (A : pm_A) (g k sg : Int) (x : cr_Pv 12) : ∀ m_z : Nat, m_z ≤ 12 → fvX A g k sg x m_z = cr_mo (fun i_z : Fin 12 => yX A g x i_z.1) (fun i_z : Fin 12 => if i_z.1 < m_z then tyX A g k sg i_z.1 else 0)
  | 0, _ => by
    show (1 : Rat) = _
    refine Eq.symm (Eq.trans (congrArg (cr_mo _) (funext fun i_z => if_neg (by omega))) (cr_mo_zero _))
  | m_z + 1, h_z => by
    show fvX A g k sg x m_z * yX A g x m_z ^ tyX A g k sg m_z = _
    rw [fv_mo A g k sg x m_z (by omega)]
    have e1 : (fun i_z : Fin 12 => if i_z.1 < m_z + 1 then tyX A g k sg i_z.1 else 0) = cr_up (fun i_z : Fin 12 => if i_z.1 < m_z then tyX A g k sg i_z.1 else 0) ⟨m_z, by omega⟩ (tyX A g k sg m_z) := funext fun i_z => by
      by_cases hi_z : i_z = ⟨m_z, by omega⟩
      · rw [hi_z, cr_up_k, if_pos (by show m_z < m_z + 1; omega)]
      · rw [cr_up_ne _ _ hi_z]
        have : i_z.1 ≠ m_z := fun e_z => hi_z (Fin.ext e_z)
        by_cases h2 : i_z.1 < m_z
        · rw [if_pos (by omega), if_pos h2]
        · rw [if_neg (by omega), if_neg h2]
    have e2 : cr_up (fun i_z : Fin 12 => if i_z.1 < m_z then tyX A g k sg i_z.1 else 0) ⟨m_z, by omega⟩ 0 = (fun i_z : Fin 12 => if i_z.1 < m_z then tyX A g k sg i_z.1 else 0) := funext fun i_z => by
      by_cases hi_z : i_z = ⟨m_z, by omega⟩
      · rw [hi_z, cr_up_k, if_neg (by show ¬ m_z < m_z; omega)]
      · rw [cr_up_ne _ _ hi_z]
    rw [e1, cr_mo_up, e2]
    grind
theorem TrX.fp {s : cx_Sd 12} {ks : List (Fin 12)} {A : pm_A} {g : Int} (h : TrX s ks A g) {k : Fin 12} (hk : (k.1 : Int) < A g 0) (sg : Int) (x : cr_Pv 12) : fpX A g k.1 sg x = cr_mo (cr_gp s.b ks x).1 (fun i_z => (cx_pos (sg * cr_bs s.b ks i_z k) : Int)) := by
  have hlt := h.lt
  obtain ⟨hg, hgk, h1, hb_z, hks, h9, ha_z, hl⟩ := h
  have p6_z := fX_1_0 hg hgk.1 hgk.2
  have h6 := fX_1_1 hg hgk.1 hgk.2
  rw [fp_fv hlt, fv_mo A g k.1 sg x _ (by unfold bgW; omega)]
  have e1 : (fun i_z : Fin 12 => yX A g x i_z.1) = (cr_gp s.b ks x).1 := funext fun i_z => by
    unfold yX
    by_cases hi_z : (i_z.1 : Int) < A g 0
    · rw [if_pos hi_z, (hl i_z hi_z).2.2.2 x]
    · rw [if_neg hi_z, dif_pos i_z.2, cr_gp_ne ks s.b x (fun hm_z => hi_z (hks i_z hm_z))]
  rw [e1]
  refine congrArg (cr_mo _) (funext fun i_z => ?_)
  by_cases hi_z : (i_z.1 : Int) < bgW A g
  · rw [if_pos (by omega), (hb_z i_z k hk).1 hi_z]
    rfl
  · rw [if_neg (by omega), (hb_z i_z k hk).2 (by omega), Int.mul_zero]; rfl
theorem quot_of {s : cx_Sd 12} {ks : List (Fin 12)} {k : Fin 12} {L : cr_Pl_ 12} {l0 : Int × cr_Xp 12} (hLp : ∀ y_z ∈ L, 0 < y_z.1) (hl0 : l0 ∈ L) (hLv : ∀ x_z : cr_Pv 12, (cr_gp s.b ks x_z).1 k = cr_vl x_z.1 L) {N : cr_Pl_ 12} (hNs : cr_Shr N) (hNc : ∀ y_z ∈ N, y_z.1 ≤ 1000000000000) (hNl : N.length ≤ 200) (hN : ∀ x_z : cr_Pv 12, cr_vl x_z.1 N = cr_P (cr_bs s.b ks) k (cr_gp s.b ks x_z).1) :
    ∃ Q_z : cr_Pl_ 12, cr_Shr Q_z ∧ (∀ x_z, (cr_gp s.b (ks ++ [k]) x_z).1 k = cr_vl x_z.1 Q_z) ∧ (∀ c_z, cr_co N c_z = cr_co (cr_pmz Q_z L) c_z) ∧ Q_z.length ≤ 200 ∧ ∀ y_z ∈ Q_z, y_z.1 ≤ 1000000000000 := by
  obtain ⟨Q0_z, hQ0, hv⟩ := cr_rel [] s (ks ++ [k]) k
  obtain ⟨Q_z, hQ, hQc⟩ := shr_ex Q0_z hQ0
  have hQv : ∀ x_z, (cr_gp s.b (ks ++ [k]) x_z).1 k = cr_vl x_z.1 Q_z := fun x_z => by rw [hv x_z]; exact (cr_vl_co x_z.1 hQc).symm
  have hprod : ∀ c_z, cr_co N c_z = cr_co (cr_pmz Q_z L) c_z := cr_vl_unique (fun x_z => by
    rw [cr_vl_pmz x_z.2, hN x_z, ← hQv x_z, cr_gp_snoc]
    show _ = cr_stepv (cr_bs s.b ks) k (cr_gp s.b ks x_z).1 k * cr_vl x_z.1 L
    have e2 : cr_vl x_z.1 L = (cr_gp s.b ks x_z).1 k := (hLv x_z).symm
    rw [e2, cr_step_k]
    have hp := (cr_gp s.b ks x_z).2 k
    have : ((cr_gp s.b ks x_z).1 k)⁻¹ * (cr_gp s.b ks x_z).1 k = 1 := Rat.inv_mul_cancel _ (by grind)
    grind)
  have hpp : ∀ y_z ∈ cr_pmz Q_z L, 0 < y_z.1 := pmz_pos hQ.2 hLp
  have hin : ∀ y_z ∈ Q_z, ∃ z_z ∈ N, z_z.2 = (fun i_z => y_z.2 i_z + l0.2 i_z) ∧ y_z.1 ≤ z_z.1 := fun y_z hy => by
    have hm_z := pmz_in hy hl0
    have hp := cr_co_pos hpp hm_z
    have hge := co_pmz_ge hQ.2 hLp hl0 y_z.2 (fun i_z => y_z.2 i_z + l0.2 i_z) (fun i_z => rfl)
    rw [hQ.at hy, ← hprod] at hge
    have hy1 := hQ.2 y_z hy
    obtain ⟨z_z, hz, ez⟩ := cr_co_mem (l := N) (a := fun i_z => y_z.2 i_z + l0.2 i_z) (by omega)
    refine ⟨z_z, hz, ez, ?_⟩
    have h2 : cr_co N z_z.2 = z_z.1 := hNs.at hz
    rw [ez] at h2
    omega
  refine ⟨Q_z, hQ, hQv, hprod, ?_, fun y_z hy => ?_⟩
  · have := cr_len (Q_z.map fun y_z => (fun i_z => y_z.2 i_z + l0.2 i_z)) (N.map (·.2)) (by
      rw [List.nodup_iff_pairwise_ne, List.pairwise_map]
      refine hQ.1.imp (fun {u_z w_z} hg e_z => ?_)
      have : u_z.2 = w_z.2 := funext fun i_z => by have h6 : u_z.2 i_z + l0.2 i_z = w_z.2 i_z + l0.2 i_z := congrFun e_z i_z; omega
      rw [this] at hg
      exact cr_Gt.irrefl _ hg) (fun c_z hc_z => by
      obtain ⟨y_z, hy, rfl⟩ := List.mem_map.1 hc_z
      obtain ⟨z_z, hz, ez, _⟩ := hin y_z hy
      exact List.mem_map.2 ⟨z_z, hz, ez⟩)
    rw [List.length_map, List.length_map] at this
    omega
  · obtain ⟨z_z, hz, _, hle⟩ := hin y_z hy
    have := hNc z_z hz
    omega
end

section
/-! the class's exchange, exactly -/
def mlC (A : pm_A) (q r : Int) : Prop := (∃ n_z : Int, (0 ≤ n_z ∧ n_z ≤ 4) ∧ (r = A q n_z ∨ r = A (A q n_z) 2 ∨ r = A (A q n_z) 3)) ∨ r = A q 5 ∨ r = A q 6
def exF (A B : pm_A) (q : Int) : Prop := gH wX B ∧ (∀ r_z j_z : Int, ¬ mlC A q r_z → B r_z j_z = A r_z j_z) ∧ ∀ n_z : Int, 0 ≤ n_z → n_z ≤ 4 → B (A q n_z) 2 = A (A q n_z) 2 ∧ B (A q n_z) 3 = A (A q n_z) 3
def exH3 (A : pm_A) (q g : Int) : Prop := (0 ≤ q ∧ wX.2 q = 4) ∧ (0 ≤ g ∧ wX.2 g = 1) ∧ (∀ a_z : Int, 0 ≤ a_z → wX.2 a_z = 2 → A a_z 2 = a_z + 1 ∧ A a_z 3 = a_z + 2) ∧ (¬ A q 5 = A q 6) ∧ (∀ i_z j_z : Int, 0 ≤ i_z → i_z ≤ 4 → 0 ≤ j_z → j_z ≤ 4 → ¬ i_z = j_z → ¬ A q i_z = A q j_z) ∧ ∀ i_z j_z : Int, 0 ≤ i_z → i_z ≤ 4 → 0 ≤ j_z → j_z < A g 0 → ¬ A q i_z = A (A g 4) j_z
theorem ml_k {A : pm_A} {q n : Int} (hA : gH wX A) (hq : 0 ≤ q ∧ wX.2 q = 4) (n0 : 0 ≤ n) (n1 : n ≤ 4) : 0 ≤ A q n ∧ wX.2 (A q n) = 2 := by
  have h_z : n = 0 ∨ n = 1 ∨ n = 2 ∨ n = 3 ∨ n = 4 := by omega
  rcases h_z with rfl | rfl | rfl | rfl | rfl
  · exact fX_4_0 hA hq.1 hq.2
  · exact fX_4_1 hA hq.1 hq.2
  · exact fX_4_2 hA hq.1 hq.2
  · exact fX_4_3 hA hq.1 hq.2
  · exact fX_4_4 hA hq.1 hq.2
theorem ds_of {A : pm_A} {a b : Int} (h : ∀ a : Int, 0 ≤ a → wX.2 a = 2 → A a 2 = a + 1 ∧ A a 3 = a + 2) (ha : 0 ≤ a ∧ wX.2 a = 2) (hb : 0 ≤ b ∧ wX.2 b = 2) (hne : ¬ a = b) : dsX A a b := by
  have h1 := h a ha.1 ha.2
  have h2 := h b hb.1 hb.2
  exact ⟨hne, by rw [h1.1, h2.1]; omega, by rw [h1.2, h2.2]; omega⟩
theorem ml_no {A : pm_A} {q r : Int} {l : Nat} (hA : gH wX A) (hq : 0 ≤ q ∧ wX.2 q = 4) (rk : wX.2 r = l) (n1 : ¬ l = 2) (n2 : ¬ l = 14) (n3 : ¬ l = 15) (n4 : ¬ l = 18) : ¬ mlC A q r := by
  rintro (⟨n_z, hn, h_z⟩ | h_z | h_z)
  · have k_z := ml_k hA hq hn.1 hn.2
    rcases h_z with h_z | h_z | h_z
    · exact knd rk k_z.2 n1 h_z
    · exact knd rk (fX_2_2 hA k_z.1 k_z.2).2 n2 h_z
    · exact knd rk (fX_2_3 hA k_z.1 k_z.2).2 n3 h_z
  · exact knd rk (fX_4_5 hA hq.1 hq.2).2 n4 h_z
  · exact knd rk (fX_4_6 hA hq.1 hq.2).2 n4 h_z
theorem exF.sm {A B : pm_A} {q a : Int} (h : exF A B q) (hA : gH wX A) (hq : 0 ≤ q ∧ wX.2 q = 4) (h3 : ∀ a : Int, 0 ≤ a → wX.2 a = 2 → A a 2 = a + 1 ∧ A a 3 = a + 2) (ha : 0 ≤ a ∧ wX.2 a = 2) (hne : ∀ n_z : Int, 0 ≤ n_z → n_z ≤ 4 → ¬ A q n_z = a) : sme A B a := by
  have a2 := fX_2_2 hA ha.1 ha.2
  have a3 := fX_2_3 hA ha.1 ha.2
  have kA_z := fX_4_5 hA hq.1 hq.2
  have gA := fX_4_6 hA hq.1 hq.2
  have hx := h3 a ha.1 ha.2
  refine ⟨fun j_z => h.2.1 a j_z ?_, fun j_z => h.2.1 _ j_z ?_, fun j_z => h.2.1 _ j_z ?_⟩
  · rintro (⟨n_z, hn, e_z⟩ | e_z | e_z)
    · have k_z := ml_k hA hq hn.1 hn.2
      rcases e_z with e_z | e_z | e_z
      · exact hne n_z hn.1 hn.2 e_z.symm
      · exact knd ha.2 (fX_2_2 hA k_z.1 k_z.2).2 (by decide) e_z
      · exact knd ha.2 (fX_2_3 hA k_z.1 k_z.2).2 (by decide) e_z
    · exact knd ha.2 kA_z.2 (by decide) e_z
    · exact knd ha.2 gA.2 (by decide) e_z
  · rintro (⟨n_z, hn, e_z⟩ | e_z | e_z)
    · have k_z := ml_k hA hq hn.1 hn.2
      rcases e_z with e_z | e_z | e_z
      · exact knd a2.2 k_z.2 (by decide) e_z
      · have h4 := (h3 _ k_z.1 k_z.2).1
        exact hne n_z hn.1 hn.2 (by omega)
      · exact knd a2.2 (fX_2_3 hA k_z.1 k_z.2).2 (by decide) e_z
    · exact knd a2.2 kA_z.2 (by decide) e_z
    · exact knd a2.2 gA.2 (by decide) e_z
  · rintro (⟨n_z, hn, e_z⟩ | e_z | e_z)
    · have k_z := ml_k hA hq hn.1 hn.2
      rcases e_z with e_z | e_z | e_z
      · exact knd a3.2 k_z.2 (by decide) e_z
      · exact knd a3.2 (fX_2_2 hA k_z.1 k_z.2).2 (by decide) e_z
      · have h4 := (h3 _ k_z.1 k_z.2).2
        exact hne n_z hn.1 hn.2 (by omega)
    · exact knd a3.2 kA_z.2 (by decide) e_z
    · exact knd a3.2 gA.2 (by decide) e_z
theorem exF.tr {A B C : pm_A} {q : Int} (h : exF A B q) (g : exF B C q) (hA : gH wX A) (hq : 0 ≤ q ∧ wX.2 q = 4) : exF A C q := by
  have e_z : ∀ j_z : Int, B q j_z = A q j_z := fun j_z => h.2.1 q j_z (ml_no hA hq hq.2 (by decide) (by decide) (by decide) (by decide))
  refine ⟨g.1, fun r_z j_z hr => ?_, fun n_z n0_z n1_z => ?_⟩
  · rw [g.2.1 r_z j_z (fun hm_z => hr ?_)]
    · exact h.2.1 r_z j_z hr
    · rcases hm_z with ⟨n_z, hn, hm_z⟩ | hm_z | hm_z
      · have h4 := h.2.2 n_z hn.1 hn.2
        rw [e_z n_z, h4.1, h4.2] at hm_z
        exact Or.inl ⟨n_z, hn, hm_z⟩
      · rw [e_z 5] at hm_z; exact Or.inr (Or.inl hm_z)
      · rw [e_z 6] at hm_z; exact Or.inr (Or.inr hm_z)
  · have h4 := h.2.2 n_z n0_z n1_z
    have h5 := g.2.2 n_z n0_z n1_z
    rw [e_z n_z] at h5
    exact ⟨by rw [h5.1]; exact h4.1, by rw [h5.2]; exact h4.2⟩
theorem px_ex {A B : pm_A} {q g n1 n2 : Int} (h : pxF A B q (A q n1) (A q n2)) (hA : gH wX A) (h3 : exH3 A q g) (a0 : 0 ≤ n1) (a1 : n1 ≤ 4) (b0 : 0 ≤ n2) (b1 : n2 ≤ 4) : exF A B q := by
  obtain ⟨hq, hg, hs, hkg, hd_z, hl⟩ := h3
  have k1_z := ml_k hA hq a0 a1
  have k2_z := ml_k hA hq b0 b1
  refine ⟨h.1, fun r_z j_z hr => ?_, fun n_z m0_z m1_z => ?_⟩
  · exact h.2.1 r_z j_z (fun e_z => hr (Or.inl ⟨n1, ⟨a0, a1⟩, Or.inl e_z⟩)) (fun e_z => hr (Or.inl ⟨n1, ⟨a0, a1⟩, Or.inr (Or.inl e_z)⟩)) (fun e_z => hr (Or.inl ⟨n1, ⟨a0, a1⟩, Or.inr (Or.inr e_z)⟩)) (fun e_z => hr (Or.inl ⟨n2, ⟨b0, b1⟩, Or.inl e_z⟩)) (fun e_z => hr (Or.inl ⟨n2, ⟨b0, b1⟩, Or.inr (Or.inl e_z)⟩)) (fun e_z => hr (Or.inl ⟨n2, ⟨b0, b1⟩, Or.inr (Or.inr e_z)⟩)) (fun e_z => hr (Or.inr (Or.inl e_z)))
  · by_cases e1 : n_z = n1
    · rw [e1]; exact h.2.2.1
    · by_cases e2 : n_z = n2
      · rw [e2]; exact h.2.2.2
      · have k_z := ml_k hA hq m0_z m1_z
        have hh : ∀ j_z : Int, B (A q n_z) j_z = A (A q n_z) j_z := fun j_z => h.2.1 _ j_z (hd_z n_z n1 m0_z m1_z a0 a1 e1) (knd k_z.2 (fX_2_2 hA k1_z.1 k1_z.2).2 (by decide)) (knd k_z.2 (fX_2_3 hA k1_z.1 k1_z.2).2 (by decide)) (hd_z n_z n2 m0_z m1_z b0 b1 e2) (knd k_z.2 (fX_2_2 hA k2_z.1 k2_z.2).2 (by decide)) (knd k_z.2 (fX_2_3 hA k2_z.1 k2_z.2).2 (by decide)) (knd k_z.2 (fX_4_5 hA hq.1 hq.2).2 (by decide))
        exact ⟨hh 2, hh 3⟩
theorem mx_ex {A B : pm_A} {q g n1 : Int} (h : mxF A B q (A q n1)) (hA : gH wX A) (h3 : exH3 A q g) (a0 : 0 ≤ n1) (a1 : n1 ≤ 4) : exF A B q := by
  obtain ⟨hq, hg, hs, hkg, hd_z, hl⟩ := h3
  have k1_z := ml_k hA hq a0 a1
  refine ⟨h.1, fun r_z j_z hr => ?_, fun n_z m0_z m1_z => ?_⟩
  · exact h.2.1 r_z j_z (fun e_z => hr (Or.inl ⟨n1, ⟨a0, a1⟩, Or.inl e_z⟩)) (fun e_z => hr (Or.inl ⟨n1, ⟨a0, a1⟩, Or.inr (Or.inl e_z)⟩)) (fun e_z => hr (Or.inl ⟨n1, ⟨a0, a1⟩, Or.inr (Or.inr e_z)⟩)) (fun e_z => hr (Or.inr (Or.inl e_z)))
  · by_cases e1 : n_z = n1
    · rw [e1]; exact h.2.2
    · have k_z := ml_k hA hq m0_z m1_z
      have hh : ∀ j_z : Int, B (A q n_z) j_z = A (A q n_z) j_z := fun j_z => h.2.1 _ j_z (hd_z n_z n1 m0_z m1_z a0 a1 e1) (knd k_z.2 (fX_2_2 hA k1_z.1 k1_z.2).2 (by decide)) (knd k_z.2 (fX_2_3 hA k1_z.1 k1_z.2).2 (by decide)) (knd k_z.2 (fX_4_5 hA hq.1 hq.2).2 (by decide))
      exact ⟨hh 2, hh 3⟩
theorem dv_ex {A B : pm_A} {q g n1 : Int} (h : dvF2 A B q (A q n1)) (hA : gH wX A) (h3 : exH3 A q g) (a0 : 1 ≤ n1) (a1 : n1 ≤ 4) : exF A B q := by
  obtain ⟨hq, hg, hs, hkg, hd_z, hl⟩ := h3
  have k1_z := ml_k hA hq (show 0 ≤ n1 by omega) a1
  have k0_z := ml_k hA hq (show (0 : Int) ≤ 0 by omega) (show (0 : Int) ≤ 4 by omega)
  refine ⟨h.1, fun r_z j_z hr => ?_, fun n_z m0_z m1_z => ?_⟩
  · exact h.2.1 r_z j_z (fun e_z => hr (Or.inl ⟨n1, ⟨by omega, a1⟩, Or.inr (Or.inl e_z)⟩)) (fun e_z => hr (Or.inr (Or.inl e_z))) (fun e_z => hr (Or.inr (Or.inr e_z))) (fun e_z => hr (Or.inl ⟨0, ⟨by omega, by omega⟩, Or.inl e_z⟩)) (fun e_z => hr (Or.inl ⟨0, ⟨by omega, by omega⟩, Or.inr (Or.inl e_z)⟩)) (fun e_z => hr (Or.inl ⟨0, ⟨by omega, by omega⟩, Or.inr (Or.inr e_z)⟩))
  · by_cases e1 : n_z = 0
    · rw [e1]; exact h.2.2
    · have k_z := ml_k hA hq m0_z m1_z
      have hh : ∀ j_z : Int, B (A q n_z) j_z = A (A q n_z) j_z := fun j_z => h.2.1 _ j_z (knd k_z.2 (fX_2_2 hA k1_z.1 k1_z.2).2 (by decide)) (knd k_z.2 (fX_4_5 hA hq.1 hq.2).2 (by decide)) (knd k_z.2 (fX_4_6 hA hq.1 hq.2).2 (by decide)) (hd_z n_z 0 m0_z m1_z (by omega) (by omega) e1) (knd k_z.2 (fX_2_2 hA k0_z.1 k0_z.2).2 (by decide)) (knd k_z.2 (fX_2_3 hA k0_z.1 k0_z.2).2 (by decide))
      exact ⟨hh 2, hh 3⟩
theorem exF.gs {A B : pm_A} {q g : Int} (h : exF A B q) (hA : gH wX A) (h3 : exH3 A q g) : (∀ j_z, B q j_z = A q j_z) ∧ (∀ j_z, B g j_z = A g j_z) ∧ (∀ j_z, B (A g 2) j_z = A (A g 2) j_z) ∧ (∀ j_z, B (A g 4) j_z = A (A g 4) j_z) := by
  obtain ⟨hq, hg, _⟩ := h3
  have t2_z := fX_1_2 hA hg.1 hg.2
  have l4 := fX_1_4 hA hg.1 hg.2
  exact ⟨fun j_z => h.2.1 _ j_z (ml_no hA hq hq.2 (by decide) (by decide) (by decide) (by decide)), fun j_z => h.2.1 _ j_z (ml_no hA hq hg.2 (by decide) (by decide) (by decide) (by decide)), fun j_z => h.2.1 _ j_z (ml_no hA hq t2_z.2 (by decide) (by decide) (by decide) (by decide)), fun j_z => h.2.1 _ j_z (ml_no hA hq l4.2 (by decide) (by decide) (by decide) (by decide))⟩
theorem exH3.keep {A B : pm_A} {q g : Int} (h3 : exH3 A q g) (hA : gH wX A) (h : exF A B q) : exH3 B q g := by
  obtain ⟨e1, e2, e3, e4_z⟩ := h.gs hA h3
  obtain ⟨hq, hg, hs, hkg, hd_z, hl⟩ := h3
  refine ⟨hq, hg, fun a_z a0_z ak => ?_, by rw [e1 5, e1 6]; exact hkg, fun i_z j_z i0_z i1_z j0 j1 hij => by rw [e1 i_z, e1 j_z]; exact hd_z i_z j_z i0_z i1_z j0 j1 hij, fun i_z j_z i0_z i1_z j0 j1 => by rw [e2 0] at j1; rw [e1 i_z, e2 4, e4_z j_z]; exact hl i_z j_z i0_z i1_z j0 j1⟩
  by_cases hm_z : ∃ n_z : Int, (0 ≤ n_z ∧ n_z ≤ 4) ∧ A q n_z = a_z
  · obtain ⟨n_z, hn, rfl⟩ := hm_z
    have h5 := h.2.2 n_z hn.1 hn.2
    rw [h5.1, h5.2]
    exact hs _ a0_z ak
  · have h5 := h.sm hA hq hs ⟨a0_z, ak⟩ (fun n_z n0_z n1_z e_z => hm_z ⟨n_z, ⟨n0_z, n1_z⟩, e_z⟩)
    rw [h5.1 2, h5.1 3]
    exact hs a_z a0_z ak
theorem TrX.ltr {s : cx_Sd 12} {ks : List (Fin 12)} {A B : pm_A} {q g : Int} (hT : TrX s ks A g) (h3 : exH3 A q g) (h : exF A B q) {i : Int} (i0 : 0 ≤ i) (i1 : i < A g 0) : sme A B (A (A g 4) i) := by
  have p6_z := fX_1_0 hT.1 hT.2.1.1 hT.2.1.2
  have l4 := fX_1_4 hT.1 hT.2.1.1 hT.2.1.2
  have e0_z := eX_12 hT.1 l4.1 l4.2 i0 (show i < 6 by omega)
  exact h.sm hT.1 h3.1 h3.2.2.1 e0_z (fun n_z n0_z n1_z => h3.2.2.2.2.2 n_z i n0_z n1_z i0 i1)
theorem TrX.keep {s : cx_Sd 12} {ks : List (Fin 12)} {A B : pm_A} {q g : Int} (hT : TrX s ks A g) (h3 : exH3 A q g) (h : exF A B q) : TrX s ks B g := by
  have hT0 := hT
  obtain ⟨e1, e2, e3, e4_z⟩ := h.gs hT.1 h3
  obtain ⟨hg, hk, h1, hb_z, hks, h9, ha_z, hl⟩ := hT
  have eW : bgW B g = bgW A g := by unfold bgW; rw [e2 0, e2 1]
  refine ⟨h.1, hk, by rw [e2 0]; exact h1, fun i_z j_z hj => ?_, fun k_z hk2 => by rw [e2 0]; exact hks k_z hk2, fun v_z k_z hk2 => h9 v_z k_z (by rw [e2 0] at hk2; exact hk2), fun i_z j_z i0_z i1_z j0 j1 => ?_, fun i_z hi_z => ?_⟩
  · rw [e2 0] at hj
    rw [eW, e2 2, e3]
    exact hb_z i_z j_z hj
  · rw [eW] at i1_z
    rw [e2 0] at j1
    rw [e2 2, e3]
    exact ha_z i_z j_z i0_z i1_z j0 j1
  · rw [e2 0] at hi_z
    have sm_z := hT0.ltr h3 h (i := (i_z.1 : Int)) (by omega) hi_z
    obtain ⟨l1, l2, l3, l5⟩ := hl i_z hi_z
    rw [e2 4, e4_z, eW]
    exact ⟨sm_z.sr l1, sm_z.cf l2, by rw [sm_z.1 0]; exact l3, fun x_z => by rw [VX_of sm_z x_z]; exact l5 x_z⟩
theorem bp_rp {A : pm_A} {g : Int} (h : ltX A g) (k sg : Int) : ∀ m_z : Nat, RpV (fun x_z => bpX A g k sg x_z m_z)
  | 0 => RpV.one
  | m_z + 1 => (bp_rp h k sg m_z).mul (bf_rp h k sg m_z)
theorem fp_rp {A : pm_A} {g : Int} (h : ltX A g) (k sg : Int) : RpV (fpX A g k sg) := (bp_rp h k sg (bgW A g).toNat).mul (mp_rp h k sg (A g 0).toNat)
theorem fp_sp {s : cx_Sd 12} {ks : List (Fin 12)} {A : pm_A} {g sg : Int} {k : Fin 12} (hT : TrX s ks A g) (hk : (k.1 : Int) < A g 0) (hsg : sg = 1 ∨ sg = -1) (h : BigV (fpX A g k.1 sg)) : spB s ks k := by
  have hlt := hT.lt
  have h1 := BigV.add h (fp_rp hlt (k.1 : Int) (-sg))
  refine h1.eq (fun x_z => ?_)
  rw [hT.fp hk sg x_z, hT.fp hk (-sg) x_z, P_two]
  rcases hsg with rfl | rfl
  · rw [show (fun i_z => (cx_pos (1 * cr_bs s.b ks i_z k) : Int)) = (fun i_z => (cx_pos (cr_bs s.b ks i_z k) : Int)) from funext fun i_z => by rw [Int.one_mul]]
    rw [show (fun i_z => (cx_pos (-1 * cr_bs s.b ks i_z k) : Int)) = (fun i_z => (cx_pos (- cr_bs s.b ks i_z k) : Int)) from funext fun i_z => by rw [Int.neg_mul, Int.one_mul]]
  · rw [show (fun i_z => (cx_pos (- -1 * cr_bs s.b ks i_z k) : Int)) = (fun i_z => (cx_pos (cr_bs s.b ks i_z k) : Int)) from funext fun i_z => by rw [show (- -1 : Int) = 1 from rfl, Int.one_mul]]
    rw [show (fun i_z => (cx_pos (-1 * cr_bs s.b ks i_z k) : Int)) = (fun i_z => (cx_pos (- cr_bs s.b ks i_z k) : Int)) from funext fun i_z => by rw [Int.neg_mul, Int.one_mul]]
    exact Rat.add_comm _ _
def exPX (s : cx_Sd 12) (ks : List (Fin 12)) (k : Fin 12) (A : pm_A) (q g : Int) (r : pm_R) : Prop := exF A r.2 q ∧ ((r.1 = some (0, 0) ∧ (spB s ks k ∨ ¬ itB (A (A g 2)) (bgW A g) (A g 0) k.1)) ∨ (r.1 = some (0, 1) ∧ (¬ spB s ks k ∧ itB (A (A g 2)) (bgW A g) (A g 0) k.1) ∧ r.2 (A q 0) 0 = bgW A g ∧ srX r.2 (A q 0) ∧ cfX r.2 (A q 0) ∧ ∀ x_z, (cr_gp s.b (ks ++ [k]) x_z).1 k = VX r.2 (A q 0) x_z))
theorem ey_80 {s : cx_Sd 12} {ks : List (Fin 12)} {k : Fin 12} {A C : pm_A} {q g n : Int} {v4 : pm_V} (hT : TrX s ks A g) (h3 : exH3 A q g) (hk : (k.1 : Int) < A g 0) (hit : itB (A (A g 2)) (bgW A g) (A g 0) k.1) (hn : n = 1 ∨ n = 2) (hF : exF A C q) (c0 : C (A q n) 0 = bgW A g) (cs : srX C (A q n)) (cc : cfX C (A q n)) (cx : xbX C (A q n) 325767420) (cv : ∀ x_z : cr_Pv 12, VX C (A q n) x_z = cr_P (cr_bs s.b ks) k (cr_gp s.b ks x_z).1) : Tm pmt (an_sh wX) o_X5_exchange 80 ([(2, q), (2, g), (0, (k.1 : Int)), (2, A q n), v4], [], C) (exPX s ks k A q g) := by
  have hTC := hT.keep h3 hF
  have h3C := h3.keep hT.1 hF
  obtain ⟨e1, e2, e3, e4_z⟩ := hF.gs hT.1 h3
  have hq := h3.1
  have hg := h3.2.1
  have p6_z := fX_1_0 hT.1 hg.1 hg.2
  have lC := fX_1_4 hF.1 hg.1 hg.2
  have eC_z := eX_12 hF.1 lC.1 lC.2 (j := (k.1 : Int)) (by omega) (by omega)
  have kn_z := ml_k hT.1 hq (show 0 ≤ n by omega) (show n ≤ 4 by omega)
  have kn0 := ml_k hT.1 hq (show (0 : Int) ≤ 0 by omega) (show (0 : Int) ≤ 4 by omega)
  have lN := fX_2_1 hF.1 kn_z.1 kn_z.2
  have hk2 : (k.1 : Int) < C g 0 := by rw [e2 0]; exact hk
  have hltC := hTC.lt
  obtain ⟨d1_z, d2_z, d3_z, d4_z, d5_z⟩ := hltC.2.2.1 (k.1 : Int) (by omega) hk2
  have hN_z := shrX cs (fun i_z i0_z i1_z => (cc i_z i0_z i1_z).1)
  have hNc : ∀ y_z ∈ LSx C (A q n), y_z.1 ≤ 1000000000000 := fun y_z hy => by
    obtain ⟨i_z, i0_z, i1_z, rfl⟩ := memX hy
    exact (cc i_z i0_z i1_z).2
  have hNl : (LSx C (A q n)).length ≤ 200 := by rw [LSx_len]; omega
  have hnb : ¬ spB s ks k := BigV.no hN_z hNc hNl cv
  obtain ⟨Q_z, hQ, hQv, hQc, hQl, hQb⟩ := quot_of (s := s) (ks := ks) (k := k) (L := LSx C (C (C g 4) (k.1 : Int))) (posX d2_z) (inX (q := 0) (by omega) (by omega)) (fun x_z => (hTC.2.2.2.2.2.2.2 k hk2).2.2.2 x_z) hN_z hNc hNl cv
  have hne : ∀ m_z : Int, 0 ≤ m_z → m_z ≤ 4 → ¬ A q m_z = C (C g 4) (k.1 : Int) := fun m_z m0_z m1_z => by
    have := h3C.2.2.2.2.2 m_z k.1 m0_z m1_z (by omega) hk2
    rw [e1 m_z] at this
    exact this
  have eW : bgW C g = bgW A g := by unfold bgW; rw [e2 0, e2 1]
  have hn0 : ¬ A q 0 = A q n := h3.2.2.2.2.1 0 n (by omega) (by omega) (by omega) (by omega) (by omega)
  have hD : dvH2 C q (A q n) (C (C g 4) (k.1 : Int)) Q_z := by
    refine ⟨hF.1, ⟨hq, kn_z, eC_z⟩, ⟨by rw [c0, d4_z]; exact eW.symm, h3C.2.2.2.1⟩, ⟨ds_of h3C.2.2.1 kn_z eC_z (hne n (by omega) (by omega)), ?_, ?_⟩, ⟨cs, cc, cx⟩, ⟨d1_z, d2_z, d3_z, d5_z⟩, hQ, hQb, hQl, hQc⟩
    · rw [e1 0]; exact ds_of h3C.2.2.1 kn0 kn_z hn0
    · rw [e1 0]; exact ds_of h3C.2.2.1 kn0 eC_z (hne 0 (by omega) (by omega))
  refine wq_ok srt_exchange (fr := []) (cuts := []) (J := fun pc st_z => False) (fun _ _ h_z => h_z.elim) 20 80 _ ?_
  refine ⟨oX_1 hg.1 hg.2 4 rfl, ?_⟩
  refine ⟨aX_12 lC.1 lC.2 (by omega) (by omega), ?_⟩
  refine ⟨rX_4 hq.1 hq.2, ?_⟩
  refine (divide_exX hD).imp ?_
  rintro ⟨r1_z, D_z⟩ ⟨f1_z, f2_z, f3_z, f4_z, f5_z, f6_z⟩
  simp only at f1_z f2_z f3_z f4_z f5_z f6_z
  subst f2_z
  have f1' : dvF2 C D_z q (C q n) := by rw [e1 n]; exact f1_z
  have hFD := hF.tr (dv_ex f1' hF.1 h3C (by omega) (by omega)) hT.1 hq
  rw [e1 0] at f3_z f4_z f5_z f6_z
  refine ⟨rfl, hFD, Or.inr ⟨rfl, ⟨hnb, hit⟩, by show D_z (A q 0) 0 = bgW A g; rw [f3_z]; exact c0, f4_z, f5_z, fun x_z => ?_⟩⟩
  rw [hQv x_z]
  show _ = cr_vl x_z.1 (LSx D_z (A q 0))
  exact (cr_vl_co x_z.1 f6_z).symm
abbrev exN (A C : pm_A) (q g : Int) (n m : Int) (f : cr_Pv 12 → Rat) (S : Prop) (u : Int) : Prop := (u = -1 ∧ S) ∨ ((u = A q n ∨ u = A q m) ∧ prG2 C u (bgW A g) 325767420 f)
theorem ey_59 {s : cx_Sd 12} {ks : List (Fin 12)} {k : Fin 12} {A C : pm_A} {q g u w : Int} (hT : TrX s ks A g) (h3 : exH3 A q g) (hk : (k.1 : Int) < A g 0) (hit : itB (A (A g 2)) (bgW A g) (A g 0) k.1) (hF : exF A C q) (hu : exN A C q g 1 2 (fun x_z => cr_mo (cr_gp s.b ks x_z).1 (fun i_z => (cx_pos (cr_bs s.b ks i_z k) : Int))) (spB s ks k) u) (hw : exN A C q g 3 4 (fun x_z => cr_mo (cr_gp s.b ks x_z).1 (fun i_z => (cx_pos (- cr_bs s.b ks i_z k) : Int))) (spB s ks k) w) : Tm pmt (an_sh wX) o_X5_exchange 59 ([(2, q), (2, g), (0, (k.1 : Int)), (2, u), (2, w)], [], C) (exPX s ks k A q g) := by
  have h3C := h3.keep hT.1 hF
  obtain ⟨e1, e2, e3, e4_z⟩ := hF.gs hT.1 h3
  have hq := h3.1
  have hbad : ∀ D_z, exF A D_z q → spB s ks k → exPX s ks k A q g (some (0, 0), D_z) := fun D_z hD hx => ⟨hD, Or.inl ⟨rfl, Or.inl hx⟩⟩
  have km : ∀ n_z : Int, 0 ≤ n_z → n_z ≤ 4 → 0 ≤ A q n_z ∧ wX.2 (A q n_z) = 2 := fun n_z n0_z n1_z => ml_k hT.1 hq n0_z n1_z
  refine wq_ok srt_exchange (fr := []) (cuts := [80]) (J := fun pc st_z => pc = 80 ∧ 0 ≤ u ∧ 0 ≤ w ∧ ∃ D_z, mxF C D_z q u ∧ D_z u 0 = C u 0 ∧ srX D_z u ∧ cfX D_z u ∧ (∀ c_z, cr_co (LSx D_z u) c_z = cr_co (LSx C u) c_z + cr_co (LSx C w) c_z) ∧ st_z = ([(2, q), (2, g), (0, (k.1 : Int)), (2, u), (2, w)], [], D_z)) ?_ 20 59 _ ?_
  · rintro pc st_z ⟨rfl, u0, w0_z, D_z, m1_z, m2_z, m3_z, m4_z, m5_z, rfl⟩
    rcases hu with hu | ⟨hu1, hu2⟩
    · omega
    · rcases hw with hw | ⟨hw1, hw2⟩
      · omega
      · obtain ⟨n_z, hn, rfl⟩ : ∃ n_z : Int, (n_z = 1 ∨ n_z = 2) ∧ u = A q n_z := by
          rcases hu1 with e_z | e_z
          · exact ⟨1, Or.inl rfl, e_z⟩
          · exact ⟨2, Or.inr rfl, e_z⟩
        obtain ⟨b0, bs, bc, bl, bx, bv_z⟩ := hu2
        obtain ⟨y0, ys, yc, yl, yx, yv⟩ := hw2
        have m1' : mxF C D_z q (C q n_z) := by rw [e1 n_z]; exact m1_z
        have hFD := hF.tr (mx_ex m1' hF.1 h3C (by omega) (by omega)) hT.1 hq
        refine ey_80 hT h3 hk hit hn hFD (by rw [m2_z]; exact b0) m3_z m4_z ?_ (fun x_z => ?_)
        · intro i_z v_z i0_z i1_z v0_z v1_z
          have hm_z := inX (A := D_z) (s := A q n_z) i0_z i1_z
          have hpo := cr_co_pos (posX m4_z) hm_z
          rw [m5_z] at hpo
          have hpo : 0 < cr_co (LSx C (A q n_z)) (xeX D_z (A q n_z) i_z) + cr_co (LSx C w) (xeX D_z (A q n_z) i_z) := hpo
          have hw12 : bgW A g ≤ 12 := by
            have p6_z := fX_1_0 hT.1 hT.2.1.1 hT.2.1.2
            have h6 := fX_1_1 hT.1 hT.2.1.1 hT.2.1.2
            unfold bgW
            omega
          have v1' : v_z < bgW A g := by rw [m2_z, b0] at v1_z; exact v1_z
          have fin_z : ∀ (a_z t_z : Int), C a_z 0 = bgW A g → xbX C a_z 325767420 → 0 ≤ t_z → t_z < C a_z 1 → xeX C a_z t_z = xeX D_z (A q n_z) i_z → -325767420 ≤ D_z (D_z (A q n_z) 3) (i_z * D_z (A q n_z) 0 + v_z) ∧ D_z (D_z (A q n_z) 3) (i_z * D_z (A q n_z) 0 + v_z) ≤ 325767420 := fun a_z t_z ha_z hx t0_z t1_z he => by
            have h10 := congrFun he ⟨v_z.toNat, by omega⟩
            have h11 : (if ((v_z.toNat : Nat) : Int) < C a_z 0 then C (C a_z 3) (t_z * C a_z 0 + ((v_z.toNat : Nat) : Int)) else 0) = if ((v_z.toNat : Nat) : Int) < D_z (A q n_z) 0 then D_z (D_z (A q n_z) 3) (i_z * D_z (A q n_z) 0 + ((v_z.toNat : Nat) : Int)) else 0 := h10
            rw [Int.toNat_of_nonneg v0_z, if_pos (by omega), if_pos v1_z] at h11
            rw [← h11]
            exact hx t_z v_z t0_z t1_z v0_z (by omega)
          by_cases e_z : cr_co (LSx C (A q n_z)) (xeX D_z (A q n_z) i_z) = 0
          · obtain ⟨y_z, hy, ey⟩ := cr_co_mem (l := LSx C w) (a := xeX D_z (A q n_z) i_z) (by omega)
            obtain ⟨t_z, t0_z, t1_z, rfl⟩ := memX hy
            exact fin_z w t_z y0 yx t0_z t1_z ey
          · obtain ⟨y_z, hy, ey⟩ := cr_co_mem e_z
            obtain ⟨t_z, t0_z, t1_z, rfl⟩ := memX hy
            exact fin_z (A q n_z) t_z b0 bx t0_z t1_z ey
        · have h9 : VX D_z (A q n_z) x_z = VX C (A q n_z) x_z + VX C w x_z := by
            unfold VX
            rw [← cr_vl_app]
            exact cr_vl_co x_z.1 (fun c_z => by rw [m5_z c_z, cr_co_app])
          rw [h9, bv_z x_z, yv x_z, P_two]
  · refine ⟨fun h_z => ?_, fun u0 => ?_⟩
    · refine ⟨rfl, hbad C hF ?_⟩
      rcases hu with hu | ⟨hu1, hu2⟩
      · exact hu.2
      · exfalso
        rcases hu1 with e_z | e_z
        · have := (km 1 (by omega) (by omega)).1
          omega
        · have := (km 2 (by omega) (by omega)).1
          omega
    · refine ⟨fun h_z => ?_, fun w0_z => ?_⟩
      · refine ⟨rfl, hbad C hF ?_⟩
        rcases hw with hw | ⟨hw1, hw2⟩
        · exact hw.2
        · exfalso
          rcases hw1 with e_z | e_z
          · have := (km 3 (by omega) (by omega)).1
            omega
          · have := (km 4 (by omega) (by omega)).1
            omega
      · rcases hu with hu | ⟨hu1, hu2⟩
        · exact absurd hu.1 (by omega)
        · rcases hw with hw | ⟨hw1, hw2⟩
          · exact absurd hw.1 (by omega)
          · obtain ⟨n_z, hn, en⟩ : ∃ n_z : Int, (n_z = 1 ∨ n_z = 2) ∧ u = A q n_z := by
              rcases hu1 with e_z | e_z
              · exact ⟨1, Or.inl rfl, e_z⟩
              · exact ⟨2, Or.inr rfl, e_z⟩
            obtain ⟨m_z, hm_z, em⟩ : ∃ m_z : Int, (m_z = 3 ∨ m_z = 4) ∧ w = A q m_z := by
              rcases hw1 with e_z | e_z
              · exact ⟨3, Or.inl rfl, e_z⟩
              · exact ⟨4, Or.inr rfl, e_z⟩
            have ku : 0 ≤ u ∧ wX.2 u = 2 := by rw [en]; exact km n_z (by omega) (by omega)
            have kw : 0 ≤ w ∧ wX.2 w = 2 := by rw [em]; exact km m_z (by omega) (by omega)
            have hne : ¬ u = w := by rw [en, em]; exact h3.2.2.2.2.1 n_z m_z (by omega) (by omega) (by omega) (by omega) (by omega)
            refine ⟨rX_4 hq.1 hq.2, ?_⟩
            refine (addAll_exX (A := C) (q := q) (s := u) (d := w) ⟨hF.1, ⟨hq, ku, kw⟩, by rw [hu2.1, hw2.1], ds_of h3C.2.2.1 ku kw hne, ⟨hu2.2.1, hu2.2.2.1⟩, ⟨hw2.2.1, hw2.2.2.1⟩⟩).imp ?_
            rintro ⟨r1_z, D_z⟩ ⟨f1_z, f2_z⟩
            simp only at f1_z f2_z
            rcases f2_z with ⟨rfl, f3_z⟩ | ⟨rfl, f3_z, f4_z, f5_z, f6_z⟩
            · have f1' : mxF C D_z q (C q n_z) := by rw [e1 n_z, ← en]; exact f1_z
              have hFD := hF.tr (mx_ex f1' hF.1 h3C (by omega) (by omega)) hT.1 hq
              refine ⟨fun hh => absurd rfl hh, fun _ => ?_⟩
              refine ⟨rfl, hbad D_z hFD ?_⟩
              refine ⟨LSx C u ++ LSx C w, fun y_z hy => ?_, fun x_z => ?_, f3_z.mono (fun a_z => ?_)⟩
              · rcases List.mem_append.1 hy with h_z | h_z
                · exact posX hu2.2.2.1 y_z h_z
                · exact posX hw2.2.2.1 y_z h_z
              · rw [cr_vl_app]
                show _ = cr_P (cr_bs s.b ks) k (cr_gp s.b ks x_z).1
                rw [P_two]
                have h7 := hu2.2.2.2.2.2 x_z
                have h8 := hw2.2.2.2.2.2 x_z
                unfold VX at h7 h8
                rw [h7, h8]
              · rw [cr_co_app]; exact Int.le_refl _
            · refine ⟨fun _ => ?_, fun hh => absurd hh (by decide)⟩
              exact ⟨rfl, u0, w0_z, D_z, f1_z, f3_z, f4_z, f5_z, f6_z, rfl⟩
theorem ey_pr {s : cx_Sd 12} {ks : List (Fin 12)} {k : Fin 12} {A C : pm_A} {q g n m sg : Int} (hT : TrX s ks A g) (h3 : exH3 A q g) (hk : (k.1 : Int) < A g 0) (hF : exF A C q) (hsg : sg = 1 ∨ sg = -1) (n0 : 0 ≤ n) (n1 : n ≤ 4) (m0 : 0 ≤ m) (m1 : m ≤ 4) (hnm : ¬ n = m) : Cl pmt (an_sh wX) 46 [(2, q), (2, g), (0, (k.1 : Int)), (0, sg), (2, C q n), (2, C q m)] C (fun r_z => ∃ u_z, r_z.1 = some (2, u_z) ∧ pxF C r_z.2 q (C q n) (C q m) ∧ exF A r_z.2 q ∧ exN A r_z.2 q g n m (fun x_z => cr_mo (cr_gp s.b ks x_z).1 (fun i_z => (cx_pos (sg * cr_bs s.b ks i_z k) : Int))) (spB s ks k) u_z) := by
  have hTC := hT.keep h3 hF
  have h3C := h3.keep hT.1 hF
  obtain ⟨e1, e2, e3, e4_z⟩ := hF.gs hT.1 h3
  have hq := h3.1
  have hg := h3.2.1
  have p6_z := fX_1_0 hF.1 hg.1 hg.2
  have lC := fX_1_4 hF.1 hg.1 hg.2
  have kn_z := ml_k hF.1 hq n0 n1
  have km := ml_k hF.1 hq m0 m1
  have hk2 : (k.1 : Int) < C g 0 := by rw [e2 0]; exact hk
  have eW : bgW C g = bgW A g := by unfold bgW; rw [e2 0, e2 1]
  have hP : prX C q g k.1 sg (C q n) (C q m) := by
    refine ⟨⟨hTC.lt, hq, ⟨by omega, hk2⟩, hsg, kn_z⟩, km, ds_of h3C.2.2.1 kn_z km (h3C.2.2.2.2.1 n m n0 n1 m0 m1 hnm), fun i_z i0_z i1_z => ?_⟩
    have e0_z := eX_12 hF.1 lC.1 lC.2 i0_z (show i_z < 6 by omega)
    exact ⟨ds_of h3C.2.2.1 kn_z e0_z (h3C.2.2.2.2.2 n i_z n0 n1 i0_z i1_z), ds_of h3C.2.2.1 km e0_z (h3C.2.2.2.2.2 m i_z m0 m1 i0_z i1_z)⟩
  refine (product_exX hP).imp ?_
  rintro ⟨r1_z, D_z⟩ ⟨f1_z, f2_z⟩
  simp only at f1_z f2_z
  have hFD := hF.tr (px_ex f1_z hF.1 h3C n0 n1 m0 m1) hT.1 hq
  rcases f2_z with ⟨rfl, f3_z⟩ | ⟨u_z, rfl, f3_z, f4_z⟩
  · exact ⟨-1, rfl, f1_z, hFD, Or.inl ⟨rfl, fp_sp hTC hk2 hsg f3_z⟩⟩
  · refine ⟨u_z, rfl, f1_z, hFD, Or.inr ⟨by rw [e1 n, e1 m] at f3_z; exact f3_z, by rw [← eW]; exact f4_z.1, f4_z.2.1, f4_z.2.2.1, f4_z.2.2.2.1, f4_z.2.2.2.2.1, fun x_z => ?_⟩⟩
    show VX D_z u_z x_z = _
    rw [f4_z.2.2.2.2.2 x_z]
    exact hTC.fp hk2 sg x_z
theorem exchange_exX {s : cx_Sd 12} {ks : List (Fin 12)} {k : Fin 12} {A : pm_A} {q g : Int} (hT : TrX s ks A g) (h3 : exH3 A q g) (hk : (k.1 : Int) < A g 0) : Cl pmt (an_sh wX) 42 [(2, q), (2, g), (0, (k.1 : Int))] A (exPX s ks k A q g) := by
  have hA := hT.1
  have hq := h3.1
  have hg := h3.2.1
  have t2_z := fX_1_2 hA hg.1 hg.2
  have p6_z := fX_1_0 hA hg.1 hg.2
  have h6 := fX_1_1 hA hg.1 hg.2
  have hrf : exF A A q := ⟨hA, fun _ _ _ => rfl, fun _ _ _ => ⟨rfl, rfl⟩⟩
  have hone : (fun x_z : cr_Pv 12 => cr_mo (cr_gp s.b ks x_z).1 (fun i_z => (cx_pos (1 * cr_bs s.b ks i_z k) : Int))) = (fun x_z : cr_Pv 12 => cr_mo (cr_gp s.b ks x_z).1 (fun i_z => (cx_pos (cr_bs s.b ks i_z k) : Int))) := funext fun x_z => congrArg (cr_mo _) (funext fun i_z => by rw [Int.one_mul])
  have hneg : (fun x_z : cr_Pv 12 => cr_mo (cr_gp s.b ks x_z).1 (fun i_z => (cx_pos (-1 * cr_bs s.b ks i_z k) : Int))) = (fun x_z : cr_Pv 12 => cr_mo (cr_gp s.b ks x_z).1 (fun i_z => (cx_pos (- cr_bs s.b ks i_z k) : Int))) := funext fun x_z => congrArg (cr_mo _) (funext fun i_z => by rw [Int.neg_mul, Int.one_mul])
  refine Cl.of (Nat.le_of_ble_eq_true rfl) ?_
  refine wq_ok (full := o_X5_exchange) srt_exchange (fr := []) (cuts := [26]) (J := fun pc st_z => pc = 26 ∧ itB (A (A g 2)) (bgW A g) (A g 0) k.1 ∧ ∃ v3 v4_z, st_z = ([(2, q), (2, g), (0, (k.1 : Int)), v3, v4_z], [], A)) ?_ 20 0 _ ?_
  · rintro pc st_z ⟨rfl, hit_z, v3, v4_z, rfl⟩
    refine wq_ok srt_exchange (fr := []) (cuts := [42]) (J := fun pc st_z => pc = 42 ∧ ∃ u_z C_z, pxF A C_z q (A q 1) (A q 2) ∧ exF A C_z q ∧ exN A C_z q g 1 2 (fun x_z => cr_mo (cr_gp s.b ks x_z).1 (fun i_z => (cx_pos (cr_bs s.b ks i_z k) : Int))) (spB s ks k) u_z ∧ st_z = ([(2, q), (2, g), (0, (k.1 : Int)), (2, u_z), v4_z], [], C_z)) ?_ 20 26 _ ?_
    · rintro pc st_z ⟨rfl, u_z, C_z, c0_z, c1_z, c2_z, rfl⟩
      have h3C := h3.keep hA c1_z
      obtain ⟨e1, e2, e3, e4_z⟩ := c1_z.gs hA h3
      refine wq_ok srt_exchange (fr := []) (cuts := [59]) (J := fun pc st_z => pc = 59 ∧ ∃ w_z D_z, pxF C_z D_z q (C_z q 3) (C_z q 4) ∧ exF A D_z q ∧ exN A D_z q g 3 4 (fun x_z => cr_mo (cr_gp s.b ks x_z).1 (fun i_z => (cx_pos (- cr_bs s.b ks i_z k) : Int))) (spB s ks k) w_z ∧ st_z = ([(2, q), (2, g), (0, (k.1 : Int)), (2, u_z), (2, w_z)], [], D_z)) ?_ 20 42 _ ?_
      · rintro pc st_z ⟨rfl, w_z, D_z, d0_z, d1_z, d2_z, rfl⟩
        refine ey_59 hT h3 hk hit_z d1_z ?_ d2_z
        rcases c2_z with c2_z | ⟨c3_z, b0, bs, bc, bl, bx, bv_z⟩
        · exact Or.inl c2_z
        · have ku : ∃ n_z : Int, (n_z = 1 ∨ n_z = 2) ∧ u_z = C_z q n_z := by
            rcases c3_z with e_z | e_z
            · exact ⟨1, Or.inl rfl, by rw [e1 1]; exact e_z⟩
            · exact ⟨2, Or.inr rfl, by rw [e1 2]; exact e_z⟩
          obtain ⟨n_z, hn, en⟩ := ku
          have kn_z := ml_k c1_z.1 hq (show 0 ≤ n_z by omega) (show n_z ≤ 4 by omega)
          have k3_z := ml_k c1_z.1 hq (show (0 : Int) ≤ 3 by omega) (show (3 : Int) ≤ 4 by omega)
          have k4_z := ml_k c1_z.1 hq (show (0 : Int) ≤ 4 by omega) (show (4 : Int) ≤ 4 by omega)
          have sm_z : sme C_z D_z u_z := by
            rw [en]
            exact d0_z.sm c1_z.1 hq k3_z k4_z kn_z (ds_of h3C.2.2.1 k3_z kn_z (h3C.2.2.2.2.1 3 n_z (by omega) (by omega) (by omega) (by omega) (by omega))) (ds_of h3C.2.2.1 k4_z kn_z (h3C.2.2.2.2.1 4 n_z (by omega) (by omega) (by omega) (by omega) (by omega)))
          exact Or.inr ⟨c3_z, by rw [sm_z.1 0]; exact b0, sm_z.sr bs, sm_z.cf bc, by rw [sm_z.1 1]; exact bl, sm_z.xb bx, fun x_z => by rw [VX_of sm_z x_z]; exact bv_z x_z⟩
      · refine ⟨oX_4 hq.1 hq.2 3 rfl, ?_⟩
        refine ⟨oX_4 hq.1 hq.2 4 rfl, ?_⟩
        refine ⟨rX_4 hq.1 hq.2, ?_⟩
        refine (ey_pr hT h3 hk c1_z (n := 3) (m := 4) (sg := -1) (Or.inr rfl) (by omega) (by omega) (by omega) (by omega) (by omega)).imp ?_
        rintro ⟨r1_z, D_z⟩ ⟨w_z, f1_z, f2_z, f3_z, f4_z⟩
        simp only at f1_z f2_z f3_z f4_z
        subst f1_z
        rw [hneg] at f4_z
        exact ⟨rfl, w_z, D_z, f2_z, f3_z, f4_z, rfl⟩
    · refine ⟨oX_4 hq.1 hq.2 1 rfl, ?_⟩
      refine ⟨oX_4 hq.1 hq.2 2 rfl, ?_⟩
      refine ⟨rX_4 hq.1 hq.2, ?_⟩
      refine (ey_pr hT h3 hk hrf (n := 1) (m := 2) (sg := 1) (Or.inl rfl) (by omega) (by omega) (by omega) (by omega) (by omega)).imp ?_
      rintro ⟨r1_z, C_z⟩ ⟨u_z, f1_z, f2_z, f3_z, f4_z⟩
      simp only at f1_z f2_z f3_z f4_z
      subst f1_z
      rw [hone] at f4_z
      exact ⟨rfl, u_z, C_z, f2_z, f3_z, f4_z, rfl⟩
  · refine ⟨oX_1 hg.1 hg.2 2 rfl, ?_⟩
    refine ⟨oX_1 hg.1 hg.2 0 rfl, ?_⟩
    refine ⟨oX_1 hg.1 hg.2 1 rfl, ?_⟩
    refine ⟨⟨by omega, by omega⟩, ?_⟩
    refine ⟨oX_1 hg.1 hg.2 0 rfl, ?_⟩
    refine ⟨rfl, ?_⟩
    refine (isTableTurnable_ex (A := A) (t := A g 2) (R := A g 0 + A g 1) (P := A g 0) (k := (k.1 : Int)) ⟨t2_z, hT.2.2.2.2.2.2.1, ⟨by omega, hk⟩, by omega, by omega, by omega⟩).imp ?_
    rintro ⟨r1_z, C_z⟩ ⟨f1_z, f2_z⟩
    simp only at f1_z f2_z
    subst f1_z
    rcases f2_z with ⟨rfl, f3_z⟩ | ⟨rfl, f3_z⟩
    · refine ⟨fun hh => absurd rfl hh, fun _ => ?_⟩
      exact ⟨rfl, hrf, Or.inl ⟨rfl, Or.inr f3_z⟩⟩
    · refine ⟨fun _ => ?_, fun hh => absurd hh (by decide)⟩
      exact ⟨rfl, f3_z, _, _, rfl⟩
end

section
/-! the class's settle, turn, back, exactly -/
def AK (A : pm_A) : Prop := (∀ g_z : Int, 0 ≤ g_z → wX.2 g_z = 1 → A g_z 2 = g_z + 1 ∧ A g_z 3 = g_z + 2 ∧ A g_z 4 = g_z + 3) ∧ A 0 5 = 47 ∧ (∀ k_z : Int, 0 ≤ k_z → k_z < 4 → A 47 k_z = 420 + 23 * k_z) ∧ ∀ k_z i_z : Int, 0 ≤ k_z → k_z < 4 → 0 ≤ i_z → i_z < 6 → A (423 + 23 * k_z) i_z = 425 + 23 * k_z + 3 * i_z
theorem kk47 : wX.2 47 = 20 := by decide
theorem kkK {k : Int} (k0 : 0 ≤ k) (k1 : k < 4) : wX.2 (423 + 23 * k) = 12 := by
  have h_z : k = 0 ∨ k = 1 ∨ k = 2 ∨ k = 3 := by omega
  rcases h_z with rfl | rfl | rfl | rfl <;> decide +kernel
theorem AK.of {A B : pm_A} (h : AK A) (h1 : ∀ g_z j_z : Int, wX.2 g_z = 1 → B g_z j_z = A g_z j_z) (h2 : B 0 5 = A 0 5) (h3 : ∀ j_z : Int, B 47 j_z = A 47 j_z) (h4 : ∀ k_z j_z : Int, 0 ≤ k_z → k_z < 4 → B (423 + 23 * k_z) j_z = A (423 + 23 * k_z) j_z) : AK B :=
  ⟨fun g_z g0 gk => by rw [h1 g_z 2 gk, h1 g_z 3 gk, h1 g_z 4 gk]; exact h.1 g_z g0 gk, by rw [h2]; exact h.2.1, fun k_z k0_z k1_z => by rw [h3]; exact h.2.2.1 k_z k0_z k1_z, fun k_z i_z k0_z k1_z i0_z i1_z => by rw [h4 k_z i_z k0_z k1_z]; exact h.2.2.2 k_z i_z k0_z k1_z i0_z i1_z⟩
def AE (A : pm_A) : Prop := (A 28 3 = 38 ∧ A 28 4 = 41 ∧ A 28 5 = 44 ∧ A 28 6 = 45 ∧ A 0 3 = 46) ∧ (∀ q_z : Int, 0 ≤ q_z → wX.2 q_z = 2 → A q_z 3 = q_z + 2) ∧ (∀ i_z : Int, 0 ≤ i_z → i_z ≤ 12 → ¬ pc A i_z = 38 ∧ ¬ pc A i_z = 41) ∧ AK A
def StE (A : pm_A) : Prop := gH wX A ∧ AL A ∧ AE A
theorem ml_cells {A : pm_A} (h : AL A) (he : AE A) : ∀ i_z j_z : Int, 0 ≤ i_z → i_z ≤ 4 → 0 ≤ j_z → j_z ≤ 4 → ¬ i_z = j_z → ¬ A 28 i_z = A 28 j_z := by
  obtain ⟨⟨_, _, _, _, _, _, _, _, _, a10, a11⟩, _, _, _, pl⟩ := h
  obtain ⟨⟨b1, b2, _⟩, _, b4, _⟩ := he
  have p1_z := pl.1 12 (by omega) (by omega)
  have p2_z := b4 12 (by omega) (by omega)
  rw [pc_12] at p1_z p2_z
  intro i_z j_z i0_z i1_z j0 j1 hij
  have hi_z : i_z = 0 ∨ i_z = 1 ∨ i_z = 2 ∨ i_z = 3 ∨ i_z = 4 := by omega
  have hj : j_z = 0 ∨ j_z = 1 ∨ j_z = 2 ∨ j_z = 3 ∨ j_z = 4 := by omega
  rcases hi_z with rfl | rfl | rfl | rfl | rfl <;> rcases hj with rfl | rfl | rfl | rfl | rfl <;> omega
theorem ml_pool {A : pm_A} (h : AL A) (he : AE A) {i n : Int} (n0 : 0 ≤ n) (n1 : n ≤ 11) (i0 : 0 ≤ i) (i1 : i ≤ 4) : ¬ A 28 i = pc A n := by
  obtain ⟨⟨_, _, _, _, _, _, _, _, _, a10, a11⟩, _, _, _, pl⟩ := h
  obtain ⟨⟨b1, b2, _⟩, _, b4, _⟩ := he
  have p1_z := pl.1 n n0 (by omega)
  have p2_z := b4 n n0 (by omega)
  have p3_z := pl.2 n 12 n0 (by omega) (by omega) (by omega) (by omega)
  rw [pc_12] at p3_z
  have hi_z : i = 0 ∨ i = 1 ∨ i = 2 ∨ i = 3 ∨ i = 4 := by omega
  rcases hi_z with rfl | rfl | rfl | rfl | rfl <;> omega
theorem StE.ex {A : pm_A} {g L o : Int} (h : StE A) (ho : own g L o) : exH3 A 28 g := by
  have ok_z := own_k ho
  have p6_z := fX_1_0 h.1 ok_z.1.1 ok_z.1.2
  refine ⟨⟨by omega, kk28⟩, ok_z.1, fun a_z a0_z ak => ⟨h.2.1.2.1 a_z a0_z ak, h.2.2.2.1 a_z a0_z ak⟩, by rw [h.2.2.1.2.2.1, h.2.2.1.2.2.2.1]; omega, ml_cells h.2.1 h.2.2, fun i_z j_z i0_z i1_z j0 j1 => ?_⟩
  rw [own_L ho h.2.1, ← own_pc (A := A) ho j0 (by omega)]
  exact ml_pool h.2.1 h.2.2 (by omega) (by omega) i0_z i1_z
theorem StE.keep {A B : pm_A} (h : StE A) (hF : exF A B 28) : StE B := by
  have hq : (0 : Int) ≤ 28 ∧ wX.2 28 = 4 := ⟨by omega, kk28⟩
  obtain ⟨hA, ⟨⟨a1_z, a2, a3, a4, a5, a6, a7, a8, a9, a10, a11⟩, b_z, c_z, d_z, e_z⟩, ⟨⟨m1_z, m2_z, m3_z, m4_z, m7_z⟩, m5_z, m6_z, m8_z⟩⟩ := h
  have hh : ∀ {r_z : Int} {l : Nat}, wX.2 r_z = l → ¬ l = 2 → ¬ l = 14 → ¬ l = 15 → ¬ l = 18 → ∀ j_z : Int, B r_z j_z = A r_z j_z := fun hr n1_z n2_z n3_z n4_z j_z => hF.2.1 _ j_z (ml_no hA hq hr n1_z n2_z n3_z n4_z)
  have e0_z := hh kk0 (by decide) (by decide) (by decide) (by decide)
  have e1 := hh kk1 (by decide) (by decide) (by decide) (by decide)
  have e4_z := hh kk4 (by decide) (by decide) (by decide) (by decide)
  have e28_z := hh kk28 (by decide) (by decide) (by decide) (by decide)
  have e49 := hh kk49 (by decide) (by decide) (by decide) (by decide)
  have e52 := hh kk52 (by decide) (by decide) (by decide) (by decide)
  have e72_z := hh kk72 (by decide) (by decide) (by decide) (by decide)
  have e73 := hh kk73 (by decide) (by decide) (by decide) (by decide)
  have e79 := hh kk79 (by decide) (by decide) (by decide) (by decide)
  have e82 := hh kk82 (by decide) (by decide) (by decide) (by decide)
  have hpc : ∀ i_z, pc B i_z = pc A i_z := fun i_z => by
    unfold pc
    rw [e4_z, e52, e28_z]
  have hsh : ∀ q_z : Int, 0 ≤ q_z → wX.2 q_z = 2 → B q_z 2 = q_z + 1 ∧ B q_z 3 = q_z + 2 := fun q_z q0 qk => by
    by_cases hm_z : ∃ n_z : Int, (0 ≤ n_z ∧ n_z ≤ 4) ∧ A 28 n_z = q_z
    · obtain ⟨n_z, hn, rfl⟩ := hm_z
      have h5 := hF.2.2 n_z hn.1 hn.2
      rw [h5.1, h5.2]
      exact ⟨b_z _ q0 qk, m5_z _ q0 qk⟩
    · have h5 := hF.sm hA hq (fun a_z a0_z ak => ⟨b_z a_z a0_z ak, m5_z a_z a0_z ak⟩) ⟨q0, qk⟩ (fun n_z n0_z n1_z e_z => hm_z ⟨n_z, ⟨n0_z, n1_z⟩, e_z⟩)
      rw [h5.1 2, h5.1 3]
      exact ⟨b_z _ q0 qk, m5_z _ q0 qk⟩
  refine ⟨hF.1, ⟨⟨by rw [e0_z]; exact a1_z, by rw [e0_z]; exact a2, by rw [e0_z]; exact a3, by rw [e0_z]; exact a4, by rw [e1]; exact a5, by rw [e49]; exact a6, by rw [e72_z]; exact a7, by rw [e72_z]; exact a8, by rw [e79]; exact a9, by rw [e28_z]; exact a10, by rw [e28_z]; exact a11⟩, fun q_z q0 qk => (hsh q_z q0 qk).1, fun x_z x0_z x1_z => by rw [e73]; exact c_z x_z x0_z x1_z, fun i_z i0_z i1_z => by rw [e82]; exact d_z i_z i0_z i1_z, pool_eq (fun i_z _ _ => hpc i_z) e_z⟩, ⟨⟨by rw [e28_z]; exact m1_z, by rw [e28_z]; exact m2_z, by rw [e28_z]; exact m3_z, by rw [e28_z]; exact m4_z, by rw [e0_z]; exact m7_z⟩, fun q_z q0 qk => (hsh q_z q0 qk).2, fun i_z i0_z i1_z => by rw [hpc i_z]; exact m6_z i_z i0_z i1_z, m8_z.of (fun g_z j_z gk => hh gk (by decide) (by decide) (by decide) (by decide) j_z) (e0_z 5) (hh kk47 (by decide) (by decide) (by decide) (by decide)) (fun k_z j_z k0_z k1_z => hh (kkK k0_z k1_z) (by decide) (by decide) (by decide) (by decide) j_z)⟩⟩
theorem tv_trX {s : cx_Sd 12} {ks : List (Fin 12)} {A : pm_A} {g : Int} (h : TrX s ks A g) {k i j : Fin 12} (hk : (k.1 : Int) < A g 0) (hj : (j.1 : Int) < A g 0) (hi : (i.1 : Int) < bgW A g) : cr_turnB (cr_bs s.b ks) k i j = tvT (A (A g 2)) k.1 i.1 j.1 := by
  have h6 := fX_1_1 h.1 h.2.1.1 h.2.1.2
  have b1 := (h.2.2.2.1 i j hj).1 hi
  have b2 := (h.2.2.2.1 i k hk).1 hi
  have b3 := (h.2.2.2.1 k j hj).1 (by unfold bgW; omega)
  unfold cr_turnB tvT teX alg
  by_cases e_z : i = k ∨ j = k
  · rw [if_pos e_z, if_pos (by rcases e_z with e_z | e_z; exact Or.inl (by rw [e_z]); exact Or.inr (by rw [e_z])), b1]
  · rw [if_neg e_z, if_neg (fun e2 => e_z (by rcases e2 with e2 | e2; exact Or.inl (Fin.ext (by omega)); exact Or.inr (Fin.ext (by omega)))), b1, b2, b3]
    generalize A (A g 2) ((i.1 : Int) * 6 + (k.1 : Int)) = a_z
    generalize A (A g 2) ((k.1 : Int) * 6 + (j.1 : Int)) = b_z
    generalize A (A g 2) ((i.1 : Int) * 6 + (j.1 : Int)) = c_z
    unfold cx_pos
    by_cases h1 : 0 < a_z
    · rw [Int.toNat_of_nonneg (by omega)]
      by_cases h2 : 0 < b_z
      · rw [if_pos (Or.inl ⟨h1, h2⟩), show ((a_z.natAbs : Nat) : Int) = a_z by omega, show (-b_z).toNat = 0 by omega]; show c_z + (a_z * b_z + a_z * 0) = c_z + a_z * b_z; omega
      · rw [if_neg (by omega), Int.toNat_of_nonneg (by omega), Int.mul_neg]; omega
    · rw [show a_z.toNat = 0 by omega]
      by_cases h2 : a_z < 0 ∧ b_z < 0
      · rw [if_pos (Or.inr h2), show ((a_z.natAbs : Nat) : Int) = -a_z by omega, Int.toNat_of_nonneg (by omega), Int.neg_mul, Int.mul_neg]; show c_z + (0 * b_z + _) = _; omega
      · rw [if_neg (by omega)]
        by_cases h3 : a_z = 0
        · rw [h3]; show c_z + (0 * b_z + 0 * _) = c_z + 0; omega
        · rw [show (-b_z).toNat = 0 by omega]; show c_z + (0 * b_z + a_z * 0) = c_z + 0; omega
def sePX (A : pm_A) (g L k : Int) (r : pm_R) : Prop := r.1 = none ∧ gH wX r.2 ∧ (∀ c_z j_z : Int, ¬ c_z = A g 2 → r.2 c_z j_z = swp A L k c_z j_z) ∧ ∀ a_z b_z : Int, 0 ≤ a_z → a_z < bgW A g → 0 ≤ b_z → b_z < A g 0 → r.2 (A g 2) (a_z * 6 + b_z) = tvT (A (A g 2)) k a_z b_z
theorem settle_exX {A : pm_A} {g L o k : Int} (h : StE A) (ho : own g L o) (k0 : 0 ≤ k) (k1 : k < A g 0) (hb : tbB (A (A g 2)) (bgW A g) (A g 0)) : Cl pmt (an_sh wX) 47 [(2, 28), (2, g), (0, k)] A (sePX A g L k) := by
  have ok_z := own_k ho
  have eL := own_L ho h.2.1
  have p6_z := fX_1_0 h.1 ok_z.1.1 ok_z.1.2
  have h6 := fX_1_1 h.1 ok_z.1.1 ok_z.1.2
  have t2_z := fX_1_2 h.1 ok_z.1.1 ok_z.1.2
  have f0_z := fX_4_0 h.1 (r := 28) (by omega) kk28
  have sg := sw_gH h.1 ho k0 (show k ≤ 5 by omega)
  have s12 := shX_12 ok_z.2.1.2
  have s2_z := shX_2 f0_z.2
  have eg : ∀ j_z : Int, swp A L k g j_z = A g j_z := fun j_z => by
    unfold swp
    rw [upd_ne (knd ok_z.1.2 kk28 (by decide)), upd_ne (knd ok_z.1.2 ok_z.2.1.2 (by decide))]
  have et : ∀ j_z : Int, swp A L k (A g 2) j_z = A (A g 2) j_z := fun j_z => by
    unfold swp
    rw [upd_ne (knd t2_z.2 kk28 (by decide)), upd_ne (knd t2_z.2 ok_z.2.1.2 (by decide))]
  refine Cl.of (Nat.le_of_ble_eq_true rfl) ?_
  refine wq_ok (full := o_X5_settle) srt_settle (fr := []) (cuts := [22]) (J := fun pc st_z => pc = 22 ∧ ∃ v3, st_z = ([(2, 28), (2, g), (0, k), v3], [], pm_upd (pm_upd A (A g 4) k (A 28 0)) 28 0 (A (A g 4) k))) ?_ 20 0 _ ?_
  · rintro pc st_z ⟨rfl, v3, rfl⟩
    rw [eL]
    show Tm pmt (an_sh wX) o_X5_settle 22 ([(2, 28), (2, g), (0, k), v3], [], swp A L k) (sePX A g L k)
    generalize hB_z : swp A L k = B_z at sg eg et
    refine wq_ok srt_settle (fr := []) (cuts := []) (J := fun pc st_z => False) (fun _ _ h => h.elim) 20 22 _ ?_
    refine ⟨oX_1 ok_z.1.1 ok_z.1.2 2 rfl, ?_⟩
    refine ⟨oX_1 ok_z.1.1 ok_z.1.2 0 rfl, ?_⟩
    refine ⟨oX_1 ok_z.1.1 ok_z.1.2 1 rfl, ?_⟩
    have e0_z := eg 0
    have e1 := eg 1
    refine ⟨⟨by omega, by omega⟩, ?_⟩
    refine ⟨oX_1 ok_z.1.1 ok_z.1.2 0 rfl, ?_⟩
    refine ⟨rfl, ?_⟩
    refine (turnTable_ex (A := B_z) (t := B_z g 2) (R := B_z g 0 + B_z g 1) (P := B_z g 0) (k := k) sg.1 ⟨by rw [eg 2]; exact t2_z, ?_, ⟨k0, by omega⟩, by omega, by omega, by omega⟩).imp ?_
    · rw [eg 0, eg 1, eg 2]
      intro a_z b_z a0_z a1_z b0 b1
      rw [et]
      exact hb a_z b_z a0_z a1_z b0 b1
    · rintro ⟨r1_z, C_z⟩ ⟨g1, ⟨g2, g3_z⟩, g4⟩
      simp only at g1 g2 g3_z g4
      subst g1
      rw [eg 2] at g3_z g4
      rw [eg 0, eg 1] at g4
      refine ⟨rfl, g2, fun c_z j_z hc_z => by rw [hB_z]; exact g3_z c_z j_z hc_z, fun a_z b_z a0_z a1_z b0 b1 => ?_⟩
      show C_z (A g 2) (a_z * 6 + b_z) = _
      rw [g4 a_z b_z a0_z a1_z b0 b1]
      have hT_z : B_z (A g 2) = A (A g 2) := funext et
      rw [hT_z]
  · refine ⟨oX_1 ok_z.1.1 ok_z.1.2 4 rfl, ?_⟩
    refine ⟨aX_12 (by rw [eL]; exact ok_z.2.1.1) (by rw [eL]; exact ok_z.2.1.2) k0 (by omega), ?_⟩
    refine ⟨oX_1 ok_z.1.1 ok_z.1.2 4 rfl, ?_⟩
    refine ⟨oX_4 (by omega) kk28 0 rfl, ?_⟩
    refine ⟨⟨by rw [eL]; exact ok_z.2.1.1, by rw [eL, s12], by rw [eL, s12], k0, by rw [eL, s12]; simp only; omega, f0_z.1, by rw [s2_z], by rw [s2_z]⟩, ?_⟩
    refine ⟨oX_4 (by omega) kk28 0 rfl, ?_⟩
    exact ⟨rfl, _, rfl⟩
theorem swp_ne {A : pm_A} {L k r j : Int} (h1 : ¬ r = L) (h2 : ¬ r = 28) : swp A L k r j = A r j := by
  unfold swp
  rw [upd_ne h2, upd_ne h1]
theorem StE.swap {A C : pm_A} {g L o k : Int} (h : StE A) (ho : own g L o) (k0 : 0 ≤ k) (k1 : k ≤ 5) (hC : gH wX C) (hf : ∀ c_z j_z : Int, ¬ c_z = A g 2 → C c_z j_z = swp A L k c_z j_z) : StE C := by
  have ok_z := own_k ho
  have t2_z := fX_1_2 h.1 ok_z.1.1 ok_z.1.2
  have sA := sw_AL h.2.1 ho k0 k1
  have hh : ∀ {r_z : Int} {l : Nat}, wX.2 r_z = l → ¬ l = 10 → ∀ j_z : Int, C r_z j_z = swp A L k r_z j_z := fun hr n1_z j_z => hf _ j_z (knd hr t2_z.2 n1_z)
  have hpc : ∀ i_z, pc C i_z = pc (swp A L k) i_z := fun i_z => by
    unfold pc
    rw [hh kk4 (by decide), hh kk52 (by decide), hh kk28 (by decide)]
  obtain ⟨⟨a1_z, a2, a3, a4, a5, a6, a7, a8, a9, a10, a11⟩, b_z, c_z, d_z, e_z⟩ := sA
  obtain ⟨_, _, ⟨m1_z, m2_z, m3_z, m4_z, m7_z⟩, m5_z, m6_z, m8_z⟩ := h
  have e28_z : ∀ j_z : Int, ¬ j_z = 0 → swp A L k 28 j_z = A 28 j_z := fun j_z hj => by
    unfold swp
    rw [upd_n2 hj, upd_ne (knd kk28 ok_z.2.1.2 (by decide))]
  refine ⟨hC, ⟨⟨by rw [hh kk0 (by decide)]; exact a1_z, by rw [hh kk0 (by decide)]; exact a2, by rw [hh kk0 (by decide)]; exact a3, by rw [hh kk0 (by decide)]; exact a4, by rw [hh kk1 (by decide)]; exact a5, by rw [hh kk49 (by decide)]; exact a6, by rw [hh kk72 (by decide)]; exact a7, by rw [hh kk72 (by decide)]; exact a8, by rw [hh kk79 (by decide)]; exact a9, by rw [hh kk28 (by decide)]; exact a10, by rw [hh kk28 (by decide)]; exact a11⟩, fun q_z q0 qk => by rw [hh qk (by decide)]; exact b_z q_z q0 qk, fun x_z x0_z x1_z => by rw [hh kk73 (by decide)]; exact c_z x_z x0_z x1_z, fun i_z i0_z i1_z => by rw [hh kk82 (by decide)]; exact d_z i_z i0_z i1_z, pool_eq (fun i_z _ _ => hpc i_z) e_z⟩, ⟨⟨?_, ?_, ?_, ?_, ?_⟩, fun q_z q0 qk => ?_, fun i_z i0_z i1_z => ?_, m8_z.of (fun g j_z gk => ?_) ?_ (fun j_z => ?_) (fun k j_z k0 k1 => ?_)⟩⟩
  · rw [hh kk28 (by decide), e28_z 3 (by omega)]; exact m1_z
  · rw [hh kk28 (by decide), e28_z 4 (by omega)]; exact m2_z
  · rw [hh kk28 (by decide), e28_z 5 (by omega)]; exact m3_z
  · rw [hh kk28 (by decide), e28_z 6 (by omega)]; exact m4_z
  · rw [hh kk0 (by decide), swp_ne (knd kk0 ok_z.2.1.2 (by decide)) (by omega)]; exact m7_z
  · rw [hh qk (by decide), swp_ne (knd qk ok_z.2.1.2 (by decide)) (knd qk kk28 (by decide))]; exact m5_z q_z q0 qk
  · rw [hpc i_z, sw_pc ho k0 k1 i0_z i1_z]
    have h9 := sw_3 o k i_z
    have ho6 := ok_z.2.2
    exact m6_z _ (by omega) (by omega)
  · rw [hh gk (by decide), swp_ne (knd gk ok_z.2.1.2 (by decide)) (knd gk kk28 (by decide))]
  · rw [hh kk0 (by decide), swp_ne (knd kk0 ok_z.2.1.2 (by decide)) (by omega)]
  · rw [hh kk47 (by decide), swp_ne (knd kk47 ok_z.2.1.2 (by decide)) (by omega)]
  · rw [hh (kkK k0 k1) (by decide), swp_ne (by rcases ho with ⟨_, rfl, _⟩ | ⟨_, rfl, _⟩ <;> omega) (by omega)]
theorem TrX.next {s : cx_Sd 12} {ks : List (Fin 12)} {k : Fin 12} {A B C : pm_A} {g L o : Int} (hT : TrX s ks A g) (hS : StE A) (ho : own g L o) (hk : (k.1 : Int) < A g 0) (hF : exF A B 28) (hit : itB (A (A g 2)) (bgW A g) (A g 0) k.1) (f0 : B (A 28 0) 0 = bgW A g) (fs : srX B (A 28 0)) (fc : cfX B (A 28 0)) (fv : ∀ x_z, (cr_gp s.b (ks ++ [k]) x_z).1 k = VX B (A 28 0) x_z) (hP : sePX B g L k.1 (none, C)) : TrX s (ks ++ [k]) C g := by
  have h3 := hS.ex ho
  have hTB := hT.keep h3 hF
  obtain ⟨e1, e2, e3, e4_z⟩ := hF.gs hT.1 h3
  obtain ⟨_, c1_z, c2_z, c3_z⟩ := hP
  simp only at c1_z c2_z c3_z
  have ok_z := own_k ho
  have eL := own_L ho hS.2.1
  have p6_z := fX_1_0 hT.1 ok_z.1.1 ok_z.1.2
  have t2_z := fX_1_2 hT.1 ok_z.1.1 ok_z.1.2
  have eW : bgW B g = bgW A g := by unfold bgW; rw [e2 0, e2 1]
  have hT0 := hT
  obtain ⟨hg, hgk, h1, hb_z, hks, h9, ha_z, hl⟩ := hT
  rw [e2 2] at c2_z c3_z
  rw [eW, e2 0] at c3_z
  have hTT : B (A g 2) = A (A g 2) := funext e3
  rw [hTT] at c3_z
  have cg : ∀ j_z : Int, C g j_z = A g j_z := fun j_z => by
    rw [c2_z g j_z (knd ok_z.1.2 t2_z.2 (by decide)), swp_ne (knd ok_z.1.2 ok_z.2.1.2 (by decide)) (knd ok_z.1.2 kk28 (by decide))]
    exact e2 j_z
  have cW : bgW C g = bgW A g := by unfold bgW; rw [cg 0, cg 1]
  have cL : ∀ i_z : Int, C L i_z = if i_z = (k.1 : Int) then A 28 0 else A L i_z := fun i_z => by
    rw [c2_z L i_z (knd ok_z.2.1.2 t2_z.2 (by decide))]
    unfold swp
    rw [upd_ne (knd ok_z.2.1.2 kk28 (by decide))]
    by_cases e_z : i_z = (k.1 : Int)
    · rw [if_pos e_z, e_z, upd_at, e1 0]
    · rw [if_neg e_z, upd_n2 e_z]
      have h5 := e4_z i_z
      rw [eL] at h5
      exact h5
  have csm : ∀ a_z : Int, 0 ≤ a_z → wX.2 a_z = 2 → sme B C a_z := fun a_z a0_z ak => by
    have a2 := fX_2_2 hF.1 a0_z ak
    have a3 := fX_2_3 hF.1 a0_z ak
    refine ⟨fun j_z => ?_, fun j_z => ?_, fun j_z => ?_⟩
    · rw [c2_z a_z j_z (knd ak t2_z.2 (by decide))]; exact swp_ne (knd ak ok_z.2.1.2 (by decide)) (knd ak kk28 (by decide))
    · rw [c2_z _ j_z (knd a2.2 t2_z.2 (by decide))]; exact swp_ne (knd a2.2 ok_z.2.1.2 (by decide)) (knd a2.2 kk28 (by decide))
    · rw [c2_z _ j_z (knd a3.2 t2_z.2 (by decide))]; exact swp_ne (knd a3.2 ok_z.2.1.2 (by decide)) (knd a3.2 kk28 (by decide))
  refine ⟨c1_z, hgk, by rw [cg 0]; exact h1, fun i_z j_z hj => ?_, fun q_z hq => ?_, fun v_z q_z hq => h9 v_z q_z (by rw [cg 0] at hq; exact hq), fun i_z j_z i0_z i1_z j0 j1 => ?_, fun i_z hi_z => ?_⟩
  · rw [cg 0] at hj
    rw [cW, cg 2, cr_bs_snoc]
    refine ⟨fun hi_z => ?_, fun hi_z => ?_⟩
    · rw [c3_z i_z.1 j_z.1 (by omega) hi_z (by omega) hj]
      exact tv_trX hT0 hk hj hi_z
    · have z1 := (hb_z i_z j_z hj).2 hi_z
      have z2 := (hb_z i_z k hk).2 hi_z
      unfold cr_turnB
      rw [z1, z2]
      by_cases e_z : i_z = k ∨ j_z = k
      · rw [if_pos e_z]; rfl
      · rw [if_neg e_z]; show (0 : Int) + (((0 : Nat) : Int) * _ + 0 * _) = 0; rw [show ((0 : Nat) : Int) = 0 from rfl, Int.zero_mul, Int.zero_mul]; rfl
  · rw [cg 0]
    rcases List.mem_append.1 hq with h_z | h_z
    · exact hks q_z h_z
    · simp at h_z; rw [h_z]; exact hk
  · rw [cW] at i1_z
    rw [cg 0] at j1
    rw [cg 2, c3_z i_z j_z i0_z i1_z j0 j1]
    unfold tvT
    by_cases e_z : i_z = (k.1 : Int) ∨ j_z = (k.1 : Int)
    · rw [if_pos e_z]
      have := ha_z i_z j_z i0_z i1_z j0 j1
      omega
    · rw [if_neg e_z]
      exact hit i_z j_z i0_z i1_z j0 j1 (fun q_z => e_z (Or.inl q_z)) (fun q_z => e_z (Or.inr q_z))
  · rw [cg 0] at hi_z
    rw [cg 4, eL, cL i_z.1, cW]
    by_cases e_z : i_z = k
    · subst e_z
      rw [if_pos rfl]
      have kf := fX_4_0 hg (r := 28) (by omega) kk28
      have sm_z := csm _ kf.1 kf.2
      exact ⟨sm_z.sr fs, sm_z.cf fc, by rw [sm_z.1 0]; exact f0, fun x_z => by rw [VX_of sm_z x_z]; exact fv x_z⟩
    · rw [if_neg (fun q_z => e_z (Fin.ext (by omega)))]
      have l4 := fX_1_4 hg hgk.1 hgk.2
      have e0_z := eX_12 hg l4.1 l4.2 (j := (i_z.1 : Int)) (by omega) (by omega)
      rw [eL] at e0_z
      obtain ⟨l1, l2, l3, l5⟩ := hTB.2.2.2.2.2.2.2 i_z (by rw [e2 0]; exact hi_z)
      rw [e2 4, e4_z, eL, eW] at l3
      rw [e2 4, e4_z, eL] at l1 l2 l5
      have sm_z := csm _ e0_z.1 e0_z.2
      refine ⟨sm_z.sr l1, sm_z.cf l2, by rw [sm_z.1 0]; exact l3, fun x_z => ?_⟩
      rw [cr_gp_snoc]
      show cr_stepv (cr_bs s.b ks) k (cr_gp s.b ks x_z).1 i_z = _
      rw [cr_step_ne _ _ e_z, l5 x_z, VX_of sm_z x_z]
end

section
/-! the class's turn and back, exactly -/
theorem kk46 : wX.2 46 = 19 := by decide
theorem TrX.cong {s : cx_Sd 12} {ks : List (Fin 12)} {A B : pm_A} {g : Int} (hT : TrX s ks A g) (hB : gH wX B) (e2 : ∀ j_z, B g j_z = A g j_z) (e3 : ∀ j_z, B (A g 2) j_z = A (A g 2) j_z) (e4 : ∀ j_z, B (A g 4) j_z = A (A g 4) j_z) (hsm : ∀ i_z : Int, 0 ≤ i_z → i_z < A g 0 → sme A B (A (A g 4) i_z)) : TrX s ks B g := by
  obtain ⟨hg, hk, h1, hb_z, hks, h9, ha_z, hl⟩ := hT
  have eW : bgW B g = bgW A g := by unfold bgW; rw [e2 0, e2 1]
  refine ⟨hB, hk, by rw [e2 0]; exact h1, fun i_z j_z hj => ?_, fun k_z hk2 => by rw [e2 0]; exact hks k_z hk2, fun v_z k_z hk2 => h9 v_z k_z (by rw [e2 0] at hk2; exact hk2), fun i_z j_z i0_z i1_z j0 j1 => ?_, fun i_z hi_z => ?_⟩
  · rw [e2 0] at hj
    rw [eW, e2 2, e3]
    exact hb_z i_z j_z hj
  · rw [eW] at i1_z
    rw [e2 0] at j1
    rw [e2 2, e3]
    exact ha_z i_z j_z i0_z i1_z j0 j1
  · rw [e2 0] at hi_z
    have sm_z := hsm (i_z.1 : Int) (by omega) hi_z
    obtain ⟨l1, l2, l3, l5⟩ := hl i_z hi_z
    rw [e2 4, e4, eW]
    exact ⟨sm_z.sr l1, sm_z.cf l2, by rw [sm_z.1 0]; exact l3, fun x_z => by rw [VX_of sm_z x_z]; exact l5 x_z⟩
theorem TrX.far {s : cx_Sd 12} {ks : List (Fin 12)} {A B : pm_A} {g : Int} (hT : TrX s ks A g) (hB : gH wX B) (h : ∀ r_z j_z : Int, ¬ r_z = 0 → ¬ r_z = 46 → B r_z j_z = A r_z j_z) : TrX s ks B g := by
  have hg := hT.2.1
  have p6_z := fX_1_0 hT.1 hg.1 hg.2
  have t2_z := fX_1_2 hT.1 hg.1 hg.2
  have l4 := fX_1_4 hT.1 hg.1 hg.2
  have hh : ∀ {r_z : Int} {l : Nat}, wX.2 r_z = l → ¬ l = 0 → ¬ l = 19 → ∀ j_z : Int, B r_z j_z = A r_z j_z := fun hr n1_z n2_z j_z => h _ j_z (knd hr kk0 n1_z) (knd hr kk46 n2_z)
  refine hT.cong hB (hh hg.2 (by decide) (by decide)) (hh t2_z.2 (by decide) (by decide)) (hh l4.2 (by decide) (by decide)) (fun i_z i0_z i1_z => ?_)
  have e0_z := eX_12 hT.1 l4.1 l4.2 i0_z (show i_z < 6 by omega)
  exact ⟨hh e0_z.2 (by decide) (by decide), hh (fX_2_2 hT.1 e0_z.1 e0_z.2).2 (by decide) (by decide), hh (fX_2_3 hT.1 e0_z.1 e0_z.2).2 (by decide) (by decide)⟩
theorem StE.far {A B : pm_A} (h : StE A) (hB : gH wX B) (hf : ∀ r_z j_z : Int, ¬ (r_z = 0 ∧ j_z = 4) → ¬ r_z = 46 → B r_z j_z = A r_z j_z) : StE B := by
  obtain ⟨hA, ⟨⟨a1_z, a2, a3, a4, a5, a6, a7, a8, a9, a10, a11⟩, b_z, c_z, d_z, e_z⟩, ⟨⟨m1_z, m2_z, m3_z, m4_z, m7_z⟩, m5_z, m6_z, m8_z⟩⟩ := h
  have hn : ∀ r_z j_z : Int, ¬ r_z = 0 → ¬ r_z = 46 → B r_z j_z = A r_z j_z := fun r_z j_z h1 h2 => hf r_z j_z (fun q_z => h1 q_z.1) h2
  have hk : ∀ q_z : Int, wX.2 q_z = 2 → ∀ j_z : Int, B q_z j_z = A q_z j_z := fun q_z hq j_z => hn q_z j_z (knd hq kk0 (by decide)) (knd hq kk46 (by decide))
  have hpc : ∀ i_z, pc B i_z = pc A i_z := fun i_z => by
    unfold pc
    rw [hn 4 _ (by omega) (by omega), hn 52 _ (by omega) (by omega), hn 28 _ (by omega) (by omega)]
  refine ⟨hB, ⟨⟨by rw [hf 0 0 (by omega) (by omega)]; exact a1_z, by rw [hf 0 2 (by omega) (by omega)]; exact a2, by rw [hf 0 8 (by omega) (by omega)]; exact a3, by rw [hf 0 9 (by omega) (by omega)]; exact a4, by rw [hn 1 _ (by omega) (by omega)]; exact a5, by rw [hn 49 _ (by omega) (by omega)]; exact a6, by rw [hn 72 _ (by omega) (by omega)]; exact a7, by rw [hn 72 _ (by omega) (by omega)]; exact a8, by rw [hn 79 _ (by omega) (by omega)]; exact a9, by rw [hn 28 _ (by omega) (by omega)]; exact a10, by rw [hn 28 _ (by omega) (by omega)]; exact a11⟩, fun q_z q0 qk => by rw [hk q_z qk]; exact b_z q_z q0 qk, fun x_z x0_z x1_z => by rw [hn 73 _ (by omega) (by omega)]; exact c_z x_z x0_z x1_z, fun i_z i0_z i1_z => by rw [hn 82 _ (by omega) (by omega)]; exact d_z i_z i0_z i1_z, pool_eq (fun i_z _ _ => hpc i_z) e_z⟩, ⟨⟨by rw [hn 28 _ (by omega) (by omega)]; exact m1_z, by rw [hn 28 _ (by omega) (by omega)]; exact m2_z, by rw [hn 28 _ (by omega) (by omega)]; exact m3_z, by rw [hn 28 _ (by omega) (by omega)]; exact m4_z, by rw [hf 0 3 (by omega) (by omega)]; exact m7_z⟩, fun q_z q0 qk => by rw [hk q_z qk]; exact m5_z q_z q0 qk, fun i_z i0_z i1_z => by rw [hpc i_z]; exact m6_z i_z i0_z i1_z, m8_z.of (fun g_z j_z gk => hn g_z j_z (knd gk kk0 (by decide)) (knd gk kk46 (by decide))) (hf 0 5 (by omega) (by omega)) (fun j_z => hn 47 j_z (by omega) (by omega)) (fun k_z j_z k0_z k1_z => hn _ j_z (by omega) (by omega))⟩⟩
theorem srt_isPlace : pm_srt o_X9_isPlace = true := by decide +kernel
theorem isPlace_ex {A : pm_A} {k : Int} (h : StE A) (hk : r32 k) : Cl pmt (an_sh wX) 96 [(2, 0), (0, k)] A (fun r_z => r_z.2 = A ∧ ((r_z.1 = some (0, 1) ∧ 0 ≤ k ∧ k < A 1 0) ∨ (r_z.1 = some (0, 0) ∧ ¬ (0 ≤ k ∧ k < A 1 0)))) := by
  have a1_z := h.2.1.1.1
  refine Cl.of (Nat.le_of_ble_eq_true rfl) ?_
  refine wq_ok (full := o_X9_isPlace) srt_isPlace (fr := []) (cuts := []) (J := fun _ _ => False) (fun _ _ h => h.elim) 20 0 _ ?_
  refine ⟨fun h0 => ?_, fun h0 => ?_⟩
  · exact ⟨rfl, rfl, Or.inr ⟨rfl, by omega⟩⟩
  · refine ⟨oX_0 z0 kk0 0 rfl, ?_⟩
    refine ⟨oX_1 (by rw [a1_z]; omega) (by rw [a1_z]; exact kk1) 0 rfl, ?_⟩
    refine ⟨fun h1 => ?_, fun h1 => ?_⟩
    · rw [a1_z] at h1
      exact ⟨rfl, rfl, Or.inr ⟨rfl, by omega⟩⟩
    · rw [a1_z] at h1
      exact ⟨rfl, rfl, Or.inl ⟨rfl, h0, h1⟩⟩
abbrev itA (A : pm_A) (k : Int) : Prop := itB (A (A 1 2)) (bgW A 1) (A 1 0) k
def tnE (s : cx_Sd 12) (ks : List (Fin 12)) (A B : pm_A) : Prop := exF A B 28 ∧ StE B ∧ TrX s ks B 1
def tnP (s : cx_Sd 12) (ks : List (Fin 12)) (A : pm_A) (k : Int) (r : pm_R) : Prop := (r = (some (0, -1), A) ∧ ¬ (0 ≤ k ∧ k < A 1 0)) ∨ ∃ f_z : Fin 12, ((f_z.1 : Int) = k ∧ k < A 1 0) ∧ ((r.1 = some (0, -2) ∧ tnE s ks A r.2 ∧ (spB s ks f_z ∨ ¬ itA A k)) ∨ (r.1 = some (0, -3) ∧ tnE s ks A r.2 ∧ 100 ≤ A 0 4) ∨ (r.1 = some (0, r.2 (r.2 4 k) 1) ∧ (A 0 4 < 100 ∧ ¬ spB s ks f_z ∧ itA A k) ∧ TrX s (ks ++ [f_z]) r.2 1 ∧ StE r.2 ∧ (r.2 0 4 = A 0 4 + 1 ∧ r.2 46 (A 0 4) = k ∧ ∀ d_z : Int, ¬ d_z = A 0 4 → r.2 46 d_z = A 46 d_z) ∧ r.2 1 0 = A 1 0 ∧ r.2 1 1 = A 1 1))
theorem put_t {B : pm_A} {t : Int} (hB : gH wX B) (t0 : 0 ≤ t) (t1 : t ≤ 100) : gH wX (pm_upd B 0 4 t) := by
  refine gH_upd hB (k := (0, 9, 15, [(2, 1, 0), (2, 3, 0), (2, 4, 0), (2, 19, 0), (0, 0, 100), (2, 20, 0), (2, 21, 0), (0, 0, 12), (2, 1, 0), (2, 5, 0), (0, (-2147483648), 2147483647), (2, 6, 0), (2, 7, 0), (2, 34, 0), (2, 8, 0)])) (by rw [kk0]; rfl) (fun _ j_z a_z hj ej => ?_) (fun q_z => by cases q_z)
  have : j_z = 4 := by omega
  subst this
  cases hj
  exact ⟨rfl, t0, t1⟩
theorem se_keep {A C : pm_A} {g L o k : Int} (h : StE A) (ho : own g L o) (hP : sePX A g L k (none, C)) : (∀ j_z : Int, C 0 j_z = A 0 j_z) ∧ (∀ j_z : Int, C 46 j_z = A 46 j_z) ∧ ∀ j_z : Int, C 1 j_z = A 1 j_z := by
  have ok_z := own_k ho
  have t2_z := fX_1_2 h.1 ok_z.1.1 ok_z.1.2
  obtain ⟨_, c1_z, c2_z, c3_z⟩ := hP
  simp only at c1_z c2_z c3_z
  refine ⟨fun j_z => ?_, fun j_z => ?_, fun j_z => ?_⟩
  · rw [c2_z 0 j_z (knd kk0 t2_z.2 (by decide))]; exact swp_ne (knd kk0 ok_z.2.1.2 (by decide)) (by omega)
  · rw [c2_z 46 j_z (knd kk46 t2_z.2 (by decide))]; exact swp_ne (knd kk46 ok_z.2.1.2 (by decide)) (by omega)
  · rw [c2_z 1 j_z (knd kk1 t2_z.2 (by decide))]; exact swp_ne (knd kk1 ok_z.2.1.2 (by decide)) (by omega)
theorem tn_52 {s : cx_Sd 12} {ks : List (Fin 12)} {A C : pm_A} {f : Fin 12} (hk : (f.1 : Int) < A 1 0) (hok : A 0 4 < 100 ∧ ¬ spB s ks f ∧ itA A f.1) (hTC : TrX s (ks ++ [f]) C 1) (hSC : StE C) (e0 : ∀ j_z : Int, C 0 j_z = A 0 j_z) (e46 : ∀ j_z : Int, C 46 j_z = A 46 j_z) (e1 : ∀ j_z : Int, C 1 j_z = A 1 j_z) : Tm pmt (an_sh wX) o_X9_turn 52 ([(2, 0), (0, (f.1 : Int))], [], C) (tnP s ks A f.1) := by
  have t4_z := fX_0_4 hSC.1 z0 kk0
  have m46 := hSC.2.2.1.2.2.2.2
  have a1_z := hSC.2.1.1.1
  have a5 := hSC.2.1.1.2.2.2.2.1
  have p6_z := fX_1_0 hSC.1 (r := 1) (by omega) kk1
  have e04 := e0 4
  have ep := e1 0
  refine wq_ok srt_turn (fr := []) (cuts := [72]) (J := fun pc st_z => pc = 72 ∧ st_z = ([(2, 0), (0, (f.1 : Int))], [], pm_upd (pm_upd C (C 0 3) (C 0 4) (f.1 : Int)) 0 4 (pm_upd C (C 0 3) (C 0 4) (f.1 : Int) 0 4 + 1))) ?_ 20 52 _ ?_
  · rintro pc st_z ⟨rfl, rfl⟩
    rw [m46]
    have u04 : pm_upd C 46 (C 0 4) (f.1 : Int) 0 4 = C 0 4 := upd_ne (by omega)
    rw [u04]
    have hD : gH wX (pm_upd C 46 (C 0 4) (f.1 : Int)) := uX_19 hSC.1 kk46 (by omega) (by omega)
    have hE : gH wX (pm_upd (pm_upd C 46 (C 0 4) (f.1 : Int)) 0 4 (C 0 4 + 1)) := put_t hD (by omega) (by omega)
    have hne : ∀ r_z j_z : Int, ¬ (r_z = 0 ∧ j_z = 4) → ¬ r_z = 46 → pm_upd (pm_upd C 46 (C 0 4) (f.1 : Int)) 0 4 (C 0 4 + 1) r_z j_z = C r_z j_z := fun r_z j_z h1 h2 => by
      rw [upd_o h1, upd_ne h2]
    have h04 : pm_upd (pm_upd C 46 (C 0 4) (f.1 : Int)) 0 4 (C 0 4 + 1) 0 4 = C 0 4 + 1 := upd_at
    have h46 : ∀ d_z : Int, pm_upd (pm_upd C 46 (C 0 4) (f.1 : Int)) 0 4 (C 0 4 + 1) 46 d_z = if d_z = C 0 4 then (f.1 : Int) else C 46 d_z := fun d_z => by
      rw [upd_ne (by omega)]
      by_cases e_z : d_z = C 0 4
      · rw [if_pos e_z, e_z, upd_at]
      · rw [if_neg e_z, upd_n2 e_z]
    generalize pm_upd (pm_upd C 46 (C 0 4) (f.1 : Int)) 0 4 (C 0 4 + 1) = E_z at hE hne h04 h46
    have hSE_z := hSC.far hE hne
    have hTE := hTC.far hE (fun r_z j_z h1 h2 => hne r_z j_z (fun q_z => h1 q_z.1) h2)
    have f1_z : E_z 0 0 = 1 := hSE_z.2.1.1.1
    have f4_z : E_z 1 4 = 4 := hSE_z.2.1.1.2.2.2.2.1
    have el := eX_12 hSE_z.1 (r := 4) (by omega) kk4 (j := (f.1 : Int)) (by omega) (by omega)
    refine wq_ok srt_turn (fr := []) (cuts := []) (J := fun pc st_z => False) (fun _ _ h_z => h_z.elim) 20 72 _ ?_
    refine ⟨oX_0 z0 kk0 0 rfl, ?_⟩
    refine ⟨oX_1 (by rw [f1_z]; omega) (by rw [f1_z]; exact kk1) 4 rfl, ?_⟩
    refine ⟨aX_12 (by rw [f1_z, f4_z]; omega) (by rw [f1_z, f4_z]; exact kk4) (by omega) (by omega), ?_⟩
    refine ⟨oX_2 (by rw [f1_z, f4_z]; exact el.1) (by rw [f1_z, f4_z]; exact el.2) 1 rfl, ?_⟩
    refine ⟨rfl, Or.inr ⟨f, ⟨rfl, hk⟩, Or.inr (Or.inr ⟨?_, hok, hTE, hSE_z, ⟨?_, ?_, fun d_z hd_z => ?_⟩, ?_, ?_⟩)⟩⟩
    · show some (0, E_z (E_z (E_z (E_z 0 0) 4) (f.1 : Int)) 1) = some (0, E_z (E_z 4 (f.1 : Int)) 1)
      rw [f1_z, f4_z]
    · show E_z 0 4 = A 0 4 + 1
      rw [h04, e04]
    · show E_z 46 (A 0 4) = (f.1 : Int)
      rw [h46, if_pos e04.symm]
    · show E_z 46 d_z = A 46 d_z
      rw [h46, if_neg (by rw [e04]; exact hd_z)]
      exact e46 d_z
    · show E_z 1 0 = A 1 0
      rw [hne 1 0 (by omega) (by omega)]; exact e1 0
    · show E_z 1 1 = A 1 1
      rw [hne 1 1 (by omega) (by omega)]; exact e1 1
  · refine ⟨oX_0 z0 kk0 3 rfl, ?_⟩
    refine ⟨oX_0 z0 kk0 4 rfl, ?_⟩
    refine ⟨tX_19 (by rw [m46]; omega) (by rw [m46]; exact kk46) t4_z.1 (by omega) rfl, ?_⟩
    refine ⟨oX_0 z0 kk0 4 rfl, ?_⟩
    have u04 : pm_upd C (C 0 3) (C 0 4) (f.1 : Int) 0 4 = C 0 4 := by rw [m46]; exact upd_ne (by omega)
    refine ⟨(show r32 (pm_upd C (C 0 3) (C 0 4) (f.1 : Int) 0 4 + 1) by rw [u04]; exact ⟨by omega, by omega⟩), ?_⟩
    refine ⟨oX_0 z0 kk0 4 rfl, ?_⟩
    exact ⟨rfl, rfl⟩
theorem turn_exX {s : cx_Sd 12} {ks : List (Fin 12)} {A : pm_A} {k : Int} (hS : StE A) (hT : TrX s ks A 1) (hk : r32 k) : Cl pmt (an_sh wX) 115 [(2, 0), (0, k)] A (tnP s ks A k) := by
  have a1_z := hS.2.1.1.1
  have a2 := hS.2.1.1.2.1
  have p6_z := fX_1_0 hS.1 (r := 1) (by omega) kk1
  have h3 := hS.ex own1
  refine Cl.of (Nat.le_of_ble_eq_true rfl) ?_
  refine wq_ok (full := o_X9_turn) srt_turn (fr := []) (cuts := [10]) (J := fun pc st_z => pc = 10 ∧ (0 ≤ k ∧ k < A 1 0) ∧ st_z = ([(2, 0), (0, k)], [], A)) ?_ 20 0 _ ?_
  · rintro pc st_z ⟨rfl, hkk, rfl⟩
    obtain ⟨f_z, rfl⟩ : ∃ f_z : Fin 12, k = (f_z.1 : Int) := ⟨⟨k.toNat, by omega⟩, by show k = ((k.toNat : Nat) : Int); omega⟩
    refine wq_ok srt_turn (fr := []) (cuts := [28]) (J := fun pc st_z => pc = 28 ∧ ∃ B_z, exPX s ks f_z A 28 1 (some (0, 1), B_z) ∧ st_z = ([(2, 0), (0, (f_z.1 : Int))], [], B_z)) ?_ 20 10 _ ?_
    · rintro pc st_z ⟨rfl, B_z, ⟨hF, hB_z⟩, rfl⟩
      simp only at hF hB_z
      rcases hB_z with ⟨q_z, _⟩ | ⟨_, hok, c0_z, cs, cc, cv⟩
      · cases q_z
      · have hSB := hS.keep hF
        have hTB := hT.keep h3 hF
        obtain ⟨e28_z, eg, et, el⟩ := hF.gs hS.1 h3
        have eB0 : ∀ j_z : Int, B_z 0 j_z = A 0 j_z := fun j_z => hF.2.1 0 j_z (ml_no hS.1 ⟨by omega, kk28⟩ kk0 (by decide) (by decide) (by decide) (by decide))
        have eB46 : ∀ j_z : Int, B_z 46 j_z = A 46 j_z := fun j_z => hF.2.1 46 j_z (ml_no hS.1 ⟨by omega, kk28⟩ kk46 (by decide) (by decide) (by decide) (by decide))
        refine wq_ok srt_turn (fr := []) (cuts := [40]) (J := fun pc st_z => pc = 40 ∧ A 0 4 < 100 ∧ st_z = ([(2, 0), (0, (f_z.1 : Int))], [], B_z)) ?_ 20 28 _ ?_
        · rintro pc st_z ⟨rfl, ht, rfl⟩
          refine wq_ok srt_turn (fr := []) (cuts := [52]) (J := fun pc st_z => pc = 52 ∧ ∃ C_z, sePX B_z 1 4 f_z.1 (none, C_z) ∧ st_z = ([(2, 0), (0, (f_z.1 : Int))], [], C_z)) ?_ 20 40 _ ?_
          · rintro pc st_z ⟨rfl, C_z, hC, rfl⟩
            obtain ⟨k1_z, k2_z, k3_z⟩ := se_keep hSB own1 hC
            exact tn_52 hkk.2 ⟨ht, hok.1, hok.2⟩ (hT.next hS own1 hkk.2 hF hok.2 c0_z cs cc cv hC) (hSB.swap own1 (by omega) (by omega) hC.2.1 hC.2.2.1) (fun j_z => by rw [k1_z j_z]; exact eB0 j_z) (fun j_z => by rw [k2_z j_z]; exact eB46 j_z) (fun j_z => by rw [k3_z j_z]; exact eg j_z)
          · refine ⟨oX_0 z0 kk0 2 rfl, ?_⟩
            refine ⟨oX_0 z0 kk0 0 rfl, ?_⟩
            have b1 := hSB.2.1.1.1
            have b2 := hSB.2.1.1.2.1
            refine ⟨rX_4 (r := B_z 0 2) (by rw [b2]; omega) (by rw [b2]; exact kk28), ?_⟩
            show Cl pmt (an_sh wX) 47 [(2, B_z 0 2), (2, B_z 0 0), (0, (f_z.1 : Int))] B_z _
            rw [b1, b2]
            refine (settle_exX hSB own1 (by omega) (by rw [eg 0]; exact hkk.2) hTB.2.2.2.2.2.2.1).imp ?_
            rintro ⟨r1_z, C_z⟩ hC
            have hr1 : r1_z = none := hC.1
            subst hr1
            exact ⟨rfl, C_z, hC, rfl⟩
        · refine ⟨oX_0 z0 kk0 4 rfl, ?_⟩
          refine ⟨fun h_z => ⟨rfl, by rw [eB0 4] at h_z; exact h_z, rfl⟩, fun h_z => ?_⟩
          rw [eB0 4] at h_z
          exact ⟨rfl, Or.inr ⟨f_z, ⟨rfl, hkk.2⟩, Or.inr (Or.inl ⟨rfl, ⟨hF, hSB, hTB⟩, h_z⟩)⟩⟩
    · refine ⟨oX_0 z0 kk0 2 rfl, ?_⟩
      refine ⟨oX_0 z0 kk0 0 rfl, ?_⟩
      refine ⟨rX_4 (r := A 0 2) (by rw [a2]; omega) (by rw [a2]; exact kk28), ?_⟩
      show Cl pmt (an_sh wX) 42 [(2, A 0 2), (2, A 0 0), (0, (f_z.1 : Int))] A _
      rw [a1_z, a2]
      refine (exchange_exX hT h3 hkk.2).imp ?_
      rintro ⟨r1_z, B_z⟩ hB_z
      have hB0 := hB_z
      obtain ⟨hF, hB_z⟩ := hB_z
      simp only at hF hB_z
      rcases hB_z with ⟨rfl, h9⟩ | ⟨rfl, _⟩
      · refine ⟨fun hh => absurd rfl hh, fun _ => ?_⟩
        exact ⟨rfl, Or.inr ⟨f_z, ⟨rfl, hkk.2⟩, Or.inl ⟨rfl, ⟨hF, hS.keep hF, hT.keep h3 hF⟩, h9⟩⟩⟩
      · refine ⟨fun _ => ?_, fun hh => absurd hh (by decide)⟩
        exact ⟨rfl, B_z, hB0, rfl⟩
  · refine ⟨rX_0 z0 kk0, ?_⟩
    refine (isPlace_ex hS hk).imp ?_
    rintro ⟨r1_z, C_z⟩ ⟨g1, g2⟩
    simp only at g1 g2
    subst g1
    rcases g2 with ⟨rfl, g3_z⟩ | ⟨rfl, g3_z⟩
    · refine ⟨fun _ => ?_, fun hh => absurd hh (by decide)⟩
      exact ⟨rfl, g3_z, rfl⟩
    · refine ⟨fun hh => absurd rfl hh, fun _ => ?_⟩
      exact ⟨rfl, Or.inl ⟨rfl, g3_z⟩⟩
end

section
/-! a turn done twice is none; the class's back -/
theorem bs_kk (s : cx_Sd 12) (ks : List (Fin 12)) (k : Fin 12) : cr_bs s.b ks k k = 0 := by
  obtain ⟨s', hs'⟩ := cr_seed ks s
  rw [← hs']
  exact s'.self k
theorem gp_twice (s : cx_Sd 12) (ks : List (Fin 12)) (k : Fin 12) (x : cr_Pv 12) : cr_gp s.b (ks ++ [k] ++ [k]) x = cr_gp s.b ks x := by
  rw [cr_gp_snoc, cr_gp_snoc, cr_bs_snoc]
  exact cr_sp_turn _ (bs_kk s ks k) _
theorem bs_twice (s : cx_Sd 12) (ks : List (Fin 12)) (k : Fin 12) : cr_bs s.b (ks ++ [k] ++ [k]) = cr_bs s.b ks := by
  rw [cr_bs_snoc, cr_bs_snoc, cr_turnB_turnB]
theorem P_neg (b : Fin 12 → Fin 12 → Int) (k : Fin 12) (v : Fin 12 → Rat) : cr_P (cr_turnB b k) k v = cr_P b k v := by
  unfold cr_P
  have e1 : (fun i_z => (cx_pos (cr_turnB b k i_z k) : Int)) = (fun i_z => (cx_pos (- b i_z k) : Int)) := funext fun i_z => by rw [cr_turnB_col]
  have e2 : (fun i_z => (cx_pos (- cr_turnB b k i_z k) : Int)) = (fun i_z => (cx_pos (b i_z k) : Int)) := funext fun i_z => by rw [cr_turnB_col, Int.neg_neg]
  rw [e1, e2]
  exact Rat.add_comm _ _
theorem P_twice (s : cx_Sd 12) (ks : List (Fin 12)) (k : Fin 12) (x : cr_Pv 12) : cr_P (cr_bs s.b (ks ++ [k])) k (cr_gp s.b (ks ++ [k]) x).1 = cr_P (cr_bs s.b ks) k (cr_gp s.b ks x).1 := by
  rw [cr_bs_snoc, P_neg, cr_gp_snoc]
  exact cr_P_step _ (bs_kk s ks k) _
theorem sp_twice {s : cx_Sd 12} {ks : List (Fin 12)} {k : Fin 12} (h : spB s (ks ++ [k]) k) : spB s ks k := h.eq (fun x_z => P_twice s ks k x_z)
theorem TrX.twice {s : cx_Sd 12} {ks : List (Fin 12)} {k : Fin 12} {A : pm_A} {g : Int} (h : TrX s (ks ++ [k] ++ [k]) A g) : TrX s ks A g := by
  obtain ⟨hg, hk, h1, hb_z, hks, h9, ha_z, hl⟩ := h
  refine ⟨hg, hk, h1, fun i_z j_z hj => ?_, fun q_z hq => hks q_z (List.mem_append.2 (Or.inl (List.mem_append.2 (Or.inl hq)))), h9, ha_z, fun i_z hi_z => ?_⟩
  · have h5 := hb_z i_z j_z hj
    rw [bs_twice] at h5
    exact h5
  · obtain ⟨l1, l2, l3, l5⟩ := hl i_z hi_z
    exact ⟨l1, l2, l3, fun x_z => by rw [← gp_twice s ks k x_z]; exact l5 x_z⟩
theorem Tru.twice {s : cx_Sd 12} {ks : List (Fin 12)} {k : Fin 12} {A : pm_A} (h : Tru s (ks ++ [k] ++ [k]) A) : Tru s ks A := by
  obtain ⟨hg, h1, hb_z, hks, h9, ha_z, hl⟩ := h
  refine ⟨hg, h1, fun i_z j_z hj => ?_, fun q_z hq => hks q_z (List.mem_append.2 (Or.inl (List.mem_append.2 (Or.inl hq)))), h9, ha_z, fun i_z hi_z => ?_⟩
  · have h5 := hb_z i_z j_z hj
    rw [bs_twice] at h5
    exact h5
  · obtain ⟨l1, l2, l5⟩ := hl i_z hi_z
    exact ⟨l1, l2, fun x_z => by rw [← gp_twice s ks k x_z]; exact l5 x_z⟩
def bkP (s : cx_Sd 12) (ks : List (Fin 12)) (A : pm_A) (f : Fin 12) (r : pm_R) : Prop := (r.1 = some (0, 0) ∧ tnE s ks A r.2 ∧ (spB s ks f ∨ ¬ itA A f.1)) ∨ (r.1 = some (0, 1) ∧ (¬ spB s ks f ∧ itA A f.1) ∧ TrX s (ks ++ [f]) r.2 1 ∧ StE r.2 ∧ (r.2 0 4 = A 0 4 - 1 ∧ ∀ d_z : Int, r.2 46 d_z = A 46 d_z) ∧ r.2 1 0 = A 1 0 ∧ r.2 1 1 = A 1 1)
theorem bk_68 {s : cx_Sd 12} {ks : List (Fin 12)} {A C : pm_A} {f : Fin 12} (hok : ¬ spB s ks f ∧ itA A f.1) (h4 : 1 ≤ A 0 4) (hTC : TrX s (ks ++ [f]) C 1) (hSC : StE C) (e0 : ∀ j_z : Int, C 0 j_z = A 0 j_z) (e46 : ∀ j_z : Int, C 46 j_z = A 46 j_z) (e1 : ∀ j_z : Int, C 1 j_z = A 1 j_z) : Tm pmt (an_sh wX) o_X9_back 68 ([(2, 0), (0, (f.1 : Int))], [], C) (bkP s ks A f) := by
  have t4_z := fX_0_4 hSC.1 z0 kk0
  have e04 := e0 4
  have hE : gH wX (pm_upd C 0 4 (C 0 4 - 1)) := put_t hSC.1 (by omega) (by omega)
  have hne : ∀ r_z j_z : Int, ¬ (r_z = 0 ∧ j_z = 4) → pm_upd C 0 4 (C 0 4 - 1) r_z j_z = C r_z j_z := fun r_z j_z h1 => upd_o h1
  have h04 : pm_upd C 0 4 (C 0 4 - 1) 0 4 = C 0 4 - 1 := upd_at
  have hSE_z := hSC.far hE (fun r_z j_z h1 _ => hne r_z j_z h1)
  have hTE := hTC.far hE (fun r_z j_z h1 _ => hne r_z j_z (fun q_z => h1 q_z.1))
  refine wq_ok srt_back (fr := []) (cuts := []) (J := fun pc st_z => False) (fun _ _ h_z => h_z.elim) 20 68 _ ?_
  refine ⟨oX_0 z0 kk0 4 rfl, ?_⟩
  refine ⟨⟨by omega, by omega⟩, ?_⟩
  refine ⟨oX_0 z0 kk0 4 rfl, ?_⟩
  refine ⟨rfl, Or.inr ⟨rfl, hok, hTE, hSE_z, ⟨?_, fun d_z => ?_⟩, ?_, ?_⟩⟩
  · show pm_upd C 0 4 (C 0 4 - 1) 0 4 = A 0 4 - 1
    rw [h04, e04]
  · show pm_upd C 0 4 (C 0 4 - 1) 46 d_z = A 46 d_z
    rw [hne 46 d_z (by omega)]; exact e46 d_z
  · show pm_upd C 0 4 (C 0 4 - 1) 1 0 = A 1 0
    rw [hne 1 0 (by omega)]; exact e1 0
  · show pm_upd C 0 4 (C 0 4 - 1) 1 1 = A 1 1
    rw [hne 1 1 (by omega)]; exact e1 1
theorem back_exX {s : cx_Sd 12} {ks : List (Fin 12)} {A : pm_A} {f : Fin 12} (hS : StE A) (hT : TrX s ks A 1) (h4 : 1 ≤ A 0 4) (hf : A 46 (A 0 4 - 1) = (f.1 : Int)) (hk : (f.1 : Int) < A 1 0) : Cl pmt (an_sh wX) 86 [(2, 0)] A (bkP s ks A f) := by
  have a1_z := hS.2.1.1.1
  have a2 := hS.2.1.1.2.1
  have m46 := hS.2.2.1.2.2.2.2
  have t4_z := fX_0_4 hS.1 z0 kk0
  have p6_z := fX_1_0 hS.1 (r := 1) (by omega) kk1
  have h3 := hS.ex own1
  have ef : A (A 0 3) (A 0 4 - 1) = (f.1 : Int) := by rw [m46]; exact hf
  refine Cl.of (Nat.le_of_ble_eq_true rfl) ?_
  refine wq_ok (full := o_X9_back) srt_back (fr := []) (cuts := [31]) (J := fun pc st_z => pc = 31 ∧ st_z = ([(2, 0), (0, A (A 0 3) (A 0 4 - 1))], [], A)) ?_ 20 0 _ ?_
  · rintro pc st_z ⟨rfl, rfl⟩
    rw [ef]
    refine wq_ok srt_back (fr := []) (cuts := [39]) (J := fun pc st_z => pc = 39 ∧ st_z = ([(2, 0), (0, (f.1 : Int))], [], A)) ?_ 20 31 _ ?_
    · rintro pc st_z ⟨rfl, rfl⟩
      refine wq_ok srt_back (fr := []) (cuts := [56]) (J := fun pc st_z => pc = 56 ∧ ∃ B_z, exPX s ks f A 28 1 (some (0, 1), B_z) ∧ st_z = ([(2, 0), (0, (f.1 : Int))], [], B_z)) ?_ 20 39 _ ?_
      · rintro pc st_z ⟨rfl, B_z, ⟨hF, hB_z⟩, rfl⟩
        simp only at hF hB_z
        rcases hB_z with ⟨q_z, _⟩ | ⟨_, hok, c0_z, cs, cc, cv⟩
        · cases q_z
        · have hSB := hS.keep hF
          have hTB := hT.keep h3 hF
          obtain ⟨e28_z, eg, et, el⟩ := hF.gs hS.1 h3
          have eB0 : ∀ j_z : Int, B_z 0 j_z = A 0 j_z := fun j_z => hF.2.1 0 j_z (ml_no hS.1 ⟨by omega, kk28⟩ kk0 (by decide) (by decide) (by decide) (by decide))
          have eB46 : ∀ j_z : Int, B_z 46 j_z = A 46 j_z := fun j_z => hF.2.1 46 j_z (ml_no hS.1 ⟨by omega, kk28⟩ kk46 (by decide) (by decide) (by decide) (by decide))
          refine wq_ok srt_back (fr := []) (cuts := [68]) (J := fun pc st_z => pc = 68 ∧ ∃ C_z, sePX B_z 1 4 f.1 (none, C_z) ∧ st_z = ([(2, 0), (0, (f.1 : Int))], [], C_z)) ?_ 20 56 _ ?_
          · rintro pc st_z ⟨rfl, C_z, hC, rfl⟩
            obtain ⟨k1_z, k2_z, k3_z⟩ := se_keep hSB own1 hC
            exact bk_68 hok h4 (hT.next hS own1 hk hF hok.2 c0_z cs cc cv hC) (hSB.swap own1 (by omega) (by omega) hC.2.1 hC.2.2.1) (fun j_z => by rw [k1_z j_z]; exact eB0 j_z) (fun j_z => by rw [k2_z j_z]; exact eB46 j_z) (fun j_z => by rw [k3_z j_z]; exact eg j_z)
          · refine ⟨oX_0 z0 kk0 2 rfl, ?_⟩
            refine ⟨oX_0 z0 kk0 0 rfl, ?_⟩
            have b1 := hSB.2.1.1.1
            have b2 := hSB.2.1.1.2.1
            refine ⟨rX_4 (r := B_z 0 2) (by rw [b2]; omega) (by rw [b2]; exact kk28), ?_⟩
            show Cl pmt (an_sh wX) 47 [(2, B_z 0 2), (2, B_z 0 0), (0, (f.1 : Int))] B_z _
            rw [b1, b2]
            refine (settle_exX hSB own1 (by omega) (by rw [eg 0]; exact hk) hTB.2.2.2.2.2.2.1).imp ?_
            rintro ⟨r1_z, C_z⟩ hC
            have hr1 : r1_z = none := hC.1
            subst hr1
            exact ⟨rfl, C_z, hC, rfl⟩
      · refine ⟨oX_0 z0 kk0 2 rfl, ?_⟩
        refine ⟨oX_0 z0 kk0 0 rfl, ?_⟩
        refine ⟨rX_4 (r := A 0 2) (by rw [a2]; omega) (by rw [a2]; exact kk28), ?_⟩
        show Cl pmt (an_sh wX) 42 [(2, A 0 2), (2, A 0 0), (0, (f.1 : Int))] A _
        rw [a1_z, a2]
        refine (exchange_exX hT h3 hk).imp ?_
        rintro ⟨r1_z, B_z⟩ hB_z
        have hB0 := hB_z
        obtain ⟨hF, hB_z⟩ := hB_z
        simp only at hF hB_z
        rcases hB_z with ⟨rfl, h9⟩ | ⟨rfl, _⟩
        · refine ⟨fun hh => absurd rfl hh, fun _ => ?_⟩
          exact ⟨rfl, Or.inl ⟨rfl, ⟨hF, hS.keep hF, hT.keep h3 hF⟩, h9⟩⟩
        · refine ⟨fun _ => ?_, fun hh => absurd hh (by decide)⟩
          exact ⟨rfl, B_z, hB0, rfl⟩
    · refine ⟨rX_0 z0 kk0, ?_⟩
      refine (isPlace_ex hS (k := (f.1 : Int)) ⟨by omega, by omega⟩).imp ?_
      rintro ⟨r1_z, C_z⟩ ⟨g1, g2⟩
      simp only at g1 g2
      subst g1
      rcases g2 with ⟨rfl, g3_z⟩ | ⟨rfl, g3_z⟩
      · refine ⟨fun hh => absurd hh (by decide), fun _ => ?_⟩
        exact ⟨rfl, rfl⟩
      · exact absurd ⟨by omega, hk⟩ g3_z
  · refine ⟨oX_0 z0 kk0 4 rfl, ?_⟩
    refine ⟨fun h_z => absurd h_z (by omega), fun h_z => ?_⟩
    refine ⟨oX_0 z0 kk0 4 rfl, ?_⟩
    refine ⟨fun h5 => ?_, fun h5 => absurd h5 (by omega)⟩
    refine ⟨oX_0 z0 kk0 3 rfl, ?_⟩
    refine ⟨oX_0 z0 kk0 4 rfl, ?_⟩
    refine ⟨⟨by omega, by omega⟩, ?_⟩
    refine ⟨aX_19 (by rw [m46]; omega) (by rw [m46]; exact kk46) (by omega) (by omega), ?_⟩
    exact ⟨rfl, rfl⟩
theorem back_noX {A : pm_A} (hS : StE A) (h4 : ¬ 1 ≤ A 0 4) : Cl pmt (an_sh wX) 86 [(2, 0)] A (fun r_z => r_z = (some (0, 0), A)) := by
  refine Cl.of (Nat.le_of_ble_eq_true rfl) ?_
  refine wq_ok (full := o_X9_back) srt_back (fr := []) (cuts := []) (J := fun pc st_z => False) (fun _ _ h_z => h_z.elim) 20 0 _ ?_
  refine ⟨oX_0 z0 kk0 4 rfl, ?_⟩
  refine ⟨fun h_z => ?_, fun h_z => absurd h_z (by omega)⟩
  exact ⟨rfl, rfl⟩
end

section
/-! the reference's turn and back, exactly -/
def mtP (s : cx_Sd 12) (ks : List (Fin 12)) (A : pm_A) (k : Int) (r : pm_R) : Prop := (r = (some (0, -1), A) ∧ ¬ (0 ≤ k ∧ k < A 0 7)) ∨ (r = (some (0, -3), A) ∧ (0 ≤ k ∧ k < A 0 7) ∧ A 0 10 = 100) ∨ ∃ f_z : Fin 12, ((f_z.1 : Int) = k ∧ k < A 0 7 ∧ ¬ A 0 10 = 100) ∧ ((r.1 = some (0, -2) ∧ tuG A r.2 ∧ Tru s ks r.2 ∧ (spB s ks f_z ∨ ¬ arO A k)) ∨ (r.1 = some (0, r.2 1 k) ∧ Tru s (ks ++ [f_z]) r.2 ∧ (¬ spB s ks f_z ∧ arO A k) ∧ (r.2 0 10 = A 0 10 + 1 ∧ r.2 6 (A 0 10) = k ∧ ∀ d_z : Int, ¬ d_z = A 0 10 → r.2 6 d_z = A 6 d_z) ∧ r.2 0 7 = A 0 7 ∧ r.2 0 8 = A 0 8))
theorem tuq_fld {s : cx_Sd 12} {ks : List (Fin 12)} {A : pm_A} {k : Fin 12} {r : pm_R} (h : tuq_post s ks A k r) : (∀ j_z : Int, ¬ j_z = 4 → ¬ j_z = 5 → r.2 0 j_z = A 0 j_z) ∧ ∀ d_z : Int, r.2 6 d_z = A 6 d_z := by
  rcases h with ⟨_, q2_z, _⟩ | ⟨_, _, _, q4_z, _⟩
  · exact ⟨fun j_z h1 h2 => q2_z.2 0 j_z (fun t_z t0_z t1_z ht => by unfold inS at ht; omega) (by omega) (by omega) (by omega), fun d_z => q2_z.2 6 d_z (fun t_z t0_z t1_z ht => by unfold inS at ht; omega) (by omega) (by omega) (by omega)⟩
  · exact ⟨fun j_z h1 h2 => q4_z 0 j_z (fun t_z t0_z t1_z ht => by unfold inS at ht; omega) (by unfold inS; omega) (by omega) (by omega) (by omega) (by omega), fun d_z => q4_z 6 d_z (fun t_z t0_z t1_z ht => by unfold inS at ht; omega) (by unfold inS; omega) (by omega) (by omega) (by omega) (by omega)⟩
theorem mturn_exq {s : cx_Sd 12} {ks : List (Fin 12)} {A : pm_A} (hT : Tru s ks A) (k : Int) : Cl pmt (an_sh wM) 198 [(2, 0), (0, k)] A (mtP s ks A k) := by
  have hg := hT.1
  have p7_z := fM_0_7 hg (r := 0) (by omega) km0
  have p10 := fM_0_10 hg (r := 0) (by omega) km0
  refine Cl.of (Nat.le_of_ble_eq_true rfl) ?_
  refine wq_ok (full := o_X10_turn) srt_Mturn (fr := []) (cuts := [31]) (J := fun pc st_z => (pc = 31 ∧ 0 ≤ k ∧ k < A 0 7 ∧ ¬ A 0 10 = 100 ∧ ∃ (f_z : Fin 12) (B_z : pm_A) (z_z : Int), (f_z.1 : Int) = k ∧ tuq_post s ks A f_z (some (0, z_z), B_z) ∧ st_z = ([(2, 0), (0, k)], [(0, z_z)], B_z))) ?_ 17 0 _ ?_
  · rintro pc st_z (⟨rfl, k0_z, k1_z, hd_z, f_z, B_z, z_z, hf, hq, rfl⟩)
    obtain ⟨e0_z, e6_z⟩ := tuq_fld hq
    simp only at e0_z e6_z
    have e7_z := e0_z 7 (by omega) (by omega)
    have e8 := e0_z 8 (by omega) (by omega)
    have e10_z := e0_z 10 (by omega) (by omega)
    rcases hq with ⟨q1_z, q2_z, q3_z, q4_z⟩ | ⟨q1_z, q2_z, q3_z, q4_z, q5_z, q6_z⟩
    · have hz : z_z = 0 := by
        simp only at q1_z
        cases q1_z
        rfl
      subst hz
      refine wq_ok srt_Mturn (fr := []) (cuts := []) (J := fun _ _ => False) (fun _ _ h_z => h_z.elim) 12 31 _ ?_
      refine ⟨fun hh => absurd rfl hh, fun _ => ?_⟩
      exact ⟨rfl, Or.inr (Or.inr ⟨f_z, ⟨hf, k1_z, hd_z⟩, Or.inl ⟨rfl, q2_z, q3_z, by rw [← hf]; exact q4_z⟩⟩)⟩
    · have hz : z_z = 1 := by
        simp only at q1_z
        cases q1_z
        rfl
      subst hz
      simp only at q2_z q3_z q4_z
      have c11_z := pM_11 q3_z
      refine wq_ok srt_Mturn (fr := []) (cuts := [47]) (J := fun pc st_z => (pc = 47 ∧ st_z = ([(2, 0), (0, k)], [], pm_upd B_z (B_z 0 11) (B_z 0 10) k))) ?_ 12 31 _ ?_
      · rintro pc st_z (⟨rfl, rfl⟩)
        rw [c11_z]
        have hC : gH wM (pm_upd B_z 6 (B_z 0 10) k) := uM_6 q3_z kn6 (by omega) (by omega)
        have hCo : ∀ r_z j_z : Int, ¬ (r_z = 6 ∧ j_z = B_z 0 10) → pm_upd B_z 6 (B_z 0 10) k r_z j_z = B_z r_z j_z := fun r_z j_z h_z => upd_o h_z
        have hC6 : pm_upd B_z 6 (B_z 0 10) k 6 (B_z 0 10) = k := upd_at
        generalize pm_upd B_z 6 (B_z 0 10) k = C_z at hC hCo hC6
        have f10 : C_z 0 10 = B_z 0 10 := hCo 0 10 (by omega)
        have hE : gH wM (pm_upd C_z 0 10 (C_z 0 10 + 1)) := uM_0_10 hC (by omega) (by omega)
        have hEo : ∀ r_z j_z : Int, ¬ (r_z = 0 ∧ j_z = 10) → pm_upd C_z 0 10 (C_z 0 10 + 1) r_z j_z = C_z r_z j_z := fun r_z j_z h_z => upd_o h_z
        have hE10 : pm_upd C_z 0 10 (C_z 0 10 + 1) 0 10 = C_z 0 10 + 1 := upd_at
        have c1_z : pm_upd C_z 0 10 (C_z 0 10 + 1) 0 1 = 1 := pM_1 hE
        have hTE : Tru s (ks ++ [f_z]) (pm_upd C_z 0 10 (C_z 0 10 + 1)) := q2_z.same hE (by rw [hEo 0 7 (by omega), hCo 0 7 (by omega)]) (by rw [hEo 0 8 (by omega), hCo 0 8 (by omega)]) (fun j_z _ _ => by rw [hEo 5 j_z (by omega), hCo 5 j_z (by omega)]) (fun p_z p0_z p1_z r_z j_z hr => by rw [hEo r_z j_z (by unfold inS at hr; omega), hCo r_z j_z (by unfold inS at hr; omega)])
        refine wq_ok srt_Mturn (fr := []) (cuts := []) (J := fun _ _ => False) (fun _ _ h_z => h_z.elim) 15 47 _ ?_
        refine ⟨oM_0 (by omega) km0 10 rfl, ?_⟩
        refine ⟨⟨by omega, by omega⟩, ?_⟩
        refine ⟨oM_0 (by omega) km0 10 rfl, ?_⟩
        refine ⟨oM_0 (by omega) km0 1 rfl, ?_⟩
        refine ⟨aM_1 (r := (pm_upd C_z 0 10 ((C_z 0 10) + 1)) 0 1) (by rw [c1_z]; omega) (by rw [c1_z]; exact kn1) (by omega) (by omega), ?_⟩
        refine ⟨rfl, Or.inr (Or.inr ⟨f_z, ⟨hf, k1_z, hd_z⟩, Or.inr ⟨?_, hTE, ⟨q5_z, by rw [← hf]; exact q6_z⟩, ⟨?_, ?_, fun d_z hd2 => ?_⟩, ?_, ?_⟩⟩)⟩
        · show some (0, pm_upd C_z 0 10 (C_z 0 10 + 1) (pm_upd C_z 0 10 (C_z 0 10 + 1) 0 1) k) = some (0, pm_upd C_z 0 10 (C_z 0 10 + 1) 1 k)
          rw [c1_z]
        · show pm_upd C_z 0 10 (C_z 0 10 + 1) 0 10 = A 0 10 + 1
          rw [hE10, f10, e10_z]
        · show pm_upd C_z 0 10 (C_z 0 10 + 1) 6 (A 0 10) = k
          rw [hEo 6 _ (by omega), ← e10_z]; exact hC6
        · show pm_upd C_z 0 10 (C_z 0 10 + 1) 6 d_z = A 6 d_z
          rw [hEo 6 d_z (by omega), hCo 6 d_z (by omega)]; exact e6_z d_z
        · show pm_upd C_z 0 10 (C_z 0 10 + 1) 0 7 = A 0 7
          rw [hEo 0 7 (by omega), hCo 0 7 (by omega)]; exact e7_z
        · show pm_upd C_z 0 10 (C_z 0 10 + 1) 0 8 = A 0 8
          rw [hEo 0 8 (by omega), hCo 0 8 (by omega)]; exact e8
      · refine ⟨fun _ => ?_, fun hh => absurd hh (by decide)⟩
        refine ⟨oM_0 (by omega) km0 11 rfl, ?_⟩
        refine ⟨oM_0 (by omega) km0 10 rfl, ?_⟩
        refine ⟨tM_6 (r := B_z 0 11) (by rw [c11_z]; omega) (by rw [c11_z]; exact kn6) (by omega) (by omega) rfl, ?_⟩
        exact ⟨rfl, rfl⟩
  · refine ⟨fun h0 => ?_, fun h0 => ?_⟩
    · exact ⟨rfl, Or.inl ⟨rfl, by omega⟩⟩
    · refine ⟨oM_0 (by omega) km0 7 rfl, ?_⟩
      refine ⟨fun h1 => ?_, fun h1 => ?_⟩
      · refine ⟨oM_0 (by omega) km0 10 rfl, ?_⟩
        refine ⟨fun h2 => ?_, fun h2 => ?_⟩
        · obtain ⟨f_z, hf⟩ : ∃ f_z : Fin 12, k = (f_z.1 : Int) := ⟨⟨k.toNat, by omega⟩, by show k = ((k.toNat : Nat) : Int); omega⟩
          refine ⟨rM_0 (by omega) km0, ?_⟩
          have hc_z := turns_exq hT (k := f_z) (by omega)
          rw [← hf] at hc_z
          refine hc_z.imp ?_
          rintro ⟨r1_z, B_z⟩ hq
          have hr1 : ∃ z_z : Int, r1_z = some (0, z_z) := by
            rcases hq with ⟨q1_z, _⟩ | ⟨q1_z, _⟩
            · exact ⟨0, q1_z⟩
            · exact ⟨1, q1_z⟩
          obtain ⟨z_z, rfl⟩ := hr1
          exact ⟨rfl, by omega, by omega, by omega, f_z, B_z, z_z, hf.symm, hq, rfl⟩
        · exact ⟨rfl, Or.inr (Or.inl ⟨rfl, ⟨by omega, by omega⟩, by omega⟩)⟩
      · exact ⟨rfl, Or.inl ⟨rfl, by omega⟩⟩
def mbP (s : cx_Sd 12) (ks : List (Fin 12)) (A : pm_A) (f : Fin 12) (r : pm_R) : Prop := (r.1 = some (0, 0) ∧ (spB s ks f ∨ ¬ arO A f.1)) ∨ (r.1 = some (0, 1) ∧ Tru s (ks ++ [f]) r.2 ∧ (¬ spB s ks f ∧ arO A f.1) ∧ (r.2 0 10 = A 0 10 - 1 ∧ ∀ d_z : Int, r.2 6 d_z = A 6 d_z) ∧ r.2 0 7 = A 0 7 ∧ r.2 0 8 = A 0 8)
theorem arO_cong {A B : pm_A} {k : Int} (e7 : B 0 7 = A 0 7) (e8 : B 0 8 = A 0 8) (e5 : ∀ j_z : Int, B 5 j_z = A 5 j_z) (h : arO B k) : arO A k := fun i_z j_z i0_z i1_z j0 j1 => by
  have h1 := h i_z j_z i0_z (by rw [e7, e8]; exact i1_z) j0 (by rw [e7]; exact j1)
  unfold tv at h1 ⊢
  rw [e5, e5, e5] at h1
  exact h1
theorem mback_exq {s : cx_Sd 12} {ks : List (Fin 12)} {A : pm_A} {f : Fin 12} (hT : Tru s ks A) (h10 : 1 ≤ A 0 10) (hf : A 6 (A 0 10 - 1) = (f.1 : Int)) (hk : (f.1 : Int) < A 0 7) : Cl pmt (an_sh wM) 128 [(2, 0)] A (mbP s ks A f) := by
  have hg := hT.1
  have p7_z := fM_0_7 hg (r := 0) (by omega) km0
  have p10 := fM_0_10 hg (r := 0) (by omega) km0
  have hB_z : gH wM (pm_upd A 0 10 (A 0 10 - 1)) := uM_0_10 hg (by omega) (by omega)
  have hBo : ∀ r_z j_z : Int, ¬ (r_z = 0 ∧ j_z = 10) → pm_upd A 0 10 (A 0 10 - 1) r_z j_z = A r_z j_z := fun r_z j_z h_z => upd_o h_z
  have hTB : Tru s ks (pm_upd A 0 10 (A 0 10 - 1)) := hT.same hB_z (hBo 0 7 (by omega)) (hBo 0 8 (by omega)) (fun j_z _ _ => hBo 5 j_z (by omega)) (fun p_z p0_z p1_z r_z j_z hr => hBo r_z j_z (by unfold inS at hr; omega))
  have c11_z : pm_upd A 0 10 (A 0 10 - 1) 0 11 = 6 := pM_11 hB_z
  have f10 : pm_upd A 0 10 (A 0 10 - 1) 0 10 = A 0 10 - 1 := upd_at
  have f7_z : pm_upd A 0 10 (A 0 10 - 1) 0 7 = A 0 7 := hBo 0 7 (by omega)
  have f8_z : pm_upd A 0 10 (A 0 10 - 1) 0 8 = A 0 8 := hBo 0 8 (by omega)
  have f6_z : pm_upd A 0 10 (A 0 10 - 1) (pm_upd A 0 10 (A 0 10 - 1) 0 11) (pm_upd A 0 10 (A 0 10 - 1) 0 10) = (f.1 : Int) := by rw [c11_z, f10, hBo 6 _ (by omega)]; exact hf
  refine Cl.of (Nat.le_of_ble_eq_true rfl) ?_
  refine wq_ok (full := o_X10_back) srt_Mback (fr := []) (cuts := [32]) (J := fun pc st_z => (pc = 32 ∧ ∃ (B_z : pm_A) (z_z : Int), tuq_post s ks (pm_upd A 0 10 (A 0 10 - 1)) f (some (0, z_z), B_z) ∧ st_z = ([(2, 0)], [(0, z_z)], B_z))) ?_ 20 0 _ ?_
  · rintro pc st_z (⟨rfl, B_z, z_z, hq, rfl⟩)
    obtain ⟨e0_z, e6_z⟩ := tuq_fld hq
    simp only at e0_z e6_z
    have hz : z_z = 0 ∨ z_z = 1 := by
      rcases hq with ⟨q1_z, _⟩ | ⟨q1_z, _⟩
      · simp only at q1_z
        cases q1_z
        exact Or.inl rfl
      · simp only at q1_z
        cases q1_z
        exact Or.inr rfl
    refine wq_ok srt_Mback (fr := []) (cuts := []) (J := fun _ _ => False) (fun _ _ h_z => h_z.elim) 5 32 _ ?_
    refine ⟨okt2 hz, ?_⟩
    rcases hq with ⟨q1_z, q2_z, q3_z, q4_z⟩ | ⟨q1_z, q2_z, q3_z, q4_z, q5_z, q6_z⟩
    · refine Or.inl ⟨q1_z, ?_⟩
      rcases q4_z with q4_z | q4_z
      · exact Or.inl q4_z
      · exact Or.inr (fun h_z => q4_z (arO_cong f7_z.symm f8_z.symm (fun j_z => (hBo 5 j_z (by omega)).symm) h_z))
    · refine Or.inr ⟨q1_z, q2_z, ⟨q5_z, arO_cong f7_z f8_z (fun j_z => hBo 5 j_z (by omega)) q6_z⟩, ⟨?_, fun d_z => ?_⟩, ?_, ?_⟩
      · show B_z 0 10 = _
        rw [e0_z 10 (by omega) (by omega), f10]
      · show B_z 6 d_z = _
        rw [e6_z d_z, hBo 6 d_z (by omega)]
      · show B_z 0 7 = _
        rw [e0_z 7 (by omega) (by omega), f7_z]
      · show B_z 0 8 = _
        rw [e0_z 8 (by omega) (by omega), f8_z]
  · refine ⟨oM_0 (by omega) km0 10 rfl, ?_⟩
    refine ⟨fun h0 => ?_, fun h0 => absurd h0 (by omega)⟩
    refine ⟨oM_0 (by omega) km0 10 rfl, ?_⟩
    refine ⟨⟨by omega, by omega⟩, ?_⟩
    refine ⟨oM_0 (by omega) km0 10 rfl, ?_⟩
    refine ⟨oM_0 (by omega) km0 11 rfl, ?_⟩
    refine ⟨oM_0 (by omega) km0 10 rfl, ?_⟩
    refine ⟨aM_6 (r := (pm_upd A 0 10 ((A 0 10) - 1)) 0 11) (by rw [c11_z]; omega) (by rw [c11_z]; exact kn6) (by rw [f10]; omega) (by rw [f10]; omega), ?_⟩
    refine ⟨rM_0 (by omega) km0, ?_⟩
    show Cl pmt (an_sh wM) 200 [(2, 0), (0, pm_upd A 0 10 (A 0 10 - 1) (pm_upd A 0 10 (A 0 10 - 1) 0 11) (pm_upd A 0 10 (A 0 10 - 1) 0 10))] (pm_upd A 0 10 (A 0 10 - 1)) _
    rw [f6_z]
    refine (turns_exq hTB (k := f) (by rw [f7_z]; exact hk)).imp ?_
    rintro ⟨r1_z, B_z⟩ hq
    have hr1 : ∃ z_z : Int, r1_z = some (0, z_z) := by
      rcases hq with ⟨q1_z, _⟩ | ⟨q1_z, _⟩
      · exact ⟨0, q1_z⟩
      · exact ⟨1, q1_z⟩
    obtain ⟨z_z, rfl⟩ := hr1
    exact ⟨rfl, B_z, z_z, hq, rfl⟩
theorem mback_no {A : pm_A} (hg : gH wM A) (h10 : A 0 10 = 0) : Cl pmt (an_sh wM) 128 [(2, 0)] A (fun r_z => r_z = (some (0, 0), A)) := by
  refine Cl.of (Nat.le_of_ble_eq_true rfl) ?_
  refine wq_ok (full := o_X10_back) srt_Mback (fr := []) (cuts := []) (J := fun _ _ => False) (fun _ _ h_z => h_z.elim) 10 0 _ ?_
  refine ⟨oM_0 (by omega) km0 10 rfl, ?_⟩
  refine ⟨fun h0 => absurd h10 h0, fun h0 => ?_⟩
  exact ⟨rfl, rfl⟩
end

section
/-! looking at the seed: b, terms, term, least, ones on both sides -/
def RL0 (s : cx_Sd 12) (ks : List (Fin 12)) (AX AM : pm_A) : Prop := StE AX ∧ TrX s ks AX 1 ∧ Tru s ks AM ∧ AX 1 0 = AM 0 7 ∧ AX 1 1 = AM 0 8
theorem RL0.ls {s : cx_Sd 12} {ks : List (Fin 12)} {AX AM : pm_A} (h : RL0 s ks AX AM) {i : Int} (i0 : 0 ≤ i) (i1 : i < AX 1 0) : LSx AX (AX 4 i) = LSm AM i := by
  obtain ⟨hS_z, hX, hM_z, e7_z, e8⟩ := h
  have p6_z := fX_1_0 hS_z.1 (r := 1) (by omega) kk1
  have a5 := hS_z.2.1.1.2.2.2.2.1
  obtain ⟨f_z, hf⟩ : ∃ f_z : Fin 12, i = (f_z.1 : Int) := ⟨⟨i.toNat, by omega⟩, by show i = ((i.toNat : Nat) : Int); omega⟩
  rw [hf] at i1 ⊢
  obtain ⟨l1, l2, l3, l4⟩ := hX.2.2.2.2.2.2.2 f_z i1
  rw [a5] at l1 l2 l4
  obtain ⟨m1_z, m2_z, m3_z⟩ := hM_z.2.2.2.2.2.2 f_z (by omega)
  refine cr_Shr.eq (shrX l1 (fun q_z q0 q1_z => (l2 q_z q0 q1_z).1)) (shr_of m1_z m2_z) (cr_vl_unique (fun x_z => ?_))
  have h1 := l4 x_z
  have h2 := m3_z x_z
  unfold VX at h1
  unfold VS at h2
  rw [← h1, ← h2]
theorem RL0.at {s : cx_Sd 12} {ks : List (Fin 12)} {AX AM : pm_A} (h : RL0 s ks AX AM) {i : Int} (i0 : 0 ≤ i) (i1 : i < AX 1 0) : (AX (AX 4 i) 1 = AM 1 i ∧ AX (AX 4 i) 0 = AM 0 7 + AM 0 8) ∧ ∀ t_z : Int, 0 ≤ t_z → t_z < AM 1 i → AX (AX (AX 4 i) 2) t_z = AM 2 (200 * i + t_z) ∧ ∀ v_z : Int, 0 ≤ v_z → v_z < AM 0 7 + AM 0 8 → AX (AX (AX 4 i) 3) (t_z * (AM 0 7 + AM 0 8) + v_z) = AM 3 (12 * (200 * i + t_z) + v_z) := by
  have hls := h.ls i0 i1
  obtain ⟨hS_z, hX, hM_z, e7_z, e8⟩ := h
  have p6_z := fX_1_0 hS_z.1 (r := 1) (by omega) kk1
  have p8 := fM_0_8 hM_z.1 (r := 0) (by omega) km0
  have a5 := hS_z.2.1.1.2.2.2.2.1
  have el := eX_12 hS_z.1 (r := 4) (by omega) kk4 (j := i) i0 (by omega)
  have lx := fX_2_1 hS_z.1 el.1 el.2
  have m_z := eM_1 hM_z.1 (r := 1) (by omega) kn1 (j := i) i0 (by omega)
  have hw : AX (AX 4 i) 0 = AM 0 7 + AM 0 8 := by
    obtain ⟨f_z, hf⟩ : ∃ f_z : Fin 12, i = (f_z.1 : Int) := ⟨⟨i.toNat, by omega⟩, by show i = ((i.toNat : Nat) : Int); omega⟩
    rw [hf] at i1 ⊢
    have l3 := (hX.2.2.2.2.2.2.2 f_z i1).2.2.1
    rw [a5] at l3
    rw [l3]
    unfold bgW
    rw [e7_z, e8]
  have hlen : AX (AX 4 i) 1 = AM 1 i := by
    have h1 := congrArg List.length hls
    rw [LSx_len, LSm_len] at h1
    omega
  refine ⟨⟨hlen, hw⟩, fun t_z t0_z t1_z => ?_⟩
  have h2 : (LSx AX (AX 4 i))[t_z.toNat]? = (LSm AM i)[t_z.toNat]? := by rw [hls]
  unfold LSx lsf LSm at h2
  rw [List.getElem?_map, List.getElem?_map, List.getElem?_range (by omega), List.getElem?_range (by omega)] at h2
  have h3 : (AX (AX (AX 4 i) 2) ((t_z.toNat : Nat) : Int), xeX AX (AX 4 i) ((t_z.toNat : Nat) : Int)) = (AM 2 (200 * i + ((t_z.toNat : Nat) : Int)), xe AM i ((t_z.toNat : Nat) : Int)) := Option.some.inj h2
  rw [Int.toNat_of_nonneg t0_z] at h3
  refine ⟨congrArg Prod.fst h3, fun v_z v0_z v1_z => ?_⟩
  have h4 := congrFun (congrArg Prod.snd h3) ⟨v_z.toNat, by omega⟩
  have h5 : (if ((v_z.toNat : Nat) : Int) < AX (AX 4 i) 0 then AX (AX (AX 4 i) 3) (t_z * AX (AX 4 i) 0 + ((v_z.toNat : Nat) : Int)) else 0) = AM 3 (12 * (200 * i + t_z) + ((v_z.toNat : Nat) : Int)) := h4
  rw [Int.toNat_of_nonneg v0_z, hw, if_pos v1_z] at h5
  exact h5
theorem RL0.tb {s : cx_Sd 12} {ks : List (Fin 12)} {AX AM : pm_A} (h : RL0 s ks AX AM) {i j : Int} (i0 : 0 ≤ i) (i1 : i < AM 0 7 + AM 0 8) (j0 : 0 ≤ j) (j1 : j < AM 0 7) : AX (AX 1 2) (i * 6 + j) = AM 5 (6 * i + j) := by
  obtain ⟨hS_z, hX, hM_z, e7_z, e8⟩ := h
  have p7_z := fM_0_7 hM_z.1 (r := 0) (by omega) km0
  have p8 := fM_0_8 hM_z.1 (r := 0) (by omega) km0
  obtain ⟨f_z, hf⟩ : ∃ f_z : Fin 12, i = (f_z.1 : Int) := ⟨⟨i.toNat, by omega⟩, by show i = ((i.toNat : Nat) : Int); omega⟩
  obtain ⟨g_z, hg⟩ : ∃ g_z : Fin 12, j = (g_z.1 : Int) := ⟨⟨j.toNat, by omega⟩, by show j = ((j.toNat : Nat) : Int); omega⟩
  rw [hf, hg]
  have h1 := (hX.2.2.2.1 f_z g_z (by omega)).1 (by unfold bgW; omega)
  have h2 := (hM_z.2.2.1 f_z g_z (by omega)).1 (by omega)
  rw [← h1, ← h2]
theorem srt_Xb : pm_srt o_X9_b = true := by decide +kernel
theorem srt_Mb : pm_srt o_X10_b = true := by decide +kernel
theorem srt_isCellz : pm_srt o_X9_isCell = true := by decide +kernel
abbrev okB (p h i j : Int) : Prop := (0 ≤ i ∧ i < p + h) ∧ 0 ≤ j ∧ j < p
theorem cel_ex {A : pm_A} {p h i j : Int} (hp : 0 ≤ p ∧ p ≤ 6) (hh : 0 ≤ h ∧ h ≤ 6) : Cl pmt (an_sh wX) 95 [(0, p), (0, h), (0, i), (0, j)] A (fun r_z => (r_z = (some (0, 1), A) ∧ okB p h i j) ∨ (r_z = (some (0, 0), A) ∧ ¬ okB p h i j)) := by
  refine Cl.of (Nat.le_of_ble_eq_true rfl) ?_
  refine wq_ok (full := o_X9_isCell) srt_isCellz (fr := []) (cuts := []) (J := fun _ _ => False) (fun _ _ h => h.elim) 20 0 _ ?_
  refine ⟨fun h0 => ?_, fun h0 => ?_⟩
  · exact ⟨rfl, Or.inr ⟨rfl, fun q_z => by omega⟩⟩
  · refine ⟨⟨by omega, by omega⟩, ?_⟩
    refine ⟨fun h1 => ?_, fun h1 => ?_⟩
    · exact ⟨rfl, Or.inr ⟨rfl, fun q_z => by omega⟩⟩
    · refine ⟨fun h2 => ?_, fun h2 => ?_⟩
      · exact ⟨rfl, Or.inr ⟨rfl, fun q_z => by omega⟩⟩
      · refine ⟨fun h3 => ?_, fun h3 => ?_⟩
        · exact ⟨rfl, Or.inr ⟨rfl, fun q_z => by omega⟩⟩
        · exact ⟨rfl, Or.inl ⟨rfl, ⟨h0, h1⟩, h2, h3⟩⟩
def bP (A : pm_A) (p h : Int) (v i j : Int) (r : pm_R) : Prop := (r = (some (0, v), A) ∧ okB p h i j) ∨ (r = (some (0, 0), A) ∧ ¬ okB p h i j)
theorem xb_ex {A : pm_A} {i j : Int} (hS : StE A) : Cl pmt (an_sh wX) 85 [(2, 0), (0, i), (0, j)] A (bP A (A 1 0) (A 1 1) (A (A 1 2) (i * 6 + j)) i j) := by
  have a1_z := hS.2.1.1.1
  have p6_z := fX_1_0 hS.1 (r := 1) (by omega) kk1
  have h6 := fX_1_1 hS.1 (r := 1) (by omega) kk1
  have t2_z := fX_1_2 hS.1 (r := 1) (by omega) kk1
  have k1_z : 0 ≤ A 0 0 := by rw [a1_z]; omega
  have k2_z : wX.2 (A 0 0) = 1 := by rw [a1_z]; exact kk1
  refine Cl.of (Nat.le_of_ble_eq_true rfl) ?_
  refine wq_ok (full := o_X9_b) srt_Xb (fr := []) (cuts := [19]) (J := fun pc st_z => pc = 19 ∧ ∃ c_z : Int, ((c_z = 1 ∧ okB (A 1 0) (A 1 1) i j) ∨ (c_z = 0 ∧ ¬ okB (A 1 0) (A 1 1) i j)) ∧ st_z = ([(2, 0), (0, i), (0, j)], [(0, c_z)], A)) ?_ 20 0 _ ?_
  · rintro pc st_z ⟨rfl, c_z, hc_z, rfl⟩
    refine wq_ok srt_Xb (fr := []) (cuts := []) (J := fun _ _ => False) (fun _ _ h_z => h_z.elim) 30 19 _ ?_
    refine ⟨fun h_z => ?_, fun h_z => ?_⟩
    · have hc2 : ¬ okB (A 1 0) (A 1 1) i j := by
        rcases hc_z with hc_z | hc_z
        · omega
        · exact hc_z.2
      exact ⟨rfl, Or.inr ⟨rfl, hc2⟩⟩
    · have hc2 : okB (A 1 0) (A 1 1) i j := by
        rcases hc_z with hc_z | hc_z
        · exact hc_z.2
        · omega
      obtain ⟨⟨o1, o2⟩, o3_z, o4_z⟩ := hc2
      refine ⟨oX_0 z0 kk0 0 rfl, ?_⟩
      refine ⟨oX_1 k1_z k2_z 2 rfl, ?_⟩
      refine ⟨⟨by omega, by omega⟩, ?_⟩
      refine ⟨⟨by omega, by omega⟩, ?_⟩
      refine ⟨aX_10 (by rw [a1_z]; exact t2_z.1) (by rw [a1_z]; exact t2_z.2) (by omega) (by omega), ?_⟩
      refine ⟨rfl, Or.inl ⟨?_, ⟨o1, o2⟩, o3_z, o4_z⟩⟩
      rw [a1_z]
      rfl
  · refine ⟨oX_0 z0 kk0 0 rfl, ?_⟩
    refine ⟨oX_1 k1_z k2_z 0 rfl, ?_⟩
    refine ⟨oX_0 z0 kk0 0 rfl, ?_⟩
    refine ⟨oX_1 k1_z k2_z 1 rfl, ?_⟩
    refine ⟨rfl, ?_⟩
    refine (cel_ex (A := A) (p := A (A 0 0) 0) (h := A (A 0 0) 1) (i := i) (j := j) (by rw [a1_z]; exact p6_z) (by rw [a1_z]; exact h6)).imp ?_
    rintro r_z (⟨rfl, h_z⟩ | ⟨rfl, h_z⟩)
    · rw [a1_z] at h_z
      exact ⟨rfl, 1, Or.inl ⟨rfl, h_z⟩, rfl⟩
    · rw [a1_z] at h_z
      exact ⟨rfl, 0, Or.inr ⟨rfl, h_z⟩, rfl⟩
theorem mb_ex {A : pm_A} {i j : Int} (hg : gH wM A) : Cl pmt (an_sh wM) 127 [(2, 0), (0, i), (0, j)] A (bP A (A 0 7) (A 0 8) (A 5 (6 * i + j)) i j) := by
  have p7_z := fM_0_7 hg (r := 0) (by omega) km0
  have p8 := fM_0_8 hg (r := 0) (by omega) km0
  have c9_z := pM_9 hg
  refine Cl.of (Nat.le_of_ble_eq_true rfl) ?_
  refine wq_ok (full := o_X10_b) srt_Mb (fr := []) (cuts := []) (J := fun _ _ => False) (fun _ _ h_z => h_z.elim) 30 0 _ ?_
  refine ⟨fun h0 => ?_, fun h0 => ?_⟩
  · exact ⟨rfl, Or.inr ⟨rfl, fun q_z => by omega⟩⟩
  · refine ⟨oM_0 (by omega) km0 7 rfl, ?_⟩
    refine ⟨oM_0 (by omega) km0 8 rfl, ?_⟩
    refine ⟨⟨by omega, by omega⟩, ?_⟩
    refine ⟨fun h1 => ?_, fun h1 => ?_⟩
    · exact ⟨rfl, Or.inr ⟨rfl, fun q_z => by omega⟩⟩
    · refine ⟨fun h2 => ?_, fun h2 => ?_⟩
      · exact ⟨rfl, Or.inr ⟨rfl, fun q_z => by omega⟩⟩
      · refine ⟨oM_0 (by omega) km0 7 rfl, ?_⟩
        refine ⟨fun h3 => ?_, fun h3 => ?_⟩
        · refine ⟨oM_0 (by omega) km0 9 rfl, ?_⟩
          refine ⟨⟨by omega, by omega⟩, ?_⟩
          refine ⟨⟨by omega, by omega⟩, ?_⟩
          refine ⟨aM_5 (r := A 0 9) (by rw [c9_z]; omega) (by rw [c9_z]; exact kn5) (by omega) (by omega), ?_⟩
          refine ⟨rfl, Or.inl ⟨?_, ⟨by omega, by omega⟩, by omega, by omega⟩⟩
          rw [c9_z]
          rfl
        · exact ⟨rfl, Or.inr ⟨rfl, fun q_z => by omega⟩⟩
theorem rl_b {s : cx_Sd 12} {ks : List (Fin 12)} {AX AM : pm_A} {i j : Int} {q r : pm_R} (h : RL0 s ks AX AM) (hq : bP AX (AX 1 0) (AX 1 1) (AX (AX 1 2) (i * 6 + j)) i j q) (hr : bP AM (AM 0 7) (AM 0 8) (AM 5 (6 * i + j)) i j r) : q.2 = AX ∧ r.2 = AM ∧ q.1 = r.1 := by
  have e7_z := h.2.2.2.1
  have e8 := h.2.2.2.2
  rw [e7_z, e8] at hq
  rcases hq with ⟨rfl, h1⟩ | ⟨rfl, h1⟩
  · rcases hr with ⟨rfl, h2⟩ | ⟨rfl, h2⟩
    · refine ⟨rfl, rfl, ?_⟩
      show some (0, AX (AX 1 2) (i * 6 + j)) = some (0, AM 5 (6 * i + j))
      rw [h.tb h2.1.1 h2.1.2 h2.2.1 h2.2.2]
    · exact absurd h1 h2
  · rcases hr with ⟨rfl, h2⟩ | ⟨rfl, h2⟩
    · exact absurd h2 h1
    · exact ⟨rfl, rfl, rfl⟩
end

section
/-! the class's copies, exactly -/
theorem srt_copyS : pm_srt o_X8_copyFrom = true := by decide +kernel
def cpP (A : pm_A) (s o : Int) (r : pm_R) : Prop := r.1 = none ∧ gH wX r.2 ∧ only A r.2 s ∧ (r.2 s 2 = A s 2 ∧ r.2 s 3 = A s 3) ∧ (r.2 s 0 = A o 0 ∧ r.2 s 1 = A o 1) ∧ (∀ t_z : Int, 0 ≤ t_z → t_z < A o 1 → r.2 (A s 2) t_z = A (A o 2) t_z) ∧ ∀ t_z v_z : Int, 0 ≤ t_z → t_z < A o 1 → 0 ≤ v_z → v_z < A o 0 → r.2 (A s 3) (t_z * A o 0 + v_z) = A (A o 3) (t_z * A o 0 + v_z)
theorem cpP.xe {A : pm_A} {s o : Int} {r : pm_R} (h : cpP A s o r) {t : Int} (t0 : 0 ≤ t) (t1 : t < A o 1) : xeX r.2 s t = xeX A o t := funext fun j_z => by
  obtain ⟨_, _, _, ⟨h2, h3⟩, ⟨h0, h1⟩, _, h5⟩ := h
  show (if (j_z.1 : Int) < r.2 s 0 then r.2 (r.2 s 3) (t * r.2 s 0 + (j_z.1 : Int)) else 0) = if (j_z.1 : Int) < A o 0 then A (A o 3) (t * A o 0 + (j_z.1 : Int)) else 0
  rw [h0, h3]
  by_cases e_z : (j_z.1 : Int) < A o 0
  · rw [if_pos e_z, if_pos e_z]; exact h5 t j_z.1 t0 t1 (by omega) e_z
  · rw [if_neg e_z, if_neg e_z]
theorem cpP.ls {A : pm_A} {s o : Int} {r : pm_R} (h : cpP A s o r) : LSx r.2 s = LSx A o := by
  have h1 := h.2.2.2.2.1.2
  unfold LSx lsf
  rw [h1]
  refine List.map_congr_left (fun t_z ht => ?_)
  have ht := List.mem_range.1 ht
  show (r.2 (r.2 s 2) (t_z : Int), xeX r.2 s (t_z : Int)) = (A (A o 2) (t_z : Int), xeX A o (t_z : Int))
  rw [h.xe (t := (t_z : Int)) (by omega) (by omega), h.2.2.2.1.1, h.2.2.2.2.2.1 t_z (by omega) (by omega)]
theorem cpP.sr {A : pm_A} {s o : Int} {r : pm_R} (h : cpP A s o r) (g : srX A o) : srX r.2 s := fun a_z b_z a0_z ab b1 => by
  rw [h.2.2.2.2.1.2] at b1
  rw [h.xe a0_z (by omega), h.xe (by omega) b1]
  exact g a_z b_z a0_z ab b1
theorem cpP.cf {A : pm_A} {s o : Int} {r : pm_R} (h : cpP A s o r) (g : cfX A o) : cfX r.2 s := fun a_z a0_z a1_z => by
  rw [h.2.2.2.2.1.2] at a1_z
  rw [h.2.2.2.1.1, h.2.2.2.2.2.1 a_z a0_z a1_z]
  exact g a_z a0_z a1_z
theorem cp_33 {A C : pm_A} {s o : Int} (hA : gH wX A) (hs : 0 ≤ s ∧ wX.2 s = 2) (ho : 0 ≤ o ∧ wX.2 o = 2) (hd : dsX A s o) (hC : gH wX C) (hF : only A C s) (c2 : C s 2 = A s 2) (c3 : C s 3 = A s 3) (c0 : C s 0 = A o 0) (c1 : C s 1 = A o 1) (cn : ∀ t_z : Int, 0 ≤ t_z → t_z < A o 1 → C (A s 2) t_z = A (A o 2) t_z) : Tm pmt (an_sh wX) o_X8_copyFrom 33 ([(2, s), (2, o)], [], C) (cpP A s o) := by
  have ns := fX_2_2 hA hs.1 hs.2
  have ps_z := fX_2_3 hA hs.1 hs.2
  have po := fX_2_3 hA ho.1 ho.2
  have w0_z := fX_2_0 hA ho.1 ho.2
  have l0 := fX_2_1 hA ho.1 ho.2
  have eps := shX_15 ps_z.2
  have epo := shX_15 po.2
  have m0_z : 0 ≤ A o 1 * A o 0 := Int.mul_nonneg l0.1 w0_z.1
  have m1_z : A o 1 * A o 0 ≤ 200 * 12 := Int.mul_le_mul l0.2 w0_z.2 w0_z.1 (by omega)
  have eo3 : C o 3 = A o 3 := hF o 3 (fun e_z => hd.1 e_z.symm) (knd ho.2 ns.2 (by decide)) (knd ho.2 ps_z.2 (by decide))
  have epo2 : ∀ j_z : Int, C (A o 3) j_z = A (A o 3) j_z := fun j_z => hF _ j_z (knd po.2 hs.2 (by decide)) (knd po.2 ns.2 (by decide)) (fun e_z => hd.2.2 e_z.symm)
  refine wq_ok srt_copyS (fr := []) (cuts := []) (J := fun _ _ => False) (fun _ _ h_z => h_z.elim) 20 33 _ ?_
  refine ⟨oX_2 ho.1 ho.2 3 rfl, ?_⟩
  refine ⟨oX_2 hs.1 hs.2 3 rfl, ?_⟩
  refine ⟨oX_2 hs.1 hs.2 1 rfl, ?_⟩
  refine ⟨oX_2 hs.1 hs.2 0 rfl, ?_⟩
  refine ⟨(show r32 (C s 1 * C s 0) by rw [c1, c0]; exact ⟨by omega, by omega⟩), ?_⟩
  rw [eo3, c3, c1, c0]
  refine ⟨⟨po.1, ps_z.1, by rw [epo], by rw [epo], by rw [eps], by rw [eps], m0_z, by omega, by omega, by rw [epo]; simp only; omega, by rw [eps]; simp only; omega⟩, ?_⟩
  have hin : ∀ i_z : Int, 0 ≤ i_z → i_z < A o 1 * A o 0 → pm_cpy C (A o 3) 0 (A s 3) 0 (A o 1 * A o 0) (A s 3) i_z = A (A o 3) i_z := fun i_z i0_z i1_z => by
    rw [cpy_in ⟨by omega, by omega⟩, epo2, show (0 : Int) + (i_z - 0) = i_z by omega]
  have hout : ∀ r_z j_z : Int, ¬ r_z = A s 3 → pm_cpy C (A o 3) 0 (A s 3) 0 (A o 1 * A o 0) r_z j_z = C r_z j_z := fun r_z j_z hr => cpy_out (fun e_z => hr e_z.1)
  have hg : gH wX (pm_cpy C (A o 3) 0 (A s 3) 0 (A o 1 * A o 0)) := gH_cpy hC (ka := (1, 0, 2400, [(0, -2147483648, 2147483647)])) (kb := (1, 0, 2400, [(0, -2147483648, 2147483647)])) po.1 (by rw [po.2]; rfl) (by rw [ps_z.2]; rfl) rfl rfl rfl rfl rfl rfl (by omega) (by omega) (by simp only; omega)
  obtain ⟨⟨n1_z, n2_z, n3_z⟩, _, _⟩ := shNP.of hA hs.1 hs.2
  refine ⟨rfl, hg, fun r_z j_z a1_z a2 a3 => ?_, ⟨?_, ?_⟩, ⟨?_, ?_⟩, fun t_z t0_z t1_z => ?_, fun t_z v_z t0_z t1_z v0_z v1_z => ?_⟩
  · show pm_cpy C (A o 3) 0 (A s 3) 0 (A o 1 * A o 0) r_z j_z = A r_z j_z
    rw [hout r_z j_z a3]; exact hF r_z j_z a1_z a2 a3
  · show pm_cpy C (A o 3) 0 (A s 3) 0 (A o 1 * A o 0) s 2 = A s 2
    rw [hout s 2 n2_z]; exact c2
  · show pm_cpy C (A o 3) 0 (A s 3) 0 (A o 1 * A o 0) s 3 = A s 3
    rw [hout s 3 n2_z]; exact c3
  · show pm_cpy C (A o 3) 0 (A s 3) 0 (A o 1 * A o 0) s 0 = A o 0
    rw [hout s 0 n2_z]; exact c0
  · show pm_cpy C (A o 3) 0 (A s 3) 0 (A o 1 * A o 0) s 1 = A o 1
    rw [hout s 1 n2_z]; exact c1
  · show pm_cpy C (A o 3) 0 (A s 3) 0 (A o 1 * A o 0) (A s 2) t_z = A (A o 2) t_z
    rw [hout _ t_z n3_z]; exact cn t_z t0_z t1_z
  · show pm_cpy C (A o 3) 0 (A s 3) 0 (A o 1 * A o 0) (A s 3) (t_z * A o 0 + v_z) = A (A o 3) (t_z * A o 0 + v_z)
    have h1 := lt_mul t1_z w0_z.1 v1_z
    have h2 := Int.mul_nonneg t0_z w0_z.1
    exact hin _ (by omega) (by omega)
theorem copyS_ex {A : pm_A} {s o : Int} (hA : gH wX A) (hs : 0 ≤ s ∧ wX.2 s = 2) (ho : 0 ≤ o ∧ wX.2 o = 2) (hd : dsX A s o) : Cl pmt (an_sh wX) 76 [(2, s), (2, o)] A (cpP A s o) := by
  have ns := fX_2_2 hA hs.1 hs.2
  have ps_z := fX_2_3 hA hs.1 hs.2
  have no_z := fX_2_2 hA ho.1 ho.2
  have w0_z := fX_2_0 hA ho.1 ho.2
  have l0 := fX_2_1 hA ho.1 ho.2
  have ens := shX_14 ns.2
  have eno := shX_14 no_z.2
  obtain ⟨⟨n1_z, n2_z, n3_z⟩, _, _⟩ := shNP.of hA hs.1 hs.2
  refine Cl.of (Nat.le_of_ble_eq_true rfl) ?_
  refine wq_ok (full := o_X8_copyFrom) srt_copyS (fr := []) (cuts := [8]) (J := fun pc st_z => pc = 8 ∧ st_z = ([(2, s), (2, o)], [], pm_upd (pm_upd A s 0 (A o 0)) s 1 0)) ?_ 20 0 _ ?_
  · rintro pc st_z ⟨rfl, rfl⟩
    have b0 : pm_upd (pm_upd A s 0 (A o 0)) s 1 0 s 0 = A o 0 := by rw [upd_n2 (by omega), upd_at]
    have bo : ∀ r_z j_z : Int, ¬ r_z = s → pm_upd (pm_upd A s 0 (A o 0)) s 1 0 r_z j_z = A r_z j_z := fun r_z j_z hr => by rw [upd_ne hr, upd_ne hr]
    have b2 : pm_upd (pm_upd A s 0 (A o 0)) s 1 0 s 2 = A s 2 := by rw [upd_n2 (by omega), upd_n2 (by omega)]
    have b3 : pm_upd (pm_upd A s 0 (A o 0)) s 1 0 s 3 = A s 3 := by rw [upd_n2 (by omega), upd_n2 (by omega)]
    have bg : gH wX (pm_upd (pm_upd A s 0 (A o 0)) s 1 0) := clr_gH hA hs.2 w0_z.1 w0_z.2
    generalize pm_upd (pm_upd A s 0 (A o 0)) s 1 0 = B_z at b0 bo b2 b3 bg
    have b1 : B_z o 1 = A o 1 := bo o 1 (fun e_z => hd.1 e_z.symm)
    refine wq_ok srt_copyS (fr := []) (cuts := [16]) (J := fun pc st_z => pc = 16 ∧ st_z = ([(2, s), (2, o)], [], pm_upd B_z s 1 (B_z o 1))) ?_ 20 8 _ ?_
    · rintro pc st_z ⟨rfl, rfl⟩
      rw [b1]
      have d1_z : pm_upd B_z s 1 (A o 1) s 1 = A o 1 := upd_at
      have d0_z : pm_upd B_z s 1 (A o 1) s 0 = A o 0 := by rw [upd_n2 (by omega)]; exact b0
      have d2_z : pm_upd B_z s 1 (A o 1) s 2 = A s 2 := by rw [upd_n2 (by omega)]; exact b2
      have d3_z : pm_upd B_z s 1 (A o 1) s 3 = A s 3 := by rw [upd_n2 (by omega)]; exact b3
      have dd : ∀ r_z j_z : Int, ¬ r_z = s → pm_upd B_z s 1 (A o 1) r_z j_z = A r_z j_z := fun r_z j_z hr => by rw [upd_ne hr]; exact bo r_z j_z hr
      have dg : gH wX (pm_upd B_z s 1 (A o 1)) := gH_upd bg (k := (0, 8, 4, [(0, 0, 12), (0, 0, 200), (2, 14, 0), (2, 15, 0)])) (by rw [hs.2]; rfl) (fun _ j_z a_z hj ej => by
        have : j_z = 1 := by omega
        subst this
        cases hj
        exact ⟨rfl, by simp only; omega, by simp only; omega⟩) (fun q_z => by cases q_z)
      generalize pm_upd B_z s 1 (A o 1) = D_z at d1_z d0_z d2_z d3_z dd dg
      have e2 : D_z o 2 = A o 2 := dd o 2 (fun e_z => hd.1 e_z.symm)
      have en : ∀ j_z : Int, D_z (A o 2) j_z = A (A o 2) j_z := fun j_z => dd _ j_z (knd no_z.2 hs.2 (by decide))
      refine wq_ok srt_copyS (fr := []) (cuts := [33]) (J := fun pc st_z => pc = 33 ∧ st_z = ([(2, s), (2, o)], [], pm_cpy D_z (D_z o 2) 0 (D_z s 2) 0 (D_z s 1))) ?_ 20 16 _ ?_
      · rintro pc st_z ⟨rfl, rfl⟩
        rw [e2, d2_z, d1_z]
        have hout : ∀ r_z j_z : Int, ¬ r_z = A s 2 → pm_cpy D_z (A o 2) 0 (A s 2) 0 (A o 1) r_z j_z = D_z r_z j_z := fun r_z j_z hr => cpy_out (fun e_z => hr e_z.1)
        refine cp_33 hA hs ho hd (gH_cpy dg (ka := (1, 1, 200, [(1, -9223372036854775808, 9223372036854775807)])) (kb := (1, 1, 200, [(1, -9223372036854775808, 9223372036854775807)])) no_z.1 (by rw [no_z.2]; rfl) (by rw [ns.2]; rfl) rfl rfl rfl rfl rfl rfl (by omega) (by omega) (by simp only; omega)) (fun r_z j_z a1_z a2 a3 => by rw [hout r_z j_z a2]; exact dd r_z j_z a1_z) (by rw [hout s 2 n1_z]; exact d2_z) (by rw [hout s 3 n1_z]; exact d3_z) (by rw [hout s 0 n1_z]; exact d0_z) (by rw [hout s 1 n1_z]; exact d1_z) (fun t_z t0_z t1_z => ?_)
        rw [cpy_in ⟨by omega, by omega⟩, en, show (0 : Int) + (t_z - 0) = t_z by omega]
      · refine ⟨oX_2 ho.1 ho.2 2 rfl, ?_⟩
        refine ⟨oX_2 hs.1 hs.2 2 rfl, ?_⟩
        refine ⟨oX_2 hs.1 hs.2 1 rfl, ?_⟩
        refine ⟨⟨by rw [e2]; exact no_z.1, by rw [d2_z]; exact ns.1, by rw [e2, eno], by rw [e2, eno], by rw [d2_z, ens], by rw [d2_z, ens], by rw [d1_z]; exact l0.1, by omega, by omega, by rw [e2, eno, d1_z]; simp only; omega, by rw [d2_z, ens, d1_z]; simp only; omega⟩, ?_⟩
        exact ⟨rfl, rfl⟩
    · refine ⟨oX_2 ho.1 ho.2 1 rfl, ?_⟩
      refine ⟨oX_2 hs.1 hs.2 1 rfl, ?_⟩
      exact ⟨rfl, rfl⟩
  · refine ⟨oX_2 ho.1 ho.2 0 rfl, ?_⟩
    refine ⟨rX_2 hs.1 hs.2, ?_⟩
    refine (clear_exX hA hs.1 hs.2 w0_z.1 w0_z.2).imp ?_
    rintro r_z rfl
    exact ⟨rfl, rfl⟩
end

section
/-! the class's copy of a seed, exactly -/
theorem srt_copySeed : pm_srt o_X7_copyFrom = true := by decide +kernel
def scH (A : pm_A) (g h : Int) : Prop := gH wX A ∧ ((0 ≤ g ∧ wX.2 g = 1) ∧ (0 ≤ h ∧ wX.2 h = 1)) ∧ (¬ g = h) ∧ (∀ c_z : Int, 0 ≤ c_z → wX.2 c_z = 1 → A c_z 2 = c_z + 1 ∧ A c_z 3 = c_z + 2 ∧ A c_z 4 = c_z + 3) ∧ (∀ a_z : Int, 0 ≤ a_z → wX.2 a_z = 2 → A a_z 2 = a_z + 1 ∧ A a_z 3 = a_z + 2) ∧ (∀ i_z j_z : Int, 0 ≤ i_z → i_z < 6 → 0 ≤ j_z → j_z < 6 → ¬ A (g + 3) i_z = A (h + 3) j_z) ∧ ∀ i_z j_z : Int, 0 ≤ i_z → i_z < 6 → 0 ≤ j_z → j_z < 6 → ¬ i_z = j_z → ¬ A (g + 3) i_z = A (g + 3) j_z
def scF (A B : pm_A) (g : Int) : Prop := gH wX B ∧ (∀ r_z j_z : Int, ¬ (r_z = g ∧ (j_z = 0 ∨ j_z = 1)) → ¬ r_z = g + 1 → ¬ r_z = g + 2 → (∀ n_z : Int, 0 ≤ n_z → n_z < 6 → ¬ r_z = A (g + 3) n_z ∧ ¬ r_z = A (g + 3) n_z + 1 ∧ ¬ r_z = A (g + 3) n_z + 2) → B r_z j_z = A r_z j_z) ∧ ∀ n_z : Int, 0 ≤ n_z → n_z < 6 → B (A (g + 3) n_z) 2 = A (A (g + 3) n_z) 2 ∧ B (A (g + 3) n_z) 3 = A (A (g + 3) n_z) 3
def lcP (A B : pm_A) (s o : Int) : Prop := B s 0 = A o 0 ∧ B s 1 = A o 1 ∧ LSx B s = LSx A o ∧ (srX A o → srX B s) ∧ (cfX A o → cfX B s)
def scI (A B : pm_A) (g h i : Int) : Prop := scF A B g ∧ (B g 0 = A h 0 ∧ B g 1 = A h 1) ∧ (∀ j_z : Int, 0 ≤ j_z → j_z < 72 → B (g + 1) j_z = A (h + 1) j_z) ∧ (∀ j_z : Int, 0 ≤ j_z → j_z < 6 → B (g + 2) j_z = A (h + 2) j_z) ∧ ∀ n_z : Int, 0 ≤ n_z → n_z < i → lcP A B (A (g + 3) n_z) (A (h + 3) n_z)
theorem sc_k {A : pm_A} {g h c : Int} (hH : scH A g h) (hc : 0 ≤ c ∧ wX.2 c = 1) : (wX.2 (c + 1) = 10 ∧ wX.2 (c + 2) = 11 ∧ wX.2 (c + 3) = 12) ∧ ∀ i_z : Int, 0 ≤ i_z → i_z < 6 → 0 ≤ A (c + 3) i_z ∧ wX.2 (A (c + 3) i_z) = 2 := by
  obtain ⟨hA, _, _, hk, _⟩ := hH
  have e_z := hk c hc.1 hc.2
  have t2_z := fX_1_2 hA hc.1 hc.2
  have t3_z := fX_1_3 hA hc.1 hc.2
  have t4_z := fX_1_4 hA hc.1 hc.2
  rw [e_z.1] at t2_z
  rw [e_z.2.1] at t3_z
  rw [e_z.2.2] at t4_z
  exact ⟨⟨t2_z.2, t3_z.2, t4_z.2⟩, fun i_z i0_z i1_z => eX_12 hA t4_z.1 t4_z.2 i0_z i1_z⟩
theorem scF.no {A B : pm_A} {g h r j : Int} {l : Nat} (hF : scF A B g) (hH : scH A g h) (hr : wX.2 r = l) (h1 : ¬ r = g ∨ (¬ j = 0 ∧ ¬ j = 1)) (h2 : ¬ r = g + 1) (h3 : ¬ r = g + 2) (n1 : ¬ l = 2) (n2 : ¬ l = 14) (n3 : ¬ l = 15) : B r j = A r j := by
  have k_z := sc_k hH hH.2.1.1
  obtain ⟨hA, _, _, _, hs, _⟩ := hH
  refine hF.2.1 r j (fun q_z => by omega) h2 h3 (fun n_z m0_z m1_z => ?_)
  have kn_z := k_z.2 n_z m0_z m1_z
  have e_z := hs _ kn_z.1 kn_z.2
  have a2 := fX_2_2 hA kn_z.1 kn_z.2
  have a3 := fX_2_3 hA kn_z.1 kn_z.2
  rw [e_z.1] at a2
  rw [e_z.2] at a3
  exact ⟨knd hr kn_z.2 n1, knd hr a2.2 n2, knd hr a3.2 n3⟩
theorem scF.sm {A B : pm_A} {g h a : Int} (hF : scF A B g) (hH : scH A g h) (ha : 0 ≤ a ∧ wX.2 a = 2) (hne : ∀ n_z : Int, 0 ≤ n_z → n_z < 6 → ¬ A (g + 3) n_z = a) : sme A B a := by
  have k_z := sc_k hH hH.2.1.1
  have hg := hH.2.1.1
  obtain ⟨hA, _, _, _, hs, _⟩ := hH
  have ea := hs a ha.1 ha.2
  have a2 := fX_2_2 hA ha.1 ha.2
  have a3 := fX_2_3 hA ha.1 ha.2
  have hn : ∀ n_z : Int, 0 ≤ n_z → n_z < 6 → ∀ r_z : Int, (r_z = a ∨ r_z = A a 2 ∨ r_z = A a 3) → ¬ r_z = A (g + 3) n_z ∧ ¬ r_z = A (g + 3) n_z + 1 ∧ ¬ r_z = A (g + 3) n_z + 2 := fun n_z m0_z m1_z r_z hr => by
    have kn_z := k_z.2 n_z m0_z m1_z
    have e_z := hs _ kn_z.1 kn_z.2
    have b2 := fX_2_2 hA kn_z.1 kn_z.2
    have b3 := fX_2_3 hA kn_z.1 kn_z.2
    rw [e_z.1] at b2
    rw [e_z.2] at b3
    have hq := hne n_z m0_z m1_z
    rcases hr with rfl | rfl | rfl
    · exact ⟨fun q_z => hq q_z.symm, knd ha.2 b2.2 (by decide), knd ha.2 b3.2 (by decide)⟩
    · exact ⟨knd a2.2 kn_z.2 (by decide), by rw [ea.1]; omega, knd a2.2 b3.2 (by decide)⟩
    · exact ⟨knd a3.2 kn_z.2 (by decide), knd a3.2 b2.2 (by decide), by rw [ea.2]; omega⟩
  refine ⟨fun j_z => ?_, fun j_z => ?_, fun j_z => ?_⟩
  · exact hF.2.1 a j_z (fun q_z => knd ha.2 hg.2 (by decide) q_z.1) (knd ha.2 k_z.1.1 (by decide)) (knd ha.2 k_z.1.2.1 (by decide)) (fun n_z m0_z m1_z => hn n_z m0_z m1_z a (Or.inl rfl))
  · exact hF.2.1 _ j_z (fun q_z => knd a2.2 hg.2 (by decide) q_z.1) (knd a2.2 k_z.1.1 (by decide)) (knd a2.2 k_z.1.2.1 (by decide)) (fun n_z m0_z m1_z => hn n_z m0_z m1_z _ (Or.inr (Or.inl rfl)))
  · exact hF.2.1 _ j_z (fun q_z => knd a3.2 hg.2 (by decide) q_z.1) (knd a3.2 k_z.1.1 (by decide)) (knd a3.2 k_z.1.2.1 (by decide)) (fun n_z m0_z m1_z => hn n_z m0_z m1_z _ (Or.inr (Or.inr rfl)))
theorem lcP.keep {A B C : pm_A} {s o : Int} (h : lcP A B s o) (sm : sme B C s) : lcP A C s o :=
  ⟨by rw [sm.1 0]; exact h.1, by rw [sm.1 1]; exact h.2.1, by rw [sm.ls]; exact h.2.2.1, fun q_z => sm.sr (h.2.2.2.1 q_z), fun q_z => sm.cf (h.2.2.2.2 q_z)⟩
theorem only.sm {A B : pm_A} {s a : Int} (h : only A B s) (hA : gH wX A) (hs : 0 ≤ s ∧ wX.2 s = 2) (ha : 0 ≤ a ∧ wX.2 a = 2) (hd : dsX A s a) : sme A B a := by
  have s2_z := fX_2_2 hA hs.1 hs.2
  have s3_z := fX_2_3 hA hs.1 hs.2
  have a2 := fX_2_2 hA ha.1 ha.2
  have a3 := fX_2_3 hA ha.1 ha.2
  exact ⟨fun j_z => h a j_z (fun e_z => hd.1 e_z.symm) (knd ha.2 s2_z.2 (by decide)) (knd ha.2 s3_z.2 (by decide)), fun j_z => h _ j_z (knd a2.2 hs.2 (by decide)) (fun e_z => hd.2.1 e_z.symm) (knd a2.2 s3_z.2 (by decide)), fun j_z => h _ j_z (knd a3.2 hs.2 (by decide)) (knd a3.2 s2_z.2 (by decide)) (fun e_z => hd.2.2 e_z.symm)⟩
def scP (A : pm_A) (g h : Int) (r : pm_R) : Prop := r.1 = none ∧ scI A r.2 g h (A h 0)
theorem sc_48 {A : pm_A} {g h : Int} (hH : scH A g h) : ∀ (m_z : Nat) (i_z : Int) (B_z : pm_A), (6 - i_z).toNat < m_z → 0 ≤ i_z → i_z ≤ A h 0 → scI A B_z g h i_z → Tm pmt (an_sh wX) o_X7_copyFrom 48 ([(2, g), (2, h), (0, i_z)], [], B_z) (scP A g h) := by
  have hH0 := hH
  have kg := sc_k hH0 hH0.2.1.1
  have kh := sc_k hH0 hH0.2.1.2
  obtain ⟨hA, ⟨hg, hh⟩, hgh, hk, hs, hl1, hl2⟩ := hH
  have p6_z := fX_1_0 hA hh.1 hh.2
  have eg := hk g hg.1 hg.2
  have eh := hk h hh.1 hh.2
  intro m_z
  induction m_z with
  | zero => intro i_z B_z hm_z; omega
  | succ m_z ih_z =>
    intro i_z B_z hm_z i0_z i1_z hI
    have hI0 := hI
    obtain ⟨hF, ⟨b0, b1⟩, bt_z, bz, bl⟩ := hI
    have e4_z : B_z g 4 = g + 3 := by rw [hF.no hH0 hg.2 (Or.inr ⟨by omega, by omega⟩) (by omega) (by omega) (by decide) (by decide) (by decide)]; exact eg.2.2
    have e4h : B_z h 4 = h + 3 := by rw [hF.no hH0 hh.2 (Or.inl (fun e_z => hgh e_z.symm)) (knd hh.2 kg.1.1 (by decide)) (knd hh.2 kg.1.2.1 (by decide)) (by decide) (by decide) (by decide)]; exact eh.2.2
    have el : ∀ n_z : Int, B_z (g + 3) n_z = A (g + 3) n_z := fun n_z => hF.no hH0 kg.1.2.2 (Or.inl (knd kg.1.2.2 hg.2 (by decide))) (by omega) (by omega) (by decide) (by decide) (by decide)
    have elh : ∀ n_z : Int, B_z (h + 3) n_z = A (h + 3) n_z := fun n_z => hF.no hH0 kh.1.2.2 (Or.inl (knd kh.1.2.2 hg.2 (by decide))) (knd kh.1.2.2 kg.1.1 (by decide)) (knd kh.1.2.2 kg.1.2.1 (by decide)) (by decide) (by decide) (by decide)
    refine wq_ok srt_copySeed (fr := []) (cuts := [48]) (J := fun pc st_z => pc = 48 ∧ i_z < A h 0 ∧ ∃ C_z, cpP B_z (A (g + 3) i_z) (A (h + 3) i_z) (none, C_z) ∧ st_z = ([(2, g), (2, h), (0, i_z + 1)], [], C_z)) ?_ 20 48 _ ?_
    · rintro pc st_z ⟨rfl, hi_z, C_z, hC, rfl⟩
      have k1_z := kg.2 i_z i0_z (by omega)
      have k2_z := kh.2 i_z i0_z (by omega)
      have smo := hF.sm hH0 k2_z (fun n_z m0_z m1_z => hl1 n_z i_z m0_z m1_z i0_z (by omega))
      have hC0 := hC
      obtain ⟨_, c1_z, c2_z, ⟨c3_z, c4_z⟩, ⟨c5_z, c6_z⟩, _, _⟩ := hC
      simp only at c1_z c2_z c3_z c4_z c5_z c6_z
      have fs := hF.2.2 i_z i0_z (by omega)
      have es := hs _ k1_z.1 k1_z.2
      have hout : ∀ r_z j_z : Int, ¬ r_z = A (g + 3) i_z → ¬ r_z = A (g + 3) i_z + 1 → ¬ r_z = A (g + 3) i_z + 2 → C_z r_z j_z = B_z r_z j_z := fun r_z j_z a1_z a2 a3 => c2_z r_z j_z a1_z (by rw [fs.1, es.1]; exact a2) (by rw [fs.2, es.2]; exact a3)
      have hno : ∀ {r_z : Int} {l : Nat}, wX.2 r_z = l → ¬ l = 2 → ¬ l = 14 → ¬ l = 15 → ∀ j_z : Int, C_z r_z j_z = B_z r_z j_z := fun hr n1_z n2_z n3_z j_z => by
        have a2 := fX_2_2 hA k1_z.1 k1_z.2
        have a3 := fX_2_3 hA k1_z.1 k1_z.2
        rw [es.1] at a2
        rw [es.2] at a3
        exact hout _ j_z (knd hr k1_z.2 n1_z) (knd hr a2.2 n2_z) (knd hr a3.2 n3_z)
      refine ih_z (i_z + 1) C_z (by omega) (by omega) (by omega) ⟨⟨c1_z, fun r_z j_z a1_z a2 a3 a4 => ?_, fun n_z m0_z m1_z => ?_⟩, ⟨?_, ?_⟩, fun j_z j0 j1 => ?_, fun j_z j0 j1 => ?_, fun n_z m0_z m1_z => ?_⟩
      · have a5 := a4 i_z i0_z (by omega)
        rw [hout r_z j_z a5.1 a5.2.1 a5.2.2]
        exact hF.2.1 r_z j_z a1_z a2 a3 a4
      · by_cases e_z : n_z = i_z
        · rw [e_z, c3_z, c4_z]; exact fs
        · have kn_z := kg.2 n_z m0_z m1_z
          have a2 := fX_2_2 hA k1_z.1 k1_z.2
          have a3 := fX_2_3 hA k1_z.1 k1_z.2
          rw [es.1] at a2
          rw [es.2] at a3
          have h9 : ∀ j_z : Int, C_z (A (g + 3) n_z) j_z = B_z (A (g + 3) n_z) j_z := fun j_z => hout _ j_z (hl2 n_z i_z m0_z m1_z i0_z (by omega) e_z) (knd kn_z.2 a2.2 (by decide)) (knd kn_z.2 a3.2 (by decide))
          rw [h9 2, h9 3]
          exact hF.2.2 n_z m0_z m1_z
      · rw [hno hg.2 (by decide) (by decide) (by decide)]; exact b0
      · rw [hno hg.2 (by decide) (by decide) (by decide)]; exact b1
      · rw [hno kg.1.1 (by decide) (by decide) (by decide)]; exact bt_z j_z j0 j1
      · rw [hno kg.1.2.1 (by decide) (by decide) (by decide)]; exact bz j_z j0 j1
      · by_cases e_z : n_z = i_z
        · rw [e_z]
          exact ⟨by rw [c5_z, smo.1 0], by rw [c6_z, smo.1 1], by rw [hC0.ls, smo.ls], fun q_z => hC0.sr (smo.sr q_z), fun q_z => hC0.cf (smo.cf q_z)⟩
        · have kn_z := kg.2 n_z m0_z (by omega)
          have en := hs _ kn_z.1 kn_z.2
          have fn_z := hF.2.2 n_z m0_z (by omega)
          have hd_z : dsX B_z (A (g + 3) i_z) (A (g + 3) n_z) := ⟨hl2 i_z n_z i0_z (by omega) m0_z (by omega) (fun q_z => e_z q_z.symm), by rw [fs.1, fn_z.1, es.1, en.1]; have := hl2 i_z n_z i0_z (by omega) m0_z (by omega) (fun q_z => e_z q_z.symm); omega, by rw [fs.2, fn_z.2, es.2, en.2]; have := hl2 i_z n_z i0_z (by omega) m0_z (by omega) (fun q_z => e_z q_z.symm); omega⟩
          exact (bl n_z m0_z (by omega)).keep (only.sm c2_z hF.1 k1_z kn_z hd_z)
    · refine ⟨oX_1 hg.1 hg.2 0 rfl, ?_⟩
      refine ⟨fun hx => ?_, fun hx => ?_⟩
      · rw [b0] at hx
        rw [show i_z = A h 0 by omega] at hI0
        exact ⟨rfl, hI0⟩
      · rw [b0] at hx
        have k1_z := kg.2 i_z i0_z (by omega)
        have k2_z := kh.2 i_z i0_z (by omega)
        have eL : B_z (B_z g 4) i_z = A (g + 3) i_z := by rw [e4_z, el]
        have eL2 : B_z (B_z h 4) i_z = A (h + 3) i_z := by rw [e4h, elh]
        have smo := hF.sm hH0 k2_z (fun n_z m0_z m1_z => hl1 n_z i_z m0_z m1_z i0_z (by omega))
        have fs := hF.2.2 i_z i0_z (by omega)
        have es := hs _ k1_z.1 k1_z.2
        have eo := hs _ k2_z.1 k2_z.2
        have hne := hl1 i_z i_z i0_z (by omega) i0_z (by omega)
        refine ⟨oX_1 hg.1 hg.2 4 rfl, ?_⟩
        refine ⟨aX_12 (by rw [e4_z]; omega) (by rw [e4_z]; exact kg.1.2.2) i0_z (by omega), ?_⟩
        refine ⟨oX_1 hh.1 hh.2 4 rfl, ?_⟩
        refine ⟨aX_12 (by rw [e4h]; omega) (by rw [e4h]; exact kh.1.2.2) i0_z (by omega), ?_⟩
        refine ⟨rX_2 (by rw [eL]; exact k1_z.1) (by rw [eL]; exact k1_z.2), ?_⟩
        have hcall := copyS_ex (A := B_z) (s := A (g + 3) i_z) (o := A (h + 3) i_z) hF.1 k1_z k2_z ⟨hne, by rw [fs.1, smo.1 2, es.1, eo.1]; omega, by rw [fs.2, smo.1 3, es.2, eo.2]; omega⟩
        rw [← eL, ← eL2] at hcall
        refine hcall.imp ?_
        rintro ⟨r1_z, C_z⟩ hC
        have hr1 : r1_z = none := hC.1
        subst hr1
        rw [eL, eL2] at hC
        refine ⟨⟨by omega, by omega⟩, ?_⟩
        exact ⟨rfl, hx, C_z, hC, rfl⟩
theorem copySeed_ex {A : pm_A} {g h : Int} (hH : scH A g h) : Cl pmt (an_sh wX) 67 [(2, g), (2, h)] A (scP A g h) := by
  have hH0 := hH
  have kg := sc_k hH0 hH0.2.1.1
  have kh := sc_k hH0 hH0.2.1.2
  obtain ⟨hA, ⟨hg, hh⟩, hgh, hk, hs, hl1, hl2⟩ := hH
  have p6_z := fX_1_0 hA hh.1 hh.2
  have h6 := fX_1_1 hA hh.1 hh.2
  have eg := hk g hg.1 hg.2
  have eh := hk h hh.1 hh.2
  have s10g := shX_10 kg.1.1
  have s10h := shX_10 kh.1.1
  have s11g := shX_11 kg.1.2.1
  have s11h := shX_11 kh.1.2.1
  refine Cl.of (Nat.le_of_ble_eq_true rfl) ?_
  refine wq_ok (full := o_X7_copyFrom) srt_copySeed (fr := []) (cuts := [16]) (J := fun pc st_z => pc = 16 ∧ ∃ v2, st_z = ([(2, g), (2, h), v2], [], pm_upd (pm_upd A g 0 (A h 0)) g 1 (pm_upd A g 0 (A h 0) h 1))) ?_ 20 0 _ ?_
  · rintro pc st_z ⟨rfl, v2, rfl⟩
    have uh1 : pm_upd A g 0 (A h 0) h 1 = A h 1 := upd_ne (fun e_z => hgh e_z.symm)
    rw [uh1]
    have b0 : pm_upd (pm_upd A g 0 (A h 0)) g 1 (A h 1) g 0 = A h 0 := by rw [upd_n2 (by omega), upd_at]
    have b1 : pm_upd (pm_upd A g 0 (A h 0)) g 1 (A h 1) g 1 = A h 1 := upd_at
    have bo : ∀ r_z j_z : Int, ¬ (r_z = g ∧ (j_z = 0 ∨ j_z = 1)) → pm_upd (pm_upd A g 0 (A h 0)) g 1 (A h 1) r_z j_z = A r_z j_z := fun r_z j_z hr => by rw [upd_o (fun q_z => hr ⟨q_z.1, Or.inr q_z.2⟩), upd_o (fun q_z => hr ⟨q_z.1, Or.inl q_z.2⟩)]
    have bg : gH wX (pm_upd (pm_upd A g 0 (A h 0)) g 1 (A h 1)) := by
      have h1 : gH wX (pm_upd A g 0 (A h 0)) := gH_upd hA (k := (0, 7, 6, [(0, 0, 6), (0, 0, 6), (2, 10, 0), (2, 11, 0), (2, 12, 0), (2, 13, 0)])) (by rw [hg.2]; rfl) (fun _ j_z a_z hj ej => by
        have : j_z = 0 := by omega
        subst this
        cases hj
        exact ⟨rfl, p6_z.1, p6_z.2⟩) (fun q_z => by cases q_z)
      exact gH_upd h1 (k := (0, 7, 6, [(0, 0, 6), (0, 0, 6), (2, 10, 0), (2, 11, 0), (2, 12, 0), (2, 13, 0)])) (by rw [hg.2]; rfl) (fun _ j_z a_z hj ej => by
        have : j_z = 1 := by omega
        subst this
        cases hj
        exact ⟨rfl, h6.1, h6.2⟩) (fun q_z => by cases q_z)
    generalize pm_upd (pm_upd A g 0 (A h 0)) g 1 (A h 1) = B_z at b0 b1 bo bg
    have e2g : B_z g 2 = g + 1 := by rw [bo g 2 (by omega)]; exact eg.1
    have e2h : B_z h 2 = h + 1 := by rw [bo h 2 (fun q_z => hgh q_z.1.symm)]; exact eh.1
    have et : ∀ j_z : Int, B_z (h + 1) j_z = A (h + 1) j_z := fun j_z => bo _ j_z (fun q_z => knd kh.1.1 hg.2 (by decide) q_z.1)
    refine wq_ok srt_copySeed (fr := []) (cuts := [31]) (J := fun pc st_z => pc = 31 ∧ st_z = ([(2, g), (2, h), v2], [], pm_cpy B_z (B_z h 2) 0 (B_z g 2) 0 72)) ?_ 20 16 _ ?_
    · rintro pc st_z ⟨rfl, rfl⟩
      rw [e2g, e2h]
      have cin : ∀ j_z : Int, 0 ≤ j_z → j_z < 72 → pm_cpy B_z (h + 1) 0 (g + 1) 0 72 (g + 1) j_z = A (h + 1) j_z := fun j_z j0 j1 => by
        rw [cpy_in ⟨by omega, by omega⟩, et, show (0 : Int) + (j_z - 0) = j_z by omega]
      have cout : ∀ r_z j_z : Int, ¬ r_z = g + 1 → pm_cpy B_z (h + 1) 0 (g + 1) 0 72 r_z j_z = B_z r_z j_z := fun r_z j_z hr => cpy_out (fun e_z => hr e_z.1)
      have cg : gH wX (pm_cpy B_z (h + 1) 0 (g + 1) 0 72) := gH_cpy bg (ka := (1, 0, 72, [(0, -2147483648, 2147483647)])) (kb := (1, 0, 72, [(0, -2147483648, 2147483647)])) (by omega) (by rw [kh.1.1]; rfl) (by rw [kg.1.1]; rfl) rfl rfl rfl rfl rfl rfl (by omega) (by omega) (by simp only; omega)
      generalize pm_cpy B_z (h + 1) 0 (g + 1) 0 72 = C_z at cin cout cg
      have c3g : C_z g 3 = g + 2 := by rw [cout g 3 (by omega), bo g 3 (by omega)]; exact eg.2.1
      have c3h : C_z h 3 = h + 2 := by rw [cout h 3 (knd hh.2 kg.1.1 (by decide)), bo h 3 (fun q_z => hgh q_z.1.symm)]; exact eh.2.1
      have cz : ∀ j_z : Int, C_z (h + 2) j_z = A (h + 2) j_z := fun j_z => by rw [cout _ j_z (knd kh.1.2.1 kg.1.1 (by decide))]; exact bo _ j_z (fun q_z => knd kh.1.2.1 hg.2 (by decide) q_z.1)
      refine wq_ok srt_copySeed (fr := []) (cuts := [48]) (J := fun pc st_z => pc = 48 ∧ st_z = ([(2, g), (2, h), (0, 0)], [], pm_cpy C_z (C_z h 3) 0 (C_z g 3) 0 6)) ?_ 20 31 _ ?_
      · rintro pc st_z ⟨rfl, rfl⟩
        rw [c3g, c3h]
        have dout : ∀ r_z j_z : Int, ¬ r_z = g + 2 → pm_cpy C_z (h + 2) 0 (g + 2) 0 6 r_z j_z = C_z r_z j_z := fun r_z j_z hr => cpy_out (fun e_z => hr e_z.1)
        have dg : gH wX (pm_cpy C_z (h + 2) 0 (g + 2) 0 6) := gH_cpy cg (ka := (1, 1, 6, [(1, -9223372036854775808, 9223372036854775807)])) (kb := (1, 1, 6, [(1, -9223372036854775808, 9223372036854775807)])) (by omega) (by rw [kh.1.2.1]; rfl) (by rw [kg.1.2.1]; rfl) rfl rfl rfl rfl rfl rfl (by omega) (by omega) (by simp only; omega)
        refine sc_48 hH0 _ 0 _ (Nat.lt_succ_self _) (by omega) p6_z.1 ⟨⟨dg, fun r_z j_z a1_z a2 a3 a4 => by rw [dout r_z j_z a3, cout r_z j_z a2]; exact bo r_z j_z a1_z, fun n_z m0_z m1_z => ?_⟩, ⟨?_, ?_⟩, fun j_z j0 j1 => ?_, fun j_z j0 j1 => ?_, fun n_z m0_z m1_z => by omega⟩
        · have kn_z := kg.2 n_z m0_z m1_z
          rw [dout _ 2 (knd kn_z.2 kg.1.2.1 (by decide)), dout _ 3 (knd kn_z.2 kg.1.2.1 (by decide)), cout _ 2 (knd kn_z.2 kg.1.1 (by decide)), cout _ 3 (knd kn_z.2 kg.1.1 (by decide)), bo _ 2 (by omega), bo _ 3 (by omega)]
          exact ⟨rfl, rfl⟩
        · rw [dout g 0 (by omega), cout g 0 (by omega)]; exact b0
        · rw [dout g 1 (by omega), cout g 1 (by omega)]; exact b1
        · rw [dout _ j_z (by omega)]; exact cin j_z j0 j1
        · rw [cpy_in ⟨by omega, by omega⟩, cz, show (0 : Int) + (j_z - 0) = j_z by omega]
      · refine ⟨oX_1 hh.1 hh.2 3 rfl, ?_⟩
        refine ⟨oX_1 hg.1 hg.2 3 rfl, ?_⟩
        refine ⟨⟨by rw [c3h]; omega, by rw [c3g]; omega, by rw [c3h, s11h], by rw [c3h, s11h], by rw [c3g, s11g], by rw [c3g, s11g], by omega, by omega, by omega, by rw [c3h, s11h]; simp only; omega, by rw [c3g, s11g]; simp only; omega⟩, ?_⟩
        exact ⟨rfl, rfl⟩
    · refine ⟨oX_1 hh.1 hh.2 2 rfl, ?_⟩
      refine ⟨oX_1 hg.1 hg.2 2 rfl, ?_⟩
      refine ⟨⟨by rw [e2h]; omega, by rw [e2g]; omega, by rw [e2h, s10h], by rw [e2h, s10h], by rw [e2g, s10g], by rw [e2g, s10g], by omega, by omega, by omega, by rw [e2h, s10h]; simp only; omega, by rw [e2g, s10g]; simp only; omega⟩, ?_⟩
      exact ⟨rfl, rfl⟩
  · refine ⟨oX_1 hh.1 hh.2 0 rfl, ?_⟩
    refine ⟨oX_1 hg.1 hg.2 0 rfl, ?_⟩
    refine ⟨oX_1 hh.1 hh.2 1 rfl, ?_⟩
    refine ⟨oX_1 hg.1 hg.2 1 rfl, ?_⟩
    exact ⟨rfl, _, rfl⟩
theorem scP.tr {s : cx_Sd 12} {ks : List (Fin 12)} {A : pm_A} {g h : Int} {r : pm_R} (hH : scH A g h) (hT : TrX s ks A h) (hP : scP A g h r) : TrX s ks r.2 g := by
  have kg := sc_k hH hH.2.1.1
  have hH0 := hH
  obtain ⟨_, hF, ⟨b0, b1⟩, bt_z, bz, bl⟩ := hP
  obtain ⟨hA, ⟨hg, hh⟩, hgh, hk, hs, hl1, hl2⟩ := hH
  obtain ⟨_, hk2, h1, hb_z, hks, h9, ha_z, hl⟩ := hT
  have p6_z := fX_1_0 hA hh.1 hh.2
  have h6 := fX_1_1 hA hh.1 hh.2
  have eg := hk g hg.1 hg.2
  have eh := hk h hh.1 hh.2
  have e2 : r.2 g 2 = g + 1 := by rw [hF.no hH0 hg.2 (Or.inr ⟨by omega, by omega⟩) (by omega) (by omega) (by decide) (by decide) (by decide)]; exact eg.1
  have e4_z : r.2 g 4 = g + 3 := by rw [hF.no hH0 hg.2 (Or.inr ⟨by omega, by omega⟩) (by omega) (by omega) (by decide) (by decide) (by decide)]; exact eg.2.2
  have el : ∀ n_z : Int, r.2 (g + 3) n_z = A (g + 3) n_z := fun n_z => hF.no hH0 kg.1.2.2 (Or.inl (knd kg.1.2.2 hg.2 (by decide))) (by omega) (by omega) (by decide) (by decide) (by decide)
  have eW : bgW r.2 g = bgW A h := by unfold bgW; rw [b0, b1]
  rw [eh.1] at hb_z ha_z
  rw [eh.2.2] at hl
  have hw : bgW A h ≤ 12 := by unfold bgW; omega
  refine ⟨hF.1, hg, by rw [b0]; exact h1, fun i_z j_z hj => ?_, fun k_z hk3 => by rw [b0]; exact hks k_z hk3, fun v_z k_z hk3 => h9 v_z k_z (by rw [b0] at hk3; exact hk3), fun i_z j_z i0_z i1_z j0 j1 => ?_, fun i_z hi_z => ?_⟩
  · rw [b0] at hj
    rw [eW, e2]
    refine ⟨fun hi_z => ?_, fun hi_z => (hb_z i_z j_z hj).2 hi_z⟩
    rw [bt_z _ (by omega) (by omega)]
    exact (hb_z i_z j_z hj).1 hi_z
  · rw [eW] at i1_z
    rw [b0] at j1
    rw [e2, bt_z _ (by omega) (by omega)]
    exact ha_z i_z j_z i0_z i1_z j0 j1
  · rw [b0] at hi_z
    rw [e4_z, el, eW]
    obtain ⟨l1, l2, l3, l5⟩ := hl i_z hi_z
    have hc_z := bl (i_z.1 : Int) (by omega) hi_z
    refine ⟨hc_z.2.2.2.1 l1, hc_z.2.2.2.2 l2, by rw [hc_z.1]; exact l3, fun x_z => ?_⟩
    rw [l5 x_z]
    unfold VX
    rw [hc_z.2.2.1]
end

section
/-! the class's start of a seed, exactly -/
theorem srt_becomeVariable : pm_srt o_X8_becomeVariable = true := by decide +kernel
theorem srt_start : pm_srt o_X7_start = true := by decide +kernel
def bvF (A B : pm_A) (s n : Int) : Prop := gH wX B ∧ only A B s ∧ (B s 2 = A s 2 ∧ B s 3 = A s 3) ∧ B s 0 = n ∧ B s 1 = 1 ∧ B (A s 2) 0 = 1
def bvP (A : pm_A) (s v n : Int) (r : pm_R) : Prop := r.1 = none ∧ bvF A r.2 s n ∧ ∀ u_z : Int, 0 ≤ u_z → u_z < n → r.2 (A s 3) u_z = if u_z = v then 1 else 0
theorem bv_19 {A : pm_A} {s v n : Int} (hA : gH wX A) (hs : 0 ≤ s ∧ wX.2 s = 2) (n0 : 0 ≤ n) (n1 : n ≤ 12) : ∀ (m_z : Nat) (u_z : Int) (B_z : pm_A), (12 - u_z).toNat < m_z → 0 ≤ u_z → u_z ≤ n → bvF A B_z s n → (∀ w_z : Int, 0 ≤ w_z → w_z < u_z → B_z (A s 3) w_z = if w_z = v then 1 else 0) → Tm pmt (an_sh wX) o_X8_becomeVariable 19 ([(2, s), (0, v), (0, n), (0, u_z)], [], B_z) (bvP A s v n) := by
  have ns := fX_2_2 hA hs.1 hs.2
  have ps_z := fX_2_3 hA hs.1 hs.2
  obtain ⟨⟨q1_z, q2_z, q3_z⟩, _, _⟩ := shNP.of hA hs.1 hs.2
  intro m_z
  induction m_z with
  | zero => intro u_z B_z h_z; omega
  | succ m_z ih_z =>
    intro u_z B_z hm_z u0 u1_z hF hp
    obtain ⟨f1_z, f2_z, ⟨f3_z, f4_z⟩, f5_z, f6_z, f7_z⟩ := hF
    refine wq_ok srt_becomeVariable (fr := []) (cuts := [19]) (J := fun pc st_z => pc = 19 ∧ u_z < n ∧ ∃ c_z : Int, (c_z = if u_z = v then 1 else 0) ∧ st_z = ([(2, s), (0, v), (0, n), (0, u_z + 1)], [], pm_upd B_z (B_z s 3) u_z c_z)) ?_ 20 19 _ ?_
    · rintro pc st_z ⟨rfl, hu, c_z, hc_z, rfl⟩
      rw [f4_z]
      have hc2 : 0 ≤ c_z ∧ c_z ≤ 1 := by
        rw [hc_z]
        by_cases e_z : u_z = v
        · rw [if_pos e_z]; omega
        · rw [if_neg e_z]; omega
      refine ih_z (u_z + 1) _ (by omega) (by omega) (by omega) ⟨uX_15 f1_z ps_z.2 (by omega) (by omega), only_upd f2_z (Or.inr (Or.inr rfl)), ⟨by rw [upd_ne q2_z]; exact f3_z, by rw [upd_ne q2_z]; exact f4_z⟩, by rw [upd_ne q2_z]; exact f5_z, by rw [upd_ne q2_z]; exact f6_z, by rw [upd_ne q3_z]; exact f7_z⟩ (fun w_z w0_z w1_z => ?_)
      by_cases e_z : w_z = u_z
      · rw [e_z, upd_at]; exact hc_z
      · rw [upd_n2 e_z]; exact hp w_z w0_z (by omega)
    · refine ⟨fun h_z => ?_, fun h_z => ?_⟩
      · exact ⟨rfl, ⟨f1_z, f2_z, ⟨f3_z, f4_z⟩, f5_z, f6_z, f7_z⟩, fun w_z w0_z w1_z => hp w_z w0_z (by omega)⟩
      · refine ⟨oX_2 hs.1 hs.2 3 rfl, ?_⟩
        refine ⟨fun h2 => ?_, fun h2 => ?_⟩
        · refine ⟨tX_15 (by rw [f4_z]; exact ps_z.1) (by rw [f4_z]; exact ps_z.2) u0 (by omega) rfl, ?_⟩
          refine ⟨⟨by omega, by omega⟩, ?_⟩
          exact ⟨rfl, h_z, 0, by rw [if_neg h2], rfl⟩
        · refine ⟨tX_15 (by rw [f4_z]; exact ps_z.1) (by rw [f4_z]; exact ps_z.2) u0 (by omega) rfl, ?_⟩
          refine ⟨⟨by omega, by omega⟩, ?_⟩
          exact ⟨rfl, h_z, 1, by rw [if_pos h2], rfl⟩
theorem becomeVariable_ex {A : pm_A} {s v n : Int} (hA : gH wX A) (hs : 0 ≤ s ∧ wX.2 s = 2) (n0 : 0 ≤ n) (n1 : n ≤ 12) : Cl pmt (an_sh wX) 74 [(2, s), (0, v), (0, n)] A (bvP A s v n) := by
  have ns := fX_2_2 hA hs.1 hs.2
  have ps_z := fX_2_3 hA hs.1 hs.2
  obtain ⟨⟨q1_z, q2_z, q3_z⟩, _, _⟩ := shNP.of hA hs.1 hs.2
  refine Cl.of (Nat.le_of_ble_eq_true rfl) ?_
  refine wq_ok (full := o_X8_becomeVariable) srt_becomeVariable (fr := []) (cuts := [5]) (J := fun pc st_z => pc = 5 ∧ ∃ v3, st_z = ([(2, s), (0, v), (0, n), v3], [], pm_upd (pm_upd A s 0 n) s 1 0)) ?_ 20 0 _ ?_
  · rintro pc st_z ⟨rfl, v3, rfl⟩
    have b0 : pm_upd (pm_upd A s 0 n) s 1 0 s 0 = n := by rw [upd_n2 (by omega), upd_at]
    have bo : ∀ r_z j_z : Int, ¬ r_z = s → pm_upd (pm_upd A s 0 n) s 1 0 r_z j_z = A r_z j_z := fun r_z j_z hr => by rw [upd_ne hr, upd_ne hr]
    have b2 : pm_upd (pm_upd A s 0 n) s 1 0 s 2 = A s 2 := by rw [upd_n2 (by omega), upd_n2 (by omega)]
    have b3 : pm_upd (pm_upd A s 0 n) s 1 0 s 3 = A s 3 := by rw [upd_n2 (by omega), upd_n2 (by omega)]
    have bg : gH wX (pm_upd (pm_upd A s 0 n) s 1 0) := clr_gH hA hs.2 n0 n1
    generalize pm_upd (pm_upd A s 0 n) s 1 0 = B_z at b0 bo b2 b3 bg
    refine wq_ok srt_becomeVariable (fr := []) (cuts := [10]) (J := fun pc st_z => pc = 10 ∧ st_z = ([(2, s), (0, v), (0, n), v3], [], pm_upd B_z s 1 1)) ?_ 20 5 _ ?_
    · rintro pc st_z ⟨rfl, rfl⟩
      have d1_z : pm_upd B_z s 1 1 s 1 = 1 := upd_at
      have d0_z : pm_upd B_z s 1 1 s 0 = n := by rw [upd_n2 (by omega)]; exact b0
      have d2_z : pm_upd B_z s 1 1 s 2 = A s 2 := by rw [upd_n2 (by omega)]; exact b2
      have d3_z : pm_upd B_z s 1 1 s 3 = A s 3 := by rw [upd_n2 (by omega)]; exact b3
      have dd : ∀ r_z j_z : Int, ¬ r_z = s → pm_upd B_z s 1 1 r_z j_z = A r_z j_z := fun r_z j_z hr => by rw [upd_ne hr]; exact bo r_z j_z hr
      have dg : gH wX (pm_upd B_z s 1 1) := gH_upd bg (k := (0, 8, 4, [(0, 0, 12), (0, 0, 200), (2, 14, 0), (2, 15, 0)])) (by rw [hs.2]; rfl) (fun _ j_z a_z hj ej => by
        have : j_z = 1 := by omega
        subst this
        cases hj
        exact ⟨rfl, by simp only; omega, by simp only; omega⟩) (fun q_z => by cases q_z)
      generalize pm_upd B_z s 1 1 = D_z at d1_z d0_z d2_z d3_z dd dg
      refine wq_ok srt_becomeVariable (fr := []) (cuts := [19]) (J := fun pc st_z => pc = 19 ∧ st_z = ([(2, s), (0, v), (0, n), (0, 0)], [], pm_upd D_z (D_z s 2) 0 1)) ?_ 20 10 _ ?_
      · rintro pc st_z ⟨rfl, rfl⟩
        rw [d2_z]
        exact bv_19 hA hs n0 n1 _ 0 _ (Nat.lt_succ_self _) (by omega) n0 ⟨uX_14 dg ns.2 (by omega) (by omega), only_upd (fun r_z j_z a1_z a2 a3 => dd r_z j_z a1_z) (Or.inr (Or.inl rfl)), ⟨by rw [upd_ne q1_z]; exact d2_z, by rw [upd_ne q1_z]; exact d3_z⟩, by rw [upd_ne q1_z]; exact d0_z, by rw [upd_ne q1_z]; exact d1_z, upd_at⟩ (fun w_z w0_z w1_z => by omega)
      · refine ⟨oX_2 hs.1 hs.2 2 rfl, ?_⟩
        refine ⟨tX_14 (by rw [d2_z]; exact ns.1) (by rw [d2_z]; exact ns.2) (by omega) (by omega) rfl, ?_⟩
        exact ⟨rfl, rfl⟩
    · refine ⟨oX_2 hs.1 hs.2 1 rfl, ?_⟩
      exact ⟨rfl, rfl⟩
  · refine ⟨rX_2 hs.1 hs.2, ?_⟩
    refine (clear_exX hA hs.1 hs.2 n0 n1).imp ?_
    rintro r_z rfl
    exact ⟨rfl, _, rfl⟩
theorem bvP.ok {A : pm_A} {s n : Int} {k : Fin 12} {r : pm_R} (hk : (k.1 : Int) < n) (h : bvP A s k.1 n r) : srX r.2 s ∧ cfX r.2 s ∧ ∀ x_z : cr_Pv 12, VX r.2 s x_z = x_z.1 k := by
  obtain ⟨_, ⟨f1_z, f2_z, ⟨f3_z, f4_z⟩, f5_z, f6_z, f7_z⟩, h2⟩ := h
  refine ⟨fun a_z b_z a0_z ab b1 => by rw [f6_z] at b1; omega, fun a_z a0_z a1_z => ?_, fun x_z => ?_⟩
  · rw [f6_z] at a1_z
    rw [f3_z, show a_z = 0 by omega, f7_z]
    omega
  · rw [VX_one f6_z, f3_z, f7_z]
    have e_z : xeX r.2 s 0 = cr_up (fun _ => 0) k 1 := funext fun j_z => by
      show (if (j_z.1 : Int) < r.2 s 0 then r.2 (r.2 s 3) (0 * r.2 s 0 + (j_z.1 : Int)) else 0) = if j_z = k then 1 else 0
      rw [f5_z, f4_z, Int.zero_mul, Int.zero_add]
      by_cases e1 : (j_z.1 : Int) < n
      · rw [if_pos e1, h2 j_z.1 (by omega) e1]
        by_cases e2 : j_z = k
        · rw [if_pos e2, if_pos (by rw [e2])]
        · rw [if_neg e2, if_neg (fun q_z => e2 (Fin.ext (by omega)))]
      · rw [if_neg e1, if_neg (fun q_z => e1 (by rw [q_z]; exact hk))]
    rw [e_z, cr_mo_e, Rat.zpow_one, show ((1 : Int) : Rat) = 1 from rfl, Rat.one_mul]
def stH (A : pm_A) (g n m T Z : Int) : Prop := gH wX A ∧ (0 ≤ g ∧ wX.2 g = 1) ∧ ((1 ≤ n ∧ n ≤ 6) ∧ 0 ≤ m ∧ m ≤ 6) ∧ ((0 ≤ T ∧ wX.2 T = 16) ∧ 0 ≤ Z ∧ wX.2 Z = 11 ∧ ¬ Z = g + 2) ∧ (∀ c_z : Int, 0 ≤ c_z → wX.2 c_z = 1 → A c_z 2 = c_z + 1 ∧ A c_z 3 = c_z + 2 ∧ A c_z 4 = c_z + 3) ∧ (∀ a_z : Int, 0 ≤ a_z → wX.2 a_z = 2 → A a_z 2 = a_z + 1 ∧ A a_z 3 = a_z + 2) ∧ ∀ i_z j_z : Int, 0 ≤ i_z → i_z < 6 → 0 ≤ j_z → j_z < 6 → ¬ i_z = j_z → ¬ A (g + 3) i_z = A (g + 3) j_z
def svP (B : pm_A) (s w : Int) (k : Int) : Prop := B s 0 = w ∧ B s 1 = 1 ∧ srX B s ∧ cfX B s ∧ ∀ (f_z : Fin 12), (f_z.1 : Int) = k → ∀ x_z : cr_Pv 12, VX B s x_z = x_z.1 f_z
def stI (A B : pm_A) (g n m T Z i : Int) : Prop := scF A B g ∧ (B g 0 = n ∧ B g 1 = m) ∧ (∀ j_z : Int, 0 ≤ j_z → j_z < 72 → B (g + 1) j_z = A T j_z) ∧ (∀ j_z : Int, 0 ≤ j_z → j_z < 6 → B (g + 2) j_z = A Z j_z) ∧ ∀ k_z : Int, 0 ≤ k_z → k_z < i → svP B (A (g + 3) k_z) (n + m) k_z
theorem svP.keep {B C : pm_A} {s w k : Int} (h : svP B s w k) (sm : sme B C s) : svP C s w k :=
  ⟨by rw [sm.1 0]; exact h.1, by rw [sm.1 1]; exact h.2.1, sm.sr h.2.2.1, sm.cf h.2.2.2.1, fun f_z hf x_z => by rw [VX_of sm x_z]; exact h.2.2.2.2 f_z hf x_z⟩
theorem st_k {A : pm_A} {g n m T Z : Int} (hH : stH A g n m T Z) : (wX.2 (g + 1) = 10 ∧ wX.2 (g + 2) = 11 ∧ wX.2 (g + 3) = 12) ∧ ∀ i_z : Int, 0 ≤ i_z → i_z < 6 → 0 ≤ A (g + 3) i_z ∧ wX.2 (A (g + 3) i_z) = 2 := by
  obtain ⟨hA, hc_z, _, _, hk, _⟩ := hH
  have e_z := hk g hc_z.1 hc_z.2
  have t2_z := fX_1_2 hA hc_z.1 hc_z.2
  have t3_z := fX_1_3 hA hc_z.1 hc_z.2
  have t4_z := fX_1_4 hA hc_z.1 hc_z.2
  rw [e_z.1] at t2_z
  rw [e_z.2.1] at t3_z
  rw [e_z.2.2] at t4_z
  exact ⟨⟨t2_z.2, t3_z.2, t4_z.2⟩, fun i_z i0_z i1_z => eX_12 hA t4_z.1 t4_z.2 i0_z i1_z⟩
theorem scF.ns {A B : pm_A} {g n m T Z r j : Int} {l : Nat} (hF : scF A B g) (hH : stH A g n m T Z) (hr : wX.2 r = l) (h1 : ¬ r = g ∨ (¬ j = 0 ∧ ¬ j = 1)) (h2 : ¬ r = g + 1) (h3 : ¬ r = g + 2) (n1 : ¬ l = 2) (n2 : ¬ l = 14) (n3 : ¬ l = 15) : B r j = A r j := by
  have k_z := st_k hH
  obtain ⟨hA, _, _, _, _, hs, _⟩ := hH
  refine hF.2.1 r j (fun q_z => by omega) h2 h3 (fun n m0_z m1_z => ?_)
  have kn_z := k_z.2 n m0_z m1_z
  have e_z := hs _ kn_z.1 kn_z.2
  have a2 := fX_2_2 hA kn_z.1 kn_z.2
  have a3 := fX_2_3 hA kn_z.1 kn_z.2
  rw [e_z.1] at a2
  rw [e_z.2] at a3
  exact ⟨knd hr kn_z.2 n1, knd hr a2.2 n2, knd hr a3.2 n3⟩
def stP (A : pm_A) (g n m T Z : Int) (r : pm_R) : Prop := r.1 = none ∧ stI A r.2 g n m T Z n
theorem st_38 {A : pm_A} {g n m T Z : Int} (hH : stH A g n m T Z) : ∀ (l : Nat) (i_z : Int) (B_z : pm_A), (6 - i_z).toNat < l → 0 ≤ i_z → i_z ≤ n → stI A B_z g n m T Z i_z → Tm pmt (an_sh wX) o_X7_start 38 ([(2, g), (0, n), (0, m), (2, T), (2, Z), (0, i_z)], [], B_z) (stP A g n m T Z) := by
  have hH0 := hH
  have kg := st_k hH0
  obtain ⟨hA, hg, ⟨hn, hm_z⟩, ⟨hT_z, hZ⟩, hk, hs, hl2⟩ := hH
  have eg := hk g hg.1 hg.2
  intro l
  induction l with
  | zero => intro i_z B_z h_z; omega
  | succ l ih_z =>
    intro i_z B_z hl i0_z i1_z hI
    have hI0 := hI
    obtain ⟨hF, ⟨b0, b1⟩, bt_z, bz, bl⟩ := hI
    have e4_z : B_z g 4 = g + 3 := by rw [hF.ns hH0 hg.2 (Or.inr ⟨by omega, by omega⟩) (by omega) (by omega) (by decide) (by decide) (by decide)]; exact eg.2.2
    have el : ∀ k_z : Int, B_z (g + 3) k_z = A (g + 3) k_z := fun k_z => hF.ns hH0 kg.1.2.2 (Or.inl (knd kg.1.2.2 hg.2 (by decide))) (by omega) (by omega) (by decide) (by decide) (by decide)
    refine wq_ok srt_start (fr := []) (cuts := [38]) (J := fun pc st_z => pc = 38 ∧ i_z < n ∧ ∃ C_z, bvP B_z (A (g + 3) i_z) i_z (n + m) (none, C_z) ∧ st_z = ([(2, g), (0, n), (0, m), (2, T), (2, Z), (0, i_z + 1)], [], C_z)) ?_ 20 38 _ ?_
    · rintro pc st_z ⟨rfl, hi_z, C_z, hC, rfl⟩
      have k1_z := kg.2 i_z i0_z (by omega)
      have hC0 := hC
      obtain ⟨_, ⟨c1_z, c2_z, ⟨c3_z, c4_z⟩, c5_z, c6_z, c7_z⟩, c8_z⟩ := hC
      simp only at c1_z c2_z c3_z c4_z c5_z c6_z c7_z c8_z
      have fs := hF.2.2 i_z i0_z (by omega)
      have es := hs _ k1_z.1 k1_z.2
      have hout : ∀ r_z j_z : Int, ¬ r_z = A (g + 3) i_z → ¬ r_z = A (g + 3) i_z + 1 → ¬ r_z = A (g + 3) i_z + 2 → C_z r_z j_z = B_z r_z j_z := fun r_z j_z a1_z a2 a3 => c2_z r_z j_z a1_z (by rw [fs.1, es.1]; exact a2) (by rw [fs.2, es.2]; exact a3)
      have hno : ∀ {r_z : Int} {l : Nat}, wX.2 r_z = l → ¬ l = 2 → ¬ l = 14 → ¬ l = 15 → ∀ j_z : Int, C_z r_z j_z = B_z r_z j_z := fun hr n1_z n2_z n3_z j_z => by
        have a2 := fX_2_2 hA k1_z.1 k1_z.2
        have a3 := fX_2_3 hA k1_z.1 k1_z.2
        rw [es.1] at a2
        rw [es.2] at a3
        exact hout _ j_z (knd hr k1_z.2 n1_z) (knd hr a2.2 n2_z) (knd hr a3.2 n3_z)
      refine ih_z (i_z + 1) C_z (by omega) (by omega) (by omega) ⟨⟨c1_z, fun r_z j_z a1_z a2 a3 a4 => ?_, fun k_z m0_z m1_z => ?_⟩, ⟨?_, ?_⟩, fun j_z j0 j1 => ?_, fun j_z j0 j1 => ?_, fun k_z m0_z m1_z => ?_⟩
      · have a5 := a4 i_z i0_z (by omega)
        rw [hout r_z j_z a5.1 a5.2.1 a5.2.2]
        exact hF.2.1 r_z j_z a1_z a2 a3 a4
      · by_cases e_z : k_z = i_z
        · rw [e_z, c3_z, c4_z]; exact fs
        · have kn_z := kg.2 k_z m0_z m1_z
          have a2 := fX_2_2 hA k1_z.1 k1_z.2
          have a3 := fX_2_3 hA k1_z.1 k1_z.2
          rw [es.1] at a2
          rw [es.2] at a3
          have h9 : ∀ j_z : Int, C_z (A (g + 3) k_z) j_z = B_z (A (g + 3) k_z) j_z := fun j_z => hout _ j_z (hl2 k_z i_z m0_z m1_z i0_z (by omega) e_z) (knd kn_z.2 a2.2 (by decide)) (knd kn_z.2 a3.2 (by decide))
          rw [h9 2, h9 3]
          exact hF.2.2 k_z m0_z m1_z
      · rw [hno hg.2 (by decide) (by decide) (by decide)]; exact b0
      · rw [hno hg.2 (by decide) (by decide) (by decide)]; exact b1
      · rw [hno kg.1.1 (by decide) (by decide) (by decide)]; exact bt_z j_z j0 j1
      · rw [hno kg.1.2.1 (by decide) (by decide) (by decide)]; exact bz j_z j0 j1
      · by_cases e_z : k_z = i_z
        · rw [e_z]
          obtain ⟨f_z, hf⟩ : ∃ f_z : Fin 12, i_z = (f_z.1 : Int) := ⟨⟨i_z.toNat, by omega⟩, by show i_z = ((i_z.toNat : Nat) : Int); omega⟩
          have hC1 := hC0
          rw [hf] at hC1
          have h9 := bvP.ok (k := f_z) (by omega) hC1
          rw [← hf] at h9
          simp only at h9
          refine ⟨c5_z, c6_z, h9.1, h9.2.1, fun f2_z hf2 x_z => ?_⟩
          have : f2_z = f_z := Fin.ext (by omega)
          rw [this]
          exact h9.2.2 x_z
        · have kn_z := kg.2 k_z m0_z (by omega)
          have en := hs _ kn_z.1 kn_z.2
          have fn_z := hF.2.2 k_z m0_z (by omega)
          have hd_z : dsX B_z (A (g + 3) i_z) (A (g + 3) k_z) := ⟨hl2 i_z k_z i0_z (by omega) m0_z (by omega) (fun q_z => e_z q_z.symm), by rw [fs.1, fn_z.1, es.1, en.1]; have := hl2 i_z k_z i0_z (by omega) m0_z (by omega) (fun q_z => e_z q_z.symm); omega, by rw [fs.2, fn_z.2, es.2, en.2]; have := hl2 i_z k_z i0_z (by omega) m0_z (by omega) (fun q_z => e_z q_z.symm); omega⟩
          exact (bl k_z m0_z (by omega)).keep (only.sm c2_z hF.1 k1_z kn_z hd_z)
    · refine ⟨fun hx => ?_, fun hx => ?_⟩
      · rw [show i_z = n by omega] at hI0
        exact ⟨rfl, hI0⟩
      · have k1_z := kg.2 i_z i0_z (by omega)
        have eL : B_z (B_z g 4) i_z = A (g + 3) i_z := by rw [e4_z, el]
        refine ⟨oX_1 hg.1 hg.2 4 rfl, ?_⟩
        refine ⟨aX_12 (by rw [e4_z]; omega) (by rw [e4_z]; exact kg.1.2.2) i0_z (by omega), ?_⟩
        refine ⟨⟨by omega, by omega⟩, ?_⟩
        refine ⟨rX_2 (by rw [eL]; exact k1_z.1) (by rw [eL]; exact k1_z.2), ?_⟩
        have hcall := becomeVariable_ex (A := B_z) (s := A (g + 3) i_z) (v := i_z) (n := n + m) hF.1 k1_z (by omega) (by omega)
        rw [← eL] at hcall
        refine hcall.imp ?_
        rintro ⟨r1_z, C_z⟩ hC
        have hr1 : r1_z = none := hC.1
        subst hr1
        rw [eL] at hC
        refine ⟨⟨by omega, by omega⟩, ?_⟩
        exact ⟨rfl, hx, C_z, hC, rfl⟩
theorem start_ex {A : pm_A} {g n m T Z : Int} (hH : stH A g n m T Z) : Cl pmt (an_sh wX) 72 [(2, g), (0, n), (0, m), (2, T), (2, Z)] A (stP A g n m T Z) := by
  have hH0 := hH
  have kg := st_k hH0
  obtain ⟨hA, hg, ⟨hn, hm_z⟩, ⟨hT_z, hZ⟩, hk, hs, hl2⟩ := hH
  have eg := hk g hg.1 hg.2
  have s10g := shX_10 kg.1.1
  have s16 := shX_16 hT_z.2
  have s11g := shX_11 kg.1.2.1
  have s11 := shX_11 hZ.2.1
  refine Cl.of (Nat.le_of_ble_eq_true rfl) ?_
  refine wq_ok (full := o_X7_start) srt_start (fr := []) (cuts := [10]) (J := fun pc st_z => pc = 10 ∧ ∃ v5, st_z = ([(2, g), (0, n), (0, m), (2, T), (2, Z), v5], [], pm_upd (pm_upd A g 0 n) g 1 m)) ?_ 20 0 _ ?_
  · rintro pc st_z ⟨rfl, v5, rfl⟩
    have b0 : pm_upd (pm_upd A g 0 n) g 1 m g 0 = n := by rw [upd_n2 (by omega), upd_at]
    have b1 : pm_upd (pm_upd A g 0 n) g 1 m g 1 = m := upd_at
    have bo : ∀ r_z j_z : Int, ¬ (r_z = g ∧ (j_z = 0 ∨ j_z = 1)) → pm_upd (pm_upd A g 0 n) g 1 m r_z j_z = A r_z j_z := fun r_z j_z hr => by rw [upd_o (fun q_z => hr ⟨q_z.1, Or.inr q_z.2⟩), upd_o (fun q_z => hr ⟨q_z.1, Or.inl q_z.2⟩)]
    have bg : gH wX (pm_upd (pm_upd A g 0 n) g 1 m) := by
      have h1 : gH wX (pm_upd A g 0 n) := gH_upd hA (k := (0, 7, 6, [(0, 0, 6), (0, 0, 6), (2, 10, 0), (2, 11, 0), (2, 12, 0), (2, 13, 0)])) (by rw [hg.2]; rfl) (fun _ j_z a_z hj ej => by
        have : j_z = 0 := by omega
        subst this
        cases hj
        exact ⟨rfl, by simp only; omega, by simp only; omega⟩) (fun q_z => by cases q_z)
      exact gH_upd h1 (k := (0, 7, 6, [(0, 0, 6), (0, 0, 6), (2, 10, 0), (2, 11, 0), (2, 12, 0), (2, 13, 0)])) (by rw [hg.2]; rfl) (fun _ j_z a_z hj ej => by
        have : j_z = 1 := by omega
        subst this
        cases hj
        exact ⟨rfl, by simp only; omega, by simp only; omega⟩) (fun q_z => by cases q_z)
    generalize pm_upd (pm_upd A g 0 n) g 1 m = B_z at b0 b1 bo bg
    have e2g : B_z g 2 = g + 1 := by rw [bo g 2 (by omega)]; exact eg.1
    have et : ∀ j_z : Int, B_z T j_z = A T j_z := fun j_z => bo _ j_z (fun q_z => knd hT_z.2 hg.2 (by decide) q_z.1)
    refine wq_ok srt_start (fr := []) (cuts := [22]) (J := fun pc st_z => pc = 22 ∧ st_z = ([(2, g), (0, n), (0, m), (2, T), (2, Z), v5], [], pm_cpy B_z T 0 (B_z g 2) 0 72)) ?_ 20 10 _ ?_
    · rintro pc st_z ⟨rfl, rfl⟩
      rw [e2g]
      have cin : ∀ j_z : Int, 0 ≤ j_z → j_z < 72 → pm_cpy B_z T 0 (g + 1) 0 72 (g + 1) j_z = A T j_z := fun j_z j0 j1 => by
        rw [cpy_in ⟨by omega, by omega⟩, et, show (0 : Int) + (j_z - 0) = j_z by omega]
      have cout : ∀ r_z j_z : Int, ¬ r_z = g + 1 → pm_cpy B_z T 0 (g + 1) 0 72 r_z j_z = B_z r_z j_z := fun r_z j_z hr => cpy_out (fun e_z => hr e_z.1)
      have cg : gH wX (pm_cpy B_z T 0 (g + 1) 0 72) := gH_cpy bg (ka := (1, 0, 72, [(0, -2999, 2999)])) (kb := (1, 0, 72, [(0, -2147483648, 2147483647)])) hT_z.1 (by rw [hT_z.2]; rfl) (by rw [kg.1.1]; rfl) rfl rfl rfl rfl rfl rfl (by omega) (by omega) (by simp only; omega)
      generalize pm_cpy B_z T 0 (g + 1) 0 72 = C_z at cin cout cg
      have c3g : C_z g 3 = g + 2 := by rw [cout g 3 (by omega), bo g 3 (by omega)]; exact eg.2.1
      have cz : ∀ j_z : Int, C_z Z j_z = A Z j_z := fun j_z => by rw [cout _ j_z (knd hZ.2.1 kg.1.1 (by decide))]; exact bo _ j_z (fun q_z => knd hZ.2.1 hg.2 (by decide) q_z.1)
      refine wq_ok srt_start (fr := []) (cuts := [38]) (J := fun pc st_z => pc = 38 ∧ st_z = ([(2, g), (0, n), (0, m), (2, T), (2, Z), (0, 0)], [], pm_cpy C_z Z 0 (C_z g 3) 0 6)) ?_ 20 22 _ ?_
      · rintro pc st_z ⟨rfl, rfl⟩
        rw [c3g]
        have dout : ∀ r_z j_z : Int, ¬ r_z = g + 2 → pm_cpy C_z Z 0 (g + 2) 0 6 r_z j_z = C_z r_z j_z := fun r_z j_z hr => cpy_out (fun e_z => hr e_z.1)
        have dg : gH wX (pm_cpy C_z Z 0 (g + 2) 0 6) := gH_cpy cg (ka := (1, 1, 6, [(1, -9223372036854775808, 9223372036854775807)])) (kb := (1, 1, 6, [(1, -9223372036854775808, 9223372036854775807)])) hZ.1 (by rw [hZ.2.1]; rfl) (by rw [kg.1.2.1]; rfl) rfl rfl rfl rfl rfl rfl (by omega) (by omega) (by simp only; omega)
        refine st_38 hH0 _ 0 _ (Nat.lt_succ_self _) (by omega) (by omega) ⟨⟨dg, fun r_z j_z a1_z a2 a3 a4 => by rw [dout r_z j_z a3, cout r_z j_z a2]; exact bo r_z j_z a1_z, fun k_z m0_z m1_z => ?_⟩, ⟨?_, ?_⟩, fun j_z j0 j1 => ?_, fun j_z j0 j1 => ?_, fun k_z m0_z m1_z => by omega⟩
        · have kn_z := kg.2 k_z m0_z m1_z
          rw [dout _ 2 (knd kn_z.2 kg.1.2.1 (by decide)), dout _ 3 (knd kn_z.2 kg.1.2.1 (by decide)), cout _ 2 (knd kn_z.2 kg.1.1 (by decide)), cout _ 3 (knd kn_z.2 kg.1.1 (by decide)), bo _ 2 (by omega), bo _ 3 (by omega)]
          exact ⟨rfl, rfl⟩
        · rw [dout g 0 (by omega), cout g 0 (by omega)]; exact b0
        · rw [dout g 1 (by omega), cout g 1 (by omega)]; exact b1
        · rw [dout _ j_z (by omega)]; exact cin j_z j0 j1
        · rw [cpy_in ⟨by omega, by omega⟩, cz, show (0 : Int) + (j_z - 0) = j_z by omega]
      · refine ⟨oX_1 hg.1 hg.2 3 rfl, ?_⟩
        refine ⟨⟨hZ.1, by rw [c3g]; omega, by rw [s11], by rw [s11], by rw [c3g, s11g], by rw [c3g, s11g], by omega, by omega, by omega, by rw [s11]; simp only; omega, by rw [c3g, s11g]; simp only; omega⟩, ?_⟩
        exact ⟨rfl, rfl⟩
    · refine ⟨oX_1 hg.1 hg.2 2 rfl, ?_⟩
      refine ⟨⟨hT_z.1, by rw [e2g]; omega, by rw [s16], by rw [s16], by rw [e2g, s10g], by rw [e2g, s10g], by omega, by omega, by omega, by rw [s16]; simp only; omega, by rw [e2g, s10g]; simp only; omega⟩, ?_⟩
      exact ⟨rfl, rfl⟩
  · refine ⟨oX_1 hg.1 hg.2 0 rfl, ?_⟩
    refine ⟨oX_1 hg.1 hg.2 1 rfl, ?_⟩
    exact ⟨rfl, _, rfl⟩
end

section
/-! what a copied or begun seed leaves; keep -/
theorem StE.sc {A B : pm_A} {g h : Int} (hS : StE A) (hH : scH A g h) (hF : scF A B g) : StE B := by
  have kg := sc_k hH hH.2.1.1
  have hg := hH.2.1.1
  obtain ⟨hA, ⟨⟨a1_z, a2, a3, a4, a5, a6, a7, a8, a9, a10, a11⟩, b_z, c_z, d_z, e_z⟩, ⟨⟨m1_z, m2_z, m3_z, m4_z, m7_z⟩, m5_z, m6_z, m8_z⟩⟩ := hS
  have hn : ∀ {r_z : Int} {l : Nat}, wX.2 r_z = l → ¬ l = 1 → ¬ l = 10 → ¬ l = 11 → ¬ l = 2 → ¬ l = 14 → ¬ l = 15 → ∀ j_z : Int, B r_z j_z = A r_z j_z := fun hr n1_z n2_z n3_z n4_z n5_z n6_z j_z => hF.no hH hr (Or.inl (knd hr hg.2 n1_z)) (knd hr kg.1.1 n2_z) (knd hr kg.1.2.1 n3_z) n4_z n5_z n6_z
  have h1 : ∀ r_z j_z : Int, wX.2 r_z = 1 → ¬ j_z = 0 → ¬ j_z = 1 → B r_z j_z = A r_z j_z := fun r_z j_z hr j0 j1 => hF.no hH hr (Or.inr ⟨j0, j1⟩) (knd hr kg.1.1 (by decide)) (knd hr kg.1.2.1 (by decide)) (by decide) (by decide) (by decide)
  have e0_z := hn kk0 (by decide) (by decide) (by decide) (by decide) (by decide) (by decide)
  have e4_z := hn kk4 (by decide) (by decide) (by decide) (by decide) (by decide) (by decide)
  have e28_z := hn kk28 (by decide) (by decide) (by decide) (by decide) (by decide) (by decide)
  have e52 := hn kk52 (by decide) (by decide) (by decide) (by decide) (by decide) (by decide)
  have e72_z := hn kk72 (by decide) (by decide) (by decide) (by decide) (by decide) (by decide)
  have e73 := hn kk73 (by decide) (by decide) (by decide) (by decide) (by decide) (by decide)
  have e82 := hn kk82 (by decide) (by decide) (by decide) (by decide) (by decide) (by decide)
  have e47 := hn kk47 (by decide) (by decide) (by decide) (by decide) (by decide) (by decide)
  have hpc : ∀ i_z, pc B i_z = pc A i_z := fun i_z => by
    unfold pc
    rw [e4_z, e52, e28_z]
  have hsh : ∀ q_z : Int, 0 ≤ q_z → wX.2 q_z = 2 → B q_z 2 = q_z + 1 ∧ B q_z 3 = q_z + 2 := fun q_z q0 qk => by
    by_cases hm_z : ∃ n_z : Int, (0 ≤ n_z ∧ n_z < 6) ∧ A (g + 3) n_z = q_z
    · obtain ⟨n_z, hn2, rfl⟩ := hm_z
      have h5 := hF.2.2 n_z hn2.1 hn2.2
      rw [h5.1, h5.2]
      exact ⟨b_z _ q0 qk, m5_z _ q0 qk⟩
    · have h5 := hF.sm hH ⟨q0, qk⟩ (fun n_z n0_z n1_z e_z => hm_z ⟨n_z, ⟨n0_z, n1_z⟩, e_z⟩)
      rw [h5.1 2, h5.1 3]
      exact ⟨b_z _ q0 qk, m5_z _ q0 qk⟩
  refine ⟨hF.1, ⟨⟨by rw [e0_z]; exact a1_z, by rw [e0_z]; exact a2, by rw [e0_z]; exact a3, by rw [e0_z]; exact a4, by rw [h1 1 4 kk1 (by omega) (by omega)]; exact a5, by rw [h1 49 4 kk49 (by omega) (by omega)]; exact a6, by rw [e72_z]; exact a7, by rw [e72_z]; exact a8, by rw [h1 79 4 kk79 (by omega) (by omega)]; exact a9, by rw [e28_z]; exact a10, by rw [e28_z]; exact a11⟩, fun q_z q0 qk => (hsh q_z q0 qk).1, fun x_z x0_z x1_z => by rw [e73]; exact c_z x_z x0_z x1_z, fun i_z i0_z i1_z => by rw [e82]; exact d_z i_z i0_z i1_z, pool_eq (fun i_z _ _ => hpc i_z) e_z⟩, ⟨⟨by rw [e28_z]; exact m1_z, by rw [e28_z]; exact m2_z, by rw [e28_z]; exact m3_z, by rw [e28_z]; exact m4_z, by rw [e0_z]; exact m7_z⟩, fun q_z q0 qk => (hsh q_z q0 qk).2, fun i_z i0_z i1_z => by rw [hpc i_z]; exact m6_z i_z i0_z i1_z, ?_⟩⟩
  refine ⟨fun c_z c0_z ck => by rw [h1 c_z 2 ck (by omega) (by omega), h1 c_z 3 ck (by omega) (by omega), h1 c_z 4 ck (by omega) (by omega)]; exact m8_z.1 c_z c0_z ck, by rw [e0_z]; exact m8_z.2.1, fun k_z k0_z k1_z => by rw [e47]; exact m8_z.2.2.1 k_z k0_z k1_z, fun k_z i_z k0_z k1_z i0_z i1_z => by rw [hn (kkK k0_z k1_z) (by decide) (by decide) (by decide) (by decide) (by decide) (by decide)]; exact m8_z.2.2.2 k_z i_z k0_z k1_z i0_z i1_z⟩
theorem TrX.sc {s : cx_Sd 12} {ks : List (Fin 12)} {A B : pm_A} {g h c : Int} (hT : TrX s ks A c) (hH : scH A g h) (hF : scF A B g) (hc : ¬ c = g) (hl : ∀ i_z j_z : Int, 0 ≤ i_z → i_z < 6 → 0 ≤ j_z → j_z < 6 → ¬ A (g + 3) i_z = A (c + 3) j_z) : TrX s ks B c := by
  have kg := sc_k hH hH.2.1.1
  have kc_z := sc_k hH hT.2.1
  have ec := hH.2.2.2.1 c hT.2.1.1 hT.2.1.2
  have p6_z := fX_1_0 hT.1 hT.2.1.1 hT.2.1.2
  refine hT.cong hF.1 (fun j_z => ?_) (fun j_z => ?_) (fun j_z => ?_) (fun i_z i0_z i1_z => ?_)
  · exact hF.no hH hT.2.1.2 (Or.inl hc) (knd hT.2.1.2 kg.1.1 (by decide)) (knd hT.2.1.2 kg.1.2.1 (by decide)) (by decide) (by decide) (by decide)
  · rw [ec.1]
    exact hF.no hH kc_z.1.1 (Or.inl (knd kc_z.1.1 hH.2.1.1.2 (by decide))) (by omega) (knd kc_z.1.1 kg.1.2.1 (by decide)) (by decide) (by decide) (by decide)
  · rw [ec.2.2]
    exact hF.no hH kc_z.1.2.2 (Or.inl (knd kc_z.1.2.2 hH.2.1.1.2 (by decide))) (knd kc_z.1.2.2 kg.1.1 (by decide)) (knd kc_z.1.2.2 kg.1.2.1 (by decide)) (by decide) (by decide) (by decide)
  · rw [ec.2.2]
    exact hF.sm hH (kc_z.2 i_z i0_z (by omega)) (fun n_z m0_z m1_z => hl n_z i_z m0_z m1_z i0_z (by omega))
theorem kkS {k : Int} (k0 : 0 ≤ k) (k1 : k < 4) : wX.2 (420 + 23 * k) = 1 := by
  have h_z : k = 0 ∨ k = 1 ∨ k = 2 ∨ k = 3 := by omega
  rcases h_z with rfl | rfl | rfl | rfl <;> decide +kernel
theorem StE.keepH {A : pm_A} {k : Int} (hS : StE A) (k0 : 0 ≤ k) (k1 : k < 4) : scH A (420 + 23 * k) 1 := by
  have hS0 := hS
  obtain ⟨hA, ⟨⟨a1_z, a2, a3, a4, a5, a6, a7, a8, a9, a10, a11⟩, b_z, c_z, d_z, e_z⟩, ⟨⟨m1_z, m2_z, m3_z, m4_z, m7_z⟩, m5_z, m6_z, m8_z⟩⟩ := hS
  have e3 : (420 + 23 * k + 3 : Int) = 423 + 23 * k := by omega
  refine ⟨hA, ⟨⟨by omega, kkS k0 k1⟩, by omega, kk1⟩, by omega, m8_z.1, fun a_z a0_z ak => ⟨b_z a_z a0_z ak, m5_z a_z a0_z ak⟩, fun i_z j_z i0_z i1_z j0 j1 => ?_, fun i_z j_z i0_z i1_z j0 j1 hij => ?_⟩
  · rw [e3, m8_z.2.2.2 k i_z k0 k1 i0_z i1_z]
    have h1 := (e_z.1 j_z j0 (by omega)).1
    have h2 : pc A j_z = A 4 j_z := by unfold pc; rw [if_pos j1]
    rw [h2] at h1
    show ¬ 425 + 23 * k + 3 * i_z = A (1 + 3) j_z
    rw [show (1 + 3 : Int) = 4 from rfl]
    omega
  · rw [e3, m8_z.2.2.2 k i_z k0 k1 i0_z i1_z, m8_z.2.2.2 k j_z k0 k1 j0 j1]
    omega
def kpP (s : cx_Sd 12) (ks : List (Fin 12)) (A : pm_A) (k : Int) (r : pm_R) : Prop := (r = (some (0, 0), A) ∧ ¬ (0 ≤ k ∧ k < 4)) ∨ (r.1 = some (0, 1) ∧ (0 ≤ k ∧ k < 4) ∧ StE r.2 ∧ TrX s ks r.2 1 ∧ scP A (420 + 23 * k) 1 (none, r.2))
theorem keep_exX {s : cx_Sd 12} {ks : List (Fin 12)} {A : pm_A} {k : Int} (hS : StE A) (hT : TrX s ks A 1) : Cl pmt (an_sh wX) 99 [(2, 0), (0, k)] A (kpP s ks A k) := by
  have a1_z := hS.2.1.1.1
  have m8_z := hS.2.2.2.2.2
  refine Cl.of (Nat.le_of_ble_eq_true rfl) ?_
  refine wq_ok (full := o_X9_keep) srt_Xkeep (fr := []) (cuts := []) (J := fun _ _ => False) (fun _ _ h_z => h_z.elim) 30 0 _ ?_
  refine ⟨fun h0 => ?_, fun h0 => ?_⟩
  · exact ⟨rfl, Or.inl ⟨rfl, by omega⟩⟩
  · refine ⟨fun h1 => ?_, fun h1 => ?_⟩
    · have hH := hS.keepH h0 h1
      have e47 : A (A 0 5) k = 420 + 23 * k := by rw [m8_z.2.1]; exact m8_z.2.2.1 k h0 h1
      refine ⟨oX_0 z0 kk0 5 rfl, ?_⟩
      refine ⟨aX_20 (by rw [m8_z.2.1]; omega) (by rw [m8_z.2.1]; exact kk47) h0 h1, ?_⟩
      refine ⟨oX_0 z0 kk0 0 rfl, ?_⟩
      refine ⟨rX_1 (by rw [e47]; omega) (by rw [e47]; exact kkS h0 h1), ?_⟩
      have hcall := copySeed_ex hH
      rw [← e47] at hcall
      have hcall2 : Cl pmt (an_sh wX) 67 [(2, A (A 0 5) k), (2, A 0 0)] A (scP A (A (A 0 5) k) 1) := by rw [a1_z]; exact hcall
      refine hcall2.imp ?_
      rintro ⟨r1_z, C_z⟩ hC
      have hr1 : r1_z = none := hC.1
      subst hr1
      rw [e47] at hC
      refine ⟨rfl, Or.inr ⟨rfl, ⟨h0, h1⟩, hS.sc hH hC.2.1, hT.sc hH hC.2.1 (by omega) (fun i_z j_z i0_z i1_z j0 j1 => hH.2.2.2.2.2.1 i_z j_z i0_z i1_z j0 j1), hC⟩⟩
    · exact ⟨rfl, Or.inl ⟨rfl, by omega⟩⟩
end

section
/-! the class's walkRow and order leave the bench's seed -/
def wrI (s : cx_Sd 12) (ks : List (Fin 12)) (A B : pm_A) : Prop := StE B ∧ TrX s ks B 1 ∧ (∃ ls, TrX s ls B 49) ∧ (∀ j_z : Int, B 0 j_z = A 0 j_z) ∧ (∀ j_z : Int, B 46 j_z = A 46 j_z) ∧ (∀ j_z : Int, B 1 j_z = A 1 j_z) ∧ (∀ j_z : Int, B (A 0 6) j_z = A (A 0 6) j_z) ∧ B 49 0 = A 49 0
theorem exF.ce {A B : pm_A} {r : Int} {l : Nat} (h : exF A B 28) (hA : gH wX A) (hr : wX.2 r = l) (n1 : ¬ l = 2) (n2 : ¬ l = 14) (n3 : ¬ l = 15) (n4 : ¬ l = 18) (j : Int) : B r j = A r j := h.2.1 r j (ml_no hA ⟨by omega, kk28⟩ hr n1 n2 n3 n4)
theorem wrI.ex {s : cx_Sd 12} {ks : List (Fin 12)} {A B C : pm_A} (h : wrI s ks A B) (hF : exF B C 28) (hk : wX.2 (A 0 6) = 21) : wrI s ks A C := by
  obtain ⟨h1, h2, ⟨ls, h3⟩, h4, h5, h6, h7, h8⟩ := h
  refine ⟨h1.keep hF, h2.keep (h1.ex own1) hF, ⟨ls, h3.keep (h1.ex own49) hF⟩, fun j_z => ?_, fun j_z => ?_, fun j_z => ?_, fun j_z => ?_, ?_⟩
  · rw [hF.ce h1.1 kk0 (by decide) (by decide) (by decide) (by decide)]; exact h4 j_z
  · rw [hF.ce h1.1 kk46 (by decide) (by decide) (by decide) (by decide)]; exact h5 j_z
  · rw [hF.ce h1.1 kk1 (by decide) (by decide) (by decide) (by decide)]; exact h6 j_z
  · rw [hF.ce h1.1 hk (by decide) (by decide) (by decide) (by decide)]; exact h7 j_z
  · rw [hF.ce h1.1 kk49 (by decide) (by decide) (by decide) (by decide)]; exact h8
theorem se_far {s : cx_Sd 12} {ks : List (Fin 12)} {A C : pm_A} {k : Int} (hS : StE A) (hT : TrX s ks A 1) (hP : sePX A 49 52 k (none, C)) : TrX s ks C 1 := by
  obtain ⟨_, c1_z, c2_z, c3_z⟩ := hP
  simp only at c1_z c2_z c3_z
  have m8_z := hS.2.2.2.2.2
  have e49 := m8_z.1 49 (by omega) kk49
  have e1 := m8_z.1 1 (by omega) kk1
  rw [e49.1] at c2_z
  have p6_z := fX_1_0 hS.1 (r := 1) (by omega) kk1
  have t2_z := fX_1_2 hS.1 (r := 49) (by omega) kk49
  rw [e49.1] at t2_z
  have hh : ∀ r_z j_z : Int, ¬ r_z = 50 → ¬ r_z = 52 → ¬ r_z = 28 → C r_z j_z = A r_z j_z := fun r_z j_z h1 h2 h3 => by
    rw [c2_z r_z j_z (by omega)]; exact swp_ne h2 h3
  have hk : ∀ {r_z : Int} {l : Nat}, wX.2 r_z = l → ¬ l = 10 → ¬ l = 12 → ¬ l = 4 → ∀ j_z : Int, C r_z j_z = A r_z j_z := fun hr n1_z n2_z n3_z j_z => hh _ j_z (knd hr t2_z.2 n1_z) (knd hr kk52 n2_z) (knd hr kk28 n3_z)
  refine hT.cong c1_z (fun j_z => hh 1 j_z (by omega) (by omega) (by omega)) (fun j_z => by rw [e1.1]; exact hh _ j_z (by omega) (by omega) (by omega)) (fun j_z => by rw [e1.2.2]; exact hh _ j_z (by omega) (by omega) (by omega)) (fun i_z i0_z i1_z => ?_)
  rw [e1.2.2]
  have l4 := fX_1_4 hS.1 (r := 1) (by omega) kk1
  rw [e1.2.2] at l4
  have e0_z := eX_12 hS.1 l4.1 l4.2 i0_z (show i_z < 6 by omega)
  exact ⟨hk e0_z.2 (by decide) (by decide) (by decide), hk (fX_2_2 hS.1 e0_z.1 e0_z.2).2 (by decide) (by decide) (by decide), hk (fX_2_3 hS.1 e0_z.1 e0_z.2).2 (by decide) (by decide) (by decide)⟩
theorem wq_32 {s : cx_Sd 12} {ks ls : List (Fin 12)} {A B0 B : pm_A} {f : Fin 12} {i : Int} (i0 : 0 ≤ i) (i1 : i ≤ 11) (hI : wrI s ks A B0) (hr : 0 ≤ A 0 6 ∧ wX.2 (A 0 6) = 21) (hT : TrX s ls B0 49) (hf : A (A 0 6) i = (f.1 : Int)) (hk : (f.1 : Int) < B0 49 0) (hB : exPX s ls f B0 28 49 (some (0, 1), B)) {z : pm_R → Prop} (H : ∀ C_z, wrI s ks A C_z → Tm pmt (an_sh wX) o_X9_walkRow 2 ([(2, 0), (0, i + 1)], [], C_z) z) : Tm pmt (an_sh wX) o_X9_walkRow 32 ([(2, 0), (0, i)], [], B) z := by
  obtain ⟨hF, hB⟩ := hB
  simp only at hF hB
  rcases hB with ⟨q_z, _⟩ | ⟨_, hok, c0_z, cs, cc, cv⟩
  · cases q_z
  · have hI2 := hI.ex hF hr.2
    obtain ⟨s1_z, s2_z, s3_z, s4_z, s5, s6_z, s7, s8⟩ := hI2
    have hS0 := hI.1
    have a2 := s1_z.2.1.1.2.1
    have a8 := s1_z.2.1.1.2.2.1
    have hTB := hT.keep (hS0.ex own49) hF
    have eg := (hF.gs hS0.1 (hS0.ex own49)).2.1
    have e06 : B 0 6 = A 0 6 := s4_z 6
    have ef : B (B 0 6) i = (f.1 : Int) := by rw [e06, s7 i]; exact hf
    refine wq_ok srt_walkRow (fr := []) (cuts := [2]) (J := fun pc st_z => pc = 2 ∧ ∃ C_z, sePX B 49 52 f.1 (none, C_z) ∧ st_z = ([(2, 0), (0, i + 1)], [], C_z)) ?_ 20 32 _ ?_
    · rintro pc st_z ⟨rfl, C_z, hC, rfl⟩
      have hSC := s1_z.swap own49 (show (0 : Int) ≤ f.1 by omega) (by have p6_z := fX_1_0 hS0.1 (r := 49) (by omega) kk49; omega) hC.2.1 hC.2.2.1
      have hC0 := hC
      obtain ⟨_, c1_z, c2_z, c3_z⟩ := hC
      simp only at c1_z c2_z c3_z
      have e49 := s1_z.2.2.2.2.2.1 49 (by omega) kk49
      rw [e49.1] at c2_z
      have hh : ∀ r_z j_z : Int, ¬ r_z = 50 → ¬ r_z = 52 → ¬ r_z = 28 → C_z r_z j_z = B r_z j_z := fun r_z j_z h1 h2 h3 => by
        rw [c2_z r_z j_z (by omega)]; exact swp_ne h2 h3
      have t2_z := fX_1_2 s1_z.1 (r := 49) (by omega) kk49
      rw [e49.1] at t2_z
      refine H C_z ⟨hSC, se_far s1_z s2_z hC0, ⟨_, hT.next hS0 own49 hk hF hok.2 c0_z cs cc cv hC0⟩, fun j_z => ?_, fun j_z => ?_, fun j_z => ?_, fun j_z => ?_, ?_⟩
      · rw [hh 0 j_z (by omega) (by omega) (by omega)]; exact s4_z j_z
      · rw [hh 46 j_z (by omega) (by omega) (by omega)]; exact s5 j_z
      · rw [hh 1 j_z (by omega) (by omega) (by omega)]; exact s6_z j_z
      · rw [hh _ j_z (knd hr.2 t2_z.2 (by decide)) (knd hr.2 kk52 (by decide)) (knd hr.2 kk28 (by decide))]; exact s7 j_z
      · rw [hh 49 0 (by omega) (by omega) (by omega)]; exact s8
    · refine ⟨oX_0 z0 kk0 2 rfl, ?_⟩
      refine ⟨oX_0 z0 kk0 8 rfl, ?_⟩
      refine ⟨oX_0 z0 kk0 6 rfl, ?_⟩
      refine ⟨aX_21 (by rw [e06]; exact hr.1) (by rw [e06]; exact hr.2) i0 (by omega), ?_⟩
      refine ⟨rX_4 (r := B 0 2) (by rw [a2]; omega) (by rw [a2]; exact kk28), ?_⟩
      show Cl pmt (an_sh wX) 47 [(2, B 0 2), (2, B 0 8), (0, B (B 0 6) i)] B _
      rw [a8, a2, ef]
      refine (settle_exX s1_z own49 (by omega) (by rw [eg 0]; exact hk) hTB.2.2.2.2.2.2.1).imp ?_
      rintro ⟨r1_z, C_z⟩ hC
      have hr1 : r1_z = none := hC.1
      subst hr1
      refine ⟨⟨by omega, by omega⟩, ?_⟩
      exact ⟨rfl, C_z, hC, rfl⟩
def wrP (s : cx_Sd 12) (ks : List (Fin 12)) (A : pm_A) (r : pm_R) : Prop := (r.1 = some (0, 0) ∨ r.1 = some (0, 1)) ∧ wrI s ks A r.2
theorem wq_2 {s : cx_Sd 12} {ks : List (Fin 12)} {A : pm_A} (hr : 0 ≤ A 0 6 ∧ wX.2 (A 0 6) = 21) (hrow : ∀ i_z : Int, 0 ≤ i_z → i_z < A 0 7 → 0 ≤ A (A 0 6) i_z ∧ A (A 0 6) i_z < A 49 0) : ∀ (n_z : Nat) (i_z : Int) (B_z : pm_A), (12 - i_z).toNat < n_z → 0 ≤ i_z → i_z ≤ 12 → wrI s ks A B_z → Tm pmt (an_sh wX) o_X9_walkRow 2 ([(2, 0), (0, i_z)], [], B_z) (wrP s ks A) := by
  intro n_z
  induction n_z with
  | zero => intro i_z B_z h_z; omega
  | succ n_z ih_z =>
    intro i_z B_z hn i0_z i1_z hI
    have hI0 := hI
    obtain ⟨h1, h2, ⟨ls, h3⟩, h4, h5, h6, h7, h8⟩ := hI
    have a2 := h1.2.1.1.2.1
    have a8 := h1.2.1.1.2.2.1
    have n0_z := fX_0_7 h1.1 z0 kk0
    have e06 : B_z 0 6 = A 0 6 := h4 6
    have e07 : B_z 0 7 = A 0 7 := h4 7
    have p6_z := fX_1_0 h1.1 (r := 49) (by omega) kk49
    refine wq_ok srt_walkRow (fr := []) (cuts := [32]) (J := fun pc st_z => pc = 32 ∧ i_z < A 0 7 ∧ ∃ (f_z : Fin 12) (C_z : pm_A), A (A 0 6) i_z = (f_z.1 : Int) ∧ exPX s ls f_z B_z 28 49 (some (0, 1), C_z) ∧ st_z = ([(2, 0), (0, i_z)], [], C_z)) ?_ 20 2 _ ?_
    · rintro pc st_z ⟨rfl, hi_z, f_z, C_z, hf, hC, rfl⟩
      have hx := hrow i_z i0_z hi_z
      exact wq_32 i0_z (by omega) hI0 hr h3 hf (by omega) hC (fun D_z hD => ih_z (i_z + 1) D_z (by omega) (by omega) (by omega) hD)
    · refine ⟨oX_0 z0 kk0 7 rfl, ?_⟩
      refine ⟨fun h_z => ?_, fun h_z => ?_⟩
      · exact ⟨rfl, Or.inr rfl, hI0⟩
      · have hi_z : i_z < A 0 7 := by rw [← e07]; exact h_z
        have hx := hrow i_z i0_z hi_z
        obtain ⟨f_z, hf⟩ : ∃ f_z : Fin 12, A (A 0 6) i_z = (f_z.1 : Int) := ⟨⟨(A (A 0 6) i_z).toNat, by omega⟩, by show A (A 0 6) i_z = (((A (A 0 6) i_z).toNat : Nat) : Int); omega⟩
        have ef : B_z (B_z 0 6) i_z = (f_z.1 : Int) := by rw [e06, h7 i_z]; exact hf
        refine ⟨oX_0 z0 kk0 2 rfl, ?_⟩
        refine ⟨oX_0 z0 kk0 8 rfl, ?_⟩
        refine ⟨oX_0 z0 kk0 6 rfl, ?_⟩
        refine ⟨aX_21 (by rw [e06]; exact hr.1) (by rw [e06]; exact hr.2) i0_z (by omega), ?_⟩
        refine ⟨rX_4 (r := B_z 0 2) (by rw [a2]; omega) (by rw [a2]; exact kk28), ?_⟩
        show Cl pmt (an_sh wX) 42 [(2, B_z 0 2), (2, B_z 0 8), (0, B_z (B_z 0 6) i_z)] B_z _
        rw [a8, a2, ef]
        refine (exchange_exX h3 (h1.ex own49) (by omega)).imp ?_
        rintro ⟨r1_z, C_z⟩ hC
        have hC0 := hC
        obtain ⟨hF, hC⟩ := hC
        simp only at hF hC
        rcases hC with ⟨rfl, _⟩ | ⟨rfl, _⟩
        · refine ⟨fun hh => absurd rfl hh, fun _ => ?_⟩
          exact ⟨rfl, Or.inl rfl, hI0.ex hF hr.2⟩
        · refine ⟨fun _ => ?_, fun hh => absurd hh (by decide)⟩
          exact ⟨rfl, hi_z, f_z, C_z, hf, hC0, rfl⟩
theorem walkRow_exX {s : cx_Sd 12} {ks : List (Fin 12)} {A B : pm_A} (hr : 0 ≤ A 0 6 ∧ wX.2 (A 0 6) = 21) (hrow : ∀ i_z : Int, 0 ≤ i_z → i_z < A 0 7 → 0 ≤ A (A 0 6) i_z ∧ A (A 0 6) i_z < A 49 0) (hI : wrI s ks A B) : Cl pmt (an_sh wX) 118 [(2, 0)] B (wrP s ks A) := by
  refine Cl.of (Nat.le_of_ble_eq_true rfl) ?_
  refine wq_ok (full := o_X9_walkRow) srt_walkRow (fr := []) (cuts := [2]) (J := fun pc st_z => pc = 2 ∧ st_z = ([(2, 0), (0, 0)], [], B)) ?_ 20 0 _ ?_
  · rintro pc st_z ⟨rfl, rfl⟩
    exact wq_2 hr hrow _ 0 B (Nat.lt_succ_self _) (by omega) (by omega) hI
  · exact ⟨rfl, rfl⟩
end

section
/-! the class's isLike, placeOf, hasTable, isSameAs, exactly -/
theorem srt_isLike : pm_srt o_X8_isLike = true := by decide +kernel
def lk (A : pm_A) (s o : Int) : Prop := (A s 1 = A o 1 ∧ A s 0 = A o 0) ∧ (∀ t_z : Int, 0 ≤ t_z → t_z < A s 1 → A (A s 2) t_z = A (A o 2) t_z) ∧ ∀ c_z : Int, 0 ≤ c_z → c_z < A s 1 * A s 0 → A (A s 3) c_z = A (A o 3) c_z
def abP (A : pm_A) (P : Prop) (r : pm_R) : Prop := r.2 = A ∧ ((r.1 = some (0, 1) ∧ P) ∨ (r.1 = some (0, 0) ∧ ¬ P))
theorem il_60 {A : pm_A} {s o : Int} (hA : gH wX A) (hs : 0 ≤ s ∧ wX.2 s = 2) (ho : 0 ≤ o ∧ wX.2 o = 2) (h1 : A s 1 = A o 1 ∧ A s 0 = A o 0) (h2 : ∀ t_z : Int, 0 ≤ t_z → t_z < A s 1 → A (A s 2) t_z = A (A o 2) t_z) : ∀ (m_z : Nat) (c_z : Int), (2400 - c_z).toNat < m_z → 0 ≤ c_z → c_z ≤ 2400 → (∀ d_z : Int, 0 ≤ d_z → d_z < c_z → A (A s 3) d_z = A (A o 3) d_z) → Tm pmt (an_sh wX) o_X8_isLike 60 ([(2, s), (2, o), (0, c_z)], [], A) (abP A (lk A s o)) := by
  have ps_z := fX_2_3 hA hs.1 hs.2
  have po := fX_2_3 hA ho.1 ho.2
  have w0_z := fX_2_0 hA hs.1 hs.2
  have l0 := fX_2_1 hA hs.1 hs.2
  have m0_z : 0 ≤ A s 1 * A s 0 := Int.mul_nonneg l0.1 w0_z.1
  have m1_z : A s 1 * A s 0 ≤ 200 * 12 := Int.mul_le_mul l0.2 w0_z.2 w0_z.1 (by omega)
  intro m_z
  induction m_z with
  | zero => intro c_z h_z; omega
  | succ m_z ih_z =>
    intro c_z hm_z c0_z c1_z hc_z
    refine wq_ok srt_isLike (fr := []) (cuts := [60]) (J := fun pc st_z => pc = 60 ∧ c_z < A s 1 * A s 0 ∧ A (A s 3) c_z = A (A o 3) c_z ∧ st_z = ([(2, s), (2, o), (0, c_z + 1)], [], A)) ?_ 30 60 _ ?_
    · rintro pc st_z ⟨rfl, hl, he, rfl⟩
      refine ih_z (c_z + 1) (by omega) (by omega) (by omega) (fun d_z d0_z d1_z => ?_)
      by_cases e_z : d_z = c_z
      · rw [e_z]; exact he
      · exact hc_z d_z d0_z (by omega)
    · refine ⟨oX_2 hs.1 hs.2 1 rfl, ?_⟩
      refine ⟨oX_2 hs.1 hs.2 0 rfl, ?_⟩
      refine ⟨⟨by omega, by omega⟩, ?_⟩
      refine ⟨fun h_z => ?_, fun h_z => ?_⟩
      · exact ⟨rfl, rfl, Or.inl ⟨rfl, h1, h2, fun d_z d0_z d1_z => hc_z d_z d0_z (by omega)⟩⟩
      · refine ⟨oX_2 hs.1 hs.2 3 rfl, ?_⟩
        refine ⟨aX_15 ps_z.1 ps_z.2 c0_z (by omega), ?_⟩
        refine ⟨oX_2 ho.1 ho.2 3 rfl, ?_⟩
        refine ⟨aX_15 po.1 po.2 c0_z (by omega), ?_⟩
        refine ⟨fun h3 => ?_, fun h3 => ?_⟩
        · refine ⟨⟨by omega, by omega⟩, ?_⟩
          exact ⟨rfl, h_z, h3, rfl⟩
        · exact ⟨rfl, rfl, Or.inr ⟨rfl, fun q_z => h3 (q_z.2.2 c_z c0_z h_z)⟩⟩
theorem il_26 {A : pm_A} {s o : Int} (hA : gH wX A) (hs : 0 ≤ s ∧ wX.2 s = 2) (ho : 0 ≤ o ∧ wX.2 o = 2) (h1 : A s 1 = A o 1 ∧ A s 0 = A o 0) : ∀ (m_z : Nat) (t_z : Int), (200 - t_z).toNat < m_z → 0 ≤ t_z → t_z ≤ 200 → (∀ d_z : Int, 0 ≤ d_z → d_z < t_z → A (A s 2) d_z = A (A o 2) d_z) → Tm pmt (an_sh wX) o_X8_isLike 26 ([(2, s), (2, o), (0, t_z)], [], A) (abP A (lk A s o)) := by
  have ns := fX_2_2 hA hs.1 hs.2
  have no_z := fX_2_2 hA ho.1 ho.2
  have l0 := fX_2_1 hA hs.1 hs.2
  intro m_z
  induction m_z with
  | zero => intro t_z h_z; omega
  | succ m_z ih_z =>
    intro t_z hm_z t0_z t1_z hc_z
    refine wq_ok srt_isLike (fr := []) (cuts := [26, 60]) (J := fun pc st_z => (pc = 60 ∧ A s 1 ≤ t_z ∧ st_z = ([(2, s), (2, o), (0, 0)], [], A)) ∨ (pc = 26 ∧ t_z < A s 1 ∧ A (A s 2) t_z = A (A o 2) t_z ∧ st_z = ([(2, s), (2, o), (0, t_z + 1)], [], A))) ?_ 30 26 _ ?_
    · rintro pc st_z (⟨rfl, hl, rfl⟩ | ⟨rfl, hl, he, rfl⟩)
      · exact il_60 hA hs ho h1 (fun d_z d0_z d1_z => hc_z d_z d0_z (by omega)) _ 0 (Nat.lt_succ_self _) (by omega) (by omega) (fun d_z d0_z d1_z => by omega)
      · refine ih_z (t_z + 1) (by omega) (by omega) (by omega) (fun d_z d0_z d1_z => ?_)
        by_cases e_z : d_z = t_z
        · rw [e_z]; exact he
        · exact hc_z d_z d0_z (by omega)
    · refine ⟨oX_2 hs.1 hs.2 1 rfl, ?_⟩
      refine ⟨fun h_z => Or.inl ⟨rfl, h_z, rfl⟩, fun h_z => ?_⟩
      refine ⟨oX_2 hs.1 hs.2 2 rfl, ?_⟩
      refine ⟨aX_14 ns.1 ns.2 t0_z (by omega), ?_⟩
      refine ⟨oX_2 ho.1 ho.2 2 rfl, ?_⟩
      refine ⟨aX_14 no_z.1 no_z.2 t0_z (by omega), ?_⟩
      refine ⟨fun h3 => ?_, fun h3 => ?_, fun h3 => ?_⟩
      · refine ⟨fun hh => absurd hh (by decide), fun _ => ?_⟩
        exact ⟨rfl, rfl, Or.inr ⟨rfl, fun q_z => by have := q_z.2.1 t_z t0_z h_z; omega⟩⟩
      · refine ⟨fun _ => ?_, fun hh => absurd rfl hh⟩
        refine ⟨⟨by omega, by omega⟩, ?_⟩
        exact Or.inr ⟨rfl, h_z, h3, rfl⟩
      · refine ⟨fun hh => absurd hh (by decide), fun _ => ?_⟩
        exact ⟨rfl, rfl, Or.inr ⟨rfl, fun q_z => by have := q_z.2.1 t_z t0_z h_z; omega⟩⟩
theorem isLike_ex {A : pm_A} {s o : Int} (hA : gH wX A) (hs : 0 ≤ s ∧ wX.2 s = 2) (ho : 0 ≤ o ∧ wX.2 o = 2) : Cl pmt (an_sh wX) 80 [(2, s), (2, o)] A (abP A (lk A s o)) := by
  refine Cl.of (Nat.le_of_ble_eq_true rfl) ?_
  refine wq_ok (full := o_X8_isLike) srt_isLike (fr := []) (cuts := [26]) (J := fun pc st_z => pc = 26 ∧ (A s 1 = A o 1 ∧ A s 0 = A o 0) ∧ st_z = ([(2, s), (2, o), (0, 0)], [], A)) ?_ 20 0 _ ?_
  · rintro pc st_z ⟨rfl, h1, rfl⟩
    exact il_26 hA hs ho h1 _ 0 (Nat.lt_succ_self _) (by omega) (by omega) (fun d_z d0_z d1_z => by omega)
  · refine ⟨oX_2 hs.1 hs.2 1 rfl, ?_⟩
    refine ⟨oX_2 ho.1 ho.2 1 rfl, ?_⟩
    refine ⟨fun h_z => ?_, fun h_z => ?_⟩
    · exact ⟨rfl, rfl, Or.inr ⟨rfl, fun q_z => h_z q_z.1.1⟩⟩
    · refine ⟨oX_2 hs.1 hs.2 0 rfl, ?_⟩
      refine ⟨oX_2 ho.1 ho.2 0 rfl, ?_⟩
      refine ⟨fun h2 => ?_, fun h2 => ?_⟩
      · exact ⟨rfl, ⟨h_z, h2⟩, rfl⟩
      · exact ⟨rfl, rfl, Or.inr ⟨rfl, fun q_z => h2 q_z.1.2⟩⟩
theorem srt_XplaceOf : pm_srt o_X7_placeOf = true := by decide +kernel
def poP (A : pm_A) (g o : Int) (r : pm_R) : Prop := r.2 = A ∧ ∃ z_z : Int, r.1 = some (0, z_z) ∧ ((z_z = -1 ∧ ∀ i_z : Int, 0 ≤ i_z → i_z < A g 0 → ¬ lk A (A (A g 4) i_z) o) ∨ ((0 ≤ z_z ∧ z_z < A g 0) ∧ lk A (A (A g 4) z_z) o ∧ ∀ i_z : Int, 0 ≤ i_z → i_z < z_z → ¬ lk A (A (A g 4) i_z) o))
theorem po_2 {A : pm_A} {g o : Int} (hA : gH wX A) (hg : 0 ≤ g ∧ wX.2 g = 1) (ho : 0 ≤ o ∧ wX.2 o = 2) : ∀ (m_z : Nat) (i_z : Int), (6 - i_z).toNat < m_z → 0 ≤ i_z → i_z ≤ A g 0 → (∀ d_z : Int, 0 ≤ d_z → d_z < i_z → ¬ lk A (A (A g 4) d_z) o) → Tm pmt (an_sh wX) o_X7_placeOf 2 ([(2, g), (2, o), (0, i_z)], [], A) (poP A g o) := by
  have p6_z := fX_1_0 hA hg.1 hg.2
  have l4 := fX_1_4 hA hg.1 hg.2
  intro m_z
  induction m_z with
  | zero => intro i_z h_z; omega
  | succ m_z ih_z =>
    intro i_z hm_z i0_z i1_z hc_z
    refine wq_ok srt_XplaceOf (fr := []) (cuts := [2]) (J := fun pc st_z => pc = 2 ∧ i_z < A g 0 ∧ (¬ lk A (A (A g 4) i_z) o) ∧ st_z = ([(2, g), (2, o), (0, i_z + 1)], [], A)) ?_ 20 2 _ ?_
    · rintro pc st_z ⟨rfl, hi_z, hl, rfl⟩
      refine ih_z (i_z + 1) (by omega) (by omega) (by omega) (fun d_z d0_z d1_z => ?_)
      by_cases e_z : d_z = i_z
      · rw [e_z]; exact hl
      · exact hc_z d_z d0_z (by omega)
    · refine ⟨oX_1 hg.1 hg.2 0 rfl, ?_⟩
      refine ⟨fun h_z => ?_, fun h_z => ?_⟩
      · exact ⟨rfl, rfl, -1, rfl, Or.inl ⟨rfl, fun d_z d0_z d1_z => hc_z d_z d0_z (by omega)⟩⟩
      · have e0_z := eX_12 hA l4.1 l4.2 i0_z (show i_z < 6 by omega)
        refine ⟨oX_1 hg.1 hg.2 4 rfl, ?_⟩
        refine ⟨aX_12 l4.1 l4.2 i0_z (by omega), ?_⟩
        refine ⟨rX_2 e0_z.1 e0_z.2, ?_⟩
        refine (isLike_ex hA e0_z ho).imp ?_
        rintro ⟨r1_z, C_z⟩ ⟨g1, g2⟩
        simp only at g1 g2
        subst g1
        rcases g2 with ⟨rfl, g3_z⟩ | ⟨rfl, g3_z⟩
        · refine ⟨fun hh => absurd hh (by decide), fun _ => ?_⟩
          exact ⟨rfl, rfl, i_z, rfl, Or.inr ⟨⟨i0_z, h_z⟩, g3_z, hc_z⟩⟩
        · refine ⟨fun _ => ?_, fun hh => absurd rfl hh⟩
          refine ⟨⟨by omega, by omega⟩, ?_⟩
          exact ⟨rfl, h_z, g3_z, rfl⟩
theorem XplaceOf_ex {A : pm_A} {g o : Int} (hA : gH wX A) (hg : 0 ≤ g ∧ wX.2 g = 1) (ho : 0 ≤ o ∧ wX.2 o = 2) : Cl pmt (an_sh wX) 71 [(2, g), (2, o)] A (poP A g o) := by
  refine Cl.of (Nat.le_of_ble_eq_true rfl) ?_
  refine wq_ok (full := o_X7_placeOf) srt_XplaceOf (fr := []) (cuts := [2]) (J := fun pc st_z => pc = 2 ∧ st_z = ([(2, g), (2, o), (0, 0)], [], A)) ?_ 20 0 _ ?_
  · rintro pc st_z ⟨rfl, rfl⟩
    exact po_2 hA hg ho _ 0 (Nat.lt_succ_self _) (by omega) (fX_1_0 hA hg.1 hg.2).1 (fun d_z d0_z d1_z => by omega)
  · exact ⟨rfl, rfl⟩
theorem lk_ls {A : pm_A} {s o : Int} (h : lk A s o) : LSx A s = LSx A o := by
  obtain ⟨⟨h1, h0⟩, h2, h3⟩ := h
  unfold LSx lsf
  rw [← h1]
  refine List.map_congr_left (fun t_z ht => ?_)
  have ht := List.mem_range.1 ht
  show (A (A s 2) (t_z : Int), xeX A s (t_z : Int)) = (A (A o 2) (t_z : Int), xeX A o (t_z : Int))
  rw [h2 t_z (by omega) (by omega)]
  have e_z : xeX A s (t_z : Int) = xeX A o (t_z : Int) := funext fun j_z => by
    show (if (j_z.1 : Int) < A s 0 then A (A s 3) ((t_z : Int) * A s 0 + (j_z.1 : Int)) else 0) = if (j_z.1 : Int) < A o 0 then A (A o 3) ((t_z : Int) * A o 0 + (j_z.1 : Int)) else 0
    rw [← h0]
    by_cases e_z : (j_z.1 : Int) < A s 0
    · have h5 := lt_mul (q := (t_z : Int)) (t := A s 1) (w := A s 0) (v := (j_z.1 : Int)) (by omega) (by omega) e_z
      have h6 := Int.mul_nonneg (show (0 : Int) ≤ (t_z : Int) by omega) (show 0 ≤ A s 0 by omega)
      rw [if_pos e_z, if_pos e_z]; exact h3 _ (by omega) h5
    · rw [if_neg e_z, if_neg e_z]
  rw [e_z]
end

section
/-! the class's hasTable, isSameAs, exactly -/
abbrev rwS (P : Int) (S : Int → Int) (i : Int) : Int := if i < P then S i else i
def htc (T U : Int → Int) (S : Int → Int) (W P : Int) : Prop := ∀ i_z j_z : Int, 0 ≤ i_z → i_z < W → 0 ≤ j_z → j_z < P → T (i_z * 6 + j_z) = U (0 + rwS P S i_z * 6 + S j_z)
def htH (A : pm_A) (g o S : Int) : Prop := gH wX A ∧ (0 ≤ g ∧ wX.2 g = 1) ∧ (0 ≤ o ∧ wX.2 o = 10) ∧ (0 ≤ S ∧ wX.2 S = 13) ∧ ∀ i_z : Int, 0 ≤ i_z → i_z < A g 0 → 0 ≤ A S i_z ∧ A S i_z ≤ 5
theorem htx_40 {A : pm_A} {g o S i : Int} (hH : htH A g o S) (i0 : 0 ≤ i) (i1 : i < bgW A g) (H : ∀ v6 : pm_V, (∀ j_z : Int, 0 ≤ j_z → j_z < A g 0 → A (A g 2) (i * 6 + j_z) = A o (0 + rwS (A g 0) (A S) i * 6 + A S j_z)) → Tm pmt (an_sh wX) o_X7_hasTable 87 ([(2, g), (2, o), (0, 0), (2, S), (0, i), (0, rwS (A g 0) (A S) i), v6], [], A) (abP A (htc (A (A g 2)) (A o) (A S) (bgW A g) (A g 0)))) : ∀ (m_z : Nat) (j_z : Int), (6 - j_z).toNat < m_z → 0 ≤ j_z → j_z ≤ A g 0 → (∀ d_z : Int, 0 ≤ d_z → d_z < j_z → A (A g 2) (i * 6 + d_z) = A o (0 + rwS (A g 0) (A S) i * 6 + A S d_z)) → Tm pmt (an_sh wX) o_X7_hasTable 40 ([(2, g), (2, o), (0, 0), (2, S), (0, i), (0, rwS (A g 0) (A S) i), (0, j_z)], [], A) (abP A (htc (A (A g 2)) (A o) (A S) (bgW A g) (A g 0))) := by
  obtain ⟨hA, hg, ho, hS_z, hs⟩ := hH
  have p6_z := fX_1_0 hA hg.1 hg.2
  have h6 := fX_1_1 hA hg.1 hg.2
  have t2_z := fX_1_2 hA hg.1 hg.2
  have hw : bgW A g = A g 0 + A g 1 := rfl
  have hrw : 0 ≤ rwS (A g 0) (A S) i ∧ rwS (A g 0) (A S) i ≤ 11 := by
    by_cases e_z : i < A g 0
    · rw [show rwS (A g 0) (A S) i = A S i from if_pos e_z]
      have := hs i i0 e_z
      omega
    · rw [show rwS (A g 0) (A S) i = i from if_neg e_z]
      omega
  generalize hR : rwS (A g 0) (A S) i = R_z at H hrw ⊢
  intro m_z
  induction m_z with
  | zero => intro j_z h_z; omega
  | succ m_z ih_z =>
    intro j_z hm_z j0 j1 hc_z
    refine wq_ok srt_hasTable (fr := []) (cuts := [40, 87]) (J := fun pc st_z => (pc = 87 ∧ j_z = A g 0 ∧ st_z = ([(2, g), (2, o), (0, 0), (2, S), (0, i), (0, R_z), (0, j_z)], [], A)) ∨ (pc = 40 ∧ j_z < A g 0 ∧ A (A g 2) (i * 6 + j_z) = A o (0 + R_z * 6 + A S j_z) ∧ st_z = ([(2, g), (2, o), (0, 0), (2, S), (0, i), (0, R_z), (0, j_z + 1)], [], A))) ?_ 40 40 _ ?_
    · rintro pc st_z (⟨rfl, hj, rfl⟩ | ⟨rfl, hj, he, rfl⟩)
      · exact H _ (fun d_z d0_z d1_z => hc_z d_z d0_z (by omega))
      · refine ih_z (j_z + 1) (by omega) (by omega) (by omega) (fun d_z d0_z d1_z => ?_)
        by_cases e_z : d_z = j_z
        · rw [e_z]; exact he
        · exact hc_z d_z d0_z (by omega)
    · refine ⟨oX_1 hg.1 hg.2 0 rfl, ?_⟩
      refine ⟨fun h_z => Or.inl ⟨rfl, by omega, rfl⟩, fun h_z => ?_⟩
      have hsj := hs j_z j0 h_z
      refine ⟨oX_1 hg.1 hg.2 2 rfl, ?_⟩
      refine ⟨⟨by omega, by omega⟩, ?_⟩
      refine ⟨⟨by omega, by omega⟩, ?_⟩
      refine ⟨aX_10 t2_z.1 t2_z.2 (by omega) (by omega), ?_⟩
      refine ⟨⟨by omega, by omega⟩, ?_⟩
      refine ⟨⟨by omega, by omega⟩, ?_⟩
      refine ⟨aX_13 hS_z.1 hS_z.2 j0 (by omega), ?_⟩
      refine ⟨⟨by omega, by omega⟩, ?_⟩
      refine ⟨aX_10 ho.1 ho.2 (by omega) (by omega), ?_⟩
      refine ⟨fun h3 => ?_, fun h3 => ?_⟩
      · refine ⟨⟨by omega, by omega⟩, ?_⟩
        exact Or.inr ⟨rfl, h_z, h3, rfl⟩
      · refine ⟨rfl, rfl, Or.inr ⟨rfl, fun q_z => h3 ?_⟩⟩
        have h4 := q_z i j_z i0 i1 j0 h_z
        rw [hR] at h4
        exact h4
theorem htx_3 {A : pm_A} {g o S : Int} (hH : htH A g o S) : ∀ (m_z : Nat) (i_z : Int) (v5 v6 : pm_V), (12 - i_z).toNat < m_z → 0 ≤ i_z → i_z ≤ bgW A g → (∀ a_z j_z : Int, 0 ≤ a_z → a_z < i_z → 0 ≤ j_z → j_z < A g 0 → A (A g 2) (a_z * 6 + j_z) = A o (0 + rwS (A g 0) (A S) a_z * 6 + A S j_z)) → Tm pmt (an_sh wX) o_X7_hasTable 3 ([(2, g), (2, o), (0, 0), (2, S), (0, i_z), v5, v6], [], A) (abP A (htc (A (A g 2)) (A o) (A S) (bgW A g) (A g 0))) := by
  have hH0 := hH
  obtain ⟨hA, hg, ho, hS_z, hs⟩ := hH
  have p6_z := fX_1_0 hA hg.1 hg.2
  have h6 := fX_1_1 hA hg.1 hg.2
  have hw : bgW A g = A g 0 + A g 1 := rfl
  intro m_z
  induction m_z with
  | zero => intro i_z v5 v6 h_z; omega
  | succ m_z ih_z =>
    intro i_z v5 v6 hm_z i0_z i1_z hc_z
    refine wq_ok srt_hasTable (fr := []) (cuts := [40]) (J := fun pc st_z => pc = 40 ∧ i_z < bgW A g ∧ st_z = ([(2, g), (2, o), (0, 0), (2, S), (0, i_z), (0, rwS (A g 0) (A S) i_z), (0, 0)], [], A)) ?_ 40 3 _ ?_
    · rintro pc st_z ⟨rfl, hi_z, rfl⟩
      refine htx_40 hH0 i0_z hi_z (fun v6 hrow => ?_) _ 0 (Nat.lt_succ_self _) (by omega) p6_z.1 (fun d_z d0_z d1_z => by omega)
      refine wq_ok srt_hasTable (fr := []) (cuts := [3]) (J := fun pc st_z => pc = 3 ∧ st_z = ([(2, g), (2, o), (0, 0), (2, S), (0, i_z + 1), (0, rwS (A g 0) (A S) i_z), v6], [], A)) ?_ 40 87 _ ?_
      · rintro pc st_z ⟨rfl, rfl⟩
        refine ih_z (i_z + 1) _ v6 (by omega) (by omega) (by omega) (fun a_z j_z a0_z a1_z j0 j1 => ?_)
        by_cases e_z : a_z = i_z
        · rw [e_z]; exact hrow j_z j0 j1
        · exact hc_z a_z j_z a0_z (by omega) j0 j1
      · refine ⟨⟨by omega, by omega⟩, ?_⟩
        exact ⟨rfl, rfl⟩
    · refine ⟨oX_1 hg.1 hg.2 0 rfl, ?_⟩
      refine ⟨oX_1 hg.1 hg.2 1 rfl, ?_⟩
      refine ⟨⟨by omega, by omega⟩, ?_⟩
      refine ⟨fun h_z => ?_, fun h_z => ?_⟩
      · exact ⟨rfl, rfl, Or.inl ⟨rfl, fun a_z j_z a0_z a1_z j0 j1 => hc_z a_z j_z a0_z (by omega) j0 j1⟩⟩
      · refine ⟨oX_1 hg.1 hg.2 0 rfl, ?_⟩
        refine ⟨fun h2 => ?_, fun h2 => ?_⟩
        · refine ⟨rfl, h_z, ?_⟩
          rw [show rwS (A g 0) (A S) i_z = i_z from if_neg (by omega)]
          rfl
        · refine ⟨aX_13 hS_z.1 hS_z.2 i0_z (by omega), ?_⟩
          refine ⟨rfl, h_z, ?_⟩
          rw [show rwS (A g 0) (A S) i_z = A S i_z from if_pos h2]
          rfl
theorem hasTable_ex {A : pm_A} {g o S : Int} (hH : htH A g o S) : Cl pmt (an_sh wX) 68 [(2, g), (2, o), (0, 0), (2, S)] A (abP A (htc (A (A g 2)) (A o) (A S) (bgW A g) (A g 0))) := by
  have p6_z := fX_1_0 hH.1 hH.2.1.1 hH.2.1.2
  have h6 := fX_1_1 hH.1 hH.2.1.1 hH.2.1.2
  refine Cl.of (Nat.le_of_ble_eq_true rfl) ?_
  refine wq_ok (full := o_X7_hasTable) srt_hasTable (fr := []) (cuts := [3]) (J := fun pc st_z => pc = 3 ∧ ∃ v5 v6, st_z = ([(2, g), (2, o), (0, 0), (2, S), (0, 0), v5, v6], [], A)) ?_ 20 0 _ ?_
  · rintro pc st_z ⟨rfl, v5, v6, rfl⟩
    exact htx_3 hH _ 0 v5 v6 (Nat.lt_succ_self _) (by omega) (by unfold bgW; omega) (fun a_z j_z a0_z a1_z => by omega)
  · exact ⟨rfl, _, _, rfl⟩
end

section
/-! isSameAs exactly; sameness of seeds as mathematics says it -/
theorem lk_sme {A B : pm_A} {s o : Int} (h1 : sme A B s) (h2 : sme A B o) : lk B s o ↔ lk A s o := by
  unfold lk
  rw [h1.1 1, h1.1 0, h1.1 2, h1.1 3, h2.1 1, h2.1 0, h2.1 2, h2.1 3]
  constructor
  · rintro ⟨a_z, b_z, c_z⟩
    refine ⟨a_z, fun t_z t0_z t1_z => ?_, fun d_z d0_z d1_z => ?_⟩
    · have := b_z t_z t0_z t1_z
      rw [h1.2.1 t_z, h2.2.1 t_z] at this
      exact this
    · have := c_z d_z d0_z d1_z
      rw [h1.2.2 d_z, h2.2.2 d_z] at this
      exact this
  · rintro ⟨a_z, b_z, c_z⟩
    refine ⟨a_z, fun t_z t0_z t1_z => ?_, fun d_z d0_z d1_z => ?_⟩
    · rw [h1.2.1 t_z, h2.2.1 t_z]; exact b_z t_z t0_z t1_z
    · rw [h1.2.2 d_z, h2.2.2 d_z]; exact c_z d_z d0_z d1_z
def fsl (A : pm_A) (g h i z : Int) : Prop := (0 ≤ z ∧ z < A h 0) ∧ lk A (A (A h 4) z) (A (A g 4) i) ∧ ∀ d_z : Int, 0 ≤ d_z → d_z < z → ¬ lk A (A (A h 4) d_z) (A (A g 4) i)
theorem fsl_u {A : pm_A} {g h i y z : Int} (h1 : fsl A g h i y) (h2 : fsl A g h i z) : y = z := by
  rcases Int.lt_trichotomy y z with e_z | e_z | e_z
  · exact absurd h1.2.1 (h2.2.2 y h1.1.1 e_z)
  · exact e_z
  · exact absurd h2.2.1 (h1.2.2 z h2.1.1 e_z)
theorem htc_cong {T U S S' : Int → Int} {W P : Int} (e : ∀ i_z : Int, 0 ≤ i_z → i_z < P → S i_z = S' i_z) (h : htc T U S W P) : htc T U S' W P := by
  intro i_z j_z i0_z i1_z j0 j1
  have h1 := h i_z j_z i0_z i1_z j0 j1
  rw [e j_z j0 j1] at h1
  have e2 : rwS P S i_z = rwS P S' i_z := by
    unfold rwS
    by_cases q_z : i_z < P
    · rw [if_pos q_z, if_pos q_z, e i_z i0_z q_z]
    · rw [if_neg q_z, if_neg q_z]
  rw [e2] at h1
  exact h1
def saX (A : pm_A) (g h : Int) : Prop := (A g 0 = A h 0 ∧ A g 1 = A h 1) ∧ ∃ S_z : Int → Int, (∀ i_z : Int, 0 ≤ i_z → i_z < A g 0 → fsl A g h i_z (S_z i_z)) ∧ htc (A (A g 2)) (A (A h 2)) S_z (bgW A g) (A g 0)
def tzF (A B : pm_A) (g : Int) : Prop := gH wX B ∧ ∀ r_z j_z : Int, ¬ r_z = A g 5 → B r_z j_z = A r_z j_z
def isP (A : pm_A) (g h : Int) (r : pm_R) : Prop := tzF A r.2 g ∧ ((r.1 = some (0, 1) ∧ saX A g h) ∨ (r.1 = some (0, 0) ∧ ¬ saX A g h))
theorem tzF.ce {A B : pm_A} {g r : Int} {l : Nat} (h : tzF A B g) (t5 : wX.2 (A g 5) = 13) (hr : wX.2 r = l) (n : ¬ l = 13) (j : Int) : B r j = A r j := h.2 r j (knd hr t5 n)
theorem tzF.sm {A B : pm_A} {g a : Int} (h : tzF A B g) (hA : gH wX A) (t5 : wX.2 (A g 5) = 13) (ha : 0 ≤ a ∧ wX.2 a = 2) : sme A B a := by
  have a2 := fX_2_2 hA ha.1 ha.2
  have a3 := fX_2_3 hA ha.1 ha.2
  exact ⟨h.ce t5 ha.2 (by decide), h.ce t5 a2.2 (by decide), h.ce t5 a3.2 (by decide)⟩
theorem is_26 {A : pm_A} {g h : Int} (hA : gH wX A) (hg : 0 ≤ g ∧ wX.2 g = 1) (hh : 0 ≤ h ∧ wX.2 h = 1) (e0 : A g 0 = A h 0) (e1 : A g 1 = A h 1) : ∀ (m_z : Nat) (i_z : Int) (B_z : pm_A), (6 - i_z).toNat < m_z → 0 ≤ i_z → i_z ≤ A g 0 → tzF A B_z g → (∀ d_z : Int, 0 ≤ d_z → d_z < i_z → fsl A g h d_z (B_z (A g 5) d_z)) → Tm pmt (an_sh wX) o_X7_isSameAs 26 ([(2, g), (2, h), (0, i_z)], [], B_z) (isP A g h) := by
  have t5_z := fX_1_5 hA hg.1 hg.2
  have p6_z := fX_1_0 hA hg.1 hg.2
  have l4g := fX_1_4 hA hg.1 hg.2
  have l4h := fX_1_4 hA hh.1 hh.2
  have t2g := fX_1_2 hA hg.1 hg.2
  have t2h := fX_1_2 hA hh.1 hh.2
  intro m_z
  induction m_z with
  | zero => intro i_z B_z hm_z; omega
  | succ m_z ih_z =>
    intro i_z B_z hm_z i0_z i1_z hF hd_z
    have bg : ∀ j_z : Int, B_z g j_z = A g j_z := hF.ce t5_z.2 hg.2 (by decide)
    have bh : ∀ j_z : Int, B_z h j_z = A h j_z := hF.ce t5_z.2 hh.2 (by decide)
    have blg : ∀ j_z : Int, B_z (A g 4) j_z = A (A g 4) j_z := hF.ce t5_z.2 l4g.2 (by decide)
    have blh : ∀ j_z : Int, B_z (A h 4) j_z = A (A h 4) j_z := hF.ce t5_z.2 l4h.2 (by decide)
    refine wq_ok srt_isSameAs (fr := []) (cuts := [50]) (J := fun pc st_z => pc = 50 ∧ i_z < A g 0 ∧ ∃ z_z : Int, poP B_z h (A (A g 4) i_z) (some (0, z_z), B_z) ∧ st_z = ([(2, g), (2, h), (0, i_z)], [], pm_upd B_z (A g 5) i_z z_z)) ?_ 60 26 _ ?_
    · rintro pc st_z ⟨rfl, hi_z, z_z, hz, rfl⟩
      have eg := eX_12 hA l4g.1 l4g.2 i0_z (show i_z < 6 by omega)
      have hlk : ∀ d_z : Int, 0 ≤ d_z → d_z < A h 0 → (lk B_z (B_z (B_z h 4) d_z) (A (A g 4) i_z) ↔ lk A (A (A h 4) d_z) (A (A g 4) i_z)) := fun d_z d0_z d1_z => by
        have eh := eX_12 hA l4h.1 l4h.2 d0_z (show d_z < 6 by omega)
        rw [bh 4, blh d_z]
        exact lk_sme (hF.sm hA t5_z.2 eh) (hF.sm hA t5_z.2 eg)
      have hz2 : (z_z = -1 ∧ ∀ d_z : Int, 0 ≤ d_z → d_z < A h 0 → ¬ lk A (A (A h 4) d_z) (A (A g 4) i_z)) ∨ fsl A g h i_z z_z := by
        obtain ⟨_, y_z, hy, hz⟩ := hz
        have hy2 : z_z = y_z := by injection hy with q_z; injection q_z
        rw [← hy2] at hz
        rcases hz with ⟨q1_z, q2_z⟩ | ⟨q1_z, q2_z, q3_z⟩
        · refine Or.inl ⟨q1_z, fun d_z d0_z d1_z q_z => q2_z d_z d0_z (by rw [bh 0]; exact d1_z) ((hlk d_z d0_z d1_z).2 q_z)⟩
        · rw [bh 0] at q1_z
          exact Or.inr ⟨q1_z, (hlk z_z q1_z.1 q1_z.2).1 q2_z, fun d_z d0_z d1_z q_z => q3_z d_z d0_z d1_z ((hlk d_z d0_z (by omega)).2 q_z)⟩
      have zb : -1 ≤ z_z ∧ z_z ≤ 5 := by
        rcases hz2 with q_z | q_z
        · omega
        · have := q_z.1; omega
      have hC : gH wX (pm_upd B_z (A g 5) i_z z_z) := uX_13 hF.1 t5_z.2 zb.1 zb.2
      have hFC : tzF A (pm_upd B_z (A g 5) i_z z_z) g := ⟨hC, fun r_z j_z hr => by rw [upd_ne hr]; exact hF.2 r_z j_z hr⟩
      have cx : pm_upd B_z (A g 5) i_z z_z (A g 5) i_z = z_z := upd_at
      have cd : ∀ d_z : Int, ¬ d_z = i_z → pm_upd B_z (A g 5) i_z z_z (A g 5) d_z = B_z (A g 5) d_z := fun d_z hd_z => upd_n2 hd_z
      have cg := hFC.ce t5_z.2 hg.2 (by decide) 5
      generalize pm_upd B_z (A g 5) i_z z_z = C_z at hC hFC cx cd cg
      refine wq_ok srt_isSameAs (fr := []) (cuts := [26]) (J := fun pc st_z => pc = 26 ∧ ¬ z_z = -1 ∧ st_z = ([(2, g), (2, h), (0, i_z + 1)], [], C_z)) ?_ 20 50 _ ?_
      · rintro pc st_z ⟨rfl, hne, rfl⟩
        refine ih_z (i_z + 1) C_z (by omega) (by omega) (by omega) hFC (fun d_z d0_z d1_z => ?_)
        rcases hz2 with q_z | q_z
        · exact absurd q_z.1 hne
        · by_cases e_z : d_z = i_z
          · rw [e_z, cx]; exact q_z
          · rw [cd d_z e_z]; exact hd_z d_z d0_z (by omega)
      · refine ⟨oX_1 hg.1 hg.2 5 rfl, ?_⟩
        refine ⟨aX_13 (by rw [cg]; exact t5_z.1) (by rw [cg]; exact t5_z.2) i0_z (by omega), ?_⟩
        refine ⟨fun h1 => ?_, fun h1 => ?_⟩
        · rw [cg, cx] at h1
          refine ⟨⟨by omega, by omega⟩, ?_⟩
          exact ⟨rfl, h1, rfl⟩
        · rw [cg, cx] at h1
          refine ⟨rfl, hFC, Or.inr ⟨rfl, ?_⟩⟩
          rintro ⟨_, S_z, hS_z, _⟩
          rcases hz2 with q_z | q_z
          · have h2 := hS_z i_z i0_z hi_z
            exact q_z.2 _ h2.1.1 h2.1.2 h2.2.1
          · have := q_z.1; omega
    · refine ⟨oX_1 hg.1 hg.2 0 rfl, ?_⟩
      refine ⟨fun h1 => ?_, fun h1 => ?_⟩
      · rw [bg 0] at h1
        have hi_z : i_z = A g 0 := by omega
        refine ⟨oX_1 hh.1 hh.2 2 rfl, ?_⟩
        refine ⟨oX_1 hg.1 hg.2 5 rfl, ?_⟩
        refine ⟨rX_1 hg.1 hg.2, ?_⟩
        refine (hasTable_ex (A := B_z) (g := g) (o := B_z h 2) (S := B_z g 5) ⟨hF.1, hg, by rw [bh 2]; exact t2h, by rw [bg 5]; exact t5_z, fun d_z d0_z d1_z => ?_⟩).imp ?_
        · rw [bg 0] at d1_z
          rw [bg 5]
          have h2 := (hd_z d_z d0_z (by omega)).1
          omega
        · have eW : bgW B_z g = bgW A g := by unfold bgW; rw [bg 0, bg 1]
          have eT : B_z (B_z g 2) = A (A g 2) := by rw [bg 2]; exact funext (hF.ce t5_z.2 t2g.2 (by decide))
          have eU : B_z (B_z h 2) = A (A h 2) := by rw [bh 2]; exact funext (hF.ce t5_z.2 t2h.2 (by decide))
          rw [eW, eT, eU, bg 0, bg 5]
          rintro ⟨r1_z, C_z⟩ ⟨hC, hr⟩
          simp only at hC hr
          subst hC
          rcases hr with ⟨rfl, hP⟩ | ⟨rfl, hP⟩
          · exact ⟨rfl, hF, Or.inl ⟨rfl, ⟨e0, e1⟩, _, fun d_z d0_z d1_z => hd_z d_z d0_z (by omega), hP⟩⟩
          · refine ⟨rfl, hF, Or.inr ⟨rfl, ?_⟩⟩
            rintro ⟨_, S_z, hS_z, hT_z⟩
            exact hP (htc_cong (fun d_z d0_z d1_z => fsl_u (hS_z d_z d0_z d1_z) (hd_z d_z d0_z (by omega))) hT_z)
      · rw [bg 0] at h1
        have eg := eX_12 hA l4g.1 l4g.2 i0_z (show i_z < 6 by omega)
        have el : B_z (B_z g 4) i_z = A (A g 4) i_z := by rw [bg 4]; exact blg i_z
        refine ⟨oX_1 hg.1 hg.2 5 rfl, ?_⟩
        refine ⟨oX_1 hg.1 hg.2 4 rfl, ?_⟩
        refine ⟨aX_12 (by rw [bg 4]; exact l4g.1) (by rw [bg 4]; exact l4g.2) i0_z (by omega), ?_⟩
        refine ⟨rX_1 hh.1 hh.2, ?_⟩
        show Cl pmt (an_sh wX) 71 [(2, h), (2, B_z (B_z g 4) i_z)] B_z _
        rw [el]
        refine (XplaceOf_ex (A := B_z) (g := h) (o := A (A g 4) i_z) hF.1 hh eg).imp ?_
        rintro ⟨r1_z, C_z⟩ hP
        have hP0 := hP
        obtain ⟨hC, z_z, hr, _⟩ := hP
        simp only at hC hr
        subst hC
        subst hr
        refine ⟨tX_13 (by rw [bg 5]; exact t5_z.1) (by rw [bg 5]; exact t5_z.2) i0_z (by omega) rfl, ?_⟩
        refine ⟨rfl, h1, z_z, hP0, ?_⟩
        rw [bg 5]
theorem isSameAs_ex {A : pm_A} {g h : Int} (hA : gH wX A) (hg : 0 ≤ g ∧ wX.2 g = 1) (hh : 0 ≤ h ∧ wX.2 h = 1) : Cl pmt (an_sh wX) 70 [(2, g), (2, h)] A (isP A g h) := by
  have p6_z := fX_1_0 hA hg.1 hg.2
  refine Cl.of (Nat.le_of_ble_eq_true rfl) ?_
  refine wq_ok (full := o_X7_isSameAs) srt_isSameAs (fr := []) (cuts := [26]) (J := fun pc st_z => pc = 26 ∧ (A g 0 = A h 0 ∧ A g 1 = A h 1) ∧ st_z = ([(2, g), (2, h), (0, 0)], [], A)) ?_ 40 0 _ ?_
  · rintro pc st_z ⟨rfl, e_z, rfl⟩
    exact is_26 hA hg hh e_z.1 e_z.2 _ 0 A (Nat.lt_succ_self _) (by omega) (by omega) ⟨hA, fun _ _ _ => rfl⟩ (fun d_z d0_z d1_z => by omega)
  · refine ⟨oX_1 hg.1 hg.2 0 rfl, ?_⟩
    refine ⟨oX_1 hh.1 hh.2 0 rfl, ?_⟩
    refine ⟨fun h1 => ?_, fun h1 => ?_⟩
    · exact ⟨rfl, ⟨hA, fun _ _ _ => rfl⟩, Or.inr ⟨rfl, fun q_z => h1 q_z.1.1⟩⟩
    · refine ⟨oX_1 hg.1 hg.2 1 rfl, ?_⟩
      refine ⟨oX_1 hh.1 hh.2 1 rfl, ?_⟩
      refine ⟨fun h2 => ?_, fun h2 => ?_⟩
      · exact ⟨rfl, ⟨h1, h2⟩, rfl⟩
      · exact ⟨rfl, ⟨hA, fun _ _ _ => rfl⟩, Or.inr ⟨rfl, fun q_z => h2 q_z.1.2⟩⟩
/-- letters of a seed are different -/
theorem gp_ne (s : cx_Sd 12) (ks : List (Fin 12)) {i j : Fin 12} (hij : ¬ i = j) : ¬ ∀ x_z : cr_Pv 12, (cr_gp s.b ks x_z).1 i = (cr_gp s.b ks x_z).1 j := fun h_z => by
  obtain ⟨x_z, hx⟩ := cr_surj ks s ⟨fun q_z => if q_z = i then 1 else 2, fun q_z => by
    show (0 : Rat) < if q_z = i then 1 else 2
    by_cases e_z : q_z = i
    · rw [if_pos e_z]; grind
    · rw [if_neg e_z]; grind⟩
  have h1 := h_z x_z
  rw [hx] at h1
  have h2 : (if i = i then (1 : Rat) else 2) = (if j = i then 1 else 2) := h1
  rw [if_pos rfl, if_neg (fun e_z => hij e_z.symm)] at h2
  grind
def smS (s : cx_Sd 12) (ls : List (Fin 12)) (s' : cx_Sd 12) (ks : List (Fin 12)) (W P : Int) : Prop := ∃ S_z : Int → Int, (∀ i_z : Fin 12, (i_z.1 : Int) < P → ∃ f_z : Fin 12, ((f_z.1 : Int) = S_z i_z.1 ∧ (f_z.1 : Int) < P) ∧ ∀ x_z, (cr_gp s'.b ks x_z).1 f_z = (cr_gp s.b ls x_z).1 i_z) ∧ ∀ i_z j_z f_z g_z : Fin 12, (i_z.1 : Int) < W → (j_z.1 : Int) < P → (f_z.1 : Int) = rwS P S_z i_z.1 → (g_z.1 : Int) = S_z j_z.1 → cr_bs s.b ls i_z j_z = cr_bs s'.b ks f_z g_z
theorem ls_lk {A : pm_A} {s o : Int} (s1 : 0 ≤ A s 1) (o1 : 0 ≤ A o 1) (s0 : 1 ≤ A s 0 ∧ A s 0 ≤ 12) (e0 : A s 0 = A o 0) (h : LSx A s = LSx A o) : lk A s o := by
  have hlen : A s 1 = A o 1 := by
    have h1 := congrArg List.length h
    rw [LSx_len, LSx_len] at h1
    omega
  have hat : ∀ t_z : Int, 0 ≤ t_z → t_z < A s 1 → A (A s 2) t_z = A (A o 2) t_z ∧ xeX A s t_z = xeX A o t_z := fun t_z t0_z t1_z => by
    have h2 : (LSx A s)[t_z.toNat]? = (LSx A o)[t_z.toNat]? := by rw [h]
    unfold LSx lsf at h2
    rw [List.getElem?_map, List.getElem?_map, List.getElem?_range (by omega), List.getElem?_range (by omega)] at h2
    have h3 : (A (A s 2) ((t_z.toNat : Nat) : Int), xeX A s ((t_z.toNat : Nat) : Int)) = (A (A o 2) ((t_z.toNat : Nat) : Int), xeX A o ((t_z.toNat : Nat) : Int)) := Option.some.inj h2
    rw [Int.toNat_of_nonneg t0_z] at h3
    exact ⟨congrArg Prod.fst h3, congrArg Prod.snd h3⟩
  refine ⟨⟨hlen, e0⟩, fun t_z t0_z t1_z => (hat t_z t0_z t1_z).1, fun c_z c0_z c1_z => ?_⟩
  have d1_z := Int.emod_nonneg c_z (show A s 0 ≠ 0 by omega)
  have d2_z := Int.emod_lt_of_pos c_z (show 0 < A s 0 by omega)
  have d3_z := Int.mul_ediv_add_emod c_z (A s 0)
  have d4_z : 0 ≤ c_z / A s 0 := Int.ediv_nonneg c0_z (by omega)
  have d5_z : c_z / A s 0 < A s 1 := Int.ediv_lt_of_lt_mul (by omega) c1_z
  have h5 := congrFun (hat (c_z / A s 0) d4_z d5_z).2 ⟨(c_z % A s 0).toNat, by omega⟩
  have h6 : (if (((c_z % A s 0).toNat : Nat) : Int) < A s 0 then A (A s 3) (c_z / A s 0 * A s 0 + (((c_z % A s 0).toNat : Nat) : Int)) else 0) = (if (((c_z % A s 0).toNat : Nat) : Int) < A o 0 then A (A o 3) (c_z / A s 0 * A o 0 + (((c_z % A s 0).toNat : Nat) : Int)) else 0) := h5
  rw [Int.toNat_of_nonneg d1_z, ← e0, if_pos d2_z, if_pos d2_z] at h6
  have d6_z : c_z / A s 0 * A s 0 + c_z % A s 0 = c_z := by rw [Int.mul_comm]; exact d3_z
  rw [d6_z] at h6
  exact h6
theorem TrX.like {s s' : cx_Sd 12} {ks ls : List (Fin 12)} {A : pm_A} {g h : Int} (hg : TrX s ls A g) (hh : TrX s' ks A h) (eW : bgW A g = bgW A h) {i f : Fin 12} (hi : (i.1 : Int) < A g 0) (hf : (f.1 : Int) < A h 0) : lk A (A (A h 4) f.1) (A (A g 4) i.1) ↔ ∀ x_z, (cr_gp s'.b ks x_z).1 f = (cr_gp s.b ls x_z).1 i := by
  obtain ⟨a1_z, a2, a3, a4⟩ := hg.2.2.2.2.2.2.2 i hi
  obtain ⟨b1, b2, b3, b4⟩ := hh.2.2.2.2.2.2.2 f hf
  have pg := fX_1_0 hg.1 hg.2.1.1 hg.2.1.2
  have qg := fX_1_1 hg.1 hg.2.1.1 hg.2.1.2
  have ph_z := fX_1_0 hh.1 hh.2.1.1 hh.2.1.2
  have lg := fX_1_4 hg.1 hg.2.1.1 hg.2.1.2
  have lh := fX_1_4 hh.1 hh.2.1.1 hh.2.1.2
  have eg := eX_12 hg.1 lg.1 lg.2 (j := (i.1 : Int)) (by omega) (by omega)
  have eh := eX_12 hg.1 lh.1 lh.2 (j := (f.1 : Int)) (by omega) (by omega)
  have mg := fX_2_1 hg.1 eg.1 eg.2
  have mh := fX_2_1 hg.1 eh.1 eh.2
  constructor
  · intro hl x_z
    rw [b4 x_z, a4 x_z]
    unfold VX
    rw [lk_ls hl]
  · intro hx
    refine ls_lk mh.1 mg.1 ?_ (by rw [b3, a3, eW]) ?_
    · rw [b3, ← eW]; unfold bgW; have := hg.2.2.1; omega
    · refine cr_Shr.eq (shrX b1 (fun q_z q0 q1_z => (b2 q_z q0 q1_z).1)) (shrX a1_z (fun q_z q0 q1_z => (a2 q_z q0 q1_z).1)) (cr_vl_unique (fun x_z => ?_))
      have h1 := b4 x_z
      have h2 := a4 x_z
      unfold VX at h1 h2
      rw [← h1, ← h2]
      exact hx x_z
theorem sm_iff {s s' : cx_Sd 12} {ks ls : List (Fin 12)} {A : pm_A} {g h : Int} (hg : TrX s ls A g) (hh : TrX s' ks A h) : saX A g h ↔ ((A g 0 = A h 0 ∧ A g 1 = A h 1) ∧ smS s ls s' ks (bgW A g) (A g 0)) := by
  have pg := fX_1_0 hg.1 hg.2.1.1 hg.2.1.2
  have qg := fX_1_1 hg.1 hg.2.1.1 hg.2.1.2
  constructor
  · rintro ⟨e_z, S_z, hS_z, hT_z⟩
    have eW : bgW A g = bgW A h := by unfold bgW; rw [e_z.1, e_z.2]
    refine ⟨e_z, S_z, fun i_z hi_z => ?_, fun i_z j_z f_z q_z hi_z hj hf hq => ?_⟩
    · obtain ⟨h1, h2, _⟩ := hS_z i_z.1 (by omega) hi_z
      have hf : ((⟨(S_z i_z.1).toNat, by omega⟩ : Fin 12).1 : Int) = S_z i_z.1 := by show (((S_z i_z.1).toNat : Nat) : Int) = S_z i_z.1; omega
      refine ⟨⟨(S_z i_z.1).toNat, by omega⟩, ⟨hf, by rw [hf]; omega⟩, ?_⟩
      exact (hg.like hh eW hi_z (by rw [hf]; omega)).1 (by rw [hf]; exact h2)
    · have h1 := hT_z i_z.1 j_z.1 (by omega) hi_z (by omega) hj
      rw [(hg.2.2.2.1 i_z j_z hj).1 hi_z, (hh.2.2.2.1 f_z q_z ?_).1 ?_, h1, hf, hq, Int.zero_add]
      · rw [hq]
        have := (hS_z j_z.1 (by omega) hj).1
        omega
      · rw [hf, ← eW]
        unfold rwS
        by_cases q2_z : (i_z.1 : Int) < A g 0
        · rw [if_pos q2_z]
          have := (hS_z i_z.1 (by omega) q2_z).1
          unfold bgW
          omega
        · rw [if_neg q2_z]; exact hi_z
  · rintro ⟨e_z, S_z, hS_z, hT_z⟩
    have eW : bgW A g = bgW A h := by unfold bgW; rw [e_z.1, e_z.2]
    have hS2 : ∀ i_z : Int, 0 ≤ i_z → i_z < A g 0 → fsl A g h i_z (S_z i_z) := fun i_z i0_z i1_z => by
      obtain ⟨w_z, hw⟩ : ∃ w_z : Fin 12, i_z = (w_z.1 : Int) := ⟨⟨i_z.toNat, by omega⟩, by show i_z = ((i_z.toNat : Nat) : Int); omega⟩
      rw [hw] at i1_z ⊢
      obtain ⟨f_z, ⟨hf, hfP⟩, hx⟩ := hS_z w_z i1_z
      rw [← hf]
      refine ⟨⟨by omega, by omega⟩, (hg.like hh eW i1_z (by omega)).2 hx, fun d_z d0_z d1_z hl => ?_⟩
      obtain ⟨u_z, hu⟩ : ∃ u_z : Fin 12, d_z = (u_z.1 : Int) := ⟨⟨d_z.toNat, by omega⟩, by show d_z = ((d_z.toNat : Nat) : Int); omega⟩
      rw [hu] at hl d1_z
      have hx2 := (hg.like hh eW i1_z (show (u_z.1 : Int) < A h 0 by omega)).1 hl
      exact gp_ne s' ks (i := u_z) (j := f_z) (fun q_z => by rw [q_z] at d1_z; omega) (fun x_z => (hx2 x_z).trans (hx x_z).symm)
    refine ⟨e_z, S_z, hS2, fun i_z j_z i0_z i1_z j0 j1 => ?_⟩
    have hW : bgW A g ≤ 12 := by unfold bgW; omega
    obtain ⟨w_z, hw⟩ : ∃ w_z : Fin 12, i_z = (w_z.1 : Int) := ⟨⟨i_z.toNat, by omega⟩, by show i_z = ((i_z.toNat : Nat) : Int); omega⟩
    obtain ⟨u_z, hu⟩ : ∃ u_z : Fin 12, j_z = (u_z.1 : Int) := ⟨⟨j_z.toNat, by omega⟩, by show j_z = ((j_z.toNat : Nat) : Int); omega⟩
    have hr : 0 ≤ rwS (A g 0) S_z i_z ∧ rwS (A g 0) S_z i_z < bgW A g := by
      unfold rwS
      by_cases q2_z : i_z < A g 0
      · rw [if_pos q2_z]
        have := (hS2 i_z i0_z q2_z).1
        unfold bgW
        omega
      · rw [if_neg q2_z]; exact ⟨i0_z, i1_z⟩
    have hs := (hS2 j_z j0 j1).1
    obtain ⟨f_z, hf⟩ : ∃ f_z : Fin 12, rwS (A g 0) S_z i_z = (f_z.1 : Int) := ⟨⟨(rwS (A g 0) S_z i_z).toNat, by omega⟩, by show rwS (A g 0) S_z i_z = (((rwS (A g 0) S_z i_z).toNat : Nat) : Int); omega⟩
    obtain ⟨q_z, hq⟩ : ∃ q_z : Fin 12, S_z j_z = (q_z.1 : Int) := ⟨⟨(S_z j_z).toNat, by omega⟩, by show S_z j_z = (((S_z j_z).toNat : Nat) : Int); omega⟩
    have h1 := hT_z w_z u_z f_z q_z (by rw [← hw]; exact i1_z) (by rw [← hu]; exact j1) (by rw [← hw, hf]) (by rw [← hu, hq])
    rw [(hg.2.2.2.1 w_z u_z (by rw [← hu]; exact j1)).1 (by rw [← hw]; exact i1_z), (hh.2.2.2.1 f_z q_z (by rw [← hq]; omega)).1 (by rw [← hf, ← eW]; exact hr.2)] at h1
    rw [hf, hq, hw, hu, Int.zero_add]
    exact h1
end

section
/-! rows of turns, as mathematics says them, and the class's walkRow and order exactly -/
def itS (s : cx_Sd 12) (ks : List (Fin 12)) (W P : Int) (k : Fin 12) : Prop := ∀ i_z j_z : Fin 12, (i_z.1 : Int) < W → (j_z.1 : Int) < P → -9999 ≤ cr_turnB (cr_bs s.b ks) k i_z j_z ∧ cr_turnB (cr_bs s.b ks) k i_z j_z ≤ 9999
theorem TrX.its {s : cx_Sd 12} {ks : List (Fin 12)} {A : pm_A} {g : Int} (h : TrX s ks A g) {k : Fin 12} (hk : (k.1 : Int) < A g 0) : itB (A (A g 2)) (bgW A g) (A g 0) k.1 ↔ itS s ks (bgW A g) (A g 0) k := by
  have pg := fX_1_0 h.1 h.2.1.1 h.2.1.2
  have qg := fX_1_1 h.1 h.2.1.1 h.2.1.2
  constructor
  · intro hi_z i_z j_z hi1 hj1
    rw [tv_trX h hk hj1 hi1]
    unfold tvT
    by_cases e_z : (i_z.1 : Int) = (k.1 : Int) ∨ (j_z.1 : Int) = (k.1 : Int)
    · rw [if_pos e_z]
      have := h.2.2.2.2.2.2.1 i_z.1 j_z.1 (by omega) hi1 (by omega) hj1
      omega
    · rw [if_neg e_z]
      exact hi_z i_z.1 j_z.1 (by omega) hi1 (by omega) hj1 (fun q_z => e_z (Or.inl q_z)) (fun q_z => e_z (Or.inr q_z))
  · intro hi_z i_z j_z i0_z i1_z j0 j1 n1_z n2_z
    have hW : bgW A g ≤ 12 := by unfold bgW; omega
    obtain ⟨w_z, hw⟩ : ∃ w_z : Fin 12, i_z = (w_z.1 : Int) := ⟨⟨i_z.toNat, by omega⟩, by show i_z = ((i_z.toNat : Nat) : Int); omega⟩
    obtain ⟨u_z, hu⟩ : ∃ u_z : Fin 12, j_z = (u_z.1 : Int) := ⟨⟨j_z.toNat, by omega⟩, by show j_z = ((j_z.toNat : Nat) : Int); omega⟩
    rw [hw] at i1_z n1_z
    rw [hu] at j1 n2_z
    have h1 := hi_z w_z u_z i1_z j1
    rw [tv_trX h hk j1 i1_z] at h1
    unfold tvT at h1
    rw [if_neg (fun q_z => q_z.elim n1_z n2_z)] at h1
    rw [hw, hu]
    exact h1
theorem Tru.its {s : cx_Sd 12} {ks : List (Fin 12)} {A : pm_A} (h : Tru s ks A) {k : Fin 12} (hk : (k.1 : Int) < A 0 7) : arO A k.1 ↔ itS s ks (A 0 7 + A 0 8) (A 0 7) k := by
  have p7_z := fM_0_7 h.1 (r := 0) (by omega) km0
  have p8 := fM_0_8 h.1 (r := 0) (by omega) km0
  constructor
  · intro hi_z i_z j_z hi1 hj1
    rw [tv_turn h hk hj1 hi1]
    exact hi_z i_z.1 j_z.1 (by omega) hi1 (by omega) hj1
  · intro hi_z i_z j_z i0_z i1_z j0 j1
    obtain ⟨w_z, hw⟩ : ∃ w_z : Fin 12, i_z = (w_z.1 : Int) := ⟨⟨i_z.toNat, by omega⟩, by show i_z = ((i_z.toNat : Nat) : Int); omega⟩
    obtain ⟨u_z, hu⟩ : ∃ u_z : Fin 12, j_z = (u_z.1 : Int) := ⟨⟨j_z.toNat, by omega⟩, by show j_z = ((j_z.toNat : Nat) : Int); omega⟩
    rw [hw] at i1_z
    rw [hu] at j1
    have h1 := hi_z w_z u_z i1_z j1
    rw [tv_turn h hk j1 i1_z] at h1
    rw [hw, hu]
    exact h1
def okS (s : cx_Sd 12) (ks : List (Fin 12)) (W P : Int) (k : Fin 12) : Prop := ¬ spB s ks k ∧ itS s ks W P k
theorem nok {s : cx_Sd 12} {ks : List (Fin 12)} {W P : Int} {k : Fin 12} {I : Prop} (e : I ↔ itS s ks W P k) (h : spB s ks k ∨ ¬ I) : ¬ okS s ks W P k := fun q_z => h.elim q_z.1 (fun n_z => n_z (e.2 q_z.2))
def wkS (s : cx_Sd 12) (W P : Int) : List (Fin 12) → List (Fin 12) → Prop
  | _, [] => True
  | ks_z, k_z :: l => okS s ks_z W P k_z ∧ wkS s W P (ks_z ++ [k_z]) l
theorem wkS_app (s : cx_Sd 12) (W P : Int) (l' : List (Fin 12)) : ∀ (l ks_z : List (Fin 12)), wkS s W P ks_z (l ++ l') ↔ wkS s W P ks_z l ∧ wkS s W P (ks_z ++ l) l'
  | [], ks_z => by
    rw [List.nil_append, List.append_nil]
    exact ⟨fun h_z => ⟨trivial, h_z⟩, fun h_z => h_z.2⟩
  | k_z :: l, ks_z => by
    have e_z : ks_z ++ [k_z] ++ l = ks_z ++ k_z :: l := by rw [List.append_assoc]; rfl
    have h_z := wkS_app s W P l' l (ks_z ++ [k_z])
    rw [e_z] at h_z
    show (okS s ks_z W P k_z ∧ wkS s W P (ks_z ++ [k_z]) (l ++ l')) ↔ ((okS s ks_z W P k_z ∧ wkS s W P (ks_z ++ [k_z]) l) ∧ wkS s W P (ks_z ++ k_z :: l) l')
    exact ⟨fun q_z => ⟨⟨q_z.1, (h_z.1 q_z.2).1⟩, (h_z.1 q_z.2).2⟩, fun q_z => ⟨q_z.1.1, h_z.2 ⟨q_z.1.2, q_z.2⟩⟩⟩
def rwL (R : Int → Int) (n : Int) (L : List (Fin 12)) : Prop := (L.length : Int) = n ∧ ∀ (i_z : Nat) (f_z : Fin 12), L[i_z]? = some f_z → R (i_z : Int) = (f_z.1 : Int)
def rwF (R : Int → Int) (i : Nat) : Fin 12 := if h_z : 0 ≤ R (i : Int) ∧ R (i : Int) < 12 then ⟨(R (i : Int)).toNat, by omega⟩ else 0
theorem rwL_ex {R : Int → Int} {n : Int} (n0 : 0 ≤ n) (h : ∀ i_z : Int, 0 ≤ i_z → i_z < n → 0 ≤ R i_z ∧ R i_z < 12) : ∃ L_z, rwL R n L_z := by
  refine ⟨(List.range n.toNat).map (rwF R), ?_, ?_⟩
  · rw [List.length_map, List.length_range]; omega
  · intro i_z f_z hf
    rw [List.getElem?_map] at hf
    have hi_z : i_z < n.toNat := by
      refine Classical.byContradiction (fun hn => ?_)
      rw [List.getElem?_eq_none (by rw [List.length_range]; omega)] at hf
      cases hf
    rw [List.getElem?_range hi_z] at hf
    have h2 : rwF R i_z = f_z := Option.some.inj hf
    have h3 := h i_z (by omega) (by omega)
    unfold rwF at h2
    rw [dif_pos h3] at h2
    rw [← h2]
    show R (i_z : Int) = (((R (i_z : Int)).toNat : Nat) : Int)
    omega
theorem rwL_c {R R' : Int → Int} {n : Int} {L : List (Fin 12)} (h : rwL R n L) (e : ∀ i_z : Int, 0 ≤ i_z → i_z < n → R' i_z = R i_z) : rwL R' n L := ⟨h.1, fun i_z f_z hf => by
  have hi_z := (List.getElem?_eq_some_iff.mp hf).1
  have h1 := h.1
  rw [e i_z (by omega) (by omega)]
  exact h.2 i_z f_z hf⟩
theorem rwL_m {R : Int → Int} {n P : Int} {L : List (Fin 12)} (h : rwL R n L) (hP : ∀ i_z : Int, 0 ≤ i_z → i_z < n → R i_z < P) : ∀ f_z ∈ L, (f_z.1 : Int) < P := fun f_z hf => by
  obtain ⟨i_z, hi_z⟩ := List.mem_iff_getElem?.mp hf
  have h1 := (List.getElem?_eq_some_iff.mp hi_z).1
  have h2 := h.1
  have h3 := hP i_z (by omega) (by omega)
  rw [h.2 i_z f_z hi_z] at h3
  exact h3
theorem exF.hi {A B : pm_A} (hS : StE A) (h : exF A B 28) {r : Int} (hr : 100 ≤ r) (j : Int) : B r j = A r j := by
  refine h.2.1 r j ?_
  have a10 := hS.2.1.1.2.2.2.2.2.2.2.2.2.1
  have a11 := hS.2.1.1.2.2.2.2.2.2.2.2.2.2
  have m1_z := hS.2.2.1
  have p_z := (hS.2.1.2.2.2.2.1 12 (by omega) (by omega)).1
  rw [pc_12] at p_z
  rintro (⟨n_z, hn, hq⟩ | hq | hq)
  · have hk := ml_k hS.1 (⟨by omega, kk28⟩ : (0 : Int) ≤ 28 ∧ wX.2 28 = 4) hn.1 hn.2
    have e2 := hS.2.1.2.1 _ hk.1 hk.2
    have e3 := hS.2.2.2.1 _ hk.1 hk.2
    have hn2 : n_z = 0 ∨ n_z = 1 ∨ n_z = 2 ∨ n_z = 3 ∨ n_z = 4 := by omega
    have hlt : A 28 n_z < 72 := by
      rcases hn2 with rfl | rfl | rfl | rfl | rfl <;> omega
    omega
  · omega
  · omega
theorem se_hi {A C : pm_A} {g L o k : Int} (h : StE A) (ho : own g L o) (hP : sePX A g L k (none, C)) {r : Int} (hr : 100 ≤ r) (j : Int) : C r j = A r j := by
  obtain ⟨_, _, c2_z, _⟩ := hP
  simp only at c2_z
  have e_z := h.2.2.2.2.2.1 g (own_k ho).1.1 (own_k ho).1.2
  rw [c2_z r j (by rcases ho with ⟨rfl, rfl, rfl⟩ | ⟨rfl, rfl, rfl⟩ <;> omega)]
  exact swp_ne (by rcases ho with ⟨rfl, rfl, rfl⟩ | ⟨rfl, rfl, rfl⟩ <;> omega) (by omega)
/-- what walkRow and order leave: A is the world behind the copy -/
def wvF (s : cx_Sd 12) (ks : List (Fin 12)) (A B : pm_A) : Prop := StE B ∧ TrX s ks B 1 ∧ (∀ j_z : Int, B 0 j_z = A 0 j_z) ∧ (∀ j_z : Int, B 46 j_z = A 46 j_z) ∧ (∀ j_z : Int, B 1 j_z = A 1 j_z) ∧ (∀ j_z : Int, B (A 0 6) j_z = A (A 0 6) j_z) ∧ (∀ j_z : Int, B 49 j_z = A 49 j_z) ∧ (∀ r_z j_z : Int, 100 ≤ r_z → B r_z j_z = A r_z j_z) ∧ ∀ j_z : Int, B 3 j_z = A 3 j_z
theorem kk3 : wX.2 3 = 11 := by decide
theorem wvF.ex {s : cx_Sd 12} {ks : List (Fin 12)} {A B C : pm_A} (h : wvF s ks A B) (hF : exF B C 28) (hk : wX.2 (A 0 6) = 21) : wvF s ks A C := by
  obtain ⟨h1, h2, h4, h5, h6, h7, h8, h9, h3⟩ := h
  refine ⟨h1.keep hF, h2.keep (h1.ex own1) hF, fun j_z => ?_, fun j_z => ?_, fun j_z => ?_, fun j_z => ?_, fun j_z => ?_, fun r_z j_z hr => ?_, fun j_z => ?_⟩
  · rw [hF.ce h1.1 kk0 (by decide) (by decide) (by decide) (by decide)]; exact h4 j_z
  · rw [hF.ce h1.1 kk46 (by decide) (by decide) (by decide) (by decide)]; exact h5 j_z
  · rw [hF.ce h1.1 kk1 (by decide) (by decide) (by decide) (by decide)]; exact h6 j_z
  · rw [hF.ce h1.1 hk (by decide) (by decide) (by decide) (by decide)]; exact h7 j_z
  · rw [hF.ce h1.1 kk49 (by decide) (by decide) (by decide) (by decide)]; exact h8 j_z
  · rw [hF.hi h1 hr j_z]; exact h9 r_z j_z hr
  · rw [hF.ce h1.1 kk3 (by decide) (by decide) (by decide) (by decide)]; exact h3 j_z
def wyP (s : cx_Sd 12) (ks ls L : List (Fin 12)) (A : pm_A) (W P : Int) (r : pm_R) : Prop := wvF s ks A r.2 ∧ ((r.1 = some (0, 0) ∧ ¬ wkS s W P ls L) ∨ (r.1 = some (0, 1) ∧ wkS s W P ls L ∧ TrX s (ls ++ L) r.2 49))
theorem take_s {L : List (Fin 12)} {n : Nat} {f : Fin 12} (h : L[n]? = some f) : L.take (n + 1) = L.take n ++ [f] := by
  rw [List.take_succ, h]; rfl
theorem wy_32 {s : cx_Sd 12} {ks ls : List (Fin 12)} {A B0 B : pm_A} {f : Fin 12} {i : Int} (i0 : 0 ≤ i) (i1 : i ≤ 11) (hI : wvF s ks A B0) (hr : 0 ≤ A 0 6 ∧ wX.2 (A 0 6) = 21) (hT : TrX s ls B0 49) (hf : A (A 0 6) i = (f.1 : Int)) (hk : (f.1 : Int) < B0 49 0) (hF : exF B0 B 28) (hit : itB (B0 (B0 49 2)) (bgW B0 49) (B0 49 0) f.1) (c0 : B (B0 28 0) 0 = bgW B0 49) (cs : srX B (B0 28 0)) (cc : cfX B (B0 28 0)) (cv : ∀ x_z, (cr_gp s.b (ls ++ [f]) x_z).1 f = VX B (B0 28 0) x_z) {z : pm_R → Prop} (H : ∀ C_z, wvF s ks A C_z → TrX s (ls ++ [f]) C_z 49 → Tm pmt (an_sh wX) o_X9_walkRow 2 ([(2, 0), (0, i + 1)], [], C_z) z) : Tm pmt (an_sh wX) o_X9_walkRow 32 ([(2, 0), (0, i)], [], B) z := by
  have hI2 := hI.ex hF hr.2
  obtain ⟨s1_z, s2_z, s4_z, s5, s6_z, s7, s8, s9, s3_z⟩ := hI2
  have hS0 := hI.1
  have a2 := s1_z.2.1.1.2.1
  have a8 := s1_z.2.1.1.2.2.1
  have hTB := hT.keep (hS0.ex own49) hF
  have eg := (hF.gs hS0.1 (hS0.ex own49)).2.1
  have e06 : B 0 6 = A 0 6 := s4_z 6
  have ef : B (B 0 6) i = (f.1 : Int) := by rw [e06, s7 i]; exact hf
  refine wq_ok srt_walkRow (fr := []) (cuts := [2]) (J := fun pc st_z => pc = 2 ∧ ∃ C_z, sePX B 49 52 f.1 (none, C_z) ∧ st_z = ([(2, 0), (0, i + 1)], [], C_z)) ?_ 20 32 _ ?_
  · rintro pc st_z ⟨rfl, C_z, hC, rfl⟩
    have hSC := s1_z.swap own49 (show (0 : Int) ≤ f.1 by omega) (by have p6_z := fX_1_0 hS0.1 (r := 49) (by omega) kk49; omega) hC.2.1 hC.2.2.1
    have hC0 := hC
    obtain ⟨_, c1_z, c2_z, c3_z⟩ := hC
    simp only at c1_z c2_z c3_z
    have e49 := s1_z.2.2.2.2.2.1 49 (by omega) kk49
    rw [e49.1] at c2_z
    have hh : ∀ r_z j_z : Int, ¬ r_z = 50 → ¬ r_z = 52 → ¬ r_z = 28 → C_z r_z j_z = B r_z j_z := fun r_z j_z h1 h2 h3 => by
      rw [c2_z r_z j_z (by omega)]; exact swp_ne h2 h3
    have t2_z := fX_1_2 s1_z.1 (r := 49) (by omega) kk49
    rw [e49.1] at t2_z
    refine H C_z ⟨hSC, se_far s1_z s2_z hC0, fun j_z => ?_, fun j_z => ?_, fun j_z => ?_, fun j_z => ?_, fun j_z => ?_, fun r_z j_z hr => ?_, fun j_z => ?_⟩ (hT.next hS0 own49 hk hF hit c0 cs cc cv hC0)
    · rw [hh 0 j_z (by omega) (by omega) (by omega)]; exact s4_z j_z
    · rw [hh 46 j_z (by omega) (by omega) (by omega)]; exact s5 j_z
    · rw [hh 1 j_z (by omega) (by omega) (by omega)]; exact s6_z j_z
    · rw [hh _ j_z (knd hr.2 t2_z.2 (by decide)) (knd hr.2 kk52 (by decide)) (knd hr.2 kk28 (by decide))]; exact s7 j_z
    · rw [hh 49 j_z (by omega) (by omega) (by omega)]; exact s8 j_z
    · rw [hh r_z j_z (by omega) (by omega) (by omega)]; exact s9 r_z j_z hr
    · rw [hh 3 j_z (by omega) (by omega) (by omega)]; exact s3_z j_z
  · refine ⟨oX_0 z0 kk0 2 rfl, ?_⟩
    refine ⟨oX_0 z0 kk0 8 rfl, ?_⟩
    refine ⟨oX_0 z0 kk0 6 rfl, ?_⟩
    refine ⟨aX_21 (by rw [e06]; exact hr.1) (by rw [e06]; exact hr.2) i0 (by omega), ?_⟩
    refine ⟨rX_4 (r := B 0 2) (by rw [a2]; omega) (by rw [a2]; exact kk28), ?_⟩
    show Cl pmt (an_sh wX) 47 [(2, B 0 2), (2, B 0 8), (0, B (B 0 6) i)] B _
    rw [a8, a2, ef]
    refine (settle_exX s1_z own49 (by omega) (by rw [eg 0]; exact hk) hTB.2.2.2.2.2.2.1).imp ?_
    rintro ⟨r1_z, C_z⟩ hC
    have hr1 : r1_z = none := hC.1
    subst hr1
    refine ⟨⟨by omega, by omega⟩, ?_⟩
    exact ⟨rfl, C_z, hC, rfl⟩
theorem wy_2 {s : cx_Sd 12} {ks ls L : List (Fin 12)} {A : pm_A} (hr : 0 ≤ A 0 6 ∧ wX.2 (A 0 6) = 21) (hL : rwL (A (A 0 6)) (A 0 7) L) (hP : ∀ f_z ∈ L, (f_z.1 : Int) < A 49 0) : ∀ (n_z i_z : Nat) (B_z : pm_A), 12 - i_z < n_z → i_z ≤ L.length → wvF s ks A B_z → wkS s (bgW A 49) (A 49 0) ls (L.take i_z) → TrX s (ls ++ L.take i_z) B_z 49 → Tm pmt (an_sh wX) o_X9_walkRow 2 ([(2, 0), (0, (i_z : Int))], [], B_z) (wyP s ks ls L A (bgW A 49) (A 49 0)) := by
  intro n_z
  induction n_z with
  | zero => intro i_z B_z h_z; omega
  | succ n_z ih_z =>
    intro i_z B_z hn i1_z hI hw hT_z
    have hI0 := hI
    obtain ⟨h1, h2, h4, h5, h6, h7, h8, h9, h3⟩ := hI
    have a2 := h1.2.1.1.2.1
    have a8 := h1.2.1.1.2.2.1
    have n0_z := fX_0_7 h1.1 z0 kk0
    have e06 : B_z 0 6 = A 0 6 := h4 6
    have e07 : B_z 0 7 = A 0 7 := h4 7
    have eP : B_z 49 0 = A 49 0 := h8 0
    have eW : bgW B_z 49 = bgW A 49 := by unfold bgW; rw [h8 0, h8 1]
    have hlen := hL.1
    have go_z : ∀ f_z : Fin 12, L[i_z]? = some f_z → L.take (i_z + 1) = L.take i_z ++ [f_z] := fun f_z hf => take_s hf
    refine wq_ok srt_walkRow (fr := []) (cuts := [32]) (J := fun pc st_z => pc = 32 ∧ ∃ (f_z : Fin 12) (C_z : pm_A), L[i_z]? = some f_z ∧ exPX s (ls ++ L.take i_z) f_z B_z 28 49 (some (0, 1), C_z) ∧ st_z = ([(2, 0), (0, (i_z : Int))], [], C_z)) ?_ 20 2 _ ?_
    · rintro pc st_z ⟨rfl, f_z, C_z, hf, hC, rfl⟩
      obtain ⟨hF, hC⟩ := hC
      simp only at hF hC
      rcases hC with ⟨q_z, _⟩ | ⟨_, hok, c0_z, cs, cc, cv⟩
      · cases q_z
      · have hi_z := (List.getElem?_eq_some_iff.mp hf).1
        have hm_z := hP f_z (List.mem_of_getElem? hf)
        refine wy_32 (by omega) (by omega) hI0 hr hT_z (hL.2 i_z f_z hf) (by omega) hF hok.2 c0_z cs cc cv (fun D_z hD hTD => ?_)
        refine ih_z (i_z + 1) D_z (by omega) (by omega) hD ?_ ?_
        · rw [go_z f_z hf, wkS_app]
          refine ⟨hw, ⟨hok.1, ?_⟩, trivial⟩
          rw [← eW, ← eP]
          exact (hT_z.its (by omega)).1 hok.2
        · rw [go_z f_z hf, ← List.append_assoc]
          exact hTD
    · refine ⟨oX_0 z0 kk0 7 rfl, ?_⟩
      refine ⟨fun h_z => ?_, fun h_z => ?_⟩
      · have hi_z : i_z = L.length := by omega
        rw [hi_z, List.take_length] at hw hT_z
        exact ⟨rfl, hI0, Or.inr ⟨rfl, hw, hT_z⟩⟩
      · have hi_z : i_z < L.length := by omega
        have hf : L[i_z]? = some L[i_z] := List.getElem?_eq_getElem hi_z
        generalize L[i_z] = f_z at hf
        have hm_z := hP f_z (List.mem_of_getElem? hf)
        have ef : B_z (B_z 0 6) (i_z : Int) = (f_z.1 : Int) := by rw [e06, h7]; exact hL.2 i_z f_z hf
        refine ⟨oX_0 z0 kk0 2 rfl, ?_⟩
        refine ⟨oX_0 z0 kk0 8 rfl, ?_⟩
        refine ⟨oX_0 z0 kk0 6 rfl, ?_⟩
        refine ⟨aX_21 (by rw [e06]; exact hr.1) (by rw [e06]; exact hr.2) (by omega) (by omega), ?_⟩
        refine ⟨rX_4 (r := B_z 0 2) (by rw [a2]; omega) (by rw [a2]; exact kk28), ?_⟩
        show Cl pmt (an_sh wX) 42 [(2, B_z 0 2), (2, B_z 0 8), (0, B_z (B_z 0 6) (i_z : Int))] B_z _
        rw [a8, a2, ef]
        refine (exchange_exX hT_z (h1.ex own49) (by omega)).imp ?_
        rintro ⟨r1_z, C_z⟩ hC
        have hC0 := hC
        obtain ⟨hF, hC⟩ := hC
        simp only at hF hC
        rcases hC with ⟨rfl, hno⟩ | ⟨rfl, _⟩
        · refine ⟨fun hh => absurd rfl hh, fun _ => ?_⟩
          refine ⟨rfl, hI0.ex hF hr.2, Or.inl ⟨rfl, fun hall => ?_⟩⟩
          have hn2 := nok (hT_z.its (show (f_z.1 : Int) < B_z 49 0 by omega)) hno
          rw [eW, eP] at hn2
          have e2 : L = L.take i_z ++ f_z :: L.drop (i_z + 1) := by
            have e3 : L.drop i_z = f_z :: L.drop (i_z + 1) := by
              rw [List.drop_eq_getElem_cons hi_z]
              have e4_z : L[i_z]? = some L[i_z] := List.getElem?_eq_getElem hi_z
              rw [hf] at e4_z
              rw [Option.some.inj e4_z]
            rw [← e3, List.take_append_drop]
          rw [e2, wkS_app] at hall
          exact hn2 hall.2.1
        · refine ⟨fun _ => ?_, fun hh => absurd hh (by decide)⟩
          exact ⟨rfl, f_z, C_z, hf, hC0, rfl⟩
theorem walkRow_exY {s : cx_Sd 12} {ks ls L : List (Fin 12)} {A B : pm_A} (hr : 0 ≤ A 0 6 ∧ wX.2 (A 0 6) = 21) (hL : rwL (A (A 0 6)) (A 0 7) L) (hP : ∀ f_z ∈ L, (f_z.1 : Int) < A 49 0) (hI : wvF s ks A B) (hT : TrX s ls B 49) : Cl pmt (an_sh wX) 118 [(2, 0)] B (wyP s ks ls L A (bgW A 49) (A 49 0)) := by
  refine Cl.of (Nat.le_of_ble_eq_true rfl) ?_
  refine wq_ok (full := o_X9_walkRow) srt_walkRow (fr := []) (cuts := [2]) (J := fun pc st_z => pc = 2 ∧ st_z = ([(2, 0), (0, 0)], [], B)) ?_ 20 0 _ ?_
  · rintro pc st_z ⟨rfl, rfl⟩
    exact wy_2 hr hL hP _ 0 B (Nat.lt_succ_self _) (Nat.zero_le _) hI trivial (by rw [List.take_zero, List.append_nil]; exact hT)
  · exact ⟨rfl, rfl⟩
end
