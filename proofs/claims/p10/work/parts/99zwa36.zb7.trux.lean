/-! the class's seeds hold the true letters -/
def TrX (s : cx_Sd 12) (ks : List (Fin 12)) (A : pm_A) (g : Int) : Prop := gH wX A ∧ (0 ≤ g ∧ wX.2 g = 1) ∧ (1 ≤ A g 0) ∧ (∀ i_z j_z : Fin 12, (j_z.1 : Int) < A g 0 → ((i_z.1 : Int) < bgW A g → cr_bs s.b ks i_z j_z = A (A g 2) ((i_z.1 : Int) * 6 + (j_z.1 : Int))) ∧ (bgW A g ≤ (i_z.1 : Int) → cr_bs s.b ks i_z j_z = 0)) ∧ (∀ k_z ∈ ks, (k_z.1 : Int) < A g 0) ∧ (∀ v_z k_z : Fin 12, (k_z.1 : Int) < A g 0 → s.b v_z k_z ≤ 9 ∧ -9 ≤ s.b v_z k_z) ∧ tbB (A (A g 2)) (bgW A g) (A g 0) ∧ ∀ i_z : Fin 12, (i_z.1 : Int) < A g 0 → srX A (A (A g 4) (i_z.1 : Int)) ∧ cfX A (A (A g 4) (i_z.1 : Int)) ∧ A (A (A g 4) (i_z.1 : Int)) 0 = bgW A g ∧ ∀ x_z, (cr_gp s.b ks x_z).1 i_z = VX A (A (A g 4) (i_z.1 : Int)) x_z
theorem TrX.one {s : cx_Sd 12} {ks : List (Fin 12)} {A : pm_A} {g : Int} (h : TrX s ks A g) {i : Fin 12} (hi : (i.1 : Int) < A g 0) : 1 ≤ A (A (A g 4) (i.1 : Int)) 1 := by
  refine Classical.byContradiction (fun hneg => ?_)
  let o : cr_Pv 12 := ⟨fun _ => 1, fun _ => by grind⟩
  have h1 := (h.2.2.2.2.2.2.2 i hi).2.2.2 o
  have p6_z := fX_1_0 h.1 h.2.1.1 h.2.1.2
  have l4 := fX_1_4 h.1 h.2.1.1 h.2.1.2
  have e0_z := eX_12 h.1 l4.1 l4.2 (j := (i.1 : Int)) (by omega) (by omega)
  have m_z := fX_2_1 h.1 e0_z.1 e0_z.2
  have h0 : VX A (A (A g 4) (i.1 : Int)) o = 0 := by
    unfold VX LSx
    rw [show A (A (A g 4) (i.1 : Int)) 1 = 0 by omega]; rfl
  rw [h0] at h1
  have := (cr_gp s.b ks o).2 i
  grind
theorem TrX.lt {s : cx_Sd 12} {ks : List (Fin 12)} {A : pm_A} {g : Int} (h : TrX s ks A g) : ltX A g := by
  have h0 := h
  obtain ⟨hg, hk, h1, hb_z, hks, h9, ha_z, hl⟩ := h
  refine ⟨hg, hk, fun i_z i0_z i1_z => ?_, fun i_z j_z i0_z i1_z j0 j1 => ha_z i_z j_z i0_z i1_z j0 j1⟩
  have p6_z := fX_1_0 hg hk.1 hk.2
  have h6 := fX_1_1 hg hk.1 hk.2
  have l4 := fX_1_4 hg hk.1 hk.2
  have e0_z := eX_12 hg l4.1 l4.2 i0_z (show i_z < 6 by omega)
  have hi_z : i_z = ((⟨i_z.toNat, by omega⟩ : Fin 12).1 : Int) := by show i_z = ((i_z.toNat : Nat) : Int); omega
  obtain ⟨l1, l2, l5, l3⟩ := hl ⟨i_z.toNat, by omega⟩ (by rw [← hi_z]; exact i1_z)
  rw [← hi_z] at l1 l2 l5
  have l3 : ∀ x_z, (cr_gp s.b ks x_z).1 ⟨i_z.toNat, by omega⟩ = cr_vl x_z.1 (LSx A (A (A g 4) i_z)) := fun x_z => by rw [l3 x_z, ← hi_z]; rfl
  have m_z := fX_2_1 hg e0_z.1 e0_z.2
  have hone : 1 ≤ A (A (A g 4) i_z) 1 := by
    have := h0.one (i := ⟨i_z.toNat, by omega⟩) (by rw [← hi_z]; exact i1_z)
    rw [← hi_z] at this
    exact this
  refine ⟨l1, l2, hone, l5, ?_⟩
  have hlen : (LSx A (A (A g 4) i_z)).length ≤ 200 := by rw [LSx_len]; omega
  have hx := cr_exp s (Q := fun k_z => (k_z.1 : Int) < A g 0) ks hks ⟨i_z.toNat, by omega⟩ (fun v_z k_z hk => h9 v_z k_z hk) (posX l2) l3 hlen (by
    have h3 := vl_ones_le (l := LSx A (A (A g 4) i_z)) (fun y_z hy => by
      obtain ⟨q_z, q0, q1_z, rfl⟩ := memX hy
      exact (l2 q_z q0 q1_z).2)
    have h4 : ((LSx A (A (A g 4) i_z)).length : Rat) ≤ ((200 : Nat) : Rat) := by exact_mod_cast hlen
    rw [show ((200 : Nat) : Rat) = 200 from rfl] at h4
    have h5 := two48
    have h6 := Rat.mul_nonneg (by grind : 0 ≤ (200 : Rat) - ((LSx A (A (A g 4) i_z)).length : Rat)) (by grind : (0 : Rat) ≤ 1000000000000)
    grind)
  intro q_z v_z q0 q1_z v0_z v1_z
  have hw12 : bgW A g ≤ 12 := by unfold bgW; omega
  have h7 := hx _ (inX q0 q1_z) ⟨v_z.toNat, by omega⟩
  have e_z : -47 ≤ (if ((v_z.toNat : Nat) : Int) < A (A (A g 4) i_z) 0 then A (A (A (A g 4) i_z) 3) (q_z * A (A (A g 4) i_z) 0 + ((v_z.toNat : Nat) : Int)) else 0) ∧ (if ((v_z.toNat : Nat) : Int) < A (A (A g 4) i_z) 0 then A (A (A (A g 4) i_z) 3) (q_z * A (A (A g 4) i_z) 0 + ((v_z.toNat : Nat) : Int)) else 0) ≤ 1810 := h7
  rw [Int.toNat_of_nonneg v0_z, if_pos v1_z] at e_z
  omega
def fvX (A : pm_A) (g k sg : Int) (x : cr_Pv 12) : Nat → Rat
  | 0 => 1
  | m_z + 1 => fvX A g k sg x m_z * yX A g x m_z ^ tyX A g k sg m_z
theorem bm_fv (A : pm_A) (g k sg : Int) (x : cr_Pv 12) : ∀ m_z : Nat, bpX A g k sg x m_z * mpX A g k sg x m_z = fvX A g k sg x m_z
  | 0 => by show (1 : Rat) * 1 = 1; rw [Rat.mul_one]
  | m_z + 1 => by
    show bpX A g k sg x m_z * bfX A g k sg x m_z * (mpX A g k sg x m_z * mfX A g k sg x m_z) = fvX A g k sg x m_z * yX A g x m_z ^ tyX A g k sg m_z
    rw [← bm_fv A g k sg x m_z]
    have e_z : bfX A g k sg x m_z * mfX A g k sg x m_z = yX A g x m_z ^ tyX A g k sg m_z := by
      unfold bfX mfX
      by_cases e_z : sglX A g (m_z : Int)
      · rw [if_pos e_z, if_pos e_z, Rat.mul_one]
      · rw [if_neg e_z, if_neg e_z, Rat.one_mul]
    rw [← e_z]
    grind
theorem mp_W (A : pm_A) (g k sg : Int) (x : cr_Pv 12) (p : Nat) (hp : A g 0 ≤ (p : Int)) : ∀ m_z : Nat, mpX A g k sg x (p + m_z) = mpX A g k sg x p
  | 0 => rfl
  | m_z + 1 => by
    show mpX A g k sg x (p + m_z) * mfX A g k sg x (p + m_z) = _
    have e_z : mfX A g k sg x (p + m_z) = 1 := by
      unfold mfX
      rw [if_pos (Or.inl (by omega))]
    rw [e_z, Rat.mul_one]
    exact mp_W A g k sg x p hp m_z
theorem fp_fv {A : pm_A} {g : Int} (h : ltX A g) (k sg : Int) (x : cr_Pv 12) : fpX A g k sg x = fvX A g k sg x (bgW A g).toNat := by
  have p6_z := fX_1_0 h.1 h.2.1.1 h.2.1.2
  have h6 := fX_1_1 h.1 h.2.1.1 h.2.1.2
  have e_z := mp_W A g k sg x (A g 0).toNat (by omega) ((bgW A g).toNat - (A g 0).toNat)
  rw [show (A g 0).toNat + ((bgW A g).toNat - (A g 0).toNat) = (bgW A g).toNat by unfold bgW; omega] at e_z
  rw [← bm_fv, e_z]
theorem fv_mo (A : pm_A) (g k sg : Int) (x : cr_Pv 12) : ∀ m_z : Nat, m_z ≤ 12 → fvX A g k sg x m_z = cr_mo (fun i_z : Fin 12 => yX A g x i_z.1) (fun i_z : Fin 12 => if i_z.1 < m_z then tyX A g k sg i_z.1 else 0)
  | 0, _ => by
    show (1 : Rat) = _
    refine Eq.symm (Eq.trans (congrArg (cr_mo _) (funext fun i_z => if_neg (by omega))) (cr_mo_zero _))
  | m_z + 1, h_z => by
    show fvX A g k sg x m_z * yX A g x m_z ^ tyX A g k sg m_z = _
    rw [fv_mo A g k sg x m_z (by omega)]
    have e1 : (fun i_z : Fin 12 => if i_z.1 < m_z + 1 then tyX A g k sg i_z.1 else 0) = cr_up (fun i_z : Fin 12 => if i_z.1 < m_z then tyX A g k sg i_z.1 else 0) ⟨m_z, by omega⟩ (tyX A g k sg m_z) := funext fun i_z => by
      by_cases hi_z : i_z = ⟨m_z, by omega⟩
      · rw [hi_z, cr_up_k, if_pos (by show m_z < m_z + 1; omega)]
      · rw [cr_up_ne _ _ hi_z]
        have : i_z.1 ≠ m_z := fun e_z => hi_z (Fin.ext e_z)
        by_cases h2 : i_z.1 < m_z
        · rw [if_pos (by omega), if_pos h2]
        · rw [if_neg (by omega), if_neg h2]
    have e2 : cr_up (fun i_z : Fin 12 => if i_z.1 < m_z then tyX A g k sg i_z.1 else 0) ⟨m_z, by omega⟩ 0 = (fun i_z : Fin 12 => if i_z.1 < m_z then tyX A g k sg i_z.1 else 0) := funext fun i_z => by
      by_cases hi_z : i_z = ⟨m_z, by omega⟩
      · rw [hi_z, cr_up_k, if_neg (by show ¬ m_z < m_z; omega)]
      · rw [cr_up_ne _ _ hi_z]
    rw [e1, cr_mo_up, e2]
    grind
theorem TrX.fp {s : cx_Sd 12} {ks : List (Fin 12)} {A : pm_A} {g : Int} (h : TrX s ks A g) {k : Fin 12} (hk : (k.1 : Int) < A g 0) (sg : Int) (x : cr_Pv 12) : fpX A g k.1 sg x = cr_mo (cr_gp s.b ks x).1 (fun i_z => (cx_pos (sg * cr_bs s.b ks i_z k) : Int)) := by
  have hlt := h.lt
  obtain ⟨hg, hgk, h1, hb_z, hks, h9, ha_z, hl⟩ := h
  have p6_z := fX_1_0 hg hgk.1 hgk.2
  have h6 := fX_1_1 hg hgk.1 hgk.2
  rw [fp_fv hlt, fv_mo A g k.1 sg x _ (by unfold bgW; omega)]
  have e1 : (fun i_z : Fin 12 => yX A g x i_z.1) = (cr_gp s.b ks x).1 := funext fun i_z => by
    unfold yX
    by_cases hi_z : (i_z.1 : Int) < A g 0
    · rw [if_pos hi_z, (hl i_z hi_z).2.2.2 x]
    · rw [if_neg hi_z, dif_pos i_z.2, cr_gp_ne ks s.b x (fun hm_z => hi_z (hks i_z hm_z))]
  rw [e1]
  refine congrArg (cr_mo _) (funext fun i_z => ?_)
  by_cases hi_z : (i_z.1 : Int) < bgW A g
  · rw [if_pos (by omega), (hb_z i_z k hk).1 hi_z]
    rfl
  · rw [if_neg (by omega), (hb_z i_z k hk).2 (by omega), Int.mul_zero]; rfl
theorem quot_of {s : cx_Sd 12} {ks : List (Fin 12)} {k : Fin 12} {L : cr_Pl_ 12} {l0 : Int × cr_Xp 12} (hLp : ∀ y_z ∈ L, 0 < y_z.1) (hl0 : l0 ∈ L) (hLv : ∀ x_z : cr_Pv 12, (cr_gp s.b ks x_z).1 k = cr_vl x_z.1 L) {N : cr_Pl_ 12} (hNs : cr_Shr N) (hNc : ∀ y_z ∈ N, y_z.1 ≤ 1000000000000) (hNl : N.length ≤ 200) (hN : ∀ x_z : cr_Pv 12, cr_vl x_z.1 N = cr_P (cr_bs s.b ks) k (cr_gp s.b ks x_z).1) :
    ∃ Q_z : cr_Pl_ 12, cr_Shr Q_z ∧ (∀ x_z, (cr_gp s.b (ks ++ [k]) x_z).1 k = cr_vl x_z.1 Q_z) ∧ (∀ c_z, cr_co N c_z = cr_co (cr_pmz Q_z L) c_z) ∧ Q_z.length ≤ 200 ∧ ∀ y_z ∈ Q_z, y_z.1 ≤ 1000000000000 := by
  obtain ⟨Q0_z, hQ0, hv⟩ := cr_rel [] s (ks ++ [k]) k
  obtain ⟨Q_z, hQ, hQc⟩ := shr_ex Q0_z hQ0
  have hQv : ∀ x_z, (cr_gp s.b (ks ++ [k]) x_z).1 k = cr_vl x_z.1 Q_z := fun x_z => by rw [hv x_z]; exact (cr_vl_co x_z.1 hQc).symm
  have hprod : ∀ c_z, cr_co N c_z = cr_co (cr_pmz Q_z L) c_z := cr_vl_unique (fun x_z => by
    rw [cr_vl_pmz x_z.2, hN x_z, ← hQv x_z, cr_gp_snoc]
    show _ = cr_stepv (cr_bs s.b ks) k (cr_gp s.b ks x_z).1 k * cr_vl x_z.1 L
    have e2 : cr_vl x_z.1 L = (cr_gp s.b ks x_z).1 k := (hLv x_z).symm
    rw [e2, cr_step_k]
    have hp := (cr_gp s.b ks x_z).2 k
    have : ((cr_gp s.b ks x_z).1 k)⁻¹ * (cr_gp s.b ks x_z).1 k = 1 := Rat.inv_mul_cancel _ (by grind)
    grind)
  have hpp : ∀ y_z ∈ cr_pmz Q_z L, 0 < y_z.1 := pmz_pos hQ.2 hLp
  have hin : ∀ y_z ∈ Q_z, ∃ z_z ∈ N, z_z.2 = (fun i_z => y_z.2 i_z + l0.2 i_z) ∧ y_z.1 ≤ z_z.1 := fun y_z hy => by
    have hm_z := pmz_in hy hl0
    have hp := cr_co_pos hpp hm_z
    have hge := co_pmz_ge hQ.2 hLp hl0 y_z.2 (fun i_z => y_z.2 i_z + l0.2 i_z) (fun i_z => rfl)
    rw [hQ.at hy, ← hprod] at hge
    have hy1 := hQ.2 y_z hy
    obtain ⟨z_z, hz, ez⟩ := cr_co_mem (l := N) (a := fun i_z => y_z.2 i_z + l0.2 i_z) (by omega)
    refine ⟨z_z, hz, ez, ?_⟩
    have h2 : cr_co N z_z.2 = z_z.1 := hNs.at hz
    rw [ez] at h2
    omega
  refine ⟨Q_z, hQ, hQv, hprod, ?_, fun y_z hy => ?_⟩
  · have := cr_len (Q_z.map fun y_z => (fun i_z => y_z.2 i_z + l0.2 i_z)) (N.map (·.2)) (by
      rw [List.nodup_iff_pairwise_ne, List.pairwise_map]
      refine hQ.1.imp (fun {u_z w_z} hg e_z => ?_)
      have : u_z.2 = w_z.2 := funext fun i_z => by have h6 : u_z.2 i_z + l0.2 i_z = w_z.2 i_z + l0.2 i_z := congrFun e_z i_z; omega
      rw [this] at hg
      exact cr_Gt.irrefl _ hg) (fun c_z hc_z => by
      obtain ⟨y_z, hy, rfl⟩ := List.mem_map.1 hc_z
      obtain ⟨z_z, hz, ez, _⟩ := hin y_z hy
      exact List.mem_map.2 ⟨z_z, hz, ez⟩)
    rw [List.length_map, List.length_map] at this
    omega
  · obtain ⟨z_z, hz, _, hle⟩ := hin y_z hy
    have := hNc z_z hz
    omega
