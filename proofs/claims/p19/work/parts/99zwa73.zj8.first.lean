/-! the first worlds hold one seed -/
theorem tru_first : ∃ s_z : cx_Sd 12, Tru s_z [] A0M := by
  have z5 : ∀ j_z : Int, A8M 5 j_z = 0 := fun j_z => by
    show pm_upd (pm_upd A0M 8 0 1) 9 0 1 5 j_z = 0
    rw [upd_o (by omega), upd_o (by omega)]; rfl
  have z7 : ∀ j_z : Int, AtM 7 j_z = 0 := fun j_z => by
    show pm_upd (pm_upd A8M 0 12 1) 0 13 0 7 j_z = 0
    rw [upd_o (by omega), upd_o (by omega)]
    show pm_upd (pm_upd A0M 8 0 1) 9 0 1 7 j_z = 0
    rw [upd_o (by omega), upd_o (by omega)]; rfl
  have e12_z : AtM 0 12 = 1 := by decide +kernel
  have e13_z : AtM 0 13 = 0 := by decide +kernel
  have hz : szd AtM := fun i_z i0_z i1_z => by
    have ei : i_z = 0 := by omega
    subst ei
    refine ⟨by decide +kernel, by decide +kernel, fun j_z j0 j1 => ?_⟩
    rw [z7, z7]; omega
  have hb_z : bgJ AtM A8M := by
    refine ⟨g8_first, by decide +kernel, by decide +kernel, fun j_z _ _ => by rw [z5, z7], fun k_z k0_z k1_z => ?_, by decide +kernel, fun r_z j_z h6 h10 => ?_⟩
    · have ek : k_z = 0 := by omega
      subst ek
      exact ls_first
    · show A8M r_z j_z = pm_upd (pm_upd A8M 0 12 1) 0 13 0 r_z j_z
      rw [upd_o (by omega), upd_o (by omega)]
  have hT_z := bg_tru hz (fun j_z _ _ => by rw [z7]; omega) (by omega) (by omega) (by omega) (by omega) hb_z
  have o8_z : ∀ r_z j_z : Int, r_z ≠ 8 → r_z ≠ 9 → A0M r_z j_z = A8M r_z j_z := fun r_z j_z h_z h9 => (by
    show A0M r_z j_z = pm_upd (pm_upd A0M 8 0 1) 9 0 1 r_z j_z
    rw [upd_o (by omega), upd_o (by omega)])
  exact ⟨_, hT_z.same wm_all.2 (o8_z 0 7 (by omega) (by omega)) (o8_z 0 8 (by omega) (by omega)) (fun j_z _ _ => o8_z 5 j_z (by omega) (by omega)) (fun p_z p0_z p1_z r_z j_z hr => o8_z r_z j_z (by unfold inS at hr; omega) (by unfold inS at hr; omega))⟩
theorem kd_lt {q : Int} {l : Nat} (qk : wX.2 q = l) (q0 : 0 ≤ q) (hl : ¬ l = 9999) : q < (kdXl.length : Nat) := by
  by_cases h_z : q < (kdXl.length : Nat)
  · exact h_z
  · exfalso
    have e_z : wX.2 q = 9999 := by
      show (if q < 0 then 9999 else kdXl.getD q.toNat 9999) = 9999
      rw [if_neg (by omega), getD_ge (by omega)]
    rw [e_z] at qk
    exact hl qk.symm
theorem ae_first : AE (wA WX) := by
  refine ⟨⟨by decide +kernel, by decide +kernel, by decide +kernel, by decide +kernel, by decide +kernel⟩, fun q_z q0 qk => ?_, fun i_z i0_z i1_z => ?_, ⟨fun g_z g0 gk => ?_, by decide +kernel, fun k_z k0_z k1_z => ?_, fun k_z i_z k0_z k1_z i0_z i1_z => ?_⟩⟩
  · exact all_int (P := fun q_z => wX.2 q_z = 2 → wA WX q_z 3 = q_z + 2) (n := kdXl.length) (by decide +kernel) q0 (kd_lt qk q0 (by decide)) qk
  · exact all_int (P := fun i_z => ¬ pc (wA WX) i_z = 38 ∧ ¬ pc (wA WX) i_z = 41) (n := 13) (by decide +kernel) i0_z (by omega)
  · exact all_int (P := fun g_z => wX.2 g_z = 1 → wA WX g_z 2 = g_z + 1 ∧ wA WX g_z 3 = g_z + 2 ∧ wA WX g_z 4 = g_z + 3) (n := kdXl.length) (by decide +kernel) g0 (kd_lt gk g0 (by decide)) gk
  · exact all_int (P := fun k_z => wA WX 47 k_z = 420 + 23 * k_z) (n := 4) (by decide +kernel) k0_z (by omega)
  · have h1 := all_int (P := fun k_z => (List.range 6).all (fun q_z => decide (wA WX (423 + 23 * k_z) (q_z : Int) = 425 + 23 * k_z + 3 * (q_z : Int))) = true) (n := 4) (by decide +kernel) k0_z (by omega)
    exact all_int (P := fun i_z => wA WX (423 + 23 * k_z) i_z = 425 + 23 * k_z + 3 * i_z) (n := 6) h1 i0_z (by omega)
theorem ste_first : StE (wA WX) := ⟨wx_all.2, al_first, ae_first⟩
theorem lx_first : LSx (wA WX) (wA WX 4 0) = [(1, eone 0)] := by
  have e1 : wA WX (wA WX 4 0) 1 = 1 := by decide +kernel
  unfold LSx lsf
  rw [e1]
  show [(wA WX (wA WX (wA WX 4 0) 2) 0, xeX (wA WX) (wA WX 4 0) 0)] = _
  have e2 : wA WX (wA WX (wA WX 4 0) 2) 0 = 1 := by decide +kernel
  have e3 : xeX (wA WX) (wA WX 4 0) 0 = eone 0 := by
    funext v_z
    have e4_z : wA WX (wA WX 4 0) 0 = 1 := by decide +kernel
    have e5 : wA WX (wA WX (wA WX 4 0) 3) 0 = 1 := by decide +kernel
    show (if (v_z.1 : Int) < wA WX (wA WX 4 0) 0 then wA WX (wA WX (wA WX 4 0) 3) (0 * wA WX (wA WX 4 0) 0 + (v_z.1 : Int)) else 0) = if (v_z.1 : Int) = 0 then 1 else 0
    rw [e4_z]
    by_cases h_z : (v_z.1 : Int) = 0
    · rw [if_pos (by omega), if_pos h_z, h_z]
      exact e5
    · rw [if_neg (by omega), if_neg h_z]
  rw [e2, e3]
theorem xr_first : XR (wA WX) A0M := by
  obtain ⟨s_z, hT_z⟩ := tru_first
  have f10 : wA WX 1 0 = 1 := by decide +kernel
  have f11_z : wA WX 1 1 = 0 := by decide +kernel
  have f12_z : wA WX 1 2 = 2 := by decide +kernel
  have f14_z : wA WX 1 4 = 4 := by decide +kernel
  have m7_z : A0M 0 7 = 1 := by decide +kernel
  have m8_z : A0M 0 8 = 0 := by decide +kernel
  have m10_z : A0M 0 10 = 0 := by decide +kernel
  have x04 : wA WX 0 4 = 0 := by decide +kernel
  have z2 : ∀ j_z : Int, 0 ≤ j_z → j_z < 72 → wA WX 2 j_z = 0 := fun j_z j0 j1 => all_int (P := fun x_z => wA WX 2 x_z = 0) (n := 72) (by decide +kernel) j0 (by omega)
  have z5 : ∀ j_z : Int, A0M 5 j_z = 0 := fun _ => rfl
  have eW : bgW (wA WX) 1 = 1 := by unfold bgW; rw [f10, f11_z]; rfl
  have hlen : wA WX (wA WX 4 0) 1 = 1 := by decide +kernel
  have hwid : wA WX (wA WX 4 0) 0 = 1 := by decide +kernel
  have hnum : wA WX (wA WX (wA WX 4 0) 2) 0 = 1 := by decide +kernel
  have hX : TrX s_z [] (wA WX) 1 := by
    refine ⟨wx_all.2, ⟨by omega, kk1⟩, by omega, fun i_z j_z hj => ⟨fun hi_z => ?_, fun hi_z => ?_⟩, fun k_z hk => absurd hk List.not_mem_nil, fun v_z k_z hk => hT_z.2.2.2.2.1 v_z k_z (by omega), fun i_z j_z i0_z i1_z j0 j1 => ?_, fun i_z hi_z => ?_⟩
    · rw [f12_z, z2 _ (by omega) (by omega), (hT_z.2.2.1 i_z j_z (by omega)).1 (by omega)]
      exact z5 _
    · exact (hT_z.2.2.1 i_z j_z (by omega)).2 (by omega)
    · rw [f12_z, z2 _ (by omega) (by omega)]
      omega
    · have hi0_z : (i_z.1 : Int) = 0 := by omega
      rw [f14_z, hi0_z, eW]
      refine ⟨fun q_z q' q0 hq hq' => by rw [hlen] at hq'; omega, fun q_z q0 q1_z => ?_, hwid, fun x_z => ?_⟩
      · rw [hlen] at q1_z
        rw [show q_z = 0 by omega, hnum]
        omega
      · have h1 := (hT_z.2.2.2.2.2.2 i_z (by omega)).2.2 x_z
        have h2 : LSm A0M 0 = [(1, eone 0)] := by
          rw [← ls_first]
          refine LSm_same (by decide +kernel) (fun r_z j_z hr => ?_)
          show A0M r_z j_z = pm_upd (pm_upd A0M 8 0 1) 9 0 1 r_z j_z
          rw [upd_o (by unfold inS at hr; omega), upd_o (by unfold inS at hr; omega)]
        rw [h1]
        unfold VS VX
        rw [hi0_z, h2, lx_first]
  refine ⟨s_z, [], ⟨ste_first, hX, hT_z, by rw [f10, m7_z], by rw [f11_z, m8_z]⟩, ca_first, ⟨by rw [x04, m10_z], by rw [m10_z]; rfl⟩, fun d_z f_z hd_z => absurd hd_z (by intro q_z; simp at q_z), trivial, fun i_z i0_z i1_z => ?_⟩
  have hi0_z : i_z = 0 := by omega
  rw [hi0_z]
  decide +kernel
