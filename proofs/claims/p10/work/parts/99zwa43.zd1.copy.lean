/-! the class's copies, exactly -/
theorem srt_copyS : pm_srt o_X8_copyFrom = true := by decide +kernel
def cpP (A : pm_A) (s o : Int) (r : pm_R) : Prop := r.1 = none ∧ gH wX r.2 ∧ only A r.2 s ∧ (r.2 s 2 = A s 2 ∧ r.2 s 3 = A s 3) ∧ (r.2 s 0 = A o 0 ∧ r.2 s 1 = A o 1) ∧ (∀ t_z : Int, 0 ≤ t_z → t_z < A o 1 → r.2 (A s 2) t_z = A (A o 2) t_z) ∧ ∀ t_z v_z : Int, 0 ≤ t_z → t_z < A o 1 → 0 ≤ v_z → v_z < A o 0 → r.2 (A s 3) (t_z * A o 0 + v_z) = A (A o 3) (t_z * A o 0 + v_z)
theorem cpP.xe {A : pm_A} {s o : Int} {r : pm_R} (h : cpP A s o r) {t : Int} (t0 : 0 ≤ t) (t1 : t < A o 1) : xeX r.2 s t = xeX A o t := funext fun j_z => by
  obtain ⟨_, _, _, ⟨h2, h3⟩, ⟨h0, h1⟩, _, h5⟩ := h
  show (if (j_z.1 : Int) < r.2 s 0 then r.2 (r.2 s 3) (t * r.2 s 0 + (j_z.1 : Int)) else 0) = if (j_z.1 : Int) < A o 0 then A (A o 3) (t * A o 0 + (j_z.1 : Int)) else 0
  rw [h0, h3]
  by_cases e_z : (j_z.1 : Int) < A o 0
  · rw [if_pos e_z, if_pos e_z]; exact h5 t j_z.1 t0 t1 (by omega) e_z
  · rw [if_neg e_z, if_neg e_z]
theorem cpP.ls {A : pm_A} {s o : Int} {r : pm_R} (h : cpP A s o r) : LSx r.2 s = LSx A o := by
  have h1 := h.2.2.2.2.1.2
  unfold LSx lsf
  rw [h1]
  refine List.map_congr_left (fun t_z ht => ?_)
  have ht := List.mem_range.1 ht
  show (r.2 (r.2 s 2) (t_z : Int), xeX r.2 s (t_z : Int)) = (A (A o 2) (t_z : Int), xeX A o (t_z : Int))
  rw [h.xe (t := (t_z : Int)) (by omega) (by omega), h.2.2.2.1.1, h.2.2.2.2.2.1 t_z (by omega) (by omega)]
theorem cpP.sr {A : pm_A} {s o : Int} {r : pm_R} (h : cpP A s o r) (g : srX A o) : srX r.2 s := fun a_z b_z a0_z ab b1 => by
  rw [h.2.2.2.2.1.2] at b1
  rw [h.xe a0_z (by omega), h.xe (by omega) b1]
  exact g a_z b_z a0_z ab b1
theorem cpP.cf {A : pm_A} {s o : Int} {r : pm_R} (h : cpP A s o r) (g : cfX A o) : cfX r.2 s := fun a_z a0_z a1_z => by
  rw [h.2.2.2.2.1.2] at a1_z
  rw [h.2.2.2.1.1, h.2.2.2.2.2.1 a_z a0_z a1_z]
  exact g a_z a0_z a1_z
theorem cp_33 {A C : pm_A} {s o : Int} (hA : gH wX A) (hs : 0 ≤ s ∧ wX.2 s = 2) (ho : 0 ≤ o ∧ wX.2 o = 2) (hd : dsX A s o) (hC : gH wX C) (hF : only A C s) (c2 : C s 2 = A s 2) (c3 : C s 3 = A s 3) (c0 : C s 0 = A o 0) (c1 : C s 1 = A o 1) (cn : ∀ t_z : Int, 0 ≤ t_z → t_z < A o 1 → C (A s 2) t_z = A (A o 2) t_z) : Tm pmt (an_sh wX) o_X8_copyFrom 33 ([(2, s), (2, o)], [], C) (cpP A s o) := by
  have ns := fX_2_2 hA hs.1 hs.2
  have ps_z := fX_2_3 hA hs.1 hs.2
  have po := fX_2_3 hA ho.1 ho.2
  have w0_z := fX_2_0 hA ho.1 ho.2
  have l0 := fX_2_1 hA ho.1 ho.2
  have eps := shX_15 ps_z.2
  have epo := shX_15 po.2
  have m0_z : 0 ≤ A o 1 * A o 0 := Int.mul_nonneg l0.1 w0_z.1
  have m1_z : A o 1 * A o 0 ≤ 200 * 12 := Int.mul_le_mul l0.2 w0_z.2 w0_z.1 (by omega)
  have eo3 : C o 3 = A o 3 := hF o 3 (fun e_z => hd.1 e_z.symm) (knd ho.2 ns.2 (by decide)) (knd ho.2 ps_z.2 (by decide))
  have epo2 : ∀ j_z : Int, C (A o 3) j_z = A (A o 3) j_z := fun j_z => hF _ j_z (knd po.2 hs.2 (by decide)) (knd po.2 ns.2 (by decide)) (fun e_z => hd.2.2 e_z.symm)
  refine wq_ok srt_copyS (fr := []) (cuts := []) (J := fun _ _ => False) (fun _ _ h_z => h_z.elim) 20 33 _ ?_
  refine ⟨oX_2 ho.1 ho.2 3 rfl, ?_⟩
  refine ⟨oX_2 hs.1 hs.2 3 rfl, ?_⟩
  refine ⟨oX_2 hs.1 hs.2 1 rfl, ?_⟩
  refine ⟨oX_2 hs.1 hs.2 0 rfl, ?_⟩
  refine ⟨(show r32 (C s 1 * C s 0) by rw [c1, c0]; exact ⟨by omega, by omega⟩), ?_⟩
  rw [eo3, c3, c1, c0]
  refine ⟨⟨po.1, ps_z.1, by rw [epo], by rw [epo], by rw [eps], by rw [eps], m0_z, by omega, by omega, by rw [epo]; simp only; omega, by rw [eps]; simp only; omega⟩, ?_⟩
  have hin : ∀ i_z : Int, 0 ≤ i_z → i_z < A o 1 * A o 0 → pm_cpy C (A o 3) 0 (A s 3) 0 (A o 1 * A o 0) (A s 3) i_z = A (A o 3) i_z := fun i_z i0_z i1_z => by
    rw [cpy_in ⟨by omega, by omega⟩, epo2, show (0 : Int) + (i_z - 0) = i_z by omega]
  have hout : ∀ r_z j_z : Int, ¬ r_z = A s 3 → pm_cpy C (A o 3) 0 (A s 3) 0 (A o 1 * A o 0) r_z j_z = C r_z j_z := fun r_z j_z hr => cpy_out (fun e_z => hr e_z.1)
  have hg : gH wX (pm_cpy C (A o 3) 0 (A s 3) 0 (A o 1 * A o 0)) := gH_cpy hC (ka := (1, 0, 2400, [(0, -2147483648, 2147483647)])) (kb := (1, 0, 2400, [(0, -2147483648, 2147483647)])) po.1 (by rw [po.2]; rfl) (by rw [ps_z.2]; rfl) rfl rfl rfl rfl rfl rfl (by omega) (by omega) (by simp only; omega)
  obtain ⟨⟨n1_z, n2_z, n3_z⟩, _, _⟩ := shNP.of hA hs.1 hs.2
  refine ⟨rfl, hg, fun r_z j_z a1_z a2 a3 => ?_, ⟨?_, ?_⟩, ⟨?_, ?_⟩, fun t_z t0_z t1_z => ?_, fun t_z v_z t0_z t1_z v0_z v1_z => ?_⟩
  · show pm_cpy C (A o 3) 0 (A s 3) 0 (A o 1 * A o 0) r_z j_z = A r_z j_z
    rw [hout r_z j_z a3]; exact hF r_z j_z a1_z a2 a3
  · show pm_cpy C (A o 3) 0 (A s 3) 0 (A o 1 * A o 0) s 2 = A s 2
    rw [hout s 2 n2_z]; exact c2
  · show pm_cpy C (A o 3) 0 (A s 3) 0 (A o 1 * A o 0) s 3 = A s 3
    rw [hout s 3 n2_z]; exact c3
  · show pm_cpy C (A o 3) 0 (A s 3) 0 (A o 1 * A o 0) s 0 = A o 0
    rw [hout s 0 n2_z]; exact c0
  · show pm_cpy C (A o 3) 0 (A s 3) 0 (A o 1 * A o 0) s 1 = A o 1
    rw [hout s 1 n2_z]; exact c1
  · show pm_cpy C (A o 3) 0 (A s 3) 0 (A o 1 * A o 0) (A s 2) t_z = A (A o 2) t_z
    rw [hout _ t_z n3_z]; exact cn t_z t0_z t1_z
  · show pm_cpy C (A o 3) 0 (A s 3) 0 (A o 1 * A o 0) (A s 3) (t_z * A o 0 + v_z) = A (A o 3) (t_z * A o 0 + v_z)
    have h1 := lt_mul t1_z w0_z.1 v1_z
    have h2 := Int.mul_nonneg t0_z w0_z.1
    exact hin _ (by omega) (by omega)
theorem copyS_ex {A : pm_A} {s o : Int} (hA : gH wX A) (hs : 0 ≤ s ∧ wX.2 s = 2) (ho : 0 ≤ o ∧ wX.2 o = 2) (hd : dsX A s o) : Cl pmt (an_sh wX) 76 [(2, s), (2, o)] A (cpP A s o) := by
  have ns := fX_2_2 hA hs.1 hs.2
  have ps_z := fX_2_3 hA hs.1 hs.2
  have no_z := fX_2_2 hA ho.1 ho.2
  have w0_z := fX_2_0 hA ho.1 ho.2
  have l0 := fX_2_1 hA ho.1 ho.2
  have ens := shX_14 ns.2
  have eno := shX_14 no_z.2
  obtain ⟨⟨n1_z, n2_z, n3_z⟩, _, _⟩ := shNP.of hA hs.1 hs.2
  refine Cl.of (Nat.le_of_ble_eq_true rfl) ?_
  refine wq_ok (full := o_X8_copyFrom) srt_copyS (fr := []) (cuts := [8]) (J := fun pc st_z => pc = 8 ∧ st_z = ([(2, s), (2, o)], [], pm_upd (pm_upd A s 0 (A o 0)) s 1 0)) ?_ 20 0 _ ?_
  · rintro pc st_z ⟨rfl, rfl⟩
    have b0 : pm_upd (pm_upd A s 0 (A o 0)) s 1 0 s 0 = A o 0 := by rw [upd_n2 (by omega), upd_at]
    have bo : ∀ r_z j_z : Int, ¬ r_z = s → pm_upd (pm_upd A s 0 (A o 0)) s 1 0 r_z j_z = A r_z j_z := fun r_z j_z hr => by rw [upd_ne hr, upd_ne hr]
    have b2 : pm_upd (pm_upd A s 0 (A o 0)) s 1 0 s 2 = A s 2 := by rw [upd_n2 (by omega), upd_n2 (by omega)]
    have b3 : pm_upd (pm_upd A s 0 (A o 0)) s 1 0 s 3 = A s 3 := by rw [upd_n2 (by omega), upd_n2 (by omega)]
    have bg : gH wX (pm_upd (pm_upd A s 0 (A o 0)) s 1 0) := clr_gH hA hs.2 w0_z.1 w0_z.2
    generalize pm_upd (pm_upd A s 0 (A o 0)) s 1 0 = B_z at b0 bo b2 b3 bg
    have b1 : B_z o 1 = A o 1 := bo o 1 (fun e_z => hd.1 e_z.symm)
    refine wq_ok srt_copyS (fr := []) (cuts := [16]) (J := fun pc st_z => pc = 16 ∧ st_z = ([(2, s), (2, o)], [], pm_upd B_z s 1 (B_z o 1))) ?_ 20 8 _ ?_
    · rintro pc st_z ⟨rfl, rfl⟩
      rw [b1]
      have d1_z : pm_upd B_z s 1 (A o 1) s 1 = A o 1 := upd_at
      have d0_z : pm_upd B_z s 1 (A o 1) s 0 = A o 0 := by rw [upd_n2 (by omega)]; exact b0
      have d2_z : pm_upd B_z s 1 (A o 1) s 2 = A s 2 := by rw [upd_n2 (by omega)]; exact b2
      have d3_z : pm_upd B_z s 1 (A o 1) s 3 = A s 3 := by rw [upd_n2 (by omega)]; exact b3
      have dd : ∀ r_z j_z : Int, ¬ r_z = s → pm_upd B_z s 1 (A o 1) r_z j_z = A r_z j_z := fun r_z j_z hr => by rw [upd_ne hr]; exact bo r_z j_z hr
      have dg : gH wX (pm_upd B_z s 1 (A o 1)) := gH_upd bg (k := (0, 8, 4, [(0, 0, 12), (0, 0, 200), (2, 14, 0), (2, 15, 0)])) (by rw [hs.2]; rfl) (fun _ j_z a_z hj ej => by
        have : j_z = 1 := by omega
        subst this
        cases hj
        exact ⟨rfl, by simp only; omega, by simp only; omega⟩) (fun q_z => by cases q_z)
      generalize pm_upd B_z s 1 (A o 1) = D_z at d1_z d0_z d2_z d3_z dd dg
      have e2 : D_z o 2 = A o 2 := dd o 2 (fun e_z => hd.1 e_z.symm)
      have en : ∀ j_z : Int, D_z (A o 2) j_z = A (A o 2) j_z := fun j_z => dd _ j_z (knd no_z.2 hs.2 (by decide))
      refine wq_ok srt_copyS (fr := []) (cuts := [33]) (J := fun pc st_z => pc = 33 ∧ st_z = ([(2, s), (2, o)], [], pm_cpy D_z (D_z o 2) 0 (D_z s 2) 0 (D_z s 1))) ?_ 20 16 _ ?_
      · rintro pc st_z ⟨rfl, rfl⟩
        rw [e2, d2_z, d1_z]
        have hout : ∀ r_z j_z : Int, ¬ r_z = A s 2 → pm_cpy D_z (A o 2) 0 (A s 2) 0 (A o 1) r_z j_z = D_z r_z j_z := fun r_z j_z hr => cpy_out (fun e_z => hr e_z.1)
        refine cp_33 hA hs ho hd (gH_cpy dg (ka := (1, 1, 200, [(1, -9223372036854775808, 9223372036854775807)])) (kb := (1, 1, 200, [(1, -9223372036854775808, 9223372036854775807)])) no_z.1 (by rw [no_z.2]; rfl) (by rw [ns.2]; rfl) rfl rfl rfl rfl rfl rfl (by omega) (by omega) (by simp only; omega)) (fun r_z j_z a1_z a2 a3 => by rw [hout r_z j_z a2]; exact dd r_z j_z a1_z) (by rw [hout s 2 n1_z]; exact d2_z) (by rw [hout s 3 n1_z]; exact d3_z) (by rw [hout s 0 n1_z]; exact d0_z) (by rw [hout s 1 n1_z]; exact d1_z) (fun t_z t0_z t1_z => ?_)
        rw [cpy_in ⟨by omega, by omega⟩, en, show (0 : Int) + (t_z - 0) = t_z by omega]
      · refine ⟨oX_2 ho.1 ho.2 2 rfl, ?_⟩
        refine ⟨oX_2 hs.1 hs.2 2 rfl, ?_⟩
        refine ⟨oX_2 hs.1 hs.2 1 rfl, ?_⟩
        refine ⟨⟨by rw [e2]; exact no_z.1, by rw [d2_z]; exact ns.1, by rw [e2, eno], by rw [e2, eno], by rw [d2_z, ens], by rw [d2_z, ens], by rw [d1_z]; exact l0.1, by omega, by omega, by rw [e2, eno, d1_z]; simp only; omega, by rw [d2_z, ens, d1_z]; simp only; omega⟩, ?_⟩
        exact ⟨rfl, rfl⟩
    · refine ⟨oX_2 ho.1 ho.2 1 rfl, ?_⟩
      refine ⟨oX_2 hs.1 hs.2 1 rfl, ?_⟩
      exact ⟨rfl, rfl⟩
  · refine ⟨oX_2 ho.1 ho.2 0 rfl, ?_⟩
    refine ⟨rX_2 hs.1 hs.2, ?_⟩
    refine (clear_exX hA hs.1 hs.2 w0_z.1 w0_z.2).imp ?_
    rintro r_z rfl
    exact ⟨rfl, rfl⟩
